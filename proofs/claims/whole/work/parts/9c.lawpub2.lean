/-! THE LAW: the public call, model, 2 -/
section
variable {d : Nat} {w : List Nat} {S : xr_S} {tb : Nat → Nat} {n : Nat}
/-- what the model keeps when it reads a law -/
def kLaw (M M' : xr_M) (s : lS) : Prop := (M' 0 69 0 = nI 0 ∧ M' 0 69 1 = nI 0 ∧ M' 0 69 3 = tPlc s.1) ∧ (∀ b e, ¬ (b = 0 ∧ e = 69) → ¬ e = 1083 → ¬ e = 1082 → M' b e = M b e) ∧ (∀ k, ¬ (k ≤ 8 ∨ k = 21 ∨ k = 22) → M' 0 69 k = M 0 69 k) ∧ (∀ q, s.1 = .inr q → (∀ k, M' k 1082 = M k 1082) ∧ M' 0 69 21 = M 0 69 21) ∧ ∀ a, s.1 = .inl a → xLm M' s.2.1 s.2.2.1 s.2.2.2
theorem tm185e {s : lS} {X : Nat × (Nat → Nat) × (Nat → Int32)} (hn : n ≤ 150) {a : Nat} (hs : s = (.inl a, X)) (C : mLw (xm S) n 0 s) : ∃ M, (xr_cV ([], w) (xr_Call (d + 59) 176 [xP 0 83, xP 0 82, xI ((xw (xw (xm S) 0 69 3 (-1 : Int32)) 0 69 21 ((xw (xm S) 0 69 3 (-1 : Int32)) 0 69 22)) 0 69 21)] ([], w) (xs S (xw (xw (xm S) 0 69 3 (-1 : Int32)) 0 69 21 ((xw (xm S) 0 69 3 (-1 : Int32)) 0 69 22)))) (fun S9 => (some (.inl (some (nI 1)), ([], w), S9)))) = some (.inl (some (nI 1)), ([], w), xs S M) ∧ M 0 69 3 = -1 ∧ (∀ b e, ¬ (b = 0 ∧ e = 69) → ¬ e = 1082 → M b e = xm S b e) ∧ (∀ k, ¬ (k = 3 ∨ k = 21) → M 0 69 k = xm S 0 69 k) ∧ xLm M X.1 X.2.1 X.2.2 := by
  subst hs
  obtain ⟨C1, C2⟩ := C
  obtain ⟨c1, c2, c3, c4⟩ := C2 a rfl
  dsimp only at c2 c3 c4
  rw [xw_y (by omega), xw_n (by omega), c2]
  obtain ⟨M, q, h1, F⟩ := gm176c (d := d + 58) (w := w) (S := xs S (xw (xw (xm S) 0 69 3 (-1 : Int32)) 0 69 21 (nI X.1))) (n := X.1) (by omega)
  rw [show xr_Call (d + 59) 176 [xP 0 83, xP 0 82, xI (nI X.1)] ([], w) _ = _ from q, xr_cV_s, xs_xs]
  refine ⟨M, rfl, ?_, fun b e h2 h3 => ?_, fun k hk => ?_, ?_, fun k hk => ?_⟩
  · rw [F 0 69 (by omega), xm_xs, xw_n (by omega), xw_y (by omega)]
  · rw [F b e h3, xm_xs, xw_r h2, xw_r h2]
  · rw [F 0 69 (by omega), xm_xs, xw_n (by omega), xw_n (by omega)]
  · rw [F 0 69 (by omega), xm_xs, xw_y (by omega)]
  · have r := c4 k hk
    rw [h1 k 0 hk (by omega), h1 k 1 hk (by omega), xm_xs, xw_n (by omega), xw_n (by omega), xw_n (by omega), xw_n (by omega)]
    exact r
theorem tm185y (hn : n ≤ 150) {L : Nat} (hL : n ≤ L) (B : tBm (xm S) tb L) : ∃ M, xr_Call (d + 60) 185 [xP 0 69, xI (nI n)] ([], w) S = some (.inl (some (tRes (lAll tb n).1)), ([], w), xs S M) ∧ kLaw (xm S) M (lAll tb n) := by
  obtain ⟨⟨B1, B2⟩, B4, B5⟩ := B
  obtain ⟨T, hT⟩ : ∃ T, T = xs S (xw (xm S) 0 69 0 (nI 0)) := ⟨_, rfl⟩
  have e0 : xm T 0 69 0 = nI 0 := by rw [hT, xm_xs, xw_y (by omega)]
  obtain ⟨M1, q1, Y1, R1, ⟨f1, f7, f8⟩, F1, G1⟩ := tm170 (d := d + 56) (w := w) (S := T) (tb := tb) (n := n) (by omega) B2 (fun k hk => by rw [hT, xm_xs, xw_n (by omega)]; exact B5 k (by omega))
  have hT2 : xm T = xw (xm S) 0 69 0 (nI 0) := by rw [hT, xm_xs]
  have hT3 : ∀ M, xs T M = xs S M := fun M => by rw [hT, xs_xs]
  obtain ⟨M1', hM1'⟩ : ∃ M1', M1' = xw M1 0 69 22 (nI 0) := ⟨_, rfl⟩
  have K0 : kN M1 M1' := by rw [hM1']; exact ⟨fun b e h _ => by rw [xw_r h], fun k hk => by rw [xw_n (by omega)]⟩
  have C0 : mLw (xm (xs S M1')) n 0 (.inl (sk tb n 0), 0, (fun _ => 0), (fun _ => 0)) := by
    rw [xm_xs, hM1']
    exact ⟨rM_o R1 (by omega) _, fun a ha => ⟨by rw [xw_n (by omega)]; exact f8, xw_y (by omega), by dsimp only; omega, fun j hj => by dsimp only at hj; omega⟩⟩
  have I0 : lInv n 0 0 (.inl (sk tb n 0), 0, (fun _ => 0), (fun _ => 0)) := fun a ha => by
    cases ha
    exact ⟨sk_le (Nat.zero_le _), Nat.zero_le _, fun k hk => by dsimp only at hk; omega, rfl⟩
  obtain ⟨M2, q2, K2, C2⟩ := tmTop (w := w) (tb := tb) hn 6 (by omega) (d + 23) (xs S M1') _ 0 0 (by rw [xm_xs]; exact tY_N K0 Y1) C0 I0
  rw [lTop_sk] at C2
  rw [xs_xs] at q2
  rw [xm_xs] at K2
  have K2 := kN_tr K0 K2
  have Y2 := tY_N K2 Y1
  obtain ⟨s, hs⟩ : ∃ s, s = lTop tb n 6 (.inl 0, 0, (fun _ => 0), (fun _ => 0)) := ⟨_, rfl⟩
  rw [← hs] at C2
  obtain ⟨M3, q3, K3, R3⟩ := tm158r (d := d + 57) (w := w) (S := xs S M2) (by rw [xm_xs]; exact Y2) C2.1
  rw [xs_xs] at q3
  rw [xm_xs] at K3
  have K4 := kN_tr K2 (kM_N K3)
  have FF : ∀ b e, ¬ (b = 0 ∧ e = 69) → ¬ e = 1083 → M3 b e = xm S b e := fun b e h1 h2 => by
    rw [K4.1 b e h1 h2, F1 b e h1, hT2, xw_r h1]
  have GG : ∀ k, ¬ (k ≤ 8 ∨ k = 22) → M3 0 69 k = xm S 0 69 k := fun k hk => by
    rw [K4.2 k (by omega), G1 k (by omega), hT2, xw_n (by omega)]
  have g0 : M3 0 69 0 = nI 0 := by rw [K4.2 0 (by omega), G1 0 (by omega), e0]
  have g1 : M3 0 69 1 = nI 0 := by rw [K4.2 1 (by omega), f1]
  have g2 : M3 0 69 2 = nI n := by rw [K4.2 2 (by omega)]; exact Y1.2.2.1
  have b1 : xw (xm S) 0 69 0 (nI 0) 0 69 1 = nI L := by rw [xw_n (by omega)]; exact B4
  have b2 : ¬ nI 1 = nI 0 := by rw [xn_eq (by omega) (by omega)]; omega
  have b3 : ¬ nI 150 < nI n := by rw [xn_lt (by omega) (by omega)]; omega
  rw [xe185, ← hT, b1, show xr_Call (d + 59) 152 [xI (nI n), xI (nI 0), xI (nI L)] ([], w) T = _ from qm152y (Nat.zero_le n) hL (by omega), xr_cI_s, if_neg b2, if_neg b3, show xr_Call (d + 59) 151 [xP 0 69, xI (nI 0), xI (nI 1), xI (nI 1)] ([], w) T = _ from qm151f _ _ e0, xr_cI_s, if_pos rfl]
  rw [show xr_Call (d + 59) 170 [xP 0 69, xI (nI n)] ([], w) T = _ from q1, xr_cV_s, hT3, xm_xs, xs_xs, ← hM1', show xr_Call (d + 59) 181 [xP 0 69] ([], w) (xs S M1') = _ from q2, xr_cV_s, show xr_Call (d + 59) 158 [xP 0 69] ([], w) (xs S M2) = _ from q3, xr_cV_s, xm_xs]
  rcases he : s.1 with a | ⟨kk, p⟩
  · rw [he] at R3
    obtain ⟨r1, r2, r3, r4⟩ := id R3
    rw [if_pos r1, if_pos r1]
    by_cases hq : sk tb n a < n
    · have eA : lAll tb n = (.inr (1, sk tb n a), s.2) := by unfold lAll; rw [← hs, he]; dsimp only; rw [if_pos hq]
      rw [r3, g2, if_pos (by rw [xn_lt (by omega) (by omega)]; exact hq), eA]
      obtain ⟨M5, q5, K5, R5, e5⟩ := tm159 (d := d + 58) (w := w) (S := xs S M3) (n := n) (r := .inl (sk tb n a)) (k := 1) (p := sk tb n a) (by omega) (by omega) (by rw [xm_xs]; exact R3)
      rw [xs_xs] at q5
      rw [xm_xs] at K5
      have R5 : rM M5 n (.inr (1, sk tb n a)) := R5
      rw [show xr_Call (d + 59) 159 [xP 0 69, xI (nI 1), xI (nI (sk tb n a))] ([], w) (xs S M3) = _ from q5, xr_cV_s, xm_xs, if_neg (rM_5 R5), show xr_Call (d + 59) 171 [xP 0 69] ([], w) (xs S M5) = _ from tm171 (S := xs S M5) R5, xr_cI_s, xs_xs, xm_xs]
      refine ⟨_, rfl, ⟨by rw [xw_n (by omega), K5.2 0 (by omega)]; exact g0, by rw [xw_n (by omega), K5.2 1 (by omega)]; exact g1, by rw [xw_y (by omega)]; rfl⟩, fun b e h1 h2 _ => ?_, fun k hk => ?_, fun q _ => ⟨fun k => ?_, ?_⟩, fun a h => nomatch h⟩
      · rw [xw_r h1, K5.1 b e h1]; exact FF b e h1 h2
      · rw [xw_n (by omega), K5.2 k (by omega)]; exact GG k (by omega)
      · rw [xw_r (by omega), K5.1 k 1082 (by omega)]; exact FF k 1082 (by omega) (by omega)
      · rw [xw_n (by omega), K5.2 21 (by omega)]; exact GG 21 (by omega)
    · have eA : lAll tb n = (.inl (sk tb n a), s.2) := by unfold lAll; rw [← hs, he]; dsimp only; rw [if_neg hq]
      rw [r3, g2, if_neg (by rw [xn_lt (by omega) (by omega)]; exact hq), eA]
      have C3 : mLw (xm (xs S M3)) n 0 (.inl (sk tb n a), s.2) := mLw_r (r := s.1) C2 K3 R3 (fun a' _ => ⟨a, he⟩)
      obtain ⟨M5, q5, h3, F5, G5, L5⟩ := tm185e (d := d) (w := w) (S := xs S M3) hn rfl C3
      rw [xm_xs] at q5
      rw [xm_xs] at F5 G5
      refine ⟨M5, q5.trans (by rw [xs_xs]; rfl), ⟨by rw [G5 0 (by omega)]; exact g0, by rw [G5 1 (by omega)]; exact g1, h3⟩, fun b e h1 h2 h4 => by rw [F5 b e h1 h4]; exact FF b e h1 h2, fun k hk => by rw [G5 k (by omega)]; exact GG k (by omega), (fun q h => nomatch h), fun a' _ => L5⟩
  · rw [he] at R3
    have R3 : rM M3 n (.inr (kk, p)) := R3
    have eA : lAll tb n = (.inr (kk, p), s.2) := by unfold lAll; rw [← hs, he]
    rw [if_neg (rM_5 R3), if_neg (rM_5 R3), eA, show xr_Call (d + 59) 171 [xP 0 69] ([], w) (xs S M3) = _ from tm171 (S := xs S M3) R3, xr_cI_s, xs_xs, xm_xs]
    refine ⟨_, rfl, ⟨by rw [xw_n (by omega)]; exact g0, by rw [xw_n (by omega)]; exact g1, by rw [xw_y (by omega)]; rfl⟩, fun b e h1 h2 _ => ?_, fun k hk => ?_, fun q _ => ⟨fun k => ?_, ?_⟩, fun a h => nomatch h⟩
    · rw [xw_r h1]; exact FF b e h1 h2
    · rw [xw_n (by omega)]; exact GG k (by omega)
    · rw [xw_r (by omega)]; exact FF k 1082 (by omega) (by omega)
    · rw [xw_n (by omega)]; exact GG 21 (by omega)
end
