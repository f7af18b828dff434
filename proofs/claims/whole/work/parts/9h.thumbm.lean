/-! THE THUMB'S TEXT: the model -/
def mTh (M : xr_M) (n : Nat) (v2 v3 : Int32) (s : uS) : Prop := rM M n s.1 ∧ ∀ a, s.1 = .inl a → v2 = nI s.2.1 ∧ (∀ i, i < 6 → xbt v3 i = (s.2.2.2 i).isSome) ∧ ∀ k, k < s.2.1 → M k 1085 0 = nI (s.2.2.1 k) ∧ M k 1085 1 = oI (s.2.2.2 (s.2.2.1 k))
def kU (M M' : xr_M) : Prop := (∀ b e, ¬ (b = 0 ∧ e = 69) → ¬ e = 1085 → M' b e = M b e) ∧ ∀ k, ¬ (k = 4 ∨ k = 5 ∨ k = 6) → M' 0 69 k = M 0 69 k
theorem kU_rf (M : xr_M) : kU M M := ⟨fun _ _ _ _ => rfl, fun _ _ => rfl⟩
theorem kU_tr {M M' M'' : xr_M} (h : kU M M') (h' : kU M' M'') : kU M M'' := ⟨fun b e q q2 => (h'.1 b e q q2).trans (h.1 b e q q2), fun k q => (h'.2 k q).trans (h.2 k q)⟩
theorem kM_U {M M' : xr_M} (h : kM M M') : kU M M' := ⟨fun b e q _ => h.1 b e q, h.2⟩
def ucnt (fl : Nat → Option Nat) : Nat → Nat
  | 0 => 0
  | k + 1 => ucnt fl k + if (fl k).isSome then 1 else 0
/-- what holds of a thumb as read so far -/
def uI (X : uX) : Prop := (∀ k, k < X.1 → X.2.1 k < 6 ∧ ∃ v, X.2.2 (X.2.1 k) = some v ∧ v ≤ 9) ∧ (∀ i v, i < 6 → X.2.2 i = some v → v ≤ 9 ∧ ∃ k, k < X.1 ∧ X.2.1 k = i) ∧ ucnt X.2.2 6 = X.1
theorem ucnt_le (fl : Nat → Option Nat) : ∀ k, ucnt fl k ≤ k
  | 0 => Nat.le_refl _
  | k + 1 => by have := ucnt_le fl k; unfold ucnt; split <;> omega
theorem ucnt_lt {fl : Nat → Option Nat} {i : Nat} (h : fl i = none) : ∀ k, i < k → ucnt fl k < k
  | 0, hk => by omega
  | k + 1, hk => by
    unfold ucnt
    by_cases q : k = i
    · have := ucnt_le fl k
      rw [q, h]
      rw [q] at this
      exact Nat.lt_succ_of_le this
    · have := ucnt_lt h k (by omega)
      split <;> omega
theorem ucnt_u {fl : Nat → Option Nat} {i v : Nat} (h : fl i = none) : ∀ k, ucnt (fun j => if j = i then some v else fl j) k = ucnt fl k + if i < k then 1 else 0
  | 0 => rfl
  | k + 1 => by
    rw [ucnt, ucnt, ucnt_u h k]
    by_cases q : k = i
    · subst q
      rw [if_pos rfl, h, if_neg (show ¬ k < k by omega), if_pos (show k < k + 1 by omega)]
      rfl
    · rw [if_neg q]
      by_cases q2 : i < k
      · rw [if_pos q2, if_pos (show i < k + 1 by omega)]; omega
      · rw [if_neg q2, if_neg (show ¬ i < k + 1 by omega)]; omega
section
variable {d : Nat} {w : List Nat} {S : xr_S} {tb : Nat → Nat} {n : Nat}
theorem tY_U {M M' : xr_M} (K : kU M M') (X : tY M tb n) : tY M' tb n := ⟨X.1, X.2.1, by rw [K.2 2 (by omega)]; exact X.2.2.1, fun k hk => by rw [K.1 0 70 (by omega) (by omega)]; exact X.2.2.2 k hk⟩
theorem uFin_I {r : tR} {v1 : Nat} {X : uX} (h6 : ∀ a, r = .inl a → v1 < 6 ∧ X.2.2 v1 = none) (I : uI X) : uI (uFin tb n r v1 X).2 := by
  unfold uFin
  split
  · rename_i b hb
    obtain ⟨c, hc, _⟩ := pSgn_a hb
    cases r with
    | inr q => cases hc
    | inl a =>
      obtain ⟨h6, h7⟩ := h6 a rfl
      have h9 := pNum_b hc
      obtain ⟨i1, i2, i3⟩ := I
      refine ⟨fun k hk => ?_, fun i v hi e => ?_, ?_⟩
      · dsimp only at hk ⊢
        by_cases q : k = X.1
        · rw [if_pos q, if_pos rfl]
          exact ⟨h6, _, rfl, by omega⟩
        · obtain ⟨j1, v, j2, j3⟩ := i1 k (by omega)
          rw [if_neg q, if_neg (fun e => by rw [e, h7] at j2; cases j2)]
          exact ⟨j1, v, j2, j3⟩
      · dsimp only at e ⊢
        by_cases q : i = v1
        · rw [if_pos q] at e
          cases e
          exact ⟨by omega, X.1, by omega, by rw [if_pos rfl, q]⟩
        · rw [if_neg q] at e
          obtain ⟨j1, k, j2, j3⟩ := i2 i v hi e
          exact ⟨j1, k, by omega, by rw [if_neg (by omega)]; exact j3⟩
      · dsimp only
        rw [ucnt_u h7, if_pos h6, i3]
  · exact I
theorem tm190g {r : tR} {v1 : Nat} {v2 v3 x2 p4 n0 : Int32} {X : uX} (h6 : ∀ a, r = .inl a → x2 = nI v1 ∧ v1 < 6 ∧ X.2.2 v1 = none ∧ v2 = nI X.1 ∧ X.1 < 6) (I : uI X) (Y : tY (xm S) tb n) (C : mTh (xm S) n v2 v3 (r, X)) : ∃ M v2' v3' z, (xr_cI ([], w) (xr_Call (d + 3) 162 [xP 0 69, xI (nI 0), xI (nI 9)] ([], w) S) (fun x16 S15 => (xr_cV ([], w) (xr_Call (d + 3) 168 [xP 0 69, xI (nI 59)] ([], w) S15) (fun S17 => (if ((xm S17) 0 69 5) = (nI 0) then (cond (xr_in v2 6) (cond (xr_in (nI 0) 2) (cond (xr_in v2 6) (cond (xr_in (nI 1) 2) (xr_cV ([], w) (xr_Call (d + 3) 158 [xP 0 69] ([], w) (xs S17 (xw (xw (xm S17) (xk v2) 1085 (xk (nI 0)) x2) (xk v2) 1085 (xk (nI 1)) x16))) (fun S18 => (xr_Run (d + 3) 190 48 [xP 0 69, xI n0, xI (v2 + (nI 1)), xI (v3 ||| ((nI 1) <<< (x2 &&& 31))), xI p4, xI x2, xI x16] [] ([], w) S18))) none) none) none) none) else (xr_cV ([], w) (xr_Call (d + 3) 158 [xP 0 69] ([], w) S17) (fun S19 => (xr_Run (d + 3) 190 48 [xP 0 69, xI n0, xI v2, xI v3, xI p4, xI x2, xI x16] [] ([], w) S19)))))))) = xr_Run (d + 3) 190 48 [xP 0 69, xI n0, xI v2', xI v3', xI p4, xI x2, xI z] [] ([], w) (xs S M) ∧ kU (xm S) M ∧ mTh M n v2' v3' (pSk tb n (uFin tb n r v1 X).1, (uFin tb n r v1 X).2) := by
  obtain ⟨M1, q1, K1, R1⟩ := tm162 (d := d) (w := w) (lo := 0) (hn := 10) (by omega) (hi9 (c := 9) (by omega)) Y C.1
  have Y1 : tY (xm (xs S M1)) tb n := tY_U (kM_U K1) Y
  obtain ⟨M2, q2, K2, R2⟩ := tm168 (d := d) (w := w) (S := xs S M1) Y1 R1 (c := 59) (by omega)
  rw [xs_xs] at q2
  rw [xm_xs] at K2
  have K2' := kM_tr K1 K2
  have Y2 : tY (xm (xs S M2)) tb n := tY_U (kM_U K2') Y
  rw [q1, xr_cI_s, q2, xr_cV_s, xm_xs]
  unfold uFin
  rcases h3 : pSgn tb n 59 (pNum tb n 0 10 r).2 with b | q
  · rw [h3] at R2
    obtain ⟨c, hc, _⟩ := pSgn_a h3
    cases r with
    | inr q => cases hc
    | inl a =>
      have hv := pNum_b hc
      obtain ⟨rfl, g6, g7, rfl, g8⟩ := h6 a rfl
      obtain ⟨_, c2, c3⟩ := C.2 a rfl
      dsimp only at c2 c3
      rw [if_pos R2.1]
      simp (disch := omega) only [xi_t, xn_k, cond_true, xs_xs, xn_add]
      obtain ⟨M3, hM3⟩ : ∃ M3, M3 = xw (xw M2 X.1 1085 0 (nI v1)) X.1 1085 1 (nI (pNum tb n 0 10 (.inl a)).1) := ⟨_, rfl⟩
      have K3 : kU M2 M3 := by rw [hM3]; exact ⟨fun b e h h2 => by rw [xw_r (by omega), xw_r (by omega)], fun k hk => by rw [xw_n (by omega), xw_n (by omega)]⟩
      have E3 : M3 0 69 = M2 0 69 := by rw [hM3, xw_r (by omega), xw_r (by omega)]
      have R3 : rM (xm (xs S M3)) n (.inl b) := by
        rw [xm_xs]
        unfold rM at R2 ⊢
        rw [E3]
        exact R2
      have K3' := kU_tr (kM_U K2') K3
      obtain ⟨M4, q4, K4, R4⟩ := tm158r (d := d + 1) (w := w) (S := xs S M3) (tY_U K3' Y) R3
      rw [xs_xs] at q4
      rw [xm_xs] at K4
      rw [← hM3, show xr_Call (d + 3) 158 [xP 0 69] ([], w) (xs S M3) = _ from q4, xr_cV_s]
      refine ⟨M4, _, _, _, rfl, kU_tr K3' (kM_U K4), R4, fun _ _ => ⟨rfl, fun i hi => ?_, fun k hk => ?_⟩⟩
      · rw [xbt_or (by omega) (by omega), c2 i hi]
        dsimp only
        by_cases q : i = v1
        · rw [if_pos q, decide_eq_true q, Bool.or_true]; rfl
        · rw [if_neg q, decide_eq_false q, Bool.or_false]
      · dsimp only at hk ⊢
        rw [K4.1 k 1085 (by omega), hM3]
        by_cases q : k = X.1
        · rw [if_pos q, if_pos rfl, q, xw_n (by omega), xw_y (by omega), xw_y (by omega)]
          exact ⟨rfl, rfl⟩
        · obtain ⟨j1, v, j2, j3⟩ := I.1 k (by omega)
          obtain ⟨c4, c5⟩ := c3 k (by omega)
          rw [if_neg q, if_neg (fun e => by rw [e, g7] at j2; cases j2), xw_n (by omega), xw_n (by omega), xw_n (by omega), xw_n (by omega), K2'.1 k 1085 (by omega)]
          exact ⟨c4, c5⟩
  · rw [h3] at R2
    rw [if_neg (rM_5 R2)]
    obtain ⟨M4, q4, K4, R4⟩ := tm158r (d := d + 1) (w := w) (S := xs S M2) Y2 R2
    rw [xs_xs] at q4
    rw [xm_xs] at K4
    rw [show xr_Call (d + 3) 158 [xP 0 69] ([], w) (xs S M2) = _ from q4, xr_cV_s]
    exact ⟨M4, _, _, _, rfl, kU_tr (kM_U K2') (kM_U K4), R4, fun a h => nomatch h⟩
end
