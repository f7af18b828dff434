/-! THE LAW: both calls, and the questions' invariant after them -/
/-- the law's two cells change places -/
def xSwL (M : xr_M) : xr_M := fun b e => if b = 0 ∧ 53 ≤ e ∧ e ≤ 57 then M 0 (e + 5) else if b = 0 ∧ 58 ≤ e ∧ e ≤ 62 then M 0 (e - 5) else M b e
/-- the thumb's two cells change places -/
def xSwT (M : xr_M) : xr_M := fun b e => if b = 0 ∧ 63 ≤ e ∧ e ≤ 65 then M 0 (e + 3) else if b = 0 ∧ 66 ≤ e ∧ e ≤ 68 then M 0 (e - 3) else M b e
theorem xSwL_o {M : xr_M} {b e : Nat} (h : ¬ (b = 0 ∧ 53 ≤ e ∧ e ≤ 62)) : xSwL M b e = M b e := by
  unfold xSwL
  rw [if_neg (by omega), if_neg (by omega)]
theorem xSwL_y {M : xr_M} {e : Nat} (h : 53 ≤ e ∧ e ≤ 57) : xSwL M 0 e = M 0 (e + 5) := by
  unfold xSwL
  rw [if_pos (by omega)]
theorem xSwT_o {M : xr_M} {b e : Nat} (h : ¬ (b = 0 ∧ 63 ≤ e ∧ e ≤ 68)) : xSwT M b e = M b e := by
  unfold xSwT
  rw [if_neg (by omega), if_neg (by omega)]
theorem xSwT_y {M : xr_M} {e : Nat} (h : 63 ≤ e ∧ e ≤ 65) : xSwT M 0 e = M 0 (e + 3) := by
  unfold xSwT
  rw [if_pos (by omega)]
theorem lAll_inv {tb : Nat → Nat} {n a : Nat} (hn : n ≤ 150) (h : (lAll tb n).1 = .inl a) : xLv (lAll tb n).2.1 (lAll tb n).2.2.1 := by
  have I := lTop_inv (tb := tb) (n := n) 6 0 0 _ lInv_0
  unfold lAll at h ⊢
  cases he : (lTop tb n 6 (.inl 0, 0, (fun _ => 0), (fun _ => 0))).1 with
  | inr q => rw [he] at h; cases h
  | inl b =>
    obtain ⟨i1, i2, i3, i4⟩ := I b he
    rw [he] at h
    dsimp only at h ⊢
    by_cases q : sk tb n b < n
    · rw [if_pos q] at h; cases h
    · rw [if_neg q]
      exact ⟨by dsimp only; omega, i3⟩
section
variable {d : Nat} {S : xr_S} {tb : Nat → Nat} {n L : Nat} {np nq ch st : Nat} {du pl : Nat → Nat} {dy : Nat → Int32} {dp : Nat → Nat → Nat} {sz : Nat} {kd : Nat → Nat} {gv g : Nat → Int32} {h : Nat → Nat} {s : Nat → Nat → Int32} {ln : Nat} {ti : Nat → Nat} {fl : Nat → Option Nat}
theorem law_ok (I : xIq (xm S) np nq ch st du pl dy dp sz kd gv g h s ln ti fl) (hn : n ≤ 150) (hL : n ≤ L) (B : tB (xm S) tb L) : ∃ M1 M2, xr_Call (d + 60) 102 [xP 0 0, xI (nI n)] xMd S = some (.inl (some (tRes (lAll tb n).1)), tMo (lAll tb n).1 xMl, xs S M1) ∧ xr_Call (d + 60) 185 [xP 0 69, xI (nI n)] (tMo (lAll tb n).1 xMl) (xs S M1) = some (.inl (some (tRes (lAll tb n).1)), tMo (lAll tb n).1 xMl, xs S M2) ∧ (M2 0 69 0 = nI 0 ∧ M2 0 1 1 = nI 0 ∧ M2 0 69 1 = nI 0 ∧ M2 0 0 15 = tPlc (lAll tb n).1 ∧ M2 0 69 3 = tPlc (lAll tb n).1) ∧ (∀ q, (lAll tb n).1 = .inr q → xIq M2 np nq ch st du pl dy dp sz kd gv g h s ln ti fl) ∧ (∀ a, (lAll tb n).1 = .inl a → xIq (xSwL M2) np nq ch st du pl dy dp (lAll tb n).2.1 (lAll tb n).2.2.1 (lAll tb n).2.2.2 g h s ln ti fl) ∧ (∀ b e, ¬ (b = 0 ∧ (e = 0 ∨ e = 1 ∨ e = 58 ∨ e = 59 ∨ e = 60 ∨ e = 69)) → ¬ e = 1082 → ¬ e = 1083 → M2 b e = xm S b e) ∧ (∀ k, ¬ k = 15 → M2 0 0 k = xm S 0 0 k) ∧ ∀ k, ¬ (k ≤ 8 ∨ k = 21 ∨ k = 22) → M2 0 69 k = xm S 0 69 k := by
  obtain ⟨M1, q1, ⟨a1, a2, a3⟩, F1, G1, C1⟩ := tc102y (d := d) (S := S) (tb := tb) hn hL B
  obtain ⟨⟨B1, B2⟩, _, B4, B5⟩ := B
  have Bm : tBm (xm (xs S M1)) tb L := ⟨⟨B1, B2⟩, by rw [xm_xs, F1 0 69 (by omega)]; exact B4, fun k hk => by rw [xm_xs, F1 0 70 (by omega)]; exact B5 k hk⟩
  obtain ⟨w, hw⟩ : ∃ w, tMo (lAll tb n).1 xMl = ([], w) := by
    cases (lAll tb n).1 with
    | inl a => exact ⟨_, rfl⟩
    | inr q => exact ⟨_, rfl⟩
  obtain ⟨M2, q2, ⟨b0, b1, b3⟩, F2, G2, Nq, Ya⟩ := tm185y (d := d) (w := w) (S := xs S M1) (tb := tb) hn hL Bm
  rw [xs_xs] at q2
  rw [xm_xs] at F2 G2 Nq
  have FF : ∀ b e, ¬ (b = 0 ∧ (e = 0 ∨ e = 1 ∨ e = 58 ∨ e = 59 ∨ e = 60 ∨ e = 69)) → ¬ e = 1082 → ¬ e = 1083 → M2 b e = xm S b e := fun b e h1 h2 h3 => by rw [F2 b e (by omega) h3 h2, F1 b e (by omega)]
  have GG : ∀ k, ¬ (k ≤ 8 ∨ k = 21 ∨ k = 22) → M2 0 69 k = xm S 0 69 k := fun k hk => by rw [G2 k hk, F1 0 69 (by omega)]
  refine ⟨M1, M2, q1, by rw [hw]; exact q2, ⟨b0, ?_, b1, ?_, b3⟩, fun q hq => ?_, fun a ha => ?_, FF, fun k hk => ?_, GG⟩
  · rw [F2 0 1 (by omega) (by omega) (by omega)]; exact a1
  · rw [F2 0 0 (by omega) (by omega) (by omega)]; exact a3
  · obtain ⟨n1, n2⟩ := Nq q hq
    refine xIq_fr ⟨fun b e h1 h2 h3 => ?_, ?_, GG 35 (by omega)⟩ I
    · by_cases h4 : e = 1082
      · rw [h4, n1 b, F1 b 1082 (by omega)]
      · exact FF b e (by omega) h4 (by omega)
    · rw [n2, F1 0 69 (by omega)]
  · obtain ⟨P, ⟨Lc, Lm, Lv⟩, ⟨e89, G, W⟩, ⟨Hc, Hm, HI⟩, To⟩ := I
    have SS : ∀ b e, ¬ (b = 0 ∧ (e = 0 ∨ e = 1 ∨ (53 ≤ e ∧ e ≤ 62) ∨ e = 69)) → ¬ e = 1082 → ¬ e = 1083 → xSwL M2 b e = xm S b e := fun b e h1 h2 h3 => by rw [xSwL_o (by omega)]; exact FF b e (by omega) h2 h3
    obtain ⟨c1, _, c3⟩ := C1
    obtain ⟨c4, c5, c6⟩ := c3 a ha
    have m69 : xSwL M2 0 69 = M2 0 69 := xSwL_o (by omega)
    refine ⟨xPl_fr (fun b e he => SS b e (by omega) (by omega) (by omega)) P, ⟨⟨?_, fun k hk => ?_, fun k hk _ => ?_⟩, xLm_fr (fun k => xSwL_o (by omega)) (by rw [m69]) (Ya a ha), lAll_inv hn ha⟩, ⟨?_, xGr_fr (fun e h1 h2 => SS 0 e (by omega) (by omega) (by omega)) G, W⟩, ⟨?_, Hm, HI⟩, xTo_fr (SS 0 63 (by omega) (by omega) (by omega)) (SS 0 64 (by omega) (by omega) (by omega)) (fun k => SS k 1084 (by omega) (by omega) (by omega)) (by rw [m69]; exact GG 35 (by omega)) To⟩
    · rw [xSwL_y (by omega), F2 0 58 (by omega) (by omega) (by omega)]; exact c4
    · rw [xSwL_y (by omega), F2 0 59 (by omega) (by omega) (by omega)]; exact (c6 k hk).1
    · rw [xSwL_y (by omega), F2 0 60 (by omega) (by omega) (by omega)]; exact (c6 k hk).2
    · rw [SS 0 89 (by omega) (by omega) (by omega)]; exact e89
    · rw [SS 0 10 (by omega) (by omega) (by omega), SS 0 11 (by omega) (by omega) (by omega)]; exact Hc
  · rw [F2 0 0 (by omega) (by omega) (by omega)]; exact G1 k hk
end
