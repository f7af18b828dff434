/-! THE WORK'S TEXT: the model -/
def mRw (M : xr_M) (j : Nat) (v : Nat × Nat × Nat × Nat) : Prop := M j 1088 0 = nI v.1 ∧ ((v.1 = 0 ∨ v.1 = 1 ∨ v.1 = 2 ∨ v.1 = 5) → M j 1088 1 = nI v.2.1) ∧ ((v.1 = 1 ∨ v.1 = 2) → M j 1088 2 = nI v.2.2.1) ∧ (v.1 = 1 → M j 1088 3 = nI v.2.2.2) ∧ (v.1 = 3 → M j 1088 2 = nI v.2.1)
/-- op: rows whose end is not yet written -/
def mRows (M : xr_M) (op : Nat → Bool) (X : wX) : Prop := ∀ j, j < X.1 → mRw M j (X.2.1 j) ∧ (op j = false → M j 1088 4 = nI (X.2.2 j))
def mWk (M : xr_M) (n o : Nat) (op : Nat → Bool) (s : wS) : Prop := rM M n s.1 ∧ ∀ a, s.1 = .inl a → M 0 69 8 = nI o ∧ M 0 69 30 = nI s.2.1 ∧ mRows M op s.2
def kV (M M' : xr_M) : Prop := (∀ b e, ¬ (b = 0 ∧ e = 69) → ¬ e = 1088 → M' b e = M b e) ∧ ∀ k, ¬ (k = 4 ∨ k = 5 ∨ k = 6 ∨ k = 8 ∨ k = 30) → M' 0 69 k = M 0 69 k
theorem kV_rf (M : xr_M) : kV M M := ⟨fun _ _ _ _ => rfl, fun _ _ => rfl⟩
theorem kV_tr {M M' M'' : xr_M} (h : kV M M') (h' : kV M' M'') : kV M M'' := ⟨fun b e q q2 => (h'.1 b e q q2).trans (h.1 b e q q2), fun k q => (h'.2 k q).trans (h.2 k q)⟩
theorem kM_V {M M' : xr_M} (h : kM M M') : kV M M' := ⟨fun b e q _ => h.1 b e q, fun k q => h.2 k (by omega)⟩
theorem kV_w (M : xr_M) (j c : Nat) (v : Int32) : kV M (xw M j 1088 c v) := ⟨fun b e q q2 => by rw [xw_r (by omega)], fun k _ => by rw [xw_n (by omega)]⟩
theorem kV_v (M : xr_M) {c : Nat} (hc : c = 8 ∨ c = 30) (v : Int32) : kV M (xw M 0 69 c v) := ⟨fun b e q q2 => by rw [xw_r (by omega)], fun k hk => by rw [xw_n (by omega)]⟩
/-- a row under way -/
def wQm (M : xr_M) (n o : Nat) (op : Nat → Bool) (r : tR) (X : wX) (k : Nat) : Prop := rM M n r ∧ M 0 69 8 = nI o ∧ M 0 69 30 = nI (X.1 + 1) ∧ mRows M op X ∧ M X.1 1088 0 = nI k
section
variable {d : Nat} {w : List Nat} {S : xr_S} {tb : Nat → Nat} {n np nq o : Nat} {r : tR} {X : wX} {k : Nat} {op : Nat → Bool}
theorem tY_V {M M' : xr_M} (K : kV M M') (X : tY M tb n) : tY M' tb n := ⟨X.1, X.2.1, by rw [K.2 2 (by omega)]; exact X.2.2.1, fun k hk => by rw [K.1 0 70 (by omega) (by omega)]; exact X.2.2.2 k hk⟩
theorem mRows_M {M M' : xr_M} (K : kM M M') (R : mRows M op X) : mRows M' op X := fun j hj => by
  unfold mRw
  rw [K.1 j 1088 (by omega)]
  exact R j hj
theorem mRows_w {M : xr_M} {i c : Nat} {v : Int32} (hi : X.1 ≤ i) (R : mRows M op X) : mRows (xw M i 1088 c v) op X := fun j hj => by
  unfold mRw
  rw [xw_r (show ¬ (j = i ∧ 1088 = 1088) by omega)]
  exact R j hj
theorem mRows_v {M : xr_M} {c : Nat} {v : Int32} (R : mRows M op X) : mRows (xw M 0 69 c v) op X := fun j hj => by
  unfold mRw
  rw [xw_r (show ¬ (j = 0 ∧ 1088 = 69) by omega)]
  exact R j hj
theorem wm1 {c hn : Nat} {hi : Int32} (hc : 1 ≤ c ∧ c ≤ 3) (hhi : ∀ v, v ≤ 100000 → ((hi < nI v) ↔ hn ≤ v)) (Y : tY (xm S) tb n) (Q : wQm (xm S) n o op r X k) : ∃ M1, xr_Call (d + 3) 162 [xP 0 69, xI (nI 0), xI hi] ([], w) S = some (.inl (some (nI (pNum tb n 0 hn r).1)), ([], w), xs S M1) ∧ wQm (xw M1 X.1 1088 c (nI (pNum tb n 0 hn r).1)) n o op (pNum tb n 0 hn r).2 X k ∧ kV (xm S) (xw M1 X.1 1088 c (nI (pNum tb n 0 hn r).1)) ∧ ∀ c', c' ≠ c → xw M1 X.1 1088 c (nI (pNum tb n 0 hn r).1) X.1 1088 c' = xm S X.1 1088 c' := by
  obtain ⟨q1, q2, q3, q4, q5⟩ := Q
  obtain ⟨M1, e1, K1, R1⟩ := tm162 (d := d) (w := w) (lo := 0) (hn := hn) (hi := hi) (by omega) hhi Y q1
  have F : ∀ c', c' ≠ c → xw M1 X.1 1088 c (nI (pNum tb n 0 hn r).1) X.1 1088 c' = xm S X.1 1088 c' := fun c' h => by rw [xw_n (by omega), K1.1 X.1 1088 (by omega)]
  refine ⟨M1, e1, ⟨?_, ?_, ?_, mRows_w (Nat.le_refl _) (mRows_M K1 q4), ?_⟩, kV_tr (kM_V K1) (kV_w _ _ _ _), F⟩
  · unfold rM at R1 ⊢
    rw [xw_r (show ¬ (0 = X.1 ∧ 69 = 1088) by omega)]
    exact R1
  · rw [xw_n (by omega), K1.2 8 (by omega)]; exact q2
  · rw [xw_n (by omega), K1.2 30 (by omega)]; exact q3
  · rw [F 0 (by omega)]; exact q5
end
