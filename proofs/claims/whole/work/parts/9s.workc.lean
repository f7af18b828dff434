/-! THE WORK'S TEXT: the class -/
def cRw (M : xr_M) (j : Nat) (v : Nat × Nat × Nat × Nat) : Prop := M 0 22 j = nI v.1 ∧ (v.1 ≠ 4 → M 0 23 j = nI v.2.1) ∧ ((v.1 = 1 ∨ v.1 = 2) → M 0 24 j = nI v.2.2.1) ∧ (v.1 = 1 → M 0 25 j = nI v.2.2.2)
def cRows (M : xr_M) (X : wX) : Prop := ∀ j, j < X.1 → cRw M j (X.2.1 j) ∧ M 0 26 j = nI (X.2.2 j)
def cWk (M : xr_M) (n : Nat) (s : wS) : Prop := rC M n s.1 ∧ (∃ z, z ≤ 150 ∧ M 0 21 5 = nI z) ∧ ∀ a, s.1 = .inl a → M 0 21 5 = nI s.2.1 ∧ cRows M s.2
def kW (M M' : xr_M) : Prop := (∀ b e, ¬ (b = 0 ∧ (e = 1 ∨ (21 ≤ e ∧ e ≤ 26))) → M' b e = M b e) ∧ ∀ k, k < 3 → M' 0 1 k = M 0 1 k
theorem kW_rf (M : xr_M) : kW M M := ⟨fun _ _ _ => rfl, fun _ _ => rfl⟩
theorem kW_tr {M M' M'' : xr_M} (h : kW M M') (h' : kW M' M'') : kW M M'' := ⟨fun b e q => (h'.1 b e q).trans (h.1 b e q), fun k q => (h'.2 k q).trans (h.2 k q)⟩
theorem kC_W {M M' : xr_M} (h : kC M M') : kW M M' := ⟨fun b e q => h.1 b e (by omega), h.2⟩
theorem kW_w (M : xr_M) {c : Nat} (hc : 21 ≤ c ∧ c ≤ 26) (k : Nat) (v : Int32) : kW M (xw M 0 c k v) := ⟨fun b e q => by rw [xw_r (by omega)], fun j hj => by rw [xw_n (by omega)]⟩
/-- a row under way -/
def wPre (M : xr_M) (n : Nat) (r : tR) (X : wX) (k : Nat) : Prop := rC M n r ∧ M 0 21 5 = nI (X.1 + 1) ∧ cRows M X ∧ M 0 22 X.1 = nI k ∧ M 0 26 X.1 = nI (X.1 + 1)
section
variable {d : Nat} {w : List Nat} {S : xr_S} {tb : Nat → Nat} {n np nq : Nat} {r : tR} {X : wX} {k : Nat}
theorem tX_W {M M' : xr_M} (K : kW M M') (X : tX M tb n) : tX M' tb n := ⟨X.1, X.2.1, by rw [K.2 2 (by omega)]; exact X.2.2.1, fun k hk => by rw [K.1 0 2 (by omega)]; exact X.2.2.2 k hk⟩
theorem cRows_C {M M' : xr_M} (K : kC M M') (R : cRows M X) : cRows M' X := fun j hj => by
  unfold cRw
  rw [K.1 0 22 (by omega), K.1 0 23 (by omega), K.1 0 24 (by omega), K.1 0 25 (by omega), K.1 0 26 (by omega)]
  exact R j hj
theorem cRows_w {M : xr_M} {c i : Nat} {v : Int32} (hi : X.1 ≤ i) (R : cRows M X) : cRows (xw M 0 c i v) X := fun j hj => by
  unfold cRw
  rw [xw_n (by omega), xw_n (by omega), xw_n (by omega), xw_n (by omega), xw_n (by omega)]
  exact R j hj
theorem hiM {c : Nat} (hc : c ≤ 100000) : ∀ v, v ≤ 100000 → ((nI c - nI 1 < nI v) ↔ c ≤ v) := fun v hv => by
  have e : nI c - nI 1 = Int32.ofInt ((c : Int) - (1 : Int)) := by
    rw [Int32.ofInt_sub, Int32.ofInt_eq_ofNat]; rfl
  rw [e, Int32.lt_iff_toInt_lt, nI_toInt (by omega), Int32.toInt_ofInt_of_le (by omega) (by omega)]
  omega
theorem wn1 {c hn : Nat} {hi : Int32} (hc : c = 23 ∨ c = 24 ∨ c = 25) (hhi : ∀ v, v ≤ 100000 → ((hi < nI v) ↔ hn ≤ v)) (T : tX (xm S) tb n) (Q : wPre (xm S) n r X k) : ∃ M1 x, xr_Call (d + 2) 87 [xP 0 1, xI (nI 0), xI hi] ([], w) S = some (.inl (some x), ([], w), xs S M1) ∧ wPre (xw M1 0 c X.1 x) n (pNum tb n 0 hn r).2 X k ∧ kW (xm S) (xw M1 0 c X.1 x) ∧ (∀ a', (pNum tb n 0 hn r).2 = .inl a' → x = nI (pNum tb n 0 hn r).1) ∧ ∀ c', c' ≠ 1 → c' ≠ c → xw M1 0 c X.1 x 0 c' = xm S 0 c' := by
  obtain ⟨q1, q2, q3, q4, q5⟩ := Q
  obtain ⟨M1, x, e1, K1, R1, E1⟩ := tc87 (d := d) (w := w) (lo := 0) (hn := hn) (hi := hi) (by omega) hhi T q1
  have F : ∀ c', c' ≠ 1 → c' ≠ c → xw M1 0 c X.1 x 0 c' = xm S 0 c' := fun c' h1 h2 => by rw [xw_r (by omega), K1.1 0 c' (by omega)]
  refine ⟨M1, x, e1, ⟨?_, ?_, cRows_w (Nat.le_refl _) (cRows_C K1 q3), ?_, ?_⟩, kW_tr (kC_W K1) (kW_w _ (by omega) _ _), fun a' h => ?_, F⟩
  · unfold rC at R1 ⊢
    rw [xw_r (show ¬ (0 = 0 ∧ 1 = c) by omega)]
    exact R1
  · rw [F 21 (by omega) (by omega)]; exact q2
  · rw [F 22 (by omega) (by omega)]; exact q4
  · rw [F 26 (by omega) (by omega)]; exact q5
  · obtain ⟨a, rfl, _⟩ := pNum_a' h
    exact (E1 a a' rfl h).1
/-- a row done -/
theorem wPre_row {M : xr_M} {v : Nat × Nat × Nat} (hX : X.1 < 150) (Q : wPre M n r X k) (h1 : ∀ a, r = .inl a → (k ≠ 4 → M 0 23 X.1 = nI v.1) ∧ ((k = 1 ∨ k = 2) → M 0 24 X.1 = nI v.2.1) ∧ (k = 1 → M 0 25 X.1 = nI v.2.2)) : cWk M n (r, wRow k v X) := by
  obtain ⟨q1, q2, q3, q4, q5⟩ := Q
  refine ⟨q1, ⟨X.1 + 1, by omega, q2⟩, fun a ha => ⟨q2, fun j hj => ?_⟩⟩
  unfold wRow
  dsimp only
  have hj : j < X.1 + 1 := hj
  by_cases q : j = X.1
  · rw [if_pos q, if_pos q, q]
    exact ⟨⟨q4, h1 a ha⟩, q5⟩
  · rw [if_neg q, if_neg q]
    exact q3 j (by omega)
end
