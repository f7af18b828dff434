/-! THE HILL'S TEXT: the class, 3: clauses -/
def cPl (M : xr_M) (Y : hY) : Prop := (M 0 44 0 = nI Y.1.1 ∧ M 0 44 1 = nI Y.1.2.1 ∧ M 0 44 2 = nI Y.1.2.2.1 ∧ M 0 44 3 = nI Y.1.2.2.2) ∧ (∀ p, p < Y.1.1 → M 0 45 p = nI (Y.2.1 p)) ∧ (∀ p, p < Y.1.2.1 → M 0 46 p = nI (Y.2.2.1 p).1 ∧ M 0 47 p = nI (Y.2.2.1 p).2.1 ∧ M 0 48 p = nI (Y.2.2.1 p).2.2.1 ∧ M 0 49 p = nI (Y.2.2.1 p).2.2.2.1 ∧ M 0 50 p = nI (Y.2.2.1 p).2.2.2.2) ∧ (∀ p i, p < Y.1.2.1 → i < 6 → M 0 51 (p * 6 + i) = nI (Y.2.2.2.1 p i)) ∧ (∀ j, Y.1.2.1 * 6 ≤ j → j < 48 → M 0 51 j = nI 0) ∧ ∀ x, x < 8 → M 0 52 x = nI (Y.2.2.2.2 x)
def kH (M M' : xr_M) : Prop := (∀ b e, ¬ (b = 0 ∧ (e = 1 ∨ (44 ≤ e ∧ e ≤ 52))) → M' b e = M b e) ∧ ∀ k, k < 3 → M' 0 1 k = M 0 1 k
theorem kH_rf (M : xr_M) : kH M M := ⟨fun _ _ _ => rfl, fun _ _ => rfl⟩
theorem kH_tr {M M' M'' : xr_M} (h : kH M M') (h' : kH M' M'') : kH M M'' := ⟨fun b e q => (h'.1 b e q).trans (h.1 b e q), fun k q => (h'.2 k q).trans (h.2 k q)⟩
theorem kC_H {M M' : xr_M} (h : kC M M') : kH M M' := ⟨fun b e q => h.1 b e (by omega), h.2⟩
theorem kH_w (M : xr_M) {c : Nat} (hc : 44 ≤ c ∧ c ≤ 52) (k : Nat) (v : Int32) : kH M (xw M 0 c k v) := ⟨fun b e q => xw_r (by omega), fun j hj => xw_n (by omega)⟩
theorem cPl_C {M M' : xr_M} {Y : hY} (K : kC M M') (C : cPl M Y) : cPl M' Y := by
  unfold cPl at C ⊢
  rw [K.1 0 44 (by omega), K.1 0 45 (by omega), K.1 0 46 (by omega), K.1 0 47 (by omega), K.1 0 48 (by omega), K.1 0 49 (by omega), K.1 0 50 (by omega), K.1 0 51 (by omega), K.1 0 52 (by omega)]
  exact C
section
variable {d : Nat} {w : List Nat} {tb : Nat → Nat} {n : Nat}
theorem tX_H {M M' : xr_M} (K : kH M M') (X : tX M tb n) : tX M' tb n := tX_e (K.2 2 (by omega)) (K.1 0 2 (by omega)) X
theorem tc61 {S : xr_S} {k a : Nat} {Y : hY} (hk : k ≤ 4) (I : hInv Y) (hf : ¬ (k = 0 ∧ Y.1.1 = 8) ∧ ¬ (k = 1 ∧ Y.1.2.1 = 8)) (X : tX (xm S) tb n) (R : rC (xm S) n (.inl a)) (C : cPl (xm S) Y) : ∃ M, xr_Call (d + 9) 61 [xP 0 44, xP 0 1, xI (nI (hKc (some k)))] ([], w) S = some (.inl none, ([], w), xs S M) ∧ rC M n (hRst tb n k a Y).1 ∧ kH (xm S) M ∧ ∀ a', (hRst tb n k a Y).1 = .inl a' → cPl M (hRst tb n k a Y).2 := by
  obtain ⟨⟨i1, i2, i3, i4, i5⟩, i6, i7, i8⟩ := I
  have C' := C
  obtain ⟨⟨c0, c1, c2, c3⟩, c4, c5, c6, c7, c8⟩ := C
  have z : ¬ nI 1 = nI 0 := by decide
  have hk : k = 0 ∨ k = 1 ∨ k = 2 ∨ k = 3 ∨ k = 4 := by omega
  rcases hk with rfl | rfl | rfl | rfl | rfl
  · -- a person
    obtain ⟨M1, x, q1, K1, R1, E1⟩ := tc87 (d := d + 5) (w := w) (S := S) (lo := 0) (hn := 100) (hi := nI 99) (by omega) (hi9 (c := 99) (by omega)) X R
    have pre : xr_Call (d + 9) 61 [xP 0 44, xP 0 1, xI (nI 1)] ([], w) S = _ := (xe61 (d + 8) w S (nI 1)).trans (xg61_1_1 (d + 8) w S (nI 1))
    rw [xe62 (d + 7), show xr_Call (d + 7) 87 [xP 0 1, xI (nI 0), xI (nI 99)] ([], w) S = _ from q1, xr_cI_s, show xr_Call (d + 7) 82 [xP 0 1] ([], w) (xs S M1) = _ from tc82 (d := d + 6) (S := xs S M1) R1, xr_cI_s] at pre
    have C1 := cPl_C K1 C'
    show ∃ M, xr_Call (d + 9) 61 [xP 0 44, xP 0 1, xI (nI 1)] ([], w) S = some (.inl none, ([], w), xs S M) ∧ rC M n (pNum tb n 0 100 (.inl a)).2 ∧ kH (xm S) M ∧ ∀ a', (pNum tb n 0 100 (.inl a)).2 = .inl a' → cPl M (hYp Y (pNum tb n 0 100 (.inl a)).1)
    cases hp : (pNum tb n 0 100 (.inl a)).2 with
    | inr zz =>
      rw [hp, rso_r, if_pos rfl, xr_cV_s] at pre
      rw [hp] at R1
      exact ⟨M1, pre, R1, kC_H K1, fun a' ha => by cases ha⟩
    | inl b =>
      rw [hp] at R1
      have ex := (E1 a b rfl hp).1
      have d0 : M1 0 44 0 = nI Y.1.1 := C1.1.1
      have d0' : xw M1 0 45 Y.1.1 x 0 44 0 = nI Y.1.1 := by rw [xw_n (by omega)]; exact d0
      rw [hp, rso_l, if_neg z, xm_xs, d0, if_pos (by rw [xn_lt (by omega) (by omega)]; omega), xi_t (by omega) (by omega), cond_true, xn_k (by omega), d0', xn_add, xs_xs, xr_cV_s] at pre
      refine ⟨_, pre, rC_e (by rw [xw_r (by omega), xw_r (by omega)]) R1, kH_tr (kC_H K1) (kH_tr (kH_w _ (by omega) _ _) (kH_w _ (by omega) _ _)), fun a' _ => ?_⟩
      obtain ⟨⟨d0, d1, d2, d3⟩, d4, d5, d6, d7, d8⟩ := C1
      have W : ∀ c, ¬ c = 44 → ¬ c = 45 → xw (xw M1 0 45 Y.1.1 x) 0 44 0 (nI (Y.1.1 + 1)) 0 c = M1 0 c := fun c g1 g2 => by rw [xw_r (by omega), xw_r (by omega)]
      refine ⟨⟨xw_y (by omega), ?_, ?_, ?_⟩, fun p hp => ?_, ?_, ?_, ?_, ?_⟩
      · rw [xw_n (by omega), xw_n (by omega)]; exact d1
      · rw [xw_n (by omega), xw_n (by omega)]; exact d2
      · rw [xw_n (by omega), xw_n (by omega)]; exact d3
      · have hp : p < Y.1.1 + 1 := hp
        unfold hYp
        dsimp only
        rw [xw_n (by omega)]
        by_cases q : p = Y.1.1
        · rw [if_pos q, xw_y (by omega)]; exact ex
        · rw [if_neg q, xw_n (by omega)]; exact d4 p (by omega)
      · rw [W 46 (by omega) (by omega), W 47 (by omega) (by omega), W 48 (by omega) (by omega), W 49 (by omega) (by omega), W 50 (by omega) (by omega)]; exact d5
      · rw [W 51 (by omega) (by omega)]; exact d6
      · rw [W 51 (by omega) (by omega)]; exact d7
      · rw [W 52 (by omega) (by omega)]; exact d8
  · -- a pot
    obtain ⟨M1, q1, R1, K1, Z1⟩ := tc64 (d := d + 1) (w := w) (S := S) (np := Y.1.1) (q := Y.1.2.1) (a := a) (by omega) i1 X R c0 c1 (fun i hi => c7 _ (by omega) (by omega))
    have pre : xr_Call (d + 9) 61 [xP 0 44, xP 0 1, xI (nI 2)] ([], w) S = _ := (xe61 (d + 8) w S (nI 2)).trans (xg61_1_2 (d + 8) w S (nI 2))
    rw [show xr_Call (d + 8) 64 [xP 0 44, xP 0 1] ([], w) S = _ from q1, xr_cV_s] at pre
    refine ⟨M1, pre, R1, ⟨fun b e g => K1.1 b e (by omega), K1.2.1⟩, fun a' ha => ?_⟩
    obtain ⟨z1, z2, z3⟩ := Z1 a' ha
    show cPl M1 (hYq Y (hPot tb n Y.1.1 a).2.1 (hPot tb n Y.1.1 a).2.2)
    refine ⟨⟨?_, z1, ?_, ?_⟩, ?_, fun p hp => ?_, fun p i hp hi => ?_, fun j g1 g2 => ?_, ?_⟩
    · rw [K1.2.2.1 0 (by omega)]; exact c0
    · rw [K1.2.2.1 2 (by omega)]; exact c2
    · rw [K1.2.2.1 3 (by omega)]; exact c3
    · rw [K1.1 0 45 (by omega)]; exact c4
    · have hp : p < Y.1.2.1 + 1 := hp
      unfold hYq
      dsimp only
      by_cases q : p = Y.1.2.1
      · rw [if_pos q, q]; exact z2
      · rw [if_neg q, K1.2.2.2.1 46 p (by omega) (by omega) q, K1.2.2.2.1 47 p (by omega) (by omega) q, K1.2.2.2.1 48 p (by omega) (by omega) q, K1.2.2.2.1 49 p (by omega) (by omega) q, K1.2.2.2.1 50 p (by omega) (by omega) q]
        exact c5 p (by omega)
    · have hp : p < Y.1.2.1 + 1 := hp
      unfold hYq
      dsimp only
      by_cases q : p = Y.1.2.1
      · rw [if_pos q, q]; exact z3 i hi
      · rw [if_neg q, K1.2.2.2.2 _ (by omega)]; exact c6 p i (by omega) hi
    · have g1 : (Y.1.2.1 + 1) * 6 ≤ j := g1
      rw [K1.2.2.2.2 j (by omega)]; exact c7 j (by omega) g2
    · rw [K1.1 0 52 (by omega)]; exact c8
  · -- chips
    obtain ⟨M1, x, q1, K1, R1, E1⟩ := tc87 (d := d + 6) (w := w) (S := S) (lo := 0) (hn := 21) (hi := nI 20) (by omega) (hi9 (c := 20) (by omega)) X R
    have pre : xr_Call (d + 9) 61 [xP 0 44, xP 0 1, xI (nI 4)] ([], w) S = _ := (xe61 (d + 8) w S (nI 4)).trans (xg61_1_4 (d + 8) w S (nI 4))
    rw [show xr_Call (d + 8) 87 [xP 0 1, xI (nI 0), xI (nI 20)] ([], w) S = _ from q1, xr_cI_s, xm_xs, xs_xs] at pre
    refine ⟨_, pre, rC_e (by rw [xw_r (by omega)]) R1, kH_tr (kC_H K1) (kH_w _ (by omega) _ _), fun a' ha => ?_⟩
    have ex := (E1 a a' rfl ha).1
    obtain ⟨⟨d0, d1, d2, d3⟩, d4, d5, d6, d7, d8⟩ := cPl_C K1 C'
    have W : ∀ c, ¬ c = 44 → xw M1 0 44 2 x 0 c = M1 0 c := fun c g1 => by rw [xw_r (by omega)]
    show cPl _ (hYc Y (pNum tb n 0 21 (.inl a)).1)
    unfold cPl
    rw [W 45 (by omega), W 46 (by omega), W 47 (by omega), W 48 (by omega), W 49 (by omega), W 50 (by omega), W 51 (by omega), W 52 (by omega), xw_n (by omega), xw_n (by omega), xw_y (by omega), xw_n (by omega)]
    exact ⟨⟨d0, d1, ex, d3⟩, d4, d5, d6, d7, d8⟩
  · -- steep
    obtain ⟨M1, x, q1, K1, R1, E1⟩ := tc87 (d := d + 6) (w := w) (S := S) (lo := 1) (hn := 10) (hi := nI 9) (by omega) (hi9 (c := 9) (by omega)) X R
    have pre : xr_Call (d + 9) 61 [xP 0 44, xP 0 1, xI (nI 5)] ([], w) S = _ := (xe61 (d + 8) w S (nI 5)).trans (xg61_1_5 (d + 8) w S (nI 5))
    rw [show xr_Call (d + 8) 87 [xP 0 1, xI (nI 1), xI (nI 9)] ([], w) S = _ from q1, xr_cI_s, xm_xs, xs_xs] at pre
    refine ⟨_, pre, rC_e (by rw [xw_r (by omega)]) R1, kH_tr (kC_H K1) (kH_w _ (by omega) _ _), fun a' ha => ?_⟩
    have ex := (E1 a a' rfl ha).1
    obtain ⟨⟨d0, d1, d2, d3⟩, d4, d5, d6, d7, d8⟩ := cPl_C K1 C'
    have W : ∀ c, ¬ c = 44 → xw M1 0 44 3 x 0 c = M1 0 c := fun c g1 => by rw [xw_r (by omega)]
    show cPl _ (hYs Y (pNum tb n 1 10 (.inl a)).1)
    unfold cPl
    rw [W 45 (by omega), W 46 (by omega), W 47 (by omega), W 48 (by omega), W 49 (by omega), W 50 (by omega), W 51 (by omega), W 52 (by omega), xw_n (by omega), xw_n (by omega), xw_n (by omega), xw_y (by omega)]
    exact ⟨⟨d0, d1, d2, ex⟩, d4, d5, d6, d7, d8⟩
  · -- the heap
    obtain ⟨M1, x, q1, K1, R1, E1⟩ := tc87 (d := d + 5) (w := w) (S := S) (lo := 0) (hn := 8) (hi := nI 7) (by omega) (hi9 (c := 7) (by omega)) X R
    obtain ⟨M2, y, q2, K2, R2, E2⟩ := tc87 (d := d + 5) (w := w) (S := xs S M1) (lo := 0) (hn := 10) (hi := nI 9) (by omega) (hi9 (c := 9) (by omega)) (tX_k K1 X) R1
    rw [xs_xs] at q2
    rw [xm_xs] at K2
    have pre : xr_Call (d + 9) 61 [xP 0 44, xP 0 1, xI (nI 3)] ([], w) S = _ := (xe61 (d + 8) w S (nI 3)).trans (xg61_1_3 (d + 8) w S (nI 3))
    rw [xe63 (d + 7), show xr_Call (d + 7) 87 [xP 0 1, xI (nI 0), xI (nI 7)] ([], w) S = _ from q1, xr_cI_s, show xr_Call (d + 7) 87 [xP 0 1, xI (nI 0), xI (nI 9)] ([], w) (xs S M1) = _ from q2, xr_cI_s, show xr_Call (d + 7) 82 [xP 0 1] ([], w) (xs S M2) = _ from tc82 (d := d + 6) (S := xs S M2) R2, xr_cI_s] at pre
    show ∃ M, xr_Call (d + 9) 61 [xP 0 44, xP 0 1, xI (nI 3)] ([], w) S = some (.inl none, ([], w), xs S M) ∧ rC M n (pNum tb n 0 10 (pNum tb n 0 8 (.inl a)).2).2 ∧ kH (xm S) M ∧ ∀ a', (pNum tb n 0 10 (pNum tb n 0 8 (.inl a)).2).2 = .inl a' → cPl M (hYh Y (pNum tb n 0 8 (.inl a)).1 (pNum tb n 0 10 (pNum tb n 0 8 (.inl a)).2).1)
    have K12 := kC_tr K1 K2
    cases hp : (pNum tb n 0 10 (pNum tb n 0 8 (.inl a)).2).2 with
    | inr zz =>
      rw [hp, rso_r, if_pos rfl, xr_cV_s] at pre
      rw [hp] at R2
      exact ⟨M2, pre, R2, kC_H K12, fun a' ha => by cases ha⟩
    | inl b =>
      rw [hp] at R2
      obtain ⟨a1, g1, _⟩ := pNum_a' hp
      have ex := (E1 a a1 rfl g1).1
      have ey := (E2 a1 b g1 hp).1
      have lx := (pNum_v g1).1
      rw [hp, rso_l, if_neg z, ex, xi_t lx (by omega), cond_true, xn_k (by omega), xm_xs, xs_xs, xr_cV_s] at pre
      refine ⟨_, pre, rC_e (by rw [xw_r (by omega)]) R2, kH_tr (kC_H K12) (kH_w _ (by omega) _ _), fun a' _ => ?_⟩
      obtain ⟨⟨d0, d1, d2, d3⟩, d4, d5, d6, d7, d8⟩ := cPl_C K12 C'
      have W : ∀ c, ¬ c = 52 → xw M2 0 52 (pNum tb n 0 8 (.inl a)).1 y 0 c = M2 0 c := fun c g1 => by rw [xw_r (by omega)]
      unfold cPl
      rw [W 44 (by omega), W 45 (by omega), W 46 (by omega), W 47 (by omega), W 48 (by omega), W 49 (by omega), W 50 (by omega), W 51 (by omega)]
      refine ⟨⟨d0, d1, d2, d3⟩, d4, d5, d6, d7, fun j hj => ?_⟩
      unfold hYh
      dsimp only
      by_cases q : j = (pNum tb n 0 8 (.inl a)).1
      · rw [if_pos q, xw_y (by omega)]; exact ey
      · rw [if_neg q, xw_n (by omega)]; exact d8 j hj
theorem hKc_k {k : Nat} (hk : k ≤ 4) : 1 ≤ hKc (some k) ∧ hKc (some k) ≤ 5 ∧ (hKc (some k) = 1 ↔ k = 0) ∧ (hKc (some k) = 2 ↔ k = 1) := by
  have : k = 0 ∨ k = 1 ∨ k = 2 ∨ k = 3 ∨ k = 4 := by omega
  rcases this with rfl | rfl | rfl | rfl | rfl <;> decide
theorem tc60 {S : xr_S} {k cl : Nat} {Y : hY} (hk : k ≤ 4) (hcl : cl ≤ 60) (I : hInv Y) (C : cPl (xm S) Y) : xr_Call (d + 1) 60 [xP 0 44, xI (nI (hKc (some k))), xI (nI cl)] ([], w) S = some (.inl (some (if cl = 60 ∨ (k = 0 ∧ Y.1.1 = 8) ∨ (k = 1 ∧ Y.1.2.1 = 8) then nI 1 else nI 0)), ([], w), S) := by
  obtain ⟨⟨c0, c1, _⟩, _⟩ := C
  obtain ⟨⟨i1, i2, _⟩, _⟩ := I
  obtain ⟨k1, k2, k3, k4⟩ := hKc_k hk
  rw [xe60]
  generalize hKc (some k) = t at k1 k2 k3 k4
  have e1 : (nI t = nI 1) = (k = 0) := propext (by rw [xn_eq (by omega) (by omega)]; exact k3)
  have e2 : (nI t = nI 2) = (k = 1) := propext (by rw [xn_eq (by omega) (by omega)]; exact k4)
  have l0 : (xm S 0 44 0 < nI 8) = (¬ Y.1.1 = 8) := propext (by rw [c0, xn_lt (by omega) (by omega)]; omega)
  have l1 : (xm S 0 44 1 < nI 8) = (¬ Y.1.2.1 = 8) := propext (by rw [c1, xn_lt (by omega) (by omega)]; omega)
  have lc : (nI cl < nI 60) = (¬ cl = 60) := propext (by rw [xn_lt (by omega) (by omega)]; omega)
  by_cases q1 : cl = 60
  · rw [if_neg (by rw [lc]; exact fun h => h q1), if_pos (Or.inl q1)]
  · rw [if_pos (by rw [lc]; exact q1)]
    by_cases qk : k = 0
    · rw [if_pos (by rw [e1]; exact qk)]
      by_cases q8 : Y.1.1 = 8
      · rw [if_neg (by rw [l0]; exact fun h => h q8), if_pos (Or.inr (Or.inl ⟨qk, q8⟩))]
      · rw [if_pos (by rw [l0]; exact q8), if_neg (by rw [e2]; omega), if_neg (by omega)]
    · rw [if_neg (by rw [e1]; exact qk)]
      by_cases qk1 : k = 1
      · rw [if_pos (by rw [e2]; exact qk1)]
        by_cases q8 : Y.1.2.1 = 8
        · rw [if_neg (by rw [l1]; exact fun h => h q8), if_pos (Or.inr (Or.inr ⟨qk1, q8⟩))]
        · rw [if_pos (by rw [l1]; exact q8), if_neg (by omega)]
      · rw [if_neg (by rw [e2]; exact qk1), if_neg (by omega)]
theorem tc58 {S : xr_S} {cl b : Nat} {Y : hY} (hcl : cl ≤ 60) (hb : sk tb n b = b) (I : hInv Y) (X : tX (xm S) tb n) (R : rC (xm S) n (.inl b)) (C : cPl (xm S) Y) : ∃ M r, xr_Call (d + 10) 58 [xP 0 44, xP 0 1, xI (nI cl)] ([], w) S = some (.inl none, ([], w), xs S M) ∧ rC M n r ∧ kH (xm S) M ∧ pSgn tb n 59 r = (hCl tb n cl b Y).1 ∧ ∀ a', r = .inl a' → cPl M (hCl tb n cl b Y).2 := by
  have z : ¬ nI 1 = nI 0 := by decide
  obtain ⟨M1, b', e, q1, K1, R1, b4, b3, hbe, hl, _⟩ := tc88 (d := d + 7) (w := w) X R
  obtain ⟨h1, h2⟩ := hl b rfl
  rw [hb] at h1
  subst h1
  subst h2
  have X1 : tX (xm (xs S M1)) tb n := tX_k K1 X
  have R1 : rC M1 n (.inl (wend tb n b')) := by
    have : rC M1 n (.inl (wend tb n (sk tb n b'))) := R1
    rw [hb] at this
    exact this
  have C1 : cPl (xm (xs S M1)) Y := cPl_C K1 C
  have pre : xr_Call (d + 10) 58 [xP 0 44, xP 0 1, xI (nI cl)] ([], w) S = _ := xe58 (d + 9) w S (nI cl)
  rw [show xr_Call (d + 9) 88 [xP 0 1] ([], w) S = _ from q1, xr_cV_s, show xr_Call (d + 9) 59 [xP 0 44, xP 0 1] ([], w) (xs S M1) = _ from tc59 (d := d + 3) (S := xs S M1) X1 b4 b3 hbe, xr_cI_s] at pre
  have e4 : xm (xs S M1) 0 1 4 = nI b' := b4
  unfold hCl
  cases hk : hKnd tb b' (wend tb n b') with
  | none =>
    obtain ⟨M2, q2, K2, R2, _⟩ := tc83 (d := d + 8) (w := w) (S := xs S M1) (k := 1) (p := b') (by omega) (by omega) R1
    rw [hk, if_pos (show nI (hKc none) = nI 0 from rfl), e4, show xr_Call (d + 9) 83 [xP 0 1, xI (nI 1), xI (nI b')] ([], w) (xs S M1) = _ from q2, xr_cV_s, xs_xs] at pre
    exact ⟨M2, .inr (1, b'), pre, R2, kC_H (kC_tr K1 K2), rfl, fun a' ha => by cases ha⟩
  | some k =>
    have hk4 := hKnd_le hk
    obtain ⟨k1, k2, k3, k4⟩ := hKc_k hk4
    dsimp only
    rw [hk, if_neg (by rw [xn_eq (by omega) (by omega)]; omega), show xr_Call (d + 9) 60 [xP 0 44, xI (nI (hKc (some k))), xI (nI cl)] ([], w) (xs S M1) = _ from tc60 (d := d + 8) (S := xs S M1) hk4 hcl I C1, xr_cI_s] at pre
    by_cases qf : cl = 60 ∨ (k = 0 ∧ Y.1.1 = 8) ∨ (k = 1 ∧ Y.1.2.1 = 8)
    · obtain ⟨M2, q2, K2, R2, _⟩ := tc83 (d := d + 8) (w := w) (S := xs S M1) (k := 3) (p := b') (by omega) (by omega) R1
      rw [if_pos qf, if_neg z, e4, show xr_Call (d + 9) 83 [xP 0 1, xI (nI 3), xI (nI b')] ([], w) (xs S M1) = _ from q2, xr_cV_s, xs_xs] at pre
      rw [if_pos qf]
      exact ⟨M2, .inr (3, b'), pre, R2, kC_H (kC_tr K1 K2), rfl, fun a' ha => by cases ha⟩
    · rw [if_neg qf, if_pos rfl] at pre
      rw [if_neg qf]
      obtain ⟨M2, q2, R2, K2, Z2⟩ := tc61 (d := d) (w := w) (S := xs S M1) (k := k) (a := wend tb n b') (Y := Y) hk4 I ⟨fun g => qf (Or.inr (Or.inl g)), fun g => qf (Or.inr (Or.inr g))⟩ X1 R1 C1
      rw [show xr_Call (d + 9) 61 [xP 0 44, xP 0 1, xI (nI (hKc (some k)))] ([], w) (xs S M1) = _ from q2, xr_cV_s, xs_xs] at pre
      exact ⟨M2, (hRst tb n k (wend tb n b') Y).1, pre, R2, kH_tr (kC_H K1) K2, rfl, Z2⟩
end
