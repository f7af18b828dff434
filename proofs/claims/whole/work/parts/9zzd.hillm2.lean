/-! THE HILL'S TEXT: the model, 2: clauses -/
def mPl (M : xr_M) (Y : hY) : Prop := (M 0 72 0 = nI Y.1.1 ∧ M 0 72 1 = nI Y.1.2.1 ∧ M 0 72 2 = nI Y.1.2.2.1 ∧ M 0 72 3 = nI Y.1.2.2.2) ∧ (∀ p, p < Y.1.1 → M 0 74 p = nI (Y.2.1 p)) ∧ (∀ p, p < Y.1.2.1 → M p 1078 0 = nI (Y.2.2.1 p).1 ∧ M p 1078 1 = nI (Y.2.2.1 p).2.1 ∧ M p 1078 2 = nI (Y.2.2.1 p).2.2.1 ∧ M p 1078 3 = nI (Y.2.2.1 p).2.2.2.1 ∧ M p 1078 4 = nI (Y.2.2.1 p).2.2.2.2) ∧ (∀ p i, p < Y.1.2.1 → i < (Y.2.2.1 p).2.2.2.2 → M p 1080 i = nI (Y.2.2.2.1 p i)) ∧ ∀ x, x < 8 → M 0 76 x = nI (Y.2.2.2.2 x)
def mHl (M : xr_M) (n cl : Nat) (s : hS) : Prop := rM M n s.1 ∧ ∀ a, s.1 = .inl a → M 0 69 7 = nI cl ∧ mPl M s.2
def kX (M M' : xr_M) : Prop := (∀ b e, ¬ (b = 0 ∧ (e = 69 ∨ e = 72 ∨ e = 74 ∨ e = 76)) → ¬ (e = 1078 ∨ e = 1080) → M' b e = M b e) ∧ ∀ k, ¬ (4 ≤ k ∧ k ≤ 7) → M' 0 69 k = M 0 69 k
theorem kX_rf (M : xr_M) : kX M M := ⟨fun _ _ _ _ => rfl, fun _ _ => rfl⟩
theorem kX_tr {M M' M'' : xr_M} (h : kX M M') (h' : kX M' M'') : kX M M'' := ⟨fun b e g1 g2 => (h'.1 b e g1 g2).trans (h.1 b e g1 g2), fun k g => (h'.2 k g).trans (h.2 k g)⟩
theorem kM_X {M M' : xr_M} (h : kM M M') : kX M M' := ⟨fun b e g _ => h.1 b e (by omega), fun k g => h.2 k (by omega)⟩
theorem kY_X {q : Nat} {M M' : xr_M} (h : kY q M M') : kX M M' := ⟨fun b e g1 g2 => h.1 b e (by omega) (by omega), fun k g => h.2 k (by omega)⟩
theorem kX_w (M : xr_M) {c : Nat} (hc : c = 72 ∨ c = 74 ∨ c = 76) (k : Nat) (v : Int32) : kX M (xw M 0 c k v) := ⟨fun b e g _ => xw_r (by omega), fun j _ => xw_n (by omega)⟩
theorem mPl_M {M M' : xr_M} {Y : hY} (K : kM M M') (C : mPl M Y) : mPl M' Y := by
  obtain ⟨c0, c4, c5, c6, c8⟩ := C
  refine ⟨by rw [K.1 0 72 (by omega)]; exact c0, by rw [K.1 0 74 (by omega)]; exact c4, fun p hp => ?_, fun p i hp hi => ?_, by rw [K.1 0 76 (by omega)]; exact c8⟩
  · rw [K.1 p 1078 (by omega)]; exact c5 p hp
  · rw [K.1 p 1080 (by omega)]; exact c6 p i hp hi
section
variable {d : Nat} {w : List Nat} {tb : Nat → Nat} {n : Nat}
theorem tY_X {M M' : xr_M} (K : kX M M') (X : tY M tb n) : tY M' tb n := ⟨X.1, X.2.1, by rw [K.2 2 (by omega)]; exact X.2.2.1, fun k hk => by rw [K.1 0 70 (by omega) (by omega)]; exact X.2.2.2 k hk⟩
theorem tm172 {S : xr_S} {b : Nat} (hb : sk tb n b = b) (Y : tY (xm S) tb n) (R : rM (xm S) n (.inl b)) : xr_Call (d + 5) 172 [xP 0 69] ([], w) S = some (.inl (some (lKI (hKnd tb b (wend tb n b)))), ([], w), S) := by
  have z : ¬ nI 1 = nI 0 := by decide
  have e4 := R.2.2.1
  have m1 := mw1 (d := d) (w := w) Y R
  have m2 := mw2 (d := d) (w := w) Y R
  have m3 := mw3 (d := d) (w := w) Y R
  have m4 := mw4 (d := d) (w := w) Y R
  have m5 := mw5 (d := d) (w := w) Y R
  rw [hb, xw_id e4, xs_xm] at m1 m2 m3 m4 m5
  unfold hKnd
  rw [xe172, m1, xr_cI_s]
  cases w1 : wis (xr_by 1) tb b (wend tb n b) with
  | true => rw [cond_true, if_neg z]; rfl
  | false =>
  rw [cond_false, if_pos rfl, m2, xr_cI_s, cond_false]
  cases w2 : wis (xr_by 2) tb b (wend tb n b) with
  | true => rw [cond_true, if_neg z]; rfl
  | false =>
  rw [cond_false, if_pos rfl, m4, xr_cI_s, cond_false]
  cases w4 : wis (xr_by 4) tb b (wend tb n b) with
  | true =>
    cases w3 : wis (xr_by 3) tb b (wend tb n b) with
    | true => exact absurd (wis_inj w3 w4) (by decide)
    | false => rw [cond_true, if_neg z]; rfl
  | false =>
  rw [cond_false, if_pos rfl, m5, xr_cI_s]
  cases w5 : wis (xr_by 5) tb b (wend tb n b) with
  | true =>
    cases w3 : wis (xr_by 3) tb b (wend tb n b) with
    | true => exact absurd (wis_inj w3 w5) (by decide)
    | false => rw [cond_true, if_neg z]; rfl
  | false =>
  rw [cond_false, if_pos rfl, m3, xr_cI_s]
  cases w3 : wis (xr_by 3) tb b (wend tb n b) with
  | true => rw [cond_true, if_neg z]; rfl
  | false => rw [cond_false, if_pos rfl]; rfl
/-- a clause behind its word, and its sign -/
theorem tm173r {S : xr_S} {k a cl : Nat} {Y : hY} (hk : k ≤ 4) (I : hInv Y) (hf : ¬ (k = 0 ∧ Y.1.1 = 8) ∧ ¬ (k = 1 ∧ Y.1.2.1 = 8)) (T : tY (xm S) tb n) (R : rM (xm S) n (.inl a)) (c7 : xm S 0 69 7 = nI cl) (C : mPl (xm S) Y) : ∃ M, xr_Run (d + 7) 173 94 [xP 0 69, xI (nI k), xU, xU] [xI (nI k)] ([], w) S = some (.inl none, ([], w), xs S M) ∧ kX (xm S) M ∧ mHl M n cl (pSgn tb n 59 (hRst tb n k a Y).1, (hRst tb n k a Y).2) := by
  obtain ⟨⟨i1, i2, i3, i4, i5⟩, i6, i7, i8⟩ := I
  have C' := C
  obtain ⟨⟨c0, c1, c2, c3⟩, c4, c5, c6, c8⟩ := C
  have z : ¬ nI 1 = nI 0 := by decide
  -- the end: the sign
  have fin : ∀ (A : xr_M) (r : tR) (Y' : hY) (v2 v3 : xr_V) (v1 : Int32), kX (xm S) A → rM A n r → A 0 69 7 = nI cl → (∀ a', r = .inl a' → mPl A Y') → ∃ M, xr_Run (d + 7) 173 265 [xP 0 69, xI v1, v2, v3] [] ([], w) (xs S A) = some (.inl none, ([], w), xs S M) ∧ kX (xm S) M ∧ mHl M n cl (pSgn tb n 59 r, Y') := by
    intro A r Y' v2 v3 v1 K R7 e7 C7
    obtain ⟨M, q, K2, R2⟩ := tm168 (d := d + 4) (w := w) (S := xs S A) (tY_X K T) R7 (c := 59) (by omega)
    rw [xs_xs] at q
    rw [xm_xs] at K2
    refine ⟨M, ?_, kX_tr K (kM_X K2), R2, fun a' ha => ?_⟩
    · refine (xh173_265 _ _ _ _ _ _).trans ?_
      rw [show xr_Call (d + 7) 168 [xP 0 69, xI (nI 59)] ([], w) (xs S A) = _ from q, xr_cV_s]
    · obtain ⟨c, hc, _⟩ := pSgn_nn ha
      exact ⟨by rw [K2.2 7 (by omega)]; exact e7, mPl_M K2 (C7 c hc)⟩
  have ge2 : ∀ (A : xr_M) (t : Nat) (v2 v3 : xr_V), 2 ≤ t → t ≤ 4 → xr_Run (d + 7) 173 239 [xP 0 69, xI (nI t), v2, v3] [] ([], w) (xs S A) = xr_Run (d + 7) 173 265 [xP 0 69, xI (nI t), v2, v3] [] ([], w) (xs S A) := by
    intro A t v2 v3 h1 h2
    refine (xh173_239 _ _ _ _ _ _).trans ?_
    rw [if_neg (by rw [xn_lt (by omega) (by omega)]; omega)]
  have lt2 : ∀ (A : xr_M) (t x : Nat) (v2 v3 : xr_V), t < 2 → A 0 72 t = nI x → xr_Run (d + 7) 173 239 [xP 0 69, xI (nI t), v2, v3] [] ([], w) (xs S A) = xr_Run (d + 7) 173 265 [xP 0 69, xI (nI t), v2, v3] [] ([], w) (xs S (xw A 0 72 t (if A 0 69 5 = nI 0 then nI (x + 1) else nI (x + 0)))) := by
    intro A t x v2 v3 h1 h2
    refine (xh173_239 _ _ _ _ _ _).trans ?_
    rw [if_pos (by rw [xn_lt (by omega) (by omega)]; exact h1), xi_t (by omega) (by omega), cond_true, cond_true, cond_true, xn_k (by omega), xm_xs, h2, xn_add, xn_add, xs_xs]
    by_cases q : A 0 69 5 = nI 0
    · rw [if_pos q, if_pos q]
    · rw [if_neg q, if_neg q, xs_xs]
  have hk : k = 0 ∨ k = 1 ∨ k = 2 ∨ k = 3 ∨ k = 4 := by omega
  rcases hk with rfl | rfl | rfl | rfl | rfl
  · -- a person
    obtain ⟨M1, q1, K1, R1⟩ := tm162 (d := d + 4) (w := w) (S := S) (lo := 0) (hn := 100) (hi := nI 99) (by omega) (hi9 (c := 99) (by omega)) T R
    have k0 : xk (nI 0) = 0 := xn_k (by omega)
    obtain ⟨A, hA⟩ : ∃ A, A = xw M1 0 74 Y.1.1 (nI (pNum tb n 0 100 (.inl a)).1) := ⟨_, rfl⟩
    have pre : xr_Run (d + 7) 173 94 [xP 0 69, xI (nI 0), xU, xU] [xI (nI 0)] ([], w) S = _ := xh173_94_0 _ _ _ _
    rw [xi_t (by omega) (by omega), cond_true, show xr_Call (d + 7) 162 [xP 0 69, xI (nI 0), xI (nI 99)] ([], w) S = _ from q1, xr_cI_s, k0, c0, xi_t (by omega) (by omega), cond_true, xn_k (by omega), xm_xs, xs_xs, ← hA] at pre
    have a72 : A 0 72 0 = nI Y.1.1 := by rw [hA, xw_n (by omega), K1.1 0 72 (by omega)]; exact c0
    have RA : rM A n (pNum tb n 0 100 (.inl a)).2 := rM_e (by rw [hA, xw_r (by omega)]) R1
    have KA : kX (xm S) A := by rw [hA]; exact kX_tr (kM_X K1) (kX_w _ (by omega) _ _)
    rw [lt2 A 0 Y.1.1 xU xU (by omega) a72] at pre
    obtain ⟨M, q, K, H⟩ := fin (xw A 0 72 0 (if A 0 69 5 = nI 0 then nI (Y.1.1 + 1) else nI (Y.1.1 + 0))) (pNum tb n 0 100 (.inl a)).2 (hYp Y (pNum tb n 0 100 (.inl a)).1) xU xU (nI 0) (kX_tr KA (kX_w _ (by omega) _ _)) (rM_e (by rw [xw_r (by omega)]) RA) (by rw [xw_n (by omega), hA, xw_n (by omega), K1.2 7 (by omega)]; exact c7) (fun a' ha => by
      rw [ha] at RA
      rw [if_pos RA.1]
      obtain ⟨⟨d0, d1, d2, d3⟩, d4, d5, d6, d8⟩ := mPl_M K1 C'
      have W : ∀ b e, ¬ (b = 0 ∧ (e = 72 ∨ e = 74)) → xw A 0 72 0 (nI (Y.1.1 + 1)) b e = M1 b e := fun b e g => by rw [xw_r (by omega), hA, xw_r (by omega)]
      refine ⟨⟨xw_y (by omega), ?_, ?_, ?_⟩, fun p hp => ?_, fun p hp => ?_, fun p i hp hi => ?_, ?_⟩
      · rw [xw_n (by omega), hA, xw_n (by omega)]; exact d1
      · rw [xw_n (by omega), hA, xw_n (by omega)]; exact d2
      · rw [xw_n (by omega), hA, xw_n (by omega)]; exact d3
      · have hp : p < Y.1.1 + 1 := hp
        unfold hYp
        dsimp only
        rw [xw_n (by omega), hA]
        by_cases q : p = Y.1.1
        · rw [if_pos q, xw_y (by omega)]
        · rw [if_neg q, xw_n (by omega)]; exact d4 p (by omega)
      · rw [W p 1078 (by omega)]; exact d5 p hp
      · rw [W p 1080 (by omega)]; exact d6 p i hp hi
      · rw [W 0 76 (by omega)]; exact d8)
    exact ⟨M, pre.trans q, K, H⟩
  · -- a pot
    obtain ⟨M1, q1, R1, K1, Z1⟩ := tm174 (d := d + 1) (w := w) (S := S) (np := Y.1.1) (q := Y.1.2.1) (a := a) (by omega) i1 T R c0
    have k1 : xk (nI 1) = 1 := xn_k (by omega)
    have pre : xr_Run (d + 7) 173 94 [xP 0 69, xI (nI 1), xU, xU] [xI (nI 1)] ([], w) S = _ := xh173_94_1 _ _ _ _
    rw [xi_t (by omega) (by omega), cond_true, k1, c1, show xr_Call (d + 7) 174 [xP 0 69, xI (nI Y.1.2.1)] ([], w) S = _ from q1, xr_cV_s] at pre
    have a72 : M1 0 72 1 = nI Y.1.2.1 := by rw [K1.1 0 72 (by omega) (by omega)]; exact c1
    rw [lt2 M1 1 Y.1.2.1 xU xU (by omega) a72] at pre
    obtain ⟨M, q, K, H⟩ := fin (xw M1 0 72 1 (if M1 0 69 5 = nI 0 then nI (Y.1.2.1 + 1) else nI (Y.1.2.1 + 0))) (hPot tb n Y.1.1 a).1 (hYq Y (hPot tb n Y.1.1 a).2.1 (hPot tb n Y.1.1 a).2.2) xU xU (nI 1) (kX_tr (kY_X K1) (kX_w _ (by omega) _ _)) (rM_e (by rw [xw_r (by omega)]) R1) (by rw [xw_n (by omega), K1.2 7 (by omega)]; exact c7) (fun a' ha => by
      obtain ⟨z1, z2⟩ := Z1 a' ha
      rw [ha] at R1
      rw [if_pos R1.1]
      refine ⟨⟨?_, xw_y (by omega), ?_, ?_⟩, ?_, fun p hp => ?_, fun p i hp hi => ?_, ?_⟩
      · rw [xw_n (by omega), K1.1 0 72 (by omega) (by omega)]; exact c0
      · rw [xw_n (by omega), K1.1 0 72 (by omega) (by omega)]; exact c2
      · rw [xw_n (by omega), K1.1 0 72 (by omega) (by omega)]; exact c3
      · rw [xw_r (by omega), K1.1 0 74 (by omega) (by omega)]; exact c4
      · have hp : p < Y.1.2.1 + 1 := hp
        rw [xw_r (by omega)]
        unfold hYq
        dsimp only
        by_cases q : p = Y.1.2.1
        · rw [if_pos q, q]; exact z1
        · rw [if_neg q, K1.1 p 1078 (by omega) (by omega)]; exact c5 p (by omega)
      · have hp : p < Y.1.2.1 + 1 := hp
        rw [xw_r (by omega)]
        unfold hYq at hi ⊢
        dsimp only at hi ⊢
        by_cases q : p = Y.1.2.1
        · rw [if_pos q] at hi ⊢; rw [q]; exact z2 i hi
        · rw [if_neg q] at hi ⊢; rw [K1.1 p 1080 (by omega) (by omega)]; exact c6 p i (by omega) hi
      · rw [xw_r (by omega), K1.1 0 76 (by omega) (by omega)]; exact c8)
    exact ⟨M, pre.trans q, K, H⟩
  · -- chips
    obtain ⟨M1, q1, K1, R1⟩ := tm162 (d := d + 4) (w := w) (S := S) (lo := 0) (hn := 21) (hi := nI 20) (by omega) (hi9 (c := 20) (by omega)) T R
    have pre : xr_Run (d + 7) 173 94 [xP 0 69, xI (nI 2), xU, xU] [xI (nI 2)] ([], w) S = _ := xh173_94_2 _ _ _ _
    rw [if_pos rfl, if_pos rfl, show xr_Call (d + 7) 162 [xP 0 69, xI (nI 0), xI (nI 20)] ([], w) S = _ from q1, xr_cI_s, xi_t (by omega) (by omega), cond_true, xn_k (by omega), xm_xs, xs_xs] at pre
    show ∃ M, _ ∧ _ ∧ mHl M n cl (pSgn tb n 59 (pNum tb n 0 21 (.inl a)).2, hYc Y (pNum tb n 0 21 (.inl a)).1)
    cases hp : (pNum tb n 0 21 (.inl a)).2 with
    | inr zz =>
      rw [hp] at R1
      rw [if_neg (rM_5 R1), ge2 M1 2 _ _ (by omega) (by omega)] at pre
      obtain ⟨M, q, K, H⟩ := fin M1 (.inr zz) (hYc Y (pNum tb n 0 21 (.inl a)).1) (xI (nI (pNum tb n 0 21 (.inl a)).1)) xU (nI 2) (kM_X K1) R1 (by rw [K1.2 7 (by omega)]; exact c7) (fun a' ha => by cases ha)
      exact ⟨M, pre.trans q, K, H⟩
    | inl c =>
      rw [hp] at R1
      rw [if_pos R1.1, ge2 _ 2 _ _ (by omega) (by omega)] at pre
      obtain ⟨⟨d0, d1, d2, d3⟩, d4, d5, d6, d8⟩ := mPl_M K1 C'
      obtain ⟨M, q, K, H⟩ := fin (xw M1 0 72 2 (nI (pNum tb n 0 21 (.inl a)).1)) (.inl c) (hYc Y (pNum tb n 0 21 (.inl a)).1) (xI (nI (pNum tb n 0 21 (.inl a)).1)) xU (nI 2) (kX_tr (kM_X K1) (kX_w _ (by omega) _ _)) (rM_e (by rw [xw_r (by omega)]) R1) (by rw [xw_n (by omega), K1.2 7 (by omega)]; exact c7) (fun a' _ => ⟨⟨by rw [xw_n (by omega)]; exact d0, by rw [xw_n (by omega)]; exact d1, xw_y (by omega), by rw [xw_n (by omega)]; exact d3⟩, by rw [xw_r (by omega)]; exact d4, fun p hp => by rw [xw_r (by omega)]; exact d5 p hp, fun p i hp hi => by rw [xw_r (by omega)]; exact d6 p i hp hi, by rw [xw_r (by omega)]; exact d8⟩)
      exact ⟨M, pre.trans q, K, H⟩
  · -- steep
    obtain ⟨M1, q1, K1, R1⟩ := tm162 (d := d + 4) (w := w) (S := S) (lo := 1) (hn := 10) (hi := nI 9) (by omega) (hi9 (c := 9) (by omega)) T R
    have pre : xr_Run (d + 7) 173 94 [xP 0 69, xI (nI 3), xU, xU] [xI (nI 3)] ([], w) S = _ := xh173_94_3 _ _ _ _
    have n32 : ¬ nI 3 = nI 2 := by decide
    rw [if_neg n32, if_neg n32, show xr_Call (d + 7) 162 [xP 0 69, xI (nI 1), xI (nI 9)] ([], w) S = _ from q1, xr_cI_s, xi_t (by omega) (by omega), cond_true, xn_k (by omega), xm_xs, xs_xs] at pre
    show ∃ M, _ ∧ _ ∧ mHl M n cl (pSgn tb n 59 (pNum tb n 1 10 (.inl a)).2, hYs Y (pNum tb n 1 10 (.inl a)).1)
    cases hp : (pNum tb n 1 10 (.inl a)).2 with
    | inr zz =>
      rw [hp] at R1
      rw [if_neg (rM_5 R1), ge2 M1 3 _ _ (by omega) (by omega)] at pre
      obtain ⟨M, q, K, H⟩ := fin M1 (.inr zz) (hYs Y (pNum tb n 1 10 (.inl a)).1) (xI (nI (pNum tb n 1 10 (.inl a)).1)) xU (nI 3) (kM_X K1) R1 (by rw [K1.2 7 (by omega)]; exact c7) (fun a' ha => by cases ha)
      exact ⟨M, pre.trans q, K, H⟩
    | inl c =>
      rw [hp] at R1
      rw [if_pos R1.1, ge2 _ 3 _ _ (by omega) (by omega)] at pre
      obtain ⟨⟨d0, d1, d2, d3⟩, d4, d5, d6, d8⟩ := mPl_M K1 C'
      obtain ⟨M, q, K, H⟩ := fin (xw M1 0 72 3 (nI (pNum tb n 1 10 (.inl a)).1)) (.inl c) (hYs Y (pNum tb n 1 10 (.inl a)).1) (xI (nI (pNum tb n 1 10 (.inl a)).1)) xU (nI 3) (kX_tr (kM_X K1) (kX_w _ (by omega) _ _)) (rM_e (by rw [xw_r (by omega)]) R1) (by rw [xw_n (by omega), K1.2 7 (by omega)]; exact c7) (fun a' _ => ⟨⟨by rw [xw_n (by omega)]; exact d0, by rw [xw_n (by omega)]; exact d1, by rw [xw_n (by omega)]; exact d2, xw_y (by omega)⟩, by rw [xw_r (by omega)]; exact d4, fun p hp => by rw [xw_r (by omega)]; exact d5 p hp, fun p i hp hi => by rw [xw_r (by omega)]; exact d6 p i hp hi, by rw [xw_r (by omega)]; exact d8⟩)
      exact ⟨M, pre.trans q, K, H⟩
  · -- the heap
    obtain ⟨M1, q1, K1, R1⟩ := tm162 (d := d + 4) (w := w) (S := S) (lo := 0) (hn := 8) (hi := nI 7) (by omega) (hi9 (c := 7) (by omega)) T R
    obtain ⟨M2, q2, K2, R2⟩ := tm162 (d := d + 4) (w := w) (S := xs S M1) (lo := 0) (hn := 10) (hi := nI 9) (by omega) (hi9 (c := 9) (by omega)) (tY_k K1 T) R1
    rw [xs_xs] at q2
    rw [xm_xs] at K2
    have K12 := kM_tr K1 K2
    have pre : xr_Run (d + 7) 173 94 [xP 0 69, xI (nI 4), xU, xU] [xI (nI 4)] ([], w) S = _ := xh173_94_4 _ _ _ _
    rw [show xr_Call (d + 7) 162 [xP 0 69, xI (nI 0), xI (nI 7)] ([], w) S = _ from q1, xr_cI_s, show xr_Call (d + 7) 162 [xP 0 69, xI (nI 0), xI (nI 9)] ([], w) (xs S M1) = _ from q2, xr_cI_s, xm_xs, xs_xs] at pre
    show ∃ M, _ ∧ _ ∧ mHl M n cl (pSgn tb n 59 (pNum tb n 0 10 (pNum tb n 0 8 (.inl a)).2).2, hYh Y (pNum tb n 0 8 (.inl a)).1 (pNum tb n 0 10 (pNum tb n 0 8 (.inl a)).2).1)
    cases hp : (pNum tb n 0 10 (pNum tb n 0 8 (.inl a)).2).2 with
    | inr zz =>
      rw [hp] at R2
      rw [if_neg (rM_5 R2), ge2 M2 4 _ _ (by omega) (by omega)] at pre
      obtain ⟨M, q, K, H⟩ := fin M2 (.inr zz) (hYh Y (pNum tb n 0 8 (.inl a)).1 (pNum tb n 0 10 (pNum tb n 0 8 (.inl a)).2).1) (xI (nI (pNum tb n 0 8 (.inl a)).1)) (xI (nI (pNum tb n 0 10 (pNum tb n 0 8 (.inl a)).2).1)) (nI 4) (kM_X K12) R2 (by rw [K12.2 7 (by omega)]; exact c7) (fun a' ha => by cases ha)
      exact ⟨M, pre.trans q, K, H⟩
    | inl c =>
      rw [hp] at R2
      obtain ⟨a1, g1, _⟩ := pNum_a' hp
      have lx := (pNum_v g1).1
      rw [if_pos R2.1, xi_t lx (by omega), cond_true, xn_k (by omega), ge2 _ 4 _ _ (by omega) (by omega)] at pre
      obtain ⟨⟨d0, d1, d2, d3⟩, d4, d5, d6, d8⟩ := mPl_M K12 C'
      obtain ⟨M, q, K, H⟩ := fin (xw M2 0 76 (pNum tb n 0 8 (.inl a)).1 (nI (pNum tb n 0 10 (pNum tb n 0 8 (.inl a)).2).1)) (.inl c) (hYh Y (pNum tb n 0 8 (.inl a)).1 (pNum tb n 0 10 (pNum tb n 0 8 (.inl a)).2).1) (xI (nI (pNum tb n 0 8 (.inl a)).1)) (xI (nI (pNum tb n 0 10 (pNum tb n 0 8 (.inl a)).2).1)) (nI 4) (kX_tr (kM_X K12) (kX_w _ (by omega) _ _)) (rM_e (by rw [xw_r (by omega)]) R2) (by rw [xw_n (by omega), K12.2 7 (by omega)]; exact c7) (fun a' _ => ⟨by rw [xw_r (by omega)]; exact ⟨d0, d1, d2, d3⟩, by rw [xw_r (by omega)]; exact d4, fun p hp => by rw [xw_r (by omega)]; exact d5 p hp, fun p i hp hi => by rw [xw_r (by omega)]; exact d6 p i hp hi, fun x hx => by
        unfold hYh
        dsimp only
        by_cases q : x = (pNum tb n 0 8 (.inl a)).1
        · rw [if_pos q, xw_y (by omega)]
        · rw [if_neg q, xw_n (by omega)]; exact d8 x hx⟩)
      exact ⟨M, pre.trans q, K, H⟩
end
