/-! THE LAW'S TEXT: the class -/
def cLw (M : xr_M) (n : Nat) (s : lS) : Prop := rC M n s.1 ∧ (∃ z, z ≤ 150 ∧ M 0 58 4 = nI z) ∧ ∀ a, s.1 = .inl a → M 0 58 4 = nI s.2.1 ∧ s.2.1 ≤ 150 ∧ ∀ j, j < s.2.1 → M 0 59 j = nI (s.2.2.1 j) ∧ M 0 60 j = s.2.2.2 j
def kL (M M' : xr_M) : Prop := (∀ b e, ¬ (b = 0 ∧ (e = 1 ∨ e = 58 ∨ e = 59 ∨ e = 60)) → M' b e = M b e) ∧ ∀ k, k < 3 → M' 0 1 k = M 0 1 k
theorem kL_rf (M : xr_M) : kL M M := ⟨fun _ _ _ => rfl, fun _ _ => rfl⟩
theorem kL_tr {M M' M'' : xr_M} (h : kL M M') (h' : kL M' M'') : kL M M'' := ⟨fun b e q => (h'.1 b e q).trans (h.1 b e q), fun k q => (h'.2 k q).trans (h.2 k q)⟩
theorem kC_L {M M' : xr_M} (h : kC M M') : kL M M' := ⟨fun b e q => h.1 b e (by omega), h.2⟩
theorem tX_L {M M' : xr_M} {tb : Nat → Nat} {n : Nat} (K : kL M M') (X : tX M tb n) : tX M' tb n := ⟨X.1, X.2.1, by rw [K.2 2 (by omega)]; exact X.2.2.1, fun k hk => by rw [K.1 0 2 (by omega)]; exact X.2.2.2 k hk⟩
theorem cLw_r {M M' : xr_M} {n : Nat} {r r' : tR} {X : Nat × (Nat → Nat) × (Nat → Int32)} (C : cLw M n (r, X)) (K : kC M M') (R : rC M' n r') (h : ∀ a', r' = .inl a' → ∃ a, r = .inl a) : cLw M' n (r', X) := by
  obtain ⟨_, ⟨z, h1, h2⟩, h3⟩ := C
  refine ⟨R, ⟨z, h1, by rw [K.1 0 58 (by omega)]; exact h2⟩, fun a' ha => ?_⟩
  obtain ⟨a, e⟩ := h a' ha
  obtain ⟨g1, g2, g3⟩ := h3 a e
  refine ⟨by rw [K.1 0 58 (by omega)]; exact g1, g2, fun j hj => ?_⟩
  rw [K.1 0 59 (by omega), K.1 0 60 (by omega)]
  exact g3 j hj
theorem pSgn_s {tb : Nat → Nat} {n c : Nat} {r : tR} : ∀ a', pSgn tb n c r = .inl a' → ∃ a, r = .inl a := fun a' h => by
  cases r with
  | inl a => exact ⟨a, rfl⟩
  | inr q => cases h
section
variable {d k : Nat} {w : List Nat} {S : xr_S} {tb : Nat → Nat} {n : Nat} {full : Bool} {sr : lS → lS} {o : Nat}
theorem tc52 {kk : Nat} {v v' : Int32} {s : lS} (C : cLw (xm S) n s) (hz : ∀ a, s.1 = .inl a → s.2.1 < 150 ∧ v' = v) : ∃ M, xr_Call (d + 1) 52 [xP 0 58, xI (nI kk), xI v'] ([], w) S = some (.inl none, ([], w), xs S M) ∧ kL (xm S) M ∧ cLw M n (lAdd kk v s) := by
  obtain ⟨R, ⟨z, z1, z2⟩, h3⟩ := id C
  have Rk : ∀ M, (M 0 1 = xm S 0 1) → rC M n s.1 := fun M e => by
    cases hs : s.1 with
    | inl a => rw [hs] at R; unfold rC at R ⊢; rw [e]; exact R
    | inr q => rw [hs] at R; unfold rC at R ⊢; rw [e]; exact R
  by_cases q : z < 150
  · refine ⟨xw (xw (xw (xm S) 0 59 z (nI kk)) 0 60 z v') 0 58 4 (nI (z + 1)), ?_, ⟨fun b e h => by rw [xw_r (by omega), xw_r (by omega), xw_r (by omega)], fun k hk => by rw [xw_n (by omega), xw_n (by omega), xw_n (by omega)]⟩, ?_⟩
    · rw [xe52]
      simp (disch := omega) only [xi_t, xn_k, xn_lt, xn_eq, xn_mul, xn_add, xn_sub, xn_dec, xn_m1, xn_1m, if_pos, if_neg, if_true, if_false, cond_true, cond_false, true_and, and_true, false_and, and_false, xr_cI_s, xr_cV_s, xr_cI_e, xr_cV_e, xm_xs, xs_xs, xw_y, xw_n, z2]
    · unfold lAdd
      cases hs : s.1 with
      | inr q =>
        dsimp only
        exact ⟨Rk _ (by rw [xw_r (by omega), xw_r (by omega), xw_r (by omega)]), ⟨z + 1, by omega, xw_y (by omega)⟩, fun a ha => by rw [hs] at ha; cases ha⟩
      | inl a =>
        dsimp only
        obtain ⟨g1, g2, g3⟩ := h3 a hs
        obtain ⟨y1, y2⟩ := hz a hs
        have ez : z = s.2.1 := by
          rw [z2, xn_eq (by omega) (by omega)] at g1; exact g1
        refine ⟨?_, ⟨z + 1, by omega, xw_y (by omega)⟩, fun a' _ => ⟨?_, ?_, fun j hj => ?_⟩⟩
        · have := Rk (xw (xw (xw (xm S) 0 59 z (nI kk)) 0 60 z v') 0 58 4 (nI (z + 1))) (by rw [xw_r (by omega), xw_r (by omega), xw_r (by omega)])
          rw [hs] at this; exact this
        · rw [xw_y (by omega), ez]
        · dsimp only; omega
        · dsimp only at hj ⊢
          rw [xw_n (by omega), xw_n (by omega)]
          by_cases qj : j = s.2.1
          · rw [xw_y (by omega), if_pos qj, xw_n (by omega), xw_y (by omega), xu_y qj, y2]
            exact ⟨rfl, rfl⟩
          · rw [xw_n (by omega), if_neg qj, xw_n (by omega), xw_n (by omega), xw_n (by omega), xu_n qj]
            exact g3 j (by omega)
  · refine ⟨xm S, ?_, kL_rf _, ?_⟩
    · rw [xe52, z2, if_neg (by rw [xn_lt (by omega) (by omega)]; exact q), xs_xm]
    · unfold lAdd
      cases hs : s.1 with
      | inr q => exact C
      | inl a =>
        obtain ⟨g1, _, _⟩ := h3 a hs
        rw [z2, xn_eq (by omega) (by have := (h3 a hs).2.1; omega)] at g1
        have := (hz a hs).1
        omega
def lKI (o : Option Nat) : Int32 := match o with
  | none => -1
  | some k => nI k
theorem tc51 {b e : Nat} (X : tX (xm S) tb n) (e4 : xm S 0 1 4 = nI b) (e3 : xm S 0 1 3 = nI e) (hbe : b ≤ e ∧ e ≤ n) : xr_Call (d + 6) 51 [xP 0 58, xP 0 1] ([], w) S = some (.inl (some (lKI (lKnd tb b e))), ([], w), S) := by
  have z : ¬ nI 1 = nI 0 := by decide
  rw [xe51]
  unfold lKnd
  rw [tc89 (k := 7) (by omega) X e4 e3 hbe, xr_cI_s]
  cases wis (xr_by 7) tb b e with
  | true => rw [cond_true, if_neg z]; rfl
  | false =>
  rw [cond_false, if_pos rfl, tc89 (k := 8) (by omega) X e4 e3 hbe, xr_cI_s, cond_false]
  cases wis (xr_by 8) tb b e with
  | true => rw [cond_true, if_neg z]; rfl
  | false =>
  rw [cond_false, if_pos rfl, tc89 (k := 9) (by omega) X e4 e3 hbe, xr_cI_s, cond_false]
  cases wis (xr_by 9) tb b e with
  | true => rw [cond_true, if_neg z]; rfl
  | false =>
  rw [cond_false, if_pos rfl, tc89 (k := 10) (by omega) X e4 e3 hbe, xr_cI_s, cond_false]
  cases wis (xr_by 10) tb b e with
  | true => rw [cond_true, if_neg z]; rfl
  | false =>
  rw [cond_false, if_pos rfl, tc89 (k := 11) (by omega) X e4 e3 hbe, xr_cI_s, cond_false]
  cases wis (xr_by 11) tb b e with
  | true => rw [cond_true, if_neg z]; rfl
  | false =>
  rw [cond_false, if_pos rfl, tc89 (k := 12) (by omega) X e4 e3 hbe, xr_cI_s, cond_false]
  cases wis (xr_by 12) tb b e with
  | true => rw [cond_true, if_neg z]; rfl
  | false =>
  rw [cond_false, if_pos rfl, tc89 (k := 13) (by omega) X e4 e3 hbe, xr_cI_s, cond_false]
  cases wis (xr_by 13) tb b e with
  | true => rw [cond_true, if_neg z]; rfl
  | false =>
  rw [cond_false, if_pos rfl, tc89 (k := 14) (by omega) X e4 e3 hbe, xr_cI_s, cond_false]
  cases wis (xr_by 14) tb b e with
  | true => rw [cond_true, if_neg z]; rfl
  | false => rw [cond_false, if_pos rfl]; rfl
/-- what readSum at 'open' o does -/
def CSum (w : List Nat) (tb : Nat → Nat) (n K o : Nat) (F : lS → lS) : Prop := ∀ (d : Nat) (S : xr_S) (s : lS) (p D : Nat), tX (xm S) tb n → cLw (xm S) n s → lInv n p D s → ∃ M, xr_Call (d + K) 47 [xP 0 58, xP 0 1, xI (nI o)] ([], w) S = some (.inl none, ([], w), xs S M) ∧ kL (xm S) M ∧ cLw M n (F s)
/-- readNamed -/
theorem tc50 (hn : n ≤ 150) (hf : full = decide (¬ o < 6)) (ho : o ≤ 6) (hs : full = false → ∀ p D s, lInv n p D s → lInv n p (D + 1) (sr s)) (HS : full = false → CSum w tb n (k + 8) (o + 1) sr) {b e p D : Nat} {X : Nat × (Nat → Nat) × (Nat → Int32)} (T : tX (xm S) tb n) (C : cLw (xm S) n (.inl e, X)) (e4 : xm S 0 1 4 = nI b) (hbe : b ≤ e ∧ e ≤ n) (I : lKnd tb b e ≠ none → lInv n (p + 1) D (.inl e, X)) : ∃ M, xr_Call (d + k + 9) 50 [xP 0 58, xP 0 1, xI (nI o), xI (lKI (lKnd tb b e))] ([], w) S = some (.inl none, ([], w), xs S M) ∧ kL (xm S) M ∧ cLw M n (lWrd tb n full sr b e X (lKnd tb b e)) := by
  rw [xe50, show d + k + 8 = (d + k + 2) + 6 by omega]
  cases hk : lKnd tb b e with
  | none =>
    obtain ⟨M2, q2, K2, R2, _, _⟩ := tc83 (d := d + k + 7) (w := w) (S := S) (k := 1) (p := b) (by omega) (by omega) C.1
    refine ⟨M2, ?_, kC_L K2, cLw_r C K2 R2 (fun _ h => (nomatch h))⟩
    rw [show lKI none = (-1 : Int32) from rfl, if_pos rfl, e4]
    rw [show d + k + 2 + 6 = d + k + 7 + 1 by omega, q2, xr_cV_s]
  | some kk =>
    have I1 := I (by rw [hk]; simp)
    obtain ⟨w1, w2⟩ := lKnd_w hk
    have i2 := (I1 e rfl).2.1
    unfold lWrd
    dsimp only
    rw [show lKI (some kk) = nI kk from rfl, if_neg (fun h => (xn_m1 (show kk < 2147483648 by omega)).mp h)]
    by_cases q3 : kk < 7
    · rw [if_pos (by rw [xn_lt (by omega) (by omega)]; exact q3), if_pos q3]
      obtain ⟨M2, q2, K2, C2⟩ := tc52 (d := d + k + 7) (w := w) (S := S) (kk := kk) (v := nI 0) (v' := nI 0) C (fun a ha => (by cases ha; dsimp only at i2 ⊢; exact ⟨by omega, rfl⟩))
      refine ⟨M2, ?_, K2, C2⟩
      rw [show d + k + 2 + 6 = d + k + 7 + 1 by omega, q2, xr_cV_s]
    · rw [if_neg (by rw [xn_lt (by omega) (by omega)]; exact q3), if_neg q3]
      by_cases qo : o < 6
      · have ef : full = false := by rw [hf]; exact decide_eq_false (by omega)
        rw [if_pos (by rw [xn_lt (by omega) (by omega)]; exact qo), if_neg (by rw [ef]; simp)]
        obtain ⟨M1, q1, K1, R1⟩ := tc91 (d := d + k + 6) (w := w) (S := S) T C.1 (c := 91) (by omega)
        have C1 := cLw_r (M' := M1) C K1 R1 pSgn_s
        have T1 : tX (xm (xs S M1)) tb n := tX_k K1 T
        have J1 := lInv_mono (p' := p + 1) (by omega) (lInv_sgn (tb := tb) (c := 91) I1)
        obtain ⟨M2, q2, K2, C2⟩ := HS ef d (xs S M1) _ _ _ T1 C1 J1
        rw [xs_xs] at q2
        rw [xm_xs] at K2
        have T2 : tX (xm (xs S M2)) tb n := tX_L K2 T1
        have J2 := hs ef _ _ _ J1
        obtain ⟨M3, q3', K3, R3⟩ := tc91 (d := d + k + 6) (w := w) (S := xs S M2) T2 C2.1 (c := 44) (by omega)
        rw [xs_xs] at q3'
        rw [xm_xs] at K3
        have C3 := cLw_r (M' := M3) C2 K3 R3 pSgn_s
        have T3 : tX (xm (xs S M3)) tb n := tX_k K3 T2
        have J3 := lInv_mono (p' := p + 1) (by omega) (lInv_sgn (tb := tb) (c := 44) J2)
        obtain ⟨M4, q4, K4, C4⟩ := HS ef d (xs S M3) _ _ _ T3 C3 J3
        rw [xs_xs] at q4
        rw [xm_xs] at K4
        have T4 : tX (xm (xs S M4)) tb n := tX_L K4 T3
        have J4 := hs ef _ _ _ J3
        obtain ⟨M5, q5, K5, R5⟩ := tc91 (d := d + k + 6) (w := w) (S := xs S M4) T4 C4.1 (c := 93) (by omega)
        rw [xs_xs] at q5
        rw [xm_xs] at K5
        have C5 := cLw_r (M' := M5) C4 K5 R5 pSgn_s
        have J5 := lInv_sgn (tb := tb) (c := 93) J4
        obtain ⟨M6, q6, K6, C6⟩ := tc52 (d := d + k + 7) (w := w) (S := xs S M5) (kk := kk) (v := nI 0) (v' := nI 0) C5 (fun a ha => ⟨by have h1 := (J5 a ha).2.1; have h2 := (J5 a ha).1; dsimp only at h1 ⊢; omega, rfl⟩)
        rw [xs_xs] at q6
        rw [xm_xs] at K6
        refine ⟨M6, ?_, kL_tr (kC_L K1) (kL_tr K2 (kL_tr (kC_L K3) (kL_tr K4 (kL_tr (kC_L K5) K6)))), C6⟩
        rw [xn_add, show d + k + 2 + 6 = d + k + 6 + 2 by omega, q1, xr_cV_s]
        rw [show d + k + 6 + 2 = d + (k + 8) by omega, q2, xr_cV_s]
        rw [show d + (k + 8) = d + k + 6 + 2 by omega, q3', xr_cV_s]
        rw [show d + k + 6 + 2 = d + (k + 8) by omega, q4, xr_cV_s]
        rw [show d + (k + 8) = d + k + 6 + 2 by omega, q5, xr_cV_s]
        rw [show d + k + 6 + 2 = d + k + 7 + 1 by omega, q6, xr_cV_s]
      · have ef : full = true := by rw [hf]; exact decide_eq_true qo
        rw [if_neg (by rw [xn_lt (by omega) (by omega)]; exact qo), if_pos ef]
        obtain ⟨M2, q2, K2, R2, _, _⟩ := tc83 (d := d + k + 7) (w := w) (S := S) (k := 3) (p := b) (by omega) (by omega) C.1
        refine ⟨M2, ?_, kC_L K2, cLw_r C K2 R2 (fun _ h => (nomatch h))⟩
        rw [e4, show d + k + 2 + 6 = d + k + 7 + 1 by omega, q2, xr_cV_s]
/-- readUnit -/
theorem tc49 (hn : n ≤ 150) (hf : full = decide (¬ o < 6)) (ho : o ≤ 6) (hs : full = false → ∀ p D s, lInv n p D s → lInv n p (D + 1) (sr s)) (HS : full = false → CSum w tb n (k + 8) (o + 1) sr) {p D : Nat} {s : lS} (T : tX (xm S) tb n) (C : cLw (xm S) n s) (I : lInv n p D s) : ∃ M, xr_Call (d + k + 10) 49 [xP 0 58, xP 0 1, xI (nI o)] ([], w) S = some (.inl none, ([], w), xs S M) ∧ kL (xm S) M ∧ cLw M n (lUnt tb n full sr s) := by
  obtain ⟨r, X⟩ := s
  have x1 := T.1
  have x2 := T.2.1
  obtain ⟨M1, v, b, q1, K1, R1, _, _, e3, hb, ev⟩ := tc84r (d := d + k + 8) (w := w) T C.1
  have T1 : tX (xm (xs S M1)) tb n := tX_k K1 T
  rw [xe49, show d + k + 9 = d + k + 8 + 1 by omega, q1, xr_cI_s]
  cases r with
  | inr q =>
    -- behind a fault nothing more is taken
    rw [lUnt_r (s := (.inr q, X)) (q := q) rfl]
    have C1 : cLw M1 n (.inr q, X) := cLw_r C K1 R1 (fun _ h => (nomatch h))
    have tail : ∀ (M2 : xr_M), kC (xm S) M2 → rC M2 n (.inr q) → ∃ M, (xr_cI ([], w) (xr_Call (d + k + 8 + 1) 85 [xI v] ([], w) (xs S M2)) (fun x6 S5 => (if x6 = (nI 0) then (xr_cV ([], w) (xr_Call (d + k + 8 + 1) 88 [xP 0 1] ([], w) S5) (fun S7 => (xr_cI ([], w) (xr_Call (d + k + 8 + 1) 51 [xP 0 58, xP 0 1] ([], w) S7) (fun x9 S8 => (xr_cV ([], w) (xr_Call (d + k + 8 + 1) 50 [xP 0 58, xP 0 1, xI (nI o), xI x9] ([], w) S8) (fun S10 => (some (.inl none, ([], w), S10)))))))) else (xr_cI ([], w) (xr_Call (d + k + 8 + 1) 87 [xP 0 1, xI (nI 0), xI (nI 999)] ([], w) S5) (fun x10 S9 => (xr_cV ([], w) (xr_Call (d + k + 8 + 1) 52 [xP 0 58, xI (nI 0), xI x10] ([], w) S9) (fun S11 => (some (.inl none, ([], w), S11))))))))) = some (.inl none, ([], w), xs S M) ∧ kL (xm S) M ∧ cLw M n (.inr q, X) := by
      intro M2 K2 R2
      have T2 : tX (xm (xs S M2)) tb n := tX_k K2 T
      have C2 : cLw (xm (xs S M2)) n (.inr q, X) := cLw_r C K2 R2 (fun _ h => (nomatch h))
      rw [ev, tc85v x2, xr_cI_s]
      cases decide (b < n) && tdig (tb b) with
      | false =>
        rw [cond_false, if_pos rfl]
        obtain ⟨M3, b3, e3', q3, K3, R3, e4, e5, h5, _, h6⟩ := tc88 (d := d + k + 7) (w := w) (S := xs S M2) T2 C2.1
        rw [xs_xs] at q3
        rw [xm_xs] at K3
        have := h6 q rfl
        subst this
        have T3 : tX (xm (xs S M3)) tb n := tX_k K3 T2
        have R3' : rC (xm (xs S M3)) n (.inr q) := R3
        have ek : lKnd tb b3 b3 = none := by
          cases hk : lKnd tb b3 b3 with
          | none => rfl
          | some kk => have := (lKnd_w hk).1; omega
        obtain ⟨M4, q4, K4, R4, _, _⟩ := tc83 (d := d + k + 7) (w := w) (S := xs S M3) (k := 1) (p := b3) (by omega) h5.2 R3'
        rw [xs_xs] at q4
        rw [xm_xs] at K4
        refine ⟨M4, ?_, kL_tr (kC_L K2) (kL_tr (kC_L K3) (kC_L K4)), cLw_r C (kC_tr K2 (kC_tr K3 K4)) R4 (fun _ h => (nomatch h))⟩
        rw [show d + k + 8 + 1 = d + k + 7 + 2 by omega, q3, xr_cV_s, show d + k + 7 + 2 = d + k + 3 + 6 by omega, tc51 T3 e4 e5 h5, xr_cI_s, ek, show d + k + 3 + 6 = d + k + 8 + 1 by omega, xe50, show lKI none = (-1 : Int32) from rfl, if_pos rfl, xm_xs, e4, show d + k + 8 = d + k + 7 + 1 by omega, q4, xr_cV_s, xr_cV_s]
      | true =>
        rw [cond_true, if_neg (by rw [xn_eq (by omega) (by omega)]; omega)]
        obtain ⟨M3, v3, q3, K3, R3, _⟩ := tc87 (d := d + k + 7) (w := w) (S := xs S M2) (lo := 0) (hn := 1000) (hi := nI 999) (by omega) (fun v hv => by rw [xn_lt (by omega) (by omega)]; omega) T2 C2.1
        rw [xs_xs] at q3
        rw [xm_xs] at K3
        have C3 : cLw (xm (xs S M3)) n (.inr q, X) := cLw_r C2 K3 R3 (fun _ h => (nomatch h))
        obtain ⟨M4, q4, K4, C4⟩ := tc52 (d := d + k + 8) (w := w) (S := xs S M3) (kk := 0) (v := nI 0) (v' := v3) C3 (fun a ha => (nomatch ha))
        rw [xs_xs] at q4
        rw [xm_xs] at K4
        refine ⟨M4, ?_, kL_tr (kC_L K2) (kL_tr (kC_L K3) K4), C4⟩
        rw [show d + k + 8 + 1 = d + k + 7 + 2 by omega, q3, xr_cI_s, show d + k + 7 + 2 = d + k + 8 + 1 by omega, q4, xr_cV_s]
    obtain ⟨M2, q2, K2, R2⟩ := tc90 (d := d + k + 7) (w := w) (S := xs S M1) T1 (r := .inr q) R1 (c := 40) (by omega)
    rw [xs_xs] at q2
    rw [xm_xs] at K2
    obtain ⟨M3, q3, K3, C3⟩ := tail M2 (kC_tr K1 K2) R2
    by_cases qv : v = nI 40
    · rw [if_pos qv]
      by_cases qo : o < 6
      · refine ⟨M3, ?_, K3, C3⟩
        rw [if_pos (by rw [xn_lt (by omega) (by omega)]; exact qo), show d + k + 8 + 1 = d + k + 7 + 2 by omega, q2, xr_cI_s, show (pTak tb n 40 (.inr q)).1 = false from rfl, cond_false, if_pos rfl]
        exact q3
      · obtain ⟨M4, q4, K4, R4, _, _⟩ := tc83 (d := d + k + 8) (w := w) (S := xs S M1) (r := .inr q) (k := 3) (p := b) (by omega) hb R1
        rw [xs_xs] at q4
        rw [xm_xs] at K4
        refine ⟨M4, ?_, kC_L (kC_tr K1 K4), cLw_r C (kC_tr K1 K4) R4 (fun _ h => (nomatch h))⟩
        rw [if_neg (by rw [xn_lt (by omega) (by omega)]; exact qo), xm_xs, e3, q4, xr_cV_s]
    · rw [if_neg qv]
      refine ⟨M3, ?_, K3, C3⟩
      rw [show d + k + 8 + 1 = d + k + 7 + 2 by omega, q2, xr_cI_s, show (pTak tb n 40 (.inr q)).1 = false from rfl, cond_false, if_pos rfl]
      exact q3
  | inl a =>
    obtain ⟨i1, i2, i3, i4⟩ := I a rfl
    have eb : b = sk tb n a := by
      have := R1.2.2.1
      rw [e3, xn_eq (by omega) (by have := R1.2.2.2; omega)] at this
      exact this
    subst eb
    have h1 := sk_ge tb n a
    have C1 : cLw (xm (xs S M1)) n (.inl (sk tb n a), X) := cLw_r C K1 R1 (fun _ _ => ⟨a, rfl⟩)
    have e40 := tv_eq (tb := tb) (n := n) (k := sk tb n a) (c := 40) x2 (by omega)
    have edef : lUnt tb n full sr (.inl a, X) = if sk tb n a < n ∧ tb (sk tb n a) = 40 then (if full = true then (.inr (3, sk tb n a), X) else (pSgn tb n 41 (sr (.inl (sk tb n a + 1), X)).1, (sr (.inl (sk tb n a + 1), X)).2)) else if sk tb n a < n ∧ tdig (tb (sk tb n a)) = true then lAdd 0 (nI (pNum tb n 0 1000 (.inl a)).1) ((pNum tb n 0 1000 (.inl a)).2, X) else lWrd tb n full sr (sk tb n a) (wend tb n (sk tb n a)) X (lKnd tb (sk tb n a) (wend tb n (sk tb n a))) := rfl
    obtain ⟨M2, q2, K2, R2⟩ := tc90 (d := d + k + 7) (w := w) (S := xs S M1) T1 (r := .inl (sk tb n a)) R1 (c := 40) (by omega)
    rw [xs_xs] at q2
    rw [xm_xs] at K2
    have T2 : tX (xm (xs S M2)) tb n := tX_k K2 T1
    by_cases qv : sk tb n a < n ∧ tb (sk tb n a) = 40
    · rw [edef, if_pos qv, if_pos (by rw [ev, e40]; exact qv)]
      rw [pTak_y (by rw [sk_sk]; exact qv), sk_sk] at q2 R2
      dsimp only at q2 R2
      by_cases qo : o < 6
      · have ef : full = false := by rw [hf]; exact decide_eq_false (by omega)
        rw [if_pos (by rw [xn_lt (by omega) (by omega)]; exact qo), if_neg (by rw [ef]; simp)]
        have C2 : cLw (xm (xs S M2)) n (.inl (sk tb n a + 1), X) := cLw_r C1 K2 R2 (fun _ _ => ⟨_, rfl⟩)
        have I1 : lInv n (p + 1) D (.inl (sk tb n a + 1), X) := fun a' ha => by
          cases ha
          exact ⟨by omega, by dsimp only at i2 ⊢; omega, i3, i4⟩
        obtain ⟨M3, q3, K3, C3⟩ := HS ef (d + 1) (xs S M2) _ _ _ T2 C2 I1
        rw [xs_xs] at q3
        rw [xm_xs] at K3
        have T3 : tX (xm (xs S M3)) tb n := tX_L K3 T2
        obtain ⟨M4, q4, K4, R4⟩ := tc91 (d := d + k + 7) (w := w) (S := xs S M3) T3 C3.1 (c := 41) (by omega)
        rw [xs_xs] at q4
        rw [xm_xs] at K4
        refine ⟨M4, ?_, kL_tr (kC_L K1) (kL_tr (kC_L K2) (kL_tr K3 (kC_L K4))), cLw_r C3 K4 R4 pSgn_s⟩
        rw [show d + k + 8 + 1 = d + k + 7 + 2 by omega, q2, xr_cI_s, cond_true, if_neg (by rw [xn_eq (by omega) (by omega)]; omega), xn_add, show d + k + 7 + 2 = d + 1 + (k + 8) by omega, q3, xr_cV_s, show d + 1 + (k + 8) = d + k + 7 + 2 by omega, q4, xr_cV_s]
      · have ef : full = true := by rw [hf]; exact decide_eq_true qo
        obtain ⟨M4, q4, K4, R4, _, _⟩ := tc83 (d := d + k + 8) (w := w) (S := xs S M1) (r := .inl (sk tb n a)) (k := 3) (p := sk tb n a) (by omega) hb R1
        rw [xs_xs] at q4
        rw [xm_xs] at K4
        rw [if_neg (by rw [xn_lt (by omega) (by omega)]; exact qo), if_pos ef]
        refine ⟨M4, ?_, kC_L (kC_tr K1 K4), cLw_r C (kC_tr K1 K4) R4 (fun _ h => (nomatch h))⟩
        rw [xm_xs, e3, q4, xr_cV_s]
    · rw [edef, if_neg qv, if_neg (by rw [ev, e40]; exact qv)]
      rw [pTak_n (by rw [sk_sk]; exact qv), sk_sk] at q2 R2
      dsimp only at q2 R2
      have C2 : cLw (xm (xs S M2)) n (.inl (sk tb n a), X) := cLw_r C1 K2 R2 (fun _ _ => ⟨_, rfl⟩)
      rw [show d + k + 8 + 1 = d + k + 7 + 2 by omega, q2, xr_cI_s, cond_false, if_pos rfl, show d + k + 7 + 2 = d + k + 8 + 1 by omega, ev, tc85v x2, xr_cI_s]
      by_cases qd : sk tb n a < n ∧ tdig (tb (sk tb n a)) = true
      · rw [if_pos qd, bandy qd, cond_true, if_neg (by rw [xn_eq (by omega) (by omega)]; omega)]
        obtain ⟨M3, v3, q3, K3, R3, c3⟩ := tc87 (d := d + k + 7) (w := w) (S := xs S M2) (lo := 0) (hn := 1000) (hi := nI 999) (by omega) (fun v hv => by rw [xn_lt (by omega) (by omega)]; omega) T2 C2.1
        rw [xs_xs] at q3
        rw [xm_xs] at K3
        have ep : pNum tb n 0 1000 (.inl (sk tb n a)) = pNum tb n 0 1000 (.inl a) := by unfold pNum; dsimp only; rw [sk_sk]
        rw [ep] at R3 c3
        have C3 : cLw (xm (xs S M3)) n ((pNum tb n 0 1000 (.inl a)).2, X) := cLw_r C2 K3 R3 (fun _ _ => ⟨_, rfl⟩)
        obtain ⟨M4, q4, K4, C4⟩ := tc52 (d := d + k + 8) (w := w) (S := xs S M3) (kk := 0) (v := nI (pNum tb n 0 1000 (.inl a)).1) (v' := v3) C3 (fun a' ha => ⟨by have g := pNum_a ha; dsimp only at i2 ⊢; omega, (c3 _ a' rfl ha).1⟩)
        rw [xs_xs] at q4
        rw [xm_xs] at K4
        refine ⟨M4, ?_, kL_tr (kC_L K1) (kL_tr (kC_L K2) (kL_tr (kC_L K3) K4)), C4⟩
        rw [show d + k + 8 + 1 = d + k + 7 + 2 by omega, q3, xr_cI_s, show d + k + 7 + 2 = d + k + 8 + 1 by omega, q4, xr_cV_s]
      · rw [if_neg qd, band qd, cond_false, if_pos rfl]
        obtain ⟨M3, b3, e3', q3, K3, R3, e4, e5, h5, h6, _⟩ := tc88 (d := d + k + 7) (w := w) (S := xs S M2) T2 C2.1
        rw [xs_xs] at q3
        rw [xm_xs] at K3
        obtain ⟨h7, h8⟩ := h6 _ rfl
        rw [sk_sk] at h7
        subst h7
        subst h8
        have T3 : tX (xm (xs S M3)) tb n := tX_k K3 T2
        have R3' : rC M3 n (.inl (wend tb n (sk tb n a))) := by
          have e9 : rwd tb n (.inl (sk tb n a)) = .inl (wend tb n (sk tb n (sk tb n a))) := rfl
          rw [e9, sk_sk] at R3
          exact R3
        have C3 : cLw (xm (xs S M3)) n (.inl (wend tb n (sk tb n a)), X) := cLw_r C2 K3 R3' (fun _ _ => ⟨_, rfl⟩)
        obtain ⟨M4, q4, K4, C4⟩ := tc50 (d := d) (k := k) (p := p) (D := D) hn hf ho hs HS T3 C3 e4 h5 (fun hne => by
          cases hk : lKnd tb (sk tb n a) (wend tb n (sk tb n a)) with
          | none => exact absurd hk hne
          | some kk =>
            have := (lKnd_w hk).1
            intro a' ha
            cases ha
            exact ⟨h5.2, by dsimp only at i2 ⊢; omega, i3, i4⟩)
        rw [xs_xs] at q4
        rw [xm_xs] at K4
        refine ⟨M4, ?_, kL_tr (kC_L K1) (kL_tr (kC_L K2) (kL_tr (kC_L K3) K4)), C4⟩
        rw [show d + k + 8 + 1 = d + k + 7 + 2 by omega, q3, xr_cV_s, show d + k + 7 + 2 = d + k + 3 + 6 by omega, tc51 T3 e4 e5 h5, xr_cI_s, show d + k + 3 + 6 = d + k + 9 by omega, q4, xr_cV_s]
end
