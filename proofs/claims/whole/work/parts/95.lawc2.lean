/-! THE LAW'S TEXT: the class's loops -/
section
variable {d k : Nat} {w : List Nat} {tb : Nat → Nat} {n : Nat} {full : Bool} {sr : lS → lS} {o : Nat}
theorem tc48L (hn : n ≤ 150) {F : lS → lS} (hF : ∀ p D s, lInv n p D s → lInv n p (D + 1) (F s)) (HF : ∀ (S : xr_S) (s : lS) (p D : Nat), tX (xm S) tb n → cLw (xm S) n s → lInv n p D s → ∃ M, xr_Call (d + 4) 49 [xP 0 58, xP 0 1, xI (nI o)] ([], w) S = some (.inl none, ([], w), xs S M) ∧ kL (xm S) M ∧ cLw M n (F s)) : ∀ (m j : Nat) (S : xr_S) (s : lS) (p D : Nat), j + m = 150 → tX (xm S) tb n → cLw (xm S) n s → lInv n p (D + 1) s → ∃ M, xr_Run (d + 4) 48 8 [xP 0 58, xP 0 1, xI (nI o), xI (nI j)] [] ([], w) S = some (.inl none, ([], w), xs S M) ∧ kL (xm S) M ∧ cLw M n (lItr tb n F 42 9 47 10 m s) := by
  intro m
  induction m with
  | zero =>
    intro j S s p D hj T C I
    refine ⟨xm S, ?_, kL_rf _, C⟩
    refine (xg48_8 _ _ _ _ _).trans ?_
    rw [if_neg (by rw [xn_lt (by omega) (by omega)]; omega), xs_xm]
  | succ m ih =>
    intro j S s p D hj T C I
    obtain ⟨r, X⟩ := s
    cases r with
    | inr q =>
      rw [lItr_r (s := (.inr q, X)) (q := q) rfl]
      refine ⟨xm S, ?_, kL_rf _, C⟩
      refine (xg48_8 _ _ _ _ _).trans ?_
      rw [if_pos (by rw [xn_lt (by omega) (by omega)]; omega), tc82 C.1, xr_cI_s, if_pos (show rso (.inr q) = nI 0 from rfl), xs_xm]
    | inl a =>
      obtain ⟨i1, i2, i3, i4⟩ := I a rfl
      have h1 := sk_ge tb n a
      have hl := sk_le (tb := tb) i1
      have ed : lItr tb n F 42 9 47 10 (m + 1) (.inl a, X) = if sk tb n a < n ∧ tb (sk tb n a) = 42 then lItr tb n F 42 9 47 10 m (lAdd 9 (nI 0) (F (.inl (sk tb n a + 1), X))) else if sk tb n a < n ∧ tb (sk tb n a) = 47 then lItr tb n F 42 9 47 10 m (lAdd 10 (nI 0) (F (.inl (sk tb n a + 1), X))) else (.inl (sk tb n a), X) := rfl
      have I1 : sk tb n a < n → lInv n (p + 1) (D + 1) (.inl (sk tb n a + 1), X) := fun q a' ha => by
        cases ha
        exact ⟨by omega, by dsimp only at i2 ⊢; omega, i3, i4⟩
      obtain ⟨M1, q1, K1, R1⟩ := tc90 (d := d + 2) (w := w) (S := S) T C.1 (c := 42) (by omega)
      have T1 : tX (xm (xs S M1)) tb n := tX_k K1 T
      have go : ∀ (kk : Nat) (M1 : xr_M), 7 ≤ kk ∧ kk ≤ 12 → sk tb n a < n → kC (xm S) M1 → rC M1 n (.inl (sk tb n a + 1)) → ∃ M, (xr_cV ([], w) (xr_Call (d + 4) 49 [xP 0 58, xP 0 1, xI (nI o)] ([], w) (xs S M1)) (fun S9 => (xr_cV ([], w) (xr_Call (d + 4) 52 [xP 0 58, xI (nI kk), xI (nI 0)] ([], w) S9) (fun S10 => (xr_Run (d + 4) 48 8 [xP 0 58, xP 0 1, xI (nI o), xI (nI j + nI 1)] [] ([], w) S10))))) = some (.inl none, ([], w), xs S M) ∧ kL (xm S) M ∧ cLw M n (lItr tb n F 42 9 47 10 m (lAdd kk (nI 0) (F (.inl (sk tb n a + 1), X)))) := by
        intro kk M1 hk hlt K1 R1
        have T1 : tX (xm (xs S M1)) tb n := tX_k K1 T
        have C1 : cLw (xm (xs S M1)) n (.inl (sk tb n a + 1), X) := cLw_r C K1 R1 (fun _ _ => ⟨_, rfl⟩)
        obtain ⟨M2, q2, K2, C2⟩ := HF (xs S M1) _ _ _ T1 C1 (I1 hlt)
        rw [xs_xs] at q2
        rw [xm_xs] at K2
        have J2 := hF _ _ _ (I1 hlt)
        obtain ⟨M3, q3, K3, C3⟩ := tc52 (d := d + 3) (w := w) (S := xs S M2) (kk := kk) (v := nI 0) (v' := nI 0) C2 (fun a' ha => ⟨by have g1 := (J2 a' ha).2.1; have g2 := (J2 a' ha).1; omega, rfl⟩)
        rw [xs_xs] at q3
        rw [xm_xs] at K3
        obtain ⟨M4, q4, K4, C4⟩ := ih (j + 1) (xs S M3) _ p D (by omega) (tX_L (kL_tr K2 K3) T1) C3 (lInv_op hk.1 hk.2 J2)
        rw [xs_xs] at q4
        rw [xm_xs] at K4
        refine ⟨M4, ?_, kL_tr (kC_L K1) (kL_tr K2 (kL_tr K3 K4)), C4⟩
        rw [q2, xr_cV_s, q3, xr_cV_s, xn_add, q4]
      rw [ed]
      by_cases qa : sk tb n a < n ∧ tb (sk tb n a) = 42
      · rw [if_pos qa]
        rw [pTak_y qa] at q1 R1
        obtain ⟨M2, q2, K2, C2⟩ := go 9 M1 (by omega) qa.1 K1 R1
        refine ⟨M2, ?_, K2, C2⟩
        rw [← q2]
        refine (xg48_8 _ _ _ _ _).trans ?_
        rw [if_pos (by rw [xn_lt (by omega) (by omega)]; omega), tc82 C.1, xr_cI_s, if_neg (by rw [rso_l, xn_eq (by omega) (by omega)]; omega), q1, xr_cI_s, cond_true, if_neg (by rw [xn_eq (by omega) (by omega)]; omega)]
      · rw [if_neg qa]
        rw [pTak_n qa] at q1 R1
        dsimp only at q1 R1
        obtain ⟨M2, q2, K2, R2⟩ := tc90 (d := d + 2) (w := w) (S := xs S M1) (r := .inl (sk tb n a)) T1 R1 (c := 47) (by omega)
        rw [xs_xs] at q2
        rw [xm_xs] at K2
        by_cases qb : sk tb n a < n ∧ tb (sk tb n a) = 47
        · rw [if_pos qb]
          rw [pTak_y (by rw [sk_sk]; exact qb), sk_sk] at q2 R2
          obtain ⟨M3, q3, K3, C3⟩ := go 10 M2 (by omega) qb.1 (kC_tr K1 K2) R2
          refine ⟨M3, ?_, K3, C3⟩
          rw [← q3]
          refine (xg48_8 _ _ _ _ _).trans ?_
          rw [if_pos (by rw [xn_lt (by omega) (by omega)]; omega), tc82 C.1, xr_cI_s, if_neg (by rw [rso_l, xn_eq (by omega) (by omega)]; omega), q1, xr_cI_s, cond_false, if_pos rfl, q2, xr_cI_s, cond_true, if_neg (by rw [xn_eq (by omega) (by omega)]; omega)]
        · rw [if_neg qb]
          rw [pTak_n (by rw [sk_sk]; exact qb), sk_sk] at q2 R2
          dsimp only at q2 R2
          refine ⟨M2, ?_, kC_L (kC_tr K1 K2), cLw_r C (kC_tr K1 K2) R2 (fun _ _ => ⟨_, rfl⟩)⟩
          refine (xg48_8 _ _ _ _ _).trans ?_
          rw [if_pos (by rw [xn_lt (by omega) (by omega)]; omega), tc82 C.1, xr_cI_s, if_neg (by rw [rso_l, xn_eq (by omega) (by omega)]; omega), q1, xr_cI_s, cond_false, if_pos rfl, q2, xr_cI_s, cond_false, if_pos rfl]
theorem tc47L (hn : n ≤ 150) {F : lS → lS} (hF : ∀ p D s, lInv n p D s → lInv n p (D + 1) (F s)) (HF : ∀ (S : xr_S) (s : lS) (p D : Nat), tX (xm S) tb n → cLw (xm S) n s → lInv n p D s → ∃ M, xr_Call (d + 4) 48 [xP 0 58, xP 0 1, xI (nI o)] ([], w) S = some (.inl none, ([], w), xs S M) ∧ kL (xm S) M ∧ cLw M n (F s)) : ∀ (m j : Nat) (S : xr_S) (s : lS) (p D : Nat), j + m = 150 → tX (xm S) tb n → cLw (xm S) n s → lInv n p (D + 1) s → ∃ M, xr_Run (d + 4) 47 8 [xP 0 58, xP 0 1, xI (nI o), xI (nI j)] [] ([], w) S = some (.inl none, ([], w), xs S M) ∧ kL (xm S) M ∧ cLw M n (lItr tb n F 43 7 45 8 m s) := by
  intro m
  induction m with
  | zero =>
    intro j S s p D hj T C I
    refine ⟨xm S, ?_, kL_rf _, C⟩
    refine (xg47_8 _ _ _ _ _).trans ?_
    rw [if_neg (by rw [xn_lt (by omega) (by omega)]; omega), xs_xm]
  | succ m ih =>
    intro j S s p D hj T C I
    obtain ⟨r, X⟩ := s
    cases r with
    | inr q =>
      rw [lItr_r (s := (.inr q, X)) (q := q) rfl]
      refine ⟨xm S, ?_, kL_rf _, C⟩
      refine (xg47_8 _ _ _ _ _).trans ?_
      rw [if_pos (by rw [xn_lt (by omega) (by omega)]; omega), tc82 C.1, xr_cI_s, if_pos (show rso (.inr q) = nI 0 from rfl), xs_xm]
    | inl a =>
      obtain ⟨i1, i2, i3, i4⟩ := I a rfl
      have h1 := sk_ge tb n a
      have hl := sk_le (tb := tb) i1
      have ed : lItr tb n F 43 7 45 8 (m + 1) (.inl a, X) = if sk tb n a < n ∧ tb (sk tb n a) = 43 then lItr tb n F 43 7 45 8 m (lAdd 7 (nI 0) (F (.inl (sk tb n a + 1), X))) else if sk tb n a < n ∧ tb (sk tb n a) = 45 then lItr tb n F 43 7 45 8 m (lAdd 8 (nI 0) (F (.inl (sk tb n a + 1), X))) else (.inl (sk tb n a), X) := rfl
      have I1 : sk tb n a < n → lInv n (p + 1) (D + 1) (.inl (sk tb n a + 1), X) := fun q a' ha => by
        cases ha
        exact ⟨by omega, by dsimp only at i2 ⊢; omega, i3, i4⟩
      obtain ⟨M1, q1, K1, R1⟩ := tc90 (d := d + 2) (w := w) (S := S) T C.1 (c := 43) (by omega)
      have T1 : tX (xm (xs S M1)) tb n := tX_k K1 T
      have go : ∀ (kk : Nat) (M1 : xr_M), 7 ≤ kk ∧ kk ≤ 12 → sk tb n a < n → kC (xm S) M1 → rC M1 n (.inl (sk tb n a + 1)) → ∃ M, (xr_cV ([], w) (xr_Call (d + 4) 48 [xP 0 58, xP 0 1, xI (nI o)] ([], w) (xs S M1)) (fun S9 => (xr_cV ([], w) (xr_Call (d + 4) 52 [xP 0 58, xI (nI kk), xI (nI 0)] ([], w) S9) (fun S10 => (xr_Run (d + 4) 47 8 [xP 0 58, xP 0 1, xI (nI o), xI (nI j + nI 1)] [] ([], w) S10))))) = some (.inl none, ([], w), xs S M) ∧ kL (xm S) M ∧ cLw M n (lItr tb n F 43 7 45 8 m (lAdd kk (nI 0) (F (.inl (sk tb n a + 1), X)))) := by
        intro kk M1 hk hlt K1 R1
        have T1 : tX (xm (xs S M1)) tb n := tX_k K1 T
        have C1 : cLw (xm (xs S M1)) n (.inl (sk tb n a + 1), X) := cLw_r C K1 R1 (fun _ _ => ⟨_, rfl⟩)
        obtain ⟨M2, q2, K2, C2⟩ := HF (xs S M1) _ _ _ T1 C1 (I1 hlt)
        rw [xs_xs] at q2
        rw [xm_xs] at K2
        have J2 := hF _ _ _ (I1 hlt)
        obtain ⟨M3, q3, K3, C3⟩ := tc52 (d := d + 3) (w := w) (S := xs S M2) (kk := kk) (v := nI 0) (v' := nI 0) C2 (fun a' ha => ⟨by have g1 := (J2 a' ha).2.1; have g2 := (J2 a' ha).1; omega, rfl⟩)
        rw [xs_xs] at q3
        rw [xm_xs] at K3
        obtain ⟨M4, q4, K4, C4⟩ := ih (j + 1) (xs S M3) _ p D (by omega) (tX_L (kL_tr K2 K3) T1) C3 (lInv_op hk.1 hk.2 J2)
        rw [xs_xs] at q4
        rw [xm_xs] at K4
        refine ⟨M4, ?_, kL_tr (kC_L K1) (kL_tr K2 (kL_tr K3 K4)), C4⟩
        rw [q2, xr_cV_s, q3, xr_cV_s, xn_add, q4]
      rw [ed]
      by_cases qa : sk tb n a < n ∧ tb (sk tb n a) = 43
      · rw [if_pos qa]
        rw [pTak_y qa] at q1 R1
        obtain ⟨M2, q2, K2, C2⟩ := go 7 M1 (by omega) qa.1 K1 R1
        refine ⟨M2, ?_, K2, C2⟩
        rw [← q2]
        refine (xg47_8 _ _ _ _ _).trans ?_
        rw [if_pos (by rw [xn_lt (by omega) (by omega)]; omega), tc82 C.1, xr_cI_s, if_neg (by rw [rso_l, xn_eq (by omega) (by omega)]; omega), q1, xr_cI_s, cond_true, if_neg (by rw [xn_eq (by omega) (by omega)]; omega)]
      · rw [if_neg qa]
        rw [pTak_n qa] at q1 R1
        dsimp only at q1 R1
        obtain ⟨M2, q2, K2, R2⟩ := tc90 (d := d + 2) (w := w) (S := xs S M1) (r := .inl (sk tb n a)) T1 R1 (c := 45) (by omega)
        rw [xs_xs] at q2
        rw [xm_xs] at K2
        by_cases qb : sk tb n a < n ∧ tb (sk tb n a) = 45
        · rw [if_pos qb]
          rw [pTak_y (by rw [sk_sk]; exact qb), sk_sk] at q2 R2
          obtain ⟨M3, q3, K3, C3⟩ := go 8 M2 (by omega) qb.1 (kC_tr K1 K2) R2
          refine ⟨M3, ?_, K3, C3⟩
          rw [← q3]
          refine (xg47_8 _ _ _ _ _).trans ?_
          rw [if_pos (by rw [xn_lt (by omega) (by omega)]; omega), tc82 C.1, xr_cI_s, if_neg (by rw [rso_l, xn_eq (by omega) (by omega)]; omega), q1, xr_cI_s, cond_false, if_pos rfl, q2, xr_cI_s, cond_true, if_neg (by rw [xn_eq (by omega) (by omega)]; omega)]
        · rw [if_neg qb]
          rw [pTak_n (by rw [sk_sk]; exact qb), sk_sk] at q2 R2
          dsimp only at q2 R2
          refine ⟨M2, ?_, kC_L (kC_tr K1 K2), cLw_r C (kC_tr K1 K2) R2 (fun _ _ => ⟨_, rfl⟩)⟩
          refine (xg47_8 _ _ _ _ _).trans ?_
          rw [if_pos (by rw [xn_lt (by omega) (by omega)]; omega), tc82 C.1, xr_cI_s, if_neg (by rw [rso_l, xn_eq (by omega) (by omega)]; omega), q1, xr_cI_s, cond_false, if_pos rfl, q2, xr_cI_s, cond_false, if_pos rfl]
theorem tc48 (hn : n ≤ 150) (hf : full = decide (¬ o < 6)) (ho : o ≤ 6) (hs : full = false → ∀ p D s, lInv n p D s → lInv n p (D + 1) (sr s)) (HS : full = false → CSum w tb n (k + 8) (o + 1) sr) {S : xr_S} {p D : Nat} {s : lS} (T : tX (xm S) tb n) (C : cLw (xm S) n s) (I : lInv n p D s) : ∃ M, xr_Call (d + k + 11) 48 [xP 0 58, xP 0 1, xI (nI o)] ([], w) S = some (.inl none, ([], w), xs S M) ∧ kL (xm S) M ∧ cLw M n (lPrd tb n full sr s) := by
  obtain ⟨M1, q1, K1, C1⟩ := tc49 (d := d) (k := k) hn hf ho hs HS T C I
  obtain ⟨M2, q2, K2, C2⟩ := tc48L (d := d + k + 6) (w := w) (o := o) hn (lUnt_inv hs) (fun S s p D T C I => tc49 (d := d) (k := k) hn hf ho hs HS T C I) 150 0 (xs S M1) _ p D (by omega) (tX_L K1 T) C1 (lUnt_inv hs p D s I)
  rw [xs_xs] at q2
  rw [xm_xs] at K2
  refine ⟨M2, ?_, kL_tr K1 K2, C2⟩
  rw [xe48, q1, xr_cV_s]
  exact q2
theorem tc47 (hn : n ≤ 150) (hf : full = decide (¬ o < 6)) (ho : o ≤ 6) (hs : full = false → ∀ p D s, lInv n p D s → lInv n p (D + 1) (sr s)) (HS : full = false → CSum w tb n (k + 8) (o + 1) sr) : CSum w tb n (k + 12) o (lSum tb n full sr) := by
  intro d S s p D T C I
  obtain ⟨M1, q1, K1, C1⟩ := tc48 (d := d) (k := k) hn hf ho hs HS T C I
  obtain ⟨M2, q2, K2, C2⟩ := tc47L (d := d + k + 7) (w := w) (o := o) hn (lPrd_inv hs) (fun S s p D T C I => tc48 (d := d) (k := k) hn hf ho hs HS T C I) 150 0 (xs S M1) _ p D (by omega) (tX_L K1 T) C1 (lPrd_inv hs p D s I)
  rw [xs_xs] at q2
  rw [xm_xs] at K2
  refine ⟨M2, ?_, kL_tr K1 K2, C2⟩
  rw [show d + (k + 12) = d + k + 11 + 1 by omega, xe47, q1, xr_cV_s]
  exact q2
theorem tcTop (hn : n ≤ 150) : ∀ L, L ≤ 6 → CSum w tb n (4 * L + 12) (6 - L) (lTop tb n L)
  | 0, _ => tc47 (k := 0) hn (by decide) (by omega) (fun h => nomatch h) (fun h => nomatch h)
  | L + 1, h => by
    have ih := tcTop hn L (by omega)
    have e : 6 - L = 6 - (L + 1) + 1 := by omega
    rw [e] at ih
    exact tc47 (k := 4 * L + 4) hn (decide_eq_false (by omega)).symm (by omega) (fun _ => lTop_inv L) (fun _ => ih)
/-- the whole law's text -/
def lAll (tb : Nat → Nat) (n : Nat) : lS := match (lTop tb n 6 (.inl 0, 0, (fun _ => 0), (fun _ => 0))).1 with
  | .inr q => (.inr q, (lTop tb n 6 (.inl 0, 0, (fun _ => 0), (fun _ => 0))).2)
  | .inl a => if sk tb n a < n then (.inr (1, sk tb n a), (lTop tb n 6 (.inl 0, 0, (fun _ => 0), (fun _ => 0))).2) else (.inl (sk tb n a), (lTop tb n 6 (.inl 0, 0, (fun _ => 0), (fun _ => 0))).2)
theorem lInv_0 : lInv n 0 0 (.inl 0, 0, (fun _ => 0), (fun _ => 0)) := fun a ha => by
  cases ha
  exact ⟨Nat.zero_le _, Nat.le_refl _, fun k hk => by dsimp only at hk; omega, rfl⟩
theorem tc46 (hn : n ≤ 150) {S : xr_S} (T : tX (xm S) tb n) (R : rC (xm S) n (.inl 0)) : ∃ M, xr_Call (d + 37) 46 [xP 0 58, xP 0 1] ([], w) S = some (.inl none, ([], w), xs S M) ∧ kL (xm S) M ∧ cLw M n (lAll tb n) := by
  have K0 : kL (xm S) (xw (xm S) 0 58 4 (nI 0)) := ⟨fun b e h => by rw [xw_r (by omega)], fun k hk => by rw [xw_n (by omega)]⟩
  have C0 : cLw (xm (xs S (xw (xm S) 0 58 4 (nI 0)))) n (.inl 0, 0, (fun _ => 0), (fun _ => 0)) := by
    refine ⟨?_, ⟨0, by omega, by rw [xm_xs, xw_y (by omega)]⟩, fun a ha => ⟨by rw [xm_xs, xw_y (by omega)], by dsimp only; omega, fun j hj => by dsimp only at hj; omega⟩⟩
    obtain ⟨r1, r2, r3, r4⟩ := R
    exact ⟨by rw [xm_xs, xw_n (by omega)]; exact r1, by rw [xm_xs, xw_n (by omega)]; exact r2, by rw [xm_xs, xw_n (by omega)]; exact r3, r4⟩
  obtain ⟨M1, q1, K1, C1⟩ := tcTop (w := w) (tb := tb) hn 6 (by omega) d (xs S (xw (xm S) 0 58 4 (nI 0))) _ 0 0 (tX_L K0 T) C0 lInv_0
  rw [xs_xs] at q1
  rw [xm_xs] at K1
  have T1 : tX (xm (xs S M1)) tb n := tX_L (kL_tr K0 K1) T
  obtain ⟨M2, v, b, q2, K2, R2, _, c2, e3, hb, ev⟩ := tc84r (d := d + 35) (w := w) (S := xs S M1) T1 C1.1
  rw [xs_xs] at q2
  rw [xm_xs] at K2
  have x1 := T.1
  have x2 := T.2.1
  have pre : xr_Call (d + 37) 46 [xP 0 58, xP 0 1] ([], w) S = (if v = (-1 : Int32) then (some (.inl none, ([], w), xs S M2)) else (xr_cV ([], w) (xr_Call (d + 36) 83 [xP 0 1, xI (nI 1), xI ((xm (xs S M2)) 0 1 3)] ([], w) (xs S M2)) (fun S4 => (some (.inl none, ([], w), S4))))) := by
    rw [xe46, show d + 36 = d + (4 * 6 + 12) by omega, show nI 0 = nI (6 - 6) from rfl, q1, xr_cV_s, show d + (4 * 6 + 12) = d + 35 + 1 by omega, q2, xr_cI_s]
  unfold lAll
  cases hr : (lTop tb n 6 (.inl 0, 0, (fun _ => 0), (fun _ => 0))).1 with
  | inr q =>
    have R2' : rC (xm (xs S M2)) n (.inr q) := by rw [hr] at R2; exact R2
    have C1' : cLw M1 n (.inr q, (lTop tb n 6 (.inl 0, 0, (fun _ => 0), (fun _ => 0))).2) := by rw [← hr]; exact C1
    obtain ⟨M3, q3, K3, R3, _, _⟩ := tc83 (d := d + 35) (w := w) (S := xs S M2) (k := 1) (p := b) (by omega) hb R2'
    rw [xs_xs] at q3
    rw [xm_xs] at K3
    dsimp only
    by_cases qv : v = -1
    · refine ⟨M2, by rw [pre, if_pos qv], kL_tr K0 (kL_tr K1 (kC_L K2)), cLw_r C1' K2 R2' (fun _ h => (nomatch h))⟩
    · refine ⟨M3, by rw [pre, if_neg qv, xm_xs, e3, q3, xr_cV_s], kL_tr K0 (kL_tr K1 (kL_tr (kC_L K2) (kC_L K3))), cLw_r C1' (kC_tr K2 K3) R3 (fun _ h => (nomatch h))⟩
  | inl a =>
    have R2' : rC (xm (xs S M2)) n (.inl (sk tb n a)) := by rw [hr] at R2; exact R2
    have C1' : cLw M1 n (.inl a, (lTop tb n 6 (.inl 0, 0, (fun _ => 0), (fun _ => 0))).2) := by rw [← hr]; exact C1
    have ha := (C1'.1).2.2.2
    have hv := c2 a hr
    have eb : b = sk tb n a := by
      have := R2'.2.2.1
      rw [xm_xs, e3, xn_eq (by omega) (by have := sk_le (tb := tb) ha; omega)] at this
      exact this
    subst eb
    dsimp only
    by_cases qk : sk tb n a < n
    · rw [if_pos qk]
      obtain ⟨M3, q3, K3, R3, _, _⟩ := tc83 (d := d + 35) (w := w) (S := xs S M2) (k := 1) (p := sk tb n a) (by omega) hb R2'
      rw [xs_xs] at q3
      rw [xm_xs] at K3
      refine ⟨M3, ?_, kL_tr K0 (kL_tr K1 (kL_tr (kC_L K2) (kC_L K3))), cLw_r C1' (kC_tr K2 K3) R3 (fun _ h => (nomatch h))⟩
      have nv : ¬ v = -1 := by
        rw [ev]
        unfold tv
        rw [if_pos qk]
        have := x2 (sk tb n a)
        exact fun h => (xn_m1 (show tb (sk tb n a) < 2147483648 by omega)).mp h
      rw [pre, if_neg nv, xm_xs, e3, q3, xr_cV_s]
    · rw [if_neg qk]
      refine ⟨M2, ?_, kL_tr K0 (kL_tr K1 (kC_L K2)), cLw_r C1' K2 R2' (fun _ _ => ⟨_, rfl⟩)⟩
      rw [pre, if_pos (by rw [ev]; unfold tv; rw [if_neg qk])]
end
