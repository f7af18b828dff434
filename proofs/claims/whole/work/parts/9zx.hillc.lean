/-! THE HILL'S TEXT: the class -/
def hKc (o : Option Nat) : Nat := match o with
  | none => 0
  | some 0 => 1
  | some 1 => 2
  | some 2 => 4
  | some 3 => 5
  | some _ => 3
def hTl (tb : Nat → Nat) (n m : Nat) (r : tR) : tR := match r with
  | .inr q => .inr q
  | .inl a => if wis (xr_by 6) tb (sk tb n a) (wend tb n (sk tb n a)) = true then (if m < 3 then .inr (4, sk tb n a) else .inl (wend tb n (sk tb n a))) else .inr (1, sk tb n a)
/-- what reading a pot's places changes -/
def kP (q : Nat) (M M' : xr_M) : Prop := (∀ b e, ¬ (b = 0 ∧ (e = 1 ∨ e = 50 ∨ e = 51)) → M' b e = M b e) ∧ (∀ k, k < 3 → M' 0 1 k = M 0 1 k) ∧ (∀ k, ¬ k = q → M' 0 50 k = M 0 50 k) ∧ ∀ j, ¬ (q * 6 ≤ j ∧ j < q * 6 + 6) → M' 0 51 j = M 0 51 j
theorem kP_tr {q : Nat} {M M' M'' : xr_M} (h : kP q M M') (h' : kP q M' M'') : kP q M M'' := ⟨fun b e g => (h'.1 b e g).trans (h.1 b e g), fun k g => (h'.2.1 k g).trans (h.2.1 k g), fun k g => (h'.2.2.1 k g).trans (h.2.2.1 k g), fun j g => (h'.2.2.2 j g).trans (h.2.2.2 j g)⟩
theorem kC_P {q : Nat} {M M' : xr_M} (h : kC M M') : kP q M M' := ⟨fun b e g => h.1 b e (by omega), h.2, fun k _ => by rw [h.1 0 50 (by omega)], fun j _ => by rw [h.1 0 51 (by omega)]⟩
theorem rC_e {M M' : xr_M} {n : Nat} {r : tR} (h : M' 0 1 = M 0 1) (R : rC M n r) : rC M' n r := by
  unfold rC at R ⊢
  rw [h]
  exact R
theorem tX_e {M M' : xr_M} {tb : Nat → Nat} {n : Nat} (h1 : M' 0 1 2 = M 0 1 2) (h2 : M' 0 2 = M 0 2) (X : tX M tb n) : tX M' tb n := ⟨X.1, X.2.1, by rw [h1]; exact X.2.2.1, fun k hk => by rw [h2]; exact X.2.2.2 k hk⟩
theorem tld {c : Nat} (h : tlet c = true) : tdig c = false := by
  have h := of_decide_eq_true h
  exact decide_eq_false (by omega)
section
variable {d : Nat} {w : List Nat} {tb : Nat → Nat} {n : Nat}
theorem tc83f {S : xr_S} {q : Nat × Nat} (R : rC (xm S) n (.inr q)) (x y : Int32) : xr_Call (d + 1) 83 [xP 0 1, xI x, xI y] ([], w) S = some (.inl none, ([], w), S) := by
  obtain ⟨k, p⟩ := q
  obtain ⟨r1, r2, _⟩ := R
  rw [xe83, if_neg (by rw [r1, xn_eq (by omega) (by omega)]; omega)]
theorem tc59 {S : xr_S} {b e : Nat} (X : tX (xm S) tb n) (e4 : xm S 0 1 4 = nI b) (e3 : xm S 0 1 3 = nI e) (hbe : b ≤ e ∧ e ≤ n) : xr_Call (d + 6) 59 [xP 0 44, xP 0 1] ([], w) S = some (.inl (some (nI (hKc (hKnd tb b e)))), ([], w), S) := by
  have z : ¬ nI 1 = nI 0 := by decide
  rw [xe59]
  unfold hKnd
  rw [tc89 (k := 1) (by omega) X e4 e3 hbe, xr_cI_s]
  cases wis (xr_by 1) tb b e with
  | true => rw [cond_true, if_neg z]; rfl
  | false =>
  rw [cond_false, if_pos rfl, tc89 (k := 2) (by omega) X e4 e3 hbe, xr_cI_s, cond_false]
  cases wis (xr_by 2) tb b e with
  | true => rw [cond_true, if_neg z]; rfl
  | false =>
  rw [cond_false, if_pos rfl, tc89 (k := 3) (by omega) X e4 e3 hbe, xr_cI_s, cond_false]
  cases wis (xr_by 3) tb b e with
  | true => rw [cond_true, if_neg z]; rfl
  | false =>
  rw [cond_false, if_pos rfl, tc89 (k := 4) (by omega) X e4 e3 hbe, xr_cI_s, cond_false]
  cases wis (xr_by 4) tb b e with
  | true => rw [cond_true, if_neg z]; rfl
  | false =>
  rw [cond_false, if_pos rfl, tc89 (k := 5) (by omega) X e4 e3 hbe, xr_cI_s, cond_false]
  cases wis (xr_by 5) tb b e with
  | true => rw [cond_true, if_neg z]; rfl
  | false =>
  rw [cond_false, if_pos rfl]; rfl
/-- behind a pot's places -/
theorem tc65t {S : xr_S} {q m : Nat} {r : tR} {v3 : Int32} {v4 : xr_V} (hq : q < 8) (hm : m ≤ 7) (X : tX (xm S) tb n) (e1 : xm S 0 44 1 = nI q) (R : rC (xm S) n r) : ∃ M, xr_Run (d + 5) 65 79 [xP 0 44, xP 0 1, xI (nI m), xI v3, v4] [] ([], w) S = some (.inl none, ([], w), xs S M) ∧ rC M n (hTl tb n m r) ∧ kP q (xm S) M ∧ M 0 50 q = nI m ∧ M 0 51 = xm S 0 51 := by
  have z : ¬ nI 1 = nI 0 := by decide
  obtain ⟨M0, hM0⟩ : ∃ M0, M0 = xw (xm S) 0 50 q (nI m) := ⟨_, rfl⟩
  have K0 : kP q (xm S) M0 := by
    rw [hM0]
    exact ⟨fun b e g => xw_r (by omega), fun k g => xw_n (by omega), fun k g => xw_n (by omega), fun j g => xw_n (by omega)⟩
  have X0 : tX (xm (xs S M0)) tb n := tX_e (K0.2.1 2 (by omega)) (K0.1 0 2 (by omega)) X
  have R0 : rC (xm (xs S M0)) n r := rC_e (by rw [xm_xs, hM0, xw_r (by omega)]) R
  obtain ⟨M1, b, e, q1, K1, R1, b4, b3, hbe, hl, hr⟩ := tc88 (d := d + 3) (w := w) X0 R0
  rw [xs_xs] at q1
  rw [xm_xs] at K1
  have X1 : tX (xm (xs S M1)) tb n := tX_k K1 X0
  have q2 := tc89 (d := d) (w := w) (S := xs S M1) (k := 6) (by omega) X1 b4 b3 hbe
  have m50 : M1 0 50 q = nI m := by rw [K1.1 0 50 (by omega), hM0, xw_y (by omega)]
  have m51 : M1 0 51 = xm S 0 51 := by rw [K1.1 0 51 (by omega), hM0, xw_r (by omega)]
  have pre : xr_Run (d + 5) 65 79 [xP 0 44, xP 0 1, xI (nI m), xI v3, v4] [] ([], w) S = _ := xh65_79 _ _ _ _ _ _
  rw [e1, xi_t hq (by omega), cond_true, xn_k (by omega), ← hM0, show xr_Call (d + 5) 88 [xP 0 1] ([], w) (xs S M0) = _ from q1, xr_cV_s, q2, xr_cI_s] at pre
  cases r with
  | inr qq =>
    have hb := hr qq rfl
    rw [hb, wis_no (by omega), cond_false, if_pos rfl, show xr_Call (d + 5) 83 [xP 0 1, xI (nI 1), xI (xm (xs S M1) 0 1 4)] ([], w) (xs S M1) = _ from tc83f (d := d + 4) (S := xs S M1) R1 _ _, xr_cV_s] at pre
    exact ⟨M1, pre, R1, kP_tr K0 (kC_P K1), m50, m51⟩
  | inl a =>
    obtain ⟨hb, he⟩ := hl a rfl
    subst hb
    subst he
    have R1 : rC M1 n (.inl (wend tb n (sk tb n a))) := R1
    have e4 : xm (xs S M1) 0 1 4 = nI (sk tb n a) := b4
    unfold hTl
    dsimp only
    cases hw : wis (xr_by 6) tb (sk tb n a) (wend tb n (sk tb n a)) with
    | false =>
      rw [if_neg (by decide)]
      obtain ⟨M2, q3, K2, R2, _⟩ := tc83 (d := d + 4) (w := w) (S := xs S M1) (k := 1) (p := sk tb n a) (by omega) (by omega) R1
      rw [hw, cond_false, if_pos rfl, e4, show xr_Call (d + 5) 83 [xP 0 1, xI (nI 1), xI (nI (sk tb n a))] ([], w) (xs S M1) = _ from q3, xr_cV_s, xs_xs] at pre
      rw [xm_xs] at K2
      exact ⟨M2, pre, R2, kP_tr K0 (kP_tr (kC_P K1) (kC_P K2)), by rw [K2.1 0 50 (by omega)]; exact m50, by rw [K2.1 0 51 (by omega)]; exact m51⟩
    | true =>
      rw [if_pos rfl]
      rw [hw, cond_true, if_neg z] at pre
      by_cases q3 : m < 3
      · rw [if_pos q3]
        obtain ⟨M2, q4, K2, R2, _⟩ := tc83 (d := d + 4) (w := w) (S := xs S M1) (k := 4) (p := sk tb n a) (by omega) (by omega) R1
        rw [if_pos (by rw [xn_lt (by omega) (by omega)]; exact q3), e4, show xr_Call (d + 5) 83 [xP 0 1, xI (nI 4), xI (nI (sk tb n a))] ([], w) (xs S M1) = _ from q4, xr_cV_s, xs_xs] at pre
        rw [xm_xs] at K2
        exact ⟨M2, pre, R2, kP_tr K0 (kP_tr (kC_P K1) (kC_P K2)), by rw [K2.1 0 50 (by omega)]; exact m50, by rw [K2.1 0 51 (by omega)]; exact m51⟩
      · rw [if_neg q3]
        rw [if_neg (by rw [xn_lt (by omega) (by omega)]; exact q3)] at pre
        exact ⟨M1, pre, R1, kP_tr K0 (kC_P K1), m50, m51⟩
/-- a pot's places, when a fault stands -/
theorem tc65f {S : xr_S} {q m k : Nat} {z : Nat × Nat} {v4 : xr_V} (hq : q < 8) (hm : m ≤ 7) (hk : k ≤ 7) (X : tX (xm S) tb n) (e1 : xm S 0 44 1 = nI q) (R : rC (xm S) n (.inr z)) : ∃ M, xr_Run (d + 5) 65 4 [xP 0 44, xP 0 1, xI (nI m), xI (nI k), v4] [] ([], w) S = some (.inl none, ([], w), xs S M) ∧ rC M n (.inr z) ∧ kP q (xm S) M := by
  obtain ⟨M, e2, R2, K2, _⟩ := tc65t (d := d) (w := w) (v3 := nI k) (v4 := v4) hq hm X e1 R
  refine ⟨M, ?_, R2, K2⟩
  refine (xh65_4 _ _ _ _ _ _).trans ?_
  by_cases q6 : 6 < k
  · rw [if_pos (by rw [xn_lt (by omega) (by omega)]; exact q6)]; exact e2
  · rw [if_neg (by rw [xn_lt (by omega) (by omega)]; exact q6), show xr_Call (d + 5) 82 [xP 0 1] ([], w) S = _ from tc82 (d := d + 4) R, xr_cI_s, if_pos (rso_r _)]
    exact e2
theorem pNum_let {a : Nat} (h : sk tb n a < n ∧ tlet (tb (sk tb n a)) = true) {lo hn : Nat} : (pNum tb n lo hn (.inl a)).2 = .inr (1, sk tb n a) := by
  unfold pNum
  dsimp only
  rw [if_neg (fun g => by rw [tld h.2] at g; exact absurd g.2 (by decide))]
theorem wend_no {b : Nat} (h : ¬ (b < n ∧ tlet (tb b) = true)) : wend tb n b = b := trun_n h
theorem tc65L {q : Nat} (hq : q < 8) : ∀ (f m a : Nat) (D : Nat → Nat) (S : xr_S) (v4 : xr_V), f + m = 7 → m ≤ 6 → tX (xm S) tb n → rC (xm S) n (.inl a) → xm S 0 44 1 = nI q → (∀ i, i < 6 → xm S 0 51 (q * 6 + i) = nI (D i)) → ∃ M, xr_Run (d + 5) 65 4 [xP 0 44, xP 0 1, xI (nI m), xI (nI m), v4] [] ([], w) S = some (.inl none, ([], w), xs S M) ∧ rC M n (hPl tb n f a m D).1 ∧ kP q (xm S) M ∧ ∀ a', (hPl tb n f a m D).1 = .inl a' → M 0 50 q = nI (hPl tb n f a m D).2.1 ∧ ∀ i, i < 6 → M 0 51 (q * 6 + i) = nI ((hPl tb n f a m D).2.2 i)
  | 0, m, a, D, S, v4, hm, h6, X, R, e1, E => by omega
  | f + 1, m, a, D, S, v4, hm, h6, X, R, e1, E => by
    have z : ¬ nI 1 = nI 0 := by decide
    obtain ⟨M1, v, b, q1, K1, R1, _, ev, _⟩ := tc84r (d := d + 4) (w := w) X R
    have ev := ev a rfl
    subst ev
    have R1 : rC M1 n (.inl (sk tb n a)) := R1
    have X1 : tX (xm (xs S M1)) tb n := tX_k K1 X
    have pre : xr_Run (d + 5) 65 4 [xP 0 44, xP 0 1, xI (nI m), xI (nI m), v4] [] ([], w) S = _ := xh65_4 _ _ _ _ _ _
    rw [if_neg (by rw [xn_lt (by omega) (by omega)]; omega), show xr_Call (d + 5) 82 [xP 0 1] ([], w) S = _ from tc82 (d := d + 4) R, xr_cI_s, rso_l, if_neg z, show xr_Call (d + 5) 84 [xP 0 1] ([], w) S = _ from q1, xr_cI_s, show xr_Call (d + 5) 86 [xI (tv tb n (sk tb n a))] ([], w) (xs S M1) = _ from tc86v (d := d + 4) X.2.1 _, xr_cI_s] at pre
    have e11 : xm (xs S M1) 0 44 1 = nI q := by rw [xm_xs, K1.1 0 44 (by omega)]; exact e1
    by_cases ql : sk tb n a < n ∧ tlet (tb (sk tb n a)) = true
    · have c1 : (decide (sk tb n a < n) && tlet (tb (sk tb n a))) = true := by rw [decide_eq_true ql.1, ql.2]; rfl
      rw [c1, cond_true, if_neg z] at pre
      obtain ⟨M2, e2, R2, K2, m50, m51⟩ := tc65t (d := d) (w := w) (S := xs S M1) (v3 := nI m) (v4 := v4) hq (show m ≤ 7 by omega) X1 e11 R1
      rw [xs_xs] at e2
      rw [xm_xs] at K2 m51
      refine ⟨M2, pre.trans e2, ?_, kP_tr (kC_P K1) K2, fun a' ha => ?_⟩
      · unfold hTl at R2
        dsimp only at R2
        rw [sk_sk] at R2
        rw [hPl]
        by_cases qw : wis (xr_by 6) tb (sk tb n a) (wend tb n (sk tb n a)) = true
        · rw [if_pos qw]; rw [if_pos qw] at R2; exact R2
        · rw [if_neg qw]; rw [if_neg qw] at R2
          have ql' : sk tb n (sk tb n a) < n ∧ tlet (tb (sk tb n (sk tb n a))) = true := by rw [sk_sk]; exact ql
          rw [pNum_let ql', sk_sk]
          exact R2
      · rw [hPl] at ha ⊢
        by_cases qw : wis (xr_by 6) tb (sk tb n a) (wend tb n (sk tb n a)) = true
        · rw [if_pos qw]
          refine ⟨m50, fun i hi => ?_⟩
          rw [m51, K1.1 0 51 (by omega)]
          exact E i hi
        · rw [if_neg qw] at ha
          have ql' : sk tb n (sk tb n a) < n ∧ tlet (tb (sk tb n (sk tb n a))) = true := by rw [sk_sk]; exact ql
          rw [pNum_let ql'] at ha
          cases ha
    · have c1 : (decide (sk tb n a < n) && tlet (tb (sk tb n a))) = false := by
        cases hh : (decide (sk tb n a < n) && tlet (tb (sk tb n a))) with
        | false => rfl
        | true => exact absurd ⟨of_decide_eq_true (Bool.and_eq_true_iff.mp hh).1, (Bool.and_eq_true_iff.mp hh).2⟩ ql
      rw [c1, cond_false, if_pos rfl] at pre
      have qw : ¬ wis (xr_by 6) tb (sk tb n a) (wend tb n (sk tb n a)) = true := by
        rw [wend_no ql, wis_no (by omega)]; decide
      obtain ⟨M2, x, q2, K2, R2, E2⟩ := tc87 (d := d + 3) (w := w) (S := xs S M1) (lo := 0) (hn := 10) (hi := nI 9) (by omega) (hi9 (c := 9) (by omega)) X1 R1
      rw [xs_xs] at q2
      rw [xm_xs] at K2
      have e12 : xm (xs S M2) 0 44 1 = nI q := by rw [xm_xs, K2.1 0 44 (by omega)]; exact e11
      have X2 : tX (xm (xs S M2)) tb n := tX_k K2 X1
      rw [show xr_Call (d + 5) 87 [xP 0 1, xI (nI 0), xI (nI 9)] ([], w) (xs S M1) = _ from q2, xr_cI_s] at pre
      have KK : kP q (xm S) M2 := kP_tr (kC_P K1) (kC_P K2)
      have E3 : ∀ i, i < 6 → M2 0 51 (q * 6 + i) = nI (D i) := fun i hi => by rw [K2.1 0 51 (by omega), K1.1 0 51 (by omega)]; exact E i hi
      rw [hPl, if_neg qw]
      cases hp : (pNum tb n 0 10 (.inl (sk tb n a))).2 with
      | inr zz =>
        rw [hp] at R2
        dsimp only
        by_cases qm : m < 6
        · rw [if_pos (by rw [xn_lt (by omega) (by omega)]; exact qm), e12, xn_mul, xn_add, xi_t (by omega) (by omega), cond_true, xn_k (by omega), xn_add, xs_xs, xm_xs, xh65_73, xn_add] at pre
          obtain ⟨M3, hM3⟩ : ∃ M3, M3 = xw M2 0 51 (q * 6 + m) x := ⟨_, rfl⟩
          have K3 : kP q M2 M3 := by
            rw [hM3]
            exact ⟨fun b e g => xw_r (by omega), fun k g => xw_n (by omega), fun k g => xw_n (by omega), fun j g => xw_n (by omega)⟩
          rw [← hM3] at pre
          obtain ⟨M4, e4, R4, K4⟩ := tc65f (d := d) (w := w) (S := xs S M3) (q := q) (m := m + 1) (k := m + 1) (z := zz) (v4 := xI x) hq (by omega) (by omega) (tX_e (K3.2.1 2 (by omega)) (K3.1 0 2 (by omega)) X2) (by rw [xm_xs, K3.1 0 44 (by omega)]; exact e12) (rC_e (by rw [xm_xs, hM3, xw_r (by omega)]) R2)
          rw [xs_xs] at e4
          rw [xm_xs] at K4
          exact ⟨M4, pre.trans e4, R4, kP_tr KK (kP_tr K3 K4), fun a' ha => by cases ha⟩
        · rw [if_neg (by rw [xn_lt (by omega) (by omega)]; exact qm), show xr_Call (d + 5) 83 [xP 0 1, xI (nI 3), xI (xm (xs S M2) 0 1 4)] ([], w) (xs S M2) = _ from tc83f (d := d + 4) (S := xs S M2) R2 _ _, xr_cV_s, xh65_73, xn_add] at pre
          obtain ⟨M4, e4, R4, K4⟩ := tc65f (d := d) (w := w) (S := xs S M2) (q := q) (m := m) (k := m + 1) (z := zz) (v4 := xI x) hq (by omega) (by omega) X2 e12 R2
          rw [xs_xs] at e4
          rw [xm_xs] at K4
          exact ⟨M4, pre.trans e4, R4, kP_tr KK K4, fun a' ha => by cases ha⟩
      | inl c =>
        rw [hp] at R2
        obtain ⟨ex, e4⟩ := E2 _ c rfl hp
        rw [sk_sk] at e4
        dsimp only
        by_cases qm : m = 6
        · rw [if_pos qm]
          have hle : sk tb n a ≤ n := sk_le R.2.2.2
          obtain ⟨M3, q3, K3, R3, _⟩ := tc83 (d := d + 4) (w := w) (S := xs S M2) (k := 3) (p := sk tb n a) (by omega) hle R2
          rw [if_neg (by rw [xn_lt (by omega) (by omega)]; omega), show xm (xs S M2) 0 1 4 = nI (sk tb n a) from e4, show xr_Call (d + 5) 83 [xP 0 1, xI (nI 3), xI (nI (sk tb n a))] ([], w) (xs S M2) = _ from q3, xr_cV_s, xh65_73, xn_add, xs_xs] at pre
          rw [xm_xs] at K3
          have R3 : rC M3 n (.inr (3, sk tb n a)) := R3
          obtain ⟨M4, e5, R4, K4⟩ := tc65f (d := d) (w := w) (S := xs S M3) (q := q) (m := m) (k := m + 1) (z := (3, sk tb n a)) (v4 := xI x) hq (by omega) (by omega) (tX_k K3 X2) (by rw [xm_xs, K3.1 0 44 (by omega)]; exact e12) R3
          rw [xs_xs] at e5
          rw [xm_xs] at K4
          exact ⟨M4, pre.trans e5, R4, kP_tr KK (kP_tr (kC_P K3) K4), fun a' ha => by cases ha⟩
        · rw [if_neg qm]
          rw [if_pos (by rw [xn_lt (by omega) (by omega)]; omega), e12, xn_mul, xn_add, xi_t (by omega) (by omega), cond_true, xn_k (by omega), xn_add, xs_xs, xm_xs, xh65_73, xn_add, ex] at pre
          obtain ⟨M3, hM3⟩ : ∃ M3, M3 = xw M2 0 51 (q * 6 + m) (nI (pNum tb n 0 10 (.inl (sk tb n a))).1) := ⟨_, rfl⟩
          have K3 : kP q M2 M3 := by
            rw [hM3]
            exact ⟨fun b e g => xw_r (by omega), fun k g => xw_n (by omega), fun k g => xw_n (by omega), fun j g => xw_n (by omega)⟩
          rw [← hM3] at pre
          obtain ⟨M4, e5, R4, K4, Z4⟩ := tc65L hq f (m + 1) c (fun j => if j = m then (pNum tb n 0 10 (.inl (sk tb n a))).1 else D j) (xs S M3) (xI (nI (pNum tb n 0 10 (.inl (sk tb n a))).1)) (by omega) (by omega) (tX_e (K3.2.1 2 (by omega)) (K3.1 0 2 (by omega)) X2) (rC_e (by rw [xm_xs, hM3, xw_r (by omega)]) R2) (by rw [xm_xs, K3.1 0 44 (by omega)]; exact e12) (fun i hi => by
            rw [xm_xs, hM3]
            by_cases qi : i = m
            · rw [if_pos qi, xw_y (by omega)]
            · rw [if_neg qi, xw_n (by omega)]; exact E3 i hi)
          rw [xs_xs] at e5
          rw [xm_xs] at K4
          exact ⟨M4, pre.trans e5, R4, kP_tr KK (kP_tr K3 K4), Z4⟩
theorem tc65 {S : xr_S} {q : Nat} {r : tR} (hq : q < 8) (X : tX (xm S) tb n) (R : rC (xm S) n r) (e1 : xm S 0 44 1 = nI q) (E : ∀ i, i < 6 → xm S 0 51 (q * 6 + i) = nI 0) : ∃ M, xr_Call (d + 6) 65 [xP 0 44, xP 0 1] ([], w) S = some (.inl none, ([], w), xs S M) ∧ rC M n (hPlr tb n r).1 ∧ kP q (xm S) M ∧ ∀ a', (hPlr tb n r).1 = .inl a' → M 0 50 q = nI (hPlr tb n r).2.1 ∧ ∀ i, i < 6 → M 0 51 (q * 6 + i) = nI ((hPlr tb n r).2.2 i) := by
  rw [xe65]
  cases r with
  | inl a => exact tc65L hq 7 0 a (fun _ => 0) S xU rfl (by omega) X R e1 E
  | inr z =>
    obtain ⟨M, e2, R2, K2⟩ := tc65f (d := d) (w := w) (S := S) (q := q) (m := 0) (k := 0) (z := z) (v4 := xU) hq (by omega) (by omega) X e1 R
    exact ⟨M, e2, R2, K2, fun a' ha => by cases ha⟩
end
