/-! THE THUMB'S TEXT: abstract, class -/
abbrev uX := Nat × (Nat → Nat) × (Nat → Option Nat)
abbrev uS := tR × uX
def uFin (tb : Nat → Nat) (n : Nat) (r : tR) (v1 : Nat) (X : uX) : uS := match pSgn tb n 59 (pNum tb n 0 10 r).2 with
  | .inl b => (.inl b, X.1 + 1, (fun k => if k = X.1 then v1 else X.2.1 k), (fun i => if i = v1 then some (pNum tb n 0 10 r).1 else X.2.2 i))
  | .inr q => (.inr q, X)
def uTwo (tb : Nat → Nat) (n b : Nat) (fl : Nat → Option Nat) : tR := match (pNum tb n 0 6 (.inl b)).2 with
  | .inl c => if fl (pNum tb n 0 6 (.inl b)).1 = none then .inl c else .inr (2, b)
  | .inr q => .inr q
def uStp (tb : Nat → Nat) (n b : Nat) (X : uX) : uS := uFin tb n (uTwo tb n b X.2.2) (pNum tb n 0 6 (.inl b)).1 X
def uItr (tb : Nat → Nat) (n : Nat) : Nat → uS → uS
  | 0, s => s
  | _ + 1, (.inr q, X) => (.inr q, X)
  | m + 1, (.inl a, X) => if sk tb n a < n then uItr tb n m (uStp tb n (sk tb n a) X) else (.inl (sk tb n a), X)
def cTh (M : xr_M) (n : Nat) (s : uS) : Prop := rC M n s.1 ∧ ∀ a, s.1 = .inl a → M 0 66 2 = nI s.2.1 ∧ ∀ i, i < 6 → M 0 67 i = oI (s.2.2.2 i)
def kT (M M' : xr_M) : Prop := (∀ b e, ¬ (b = 0 ∧ (e = 1 ∨ e = 66 ∨ e = 67)) → M' b e = M b e) ∧ ∀ k, k < 3 → M' 0 1 k = M 0 1 k
theorem kT_rf (M : xr_M) : kT M M := ⟨fun _ _ _ => rfl, fun _ _ => rfl⟩
theorem kT_tr {M M' M'' : xr_M} (h : kT M M') (h' : kT M' M'') : kT M M'' := ⟨fun b e q => (h'.1 b e q).trans (h.1 b e q), fun k q => (h'.2 k q).trans (h.2 k q)⟩
theorem kC_T {M M' : xr_M} (h : kC M M') : kT M M' := ⟨fun b e q => h.1 b e (by omega), h.2⟩
section
variable {d : Nat} {w : List Nat} {S : xr_S} {tb : Nat → Nat} {n : Nat}
theorem tX_T {M M' : xr_M} (K : kT M M') (X : tX M tb n) : tX M' tb n := ⟨X.1, X.2.1, by rw [K.2 2 (by omega)]; exact X.2.2.1, fun k hk => by rw [K.1 0 2 (by omega)]; exact X.2.2.2 k hk⟩
theorem uItr_r {q : Nat × Nat} {X : uX} : ∀ m, uItr tb n m (.inr q, X) = (.inr q, X)
  | 0 => rfl
  | _ + 1 => rfl
theorem pNum_b {lo hn a a' : Nat} (h : (pNum tb n lo hn (.inl a)).2 = .inl a') : (pNum tb n lo hn (.inl a)).1 < hn := by
  by_cases q : sk tb n a < n ∧ tdig (tb (sk tb n a)) = true
  · by_cases q2 : lo ≤ dval tb (dend tb n (sk tb n a) - sk tb n a) (sk tb n a) 0 ∧ dval tb (dend tb n (sk tb n a) - sk tb n a) (sk tb n a) 0 < hn
    · rw [pNum_y q q2]; exact q2.2
    · rw [pNum_n q q2] at h; cases h
  · rw [show pNum tb n lo hn (.inl a) = (0, .inr (1, sk tb n a)) from if_neg q] at h; cases h
theorem hi9 {c : Nat} (hc : c ≤ 100000) : ∀ v, v ≤ 100000 → ((nI c < nI v) ↔ c + 1 ≤ v) := fun v hv => by rw [xn_lt (by omega) (by omega)]; omega
theorem tc94g {r : tR} {v1 v2 : Nat} {x6 : Int32} {X : uX} (h6 : ∀ a, r = .inl a → x6 = nI v1 ∧ v1 < 6) (hX : X.1 < 1000) (T : tX (xm S) tb n) (C : cTh (xm S) n (r, X)) : ∃ M x10, (xr_cI ([], w) (xr_Call (d + 2) 87 [xP 0 1, xI (nI 0), xI (nI 9)] ([], w) S) (fun x10 S9 => (xr_cI ([], w) (xr_Call (d + 2) 82 [xP 0 1] ([], w) S9) (fun x12 S11 => (if x12 = (nI 0) then (xr_cV ([], w) (xr_Call (d + 2) 91 [xP 0 1, xI (nI 59)] ([], w) S11) (fun S13 => (xr_Run (d + 2) 94 6 [xP 0 66, xP 0 1, xI (nI v2 + (nI 1)), xI x6, xI x10] [] ([], w) S13))) else (cond (xr_in x6 6) (xr_cV ([], w) (xr_Call (d + 2) 91 [xP 0 1, xI (nI 59)] ([], w) (xs S11 (xw (xw (xm S11) 0 67 (xk x6) x10) 0 66 2 (((xw (xm S11) 0 67 (xk x6) x10) 0 66 2) + (nI 1))))) (fun S14 => (xr_Run (d + 2) 94 6 [xP 0 66, xP 0 1, xI (nI v2 + (nI 1)), xI x6, xI x10] [] ([], w) S14))) none)))))) = xr_Run (d + 2) 94 6 [xP 0 66, xP 0 1, xI (nI v2 + (nI 1)), xI x6, xI x10] [] ([], w) (xs S M) ∧ kT (xm S) M ∧ cTh M n (uFin tb n r v1 X) := by
  obtain ⟨M1, x10, q1, K1, R1, E1⟩ := tc87 (d := d) (w := w) (lo := 0) (hn := 10) (by omega) (hi9 (c := 9) (by omega)) T C.1
  have T1 : tX (xm (xs S M1)) tb n := tX_T (kC_T K1) T
  rw [q1, xr_cI_s, tc82 (S := xs S M1) R1, xr_cI_s]
  unfold uFin
  rcases h2 : (pNum tb n 0 10 r).2 with b | q
  · rw [h2] at R1
    obtain ⟨a, rfl⟩ : ∃ a, r = .inl a := by
      cases r with
      | inl a => exact ⟨a, rfl⟩
      | inr q => cases h2
    obtain ⟨rfl, h6⟩ := h6 a rfl
    obtain ⟨c1, c2⟩ := C.2 a rfl
    have hv := pNum_b h2
    obtain ⟨e10, _⟩ := E1 a b rfl h2
    subst e10
    rw [if_neg (show ¬ rso (.inl b) = nI 0 from by unfold rso; rw [xn_eq (by omega) (by omega)]; omega)]
    simp (disch := omega) only [xi_t, xn_k, cond_true, xm_xs, xs_xs]
    have F0 : M1 0 66 = xm S 0 66 := K1.1 0 66 (by omega)
    have F7 : M1 0 67 = xm S 0 67 := K1.1 0 67 (by omega)
    have e2 : xw M1 0 67 v1 (nI (pNum tb n 0 10 (.inl a)).1) 0 66 2 = nI X.1 := by rw [xw_n (by omega), F0]; exact c1
    rw [e2, xn_add X.1 1]
    obtain ⟨M2, hM2⟩ : ∃ M2, M2 = xw (xw M1 0 67 v1 (nI (pNum tb n 0 10 (.inl a)).1)) 0 66 2 (nI (X.1 + 1)) := ⟨_, rfl⟩
    have K2 : kT M1 M2 := by rw [hM2]; exact ⟨fun b e h => by rw [xw_r (by omega), xw_r (by omega)], fun k hk => by rw [xw_n (by omega), xw_n (by omega)]⟩
    have E21 : M2 0 1 = M1 0 1 := by rw [hM2, xw_r (by omega), xw_r (by omega)]
    have R2 : rC (xm (xs S M2)) n (.inl b) := by
      rw [xm_xs]
      unfold rC at R1 ⊢
      rw [E21]
      exact R1
    obtain ⟨M3, q3, K3, R3⟩ := tc91 (d := d) (w := w) (S := xs S M2) (tX_T (kT_tr (kC_T K1) K2) T) R2 (c := 59) (by omega)
    rw [xs_xs] at q3
    rw [xm_xs] at K3
    rw [← hM2, q3, xr_cV_s]
    refine ⟨M3, _, rfl, kT_tr (kC_T K1) (kT_tr K2 (kC_T K3)), ?_⟩
    rcases h3 : pSgn tb n 59 (.inl b) with c | q
    · rw [h3] at R3
      refine ⟨R3, fun _ _ => ⟨?_, fun i hi => ?_⟩⟩
      · rw [K3.1 0 66 (by omega), hM2, xw_y (by omega)]
      · rw [K3.1 0 67 (by omega), hM2, xw_n (by omega)]
        dsimp only
        by_cases hi2 : i = v1
        · rw [if_pos hi2, hi2, xw_y (by omega)]; rfl
        · rw [if_neg hi2, xw_n (by omega), F7]; exact c2 i hi
    · rw [h3] at R3
      exact ⟨R3, fun a h => nomatch h⟩
  · rw [h2] at R1
    rw [if_pos (show rso (.inr q) = nI 0 from rfl)]
    obtain ⟨M3, q3, K3, R3⟩ := tc91 (d := d) (w := w) (S := xs S M1) T1 R1 (c := 59) (by omega)
    rw [xs_xs] at q3
    rw [xm_xs] at K3
    rw [q3, xr_cV_s]
    exact ⟨M3, _, rfl, kT_tr (kC_T K1) (kC_T K3), R3, fun a h => nomatch h⟩
theorem uFin_r {q : Nat × Nat} {v1 : Nat} {X : uX} : uFin tb n (.inr q) v1 X = (.inr q, X) := rfl
theorem uFin_n {r : tR} {v1 : Nat} {X : uX} : (uFin tb n r v1 X).2.1 ≤ X.1 + 1 := by
  unfold uFin
  split
  · exact Nat.le_refl _
  · exact Nat.le_succ _
theorem uFin_f {r : tR} {v1 : Nat} {X : uX} (h : ∀ i v, i < 6 → X.2.2 i = some v → v ≤ 9) : ∀ i v, i < 6 → (uFin tb n r v1 X).2.2.2 i = some v → v ≤ 9 := by
  intro i v hi e
  unfold uFin at e
  split at e
  · rename_i b hb
    dsimp only at e
    obtain ⟨c, hc, _⟩ := pSgn_a hb
    cases r with
    | inr q => cases hc
    | inl a =>
      have := pNum_b hc
      by_cases q : i = v1
      · rw [if_pos q] at e; cases e; omega
      · rw [if_neg q] at e; exact h i v hi e
  · exact h i v hi e
theorem tc94L : ∀ (m : Nat) (S : xr_S) (s : uS) (v2 : Nat) (x y : xr_V), v2 + m = 60 → s.2.1 ≤ v2 → (∀ i v, i < 6 → s.2.2.2 i = some v → v ≤ 9) → tX (xm S) tb n → cTh (xm S) n s → ∃ M, xr_Run (d + 2) 94 6 [xP 0 66, xP 0 1, xI (nI v2), x, y] [] ([], w) S = some (.inl none, ([], w), xs S M) ∧ kT (xm S) M ∧ cTh M n (uItr tb n m s)
  | 0, S, s, v2, x, y, hv, hl, hf, T, C => by
    refine ⟨xm S, ?_, kT_rf _, C⟩
    refine (xg94_6 _ _ _ _ _ _).trans ?_
    rw [if_neg (by rw [xn_lt (by omega) (by omega)]; omega), xs_xm]
  | m + 1, S, (.inr q, X), v2, x, y, hv, hl, hf, T, C => by
    refine ⟨xm S, ?_, kT_rf _, C⟩
    refine (xg94_6 _ _ _ _ _ _).trans ?_
    rw [if_pos (by rw [xn_lt (by omega) (by omega)]; omega), tc82 (r := .inr q) C.1, xr_cI_s, if_pos (show rso (.inr q) = nI 0 from rfl), xs_xm]
  | m + 1, S, (.inl a, X), v2, x, y, hv, hl, hf, T, C => by
    dsimp only at hl
    obtain ⟨M1, v, b0, q1, K1, R1, _, ev, _⟩ := tc84r (d := d + 1) (w := w) T C.1
    have ev := ev a rfl
    have R1 : rC M1 n (.inl (sk tb n a)) := R1
    have T1 : tX (xm (xs S M1)) tb n := tX_T (kC_T K1) T
    obtain ⟨c1, c2⟩ := C.2 a rfl
    have n1 : ¬ nI 1 = nI 0 := by rw [xn_eq (by omega) (by omega)]; omega
    by_cases hk : sk tb n a < n
    · obtain ⟨b, hb⟩ : ∃ b, b = sk tb n a := ⟨_, rfl⟩
      have hbb : sk tb n b = b := by rw [hb, sk_sk]
      rw [← hb] at R1 hk
      obtain ⟨M2, x6, q2, K2, R2, E2⟩ := tc87 (d := d) (w := w) (S := xs S M1) (lo := 0) (hn := 6) (by omega) (hi9 (c := 5) (by omega)) T1 R1
      rw [xs_xs] at q2
      rw [xm_xs] at K2
      have K2' := kT_tr (kC_T K1) (kC_T K2)
      have T2 : tX (xm (xs S M2)) tb n := tX_T K2' T
      have f6 : M2 0 66 = xm S 0 66 := by rw [K2.1 0 66 (by omega), K1.1 0 66 (by omega)]
      have f7 : M2 0 67 = xm S 0 67 := by rw [K2.1 0 67 (by omega), K1.1 0 67 (by omega)]
      have ei : uItr tb n (m + 1) (.inl a, X) = uItr tb n m (uFin tb n (uTwo tb n b X.2.2) (pNum tb n 0 6 (.inl b)).1 X) := by
        rw [hb] at hk ⊢
        exact if_pos hk
      have nv : ¬ v = -1 := by
        rw [ev, ← hb]
        unfold tv
        rw [if_pos hk]
        have := T.2.1 b
        exact fun h => (xn_m1 (show tb b < 2147483648 by omega)).mp h
      have fin : ∀ (r : tR) (M3 : xr_M) (x10 x6 : Int32), uTwo tb n b X.2.2 = r → kT (xm S) M3 → cTh M3 n (uFin tb n r (pNum tb n 0 6 (.inl b)).1 X) → ∃ M, xr_Run (d + 2) 94 6 [xP 0 66, xP 0 1, xI (nI v2 + nI 1), xI x6, xI x10] [] ([], w) (xs S M3) = some (.inl none, ([], w), xs S M) ∧ kT (xm S) M ∧ cTh M n (uItr tb n (m + 1) (.inl a, X)) := by
        intro r M3 x10 x6 hr K3 C3
        have hn3 := uFin_n (tb := tb) (n := n) (r := r) (v1 := (pNum tb n 0 6 (.inl b)).1) (X := X)
        obtain ⟨M4, q4, K4, C4⟩ := tc94L m (xs S M3) (uFin tb n r (pNum tb n 0 6 (.inl b)).1 X) (v2 + 1) (xI x6) (xI x10) (by omega) (by omega) (uFin_f hf) (tX_T K3 T) C3
        rw [xs_xs] at q4
        rw [xm_xs] at K4
        refine ⟨M4, ?_, kT_tr K3 K4, ?_⟩
        · rw [xn_add v2 1]; exact q4
        · rw [ei, hr]; exact C4
      have go : ∀ z, xr_cI ([], w) (xr_Call (d + 2) 82 [xP 0 1] ([], w) (xs S M2)) z = z (rso (pNum tb n 0 6 (.inl b)).2) (xs S M2) := fun z => by rw [tc82 (S := xs S M2) R2, xr_cI_s]
      rcases h2 : (pNum tb n 0 6 (.inl b)).2 with b1 | q
      · rw [h2] at R2
        obtain ⟨e6, e4⟩ := E2 b b1 rfl h2
        subst e6
        have hv1 := pNum_b h2
        have c7 : M2 0 67 (pNum tb n 0 6 (.inl b)).1 = oI (X.2.2 (pNum tb n 0 6 (.inl b)).1) := by rw [f7]; exact c2 _ hv1
        have c7' : xm (xs S M2) 0 67 (xk (nI (pNum tb n 0 6 (.inl b)).1)) = oI (X.2.2 (pNum tb n 0 6 (.inl b)).1) := by rw [xn_k (by omega), xm_xs]; exact c7
        have hc : ∀ {α : Type} (A B : α), cond (xr_in (nI (pNum tb n 0 6 (.inl b)).1) 6) A B = A := fun A B => by rw [xi_t hv1 (by omega)]; rfl
        rcases h3 : X.2.2 (pNum tb n 0 6 (.inl b)).1 with _ | u
        · rw [h3] at c7'
          obtain ⟨M3, x10, q3, K3, C3⟩ := tc94g (d := d) (w := w) (S := xs S M2) (r := .inl b1) (v1 := (pNum tb n 0 6 (.inl b)).1) (v2 := v2) (x6 := nI (pNum tb n 0 6 (.inl b)).1) (X := X) (fun _ _ => ⟨rfl, hv1⟩) (by omega) T2 ⟨R2, fun _ _ => ⟨by rw [xm_xs, f6]; exact c1, by rw [xm_xs, f7]; exact c2⟩⟩
          rw [xs_xs] at q3
          rw [xm_xs] at K3
          obtain ⟨M4, q4, K4, C4⟩ := fin (.inl b1) M3 x10 (nI (pNum tb n 0 6 (.inl b)).1) (by unfold uTwo; rw [h2]; exact if_pos h3) (kT_tr K2' K3) C3
          refine ⟨M4, ?_, K4, C4⟩
          refine (xg94_6 _ _ _ _ _ _).trans ?_
          rw [if_pos (by rw [xn_lt (by omega) (by omega)]; omega), tc82 (r := .inl a) C.1, xr_cI_s, if_neg (show ¬ rso (.inl a) = nI 0 from n1), show xr_Call (d + 2) 84 [xP 0 1] ([], w) S = _ from q1, xr_cI_s, if_neg nv, q2, xr_cI_s, go, h2, if_neg (show ¬ rso (.inl b1) = nI 0 from n1), hc, c7', if_pos (show oI none = -1 from rfl)]
          exact q3.trans q4
        · rw [h3] at c7'
          have hu := hf _ _ hv1 h3
          have n7 : ¬ oI (some u) = -1 := fun h => (xn_m1 (show u < 2147483648 by omega)).mp h
          rw [hbb] at e4
          obtain ⟨M5, q5, K5, R5, _⟩ := tc83 (d := d + 1) (w := w) (S := xs S M2) (k := 2) (p := b) (by omega) (by omega) R2
          rw [xs_xs] at q5
          rw [xm_xs] at K5
          have R5 : rC M5 n (.inr (2, b)) := R5
          have K5' := kT_tr K2' (kC_T K5)
          obtain ⟨M3, x10, q3, K3, C3⟩ := tc94g (d := d) (w := w) (S := xs S M5) (r := .inr (2, b)) (v1 := (pNum tb n 0 6 (.inl b)).1) (v2 := v2) (x6 := nI (pNum tb n 0 6 (.inl b)).1) (X := X) (fun _ h => nomatch h) (by omega) (tX_T K5' T) ⟨R5, fun _ h => nomatch h⟩
          rw [xs_xs] at q3
          rw [xm_xs] at K3
          obtain ⟨M4, q4, K4, C4⟩ := fin (.inr (2, b)) M3 x10 (nI (pNum tb n 0 6 (.inl b)).1) (by unfold uTwo; rw [h2]; exact if_neg (by rw [h3]; exact fun h => nomatch h)) (kT_tr K5' K3) C3
          refine ⟨M4, ?_, K4, C4⟩
          refine (xg94_6 _ _ _ _ _ _).trans ?_
          rw [if_pos (by rw [xn_lt (by omega) (by omega)]; omega), tc82 (r := .inl a) C.1, xr_cI_s, if_neg (show ¬ rso (.inl a) = nI 0 from n1), show xr_Call (d + 2) 84 [xP 0 1] ([], w) S = _ from q1, xr_cI_s, if_neg nv, q2, xr_cI_s, go, h2, if_neg (show ¬ rso (.inl b1) = nI 0 from n1), hc, c7', if_neg n7, show xm (xs S M2) 0 1 4 = nI b from e4, show xr_Call (d + 2) 83 [xP 0 1, xI (nI 2), xI (nI b)] ([], w) (xs S M2) = _ from q5, xr_cV_s]
          exact q3.trans q4
      · rw [h2] at R2
        obtain ⟨M3, x10, q3, K3, C3⟩ := tc94g (d := d) (w := w) (S := xs S M2) (r := .inr q) (v1 := (pNum tb n 0 6 (.inl b)).1) (v2 := v2) (x6 := x6) (X := X) (fun _ h => nomatch h) (by omega) T2 ⟨R2, fun _ h => nomatch h⟩
        rw [xs_xs] at q3
        rw [xm_xs] at K3
        obtain ⟨M4, q4, K4, C4⟩ := fin (.inr q) M3 x10 x6 (by unfold uTwo; rw [h2]) (kT_tr K2' K3) C3
        refine ⟨M4, ?_, K4, C4⟩
        refine (xg94_6 _ _ _ _ _ _).trans ?_
        rw [if_pos (by rw [xn_lt (by omega) (by omega)]; omega), tc82 (r := .inl a) C.1, xr_cI_s, if_neg (show ¬ rso (.inl a) = nI 0 from n1), show xr_Call (d + 2) 84 [xP 0 1] ([], w) S = _ from q1, xr_cI_s, if_neg nv, q2, xr_cI_s, go, h2, if_pos (show rso (.inr q) = nI 0 from rfl)]
        exact q3.trans q4
    · refine ⟨M1, ?_, kC_T K1, ?_⟩
      · refine (xg94_6 _ _ _ _ _ _).trans ?_
        rw [if_pos (by rw [xn_lt (by omega) (by omega)]; omega), tc82 (r := .inl a) C.1, xr_cI_s, if_neg (show ¬ rso (.inl a) = nI 0 from n1), show xr_Call (d + 2) 84 [xP 0 1] ([], w) S = _ from q1, xr_cI_s, ev, if_pos (by unfold tv; rw [if_neg hk])]
      · rw [show uItr tb n (m + 1) (.inl a, X) = (.inl (sk tb n a), X) from if_neg hk]
        exact ⟨R1, fun _ _ => ⟨by rw [K1.1 0 66 (by omega)]; exact c1, by rw [K1.1 0 67 (by omega)]; exact c2⟩⟩
end
