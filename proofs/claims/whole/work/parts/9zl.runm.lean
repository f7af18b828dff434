/-! THE WORK'S STEPS: the model, all steps -/
def rmA (M : xr_M) (A : aS) : Prop := (M 0 69 40 = nI A.1 ∧ M 0 69 41 = nI A.2.1 ∧ M 0 69 37 = nI A.2.2.1) ∧ e5 A.2.2.2.1 (M 0 89) ∧ xhM (M 0 89) A.2.2.2.2.1 A.2.2.2.2.2
def kG (M M' : xr_M) : Prop := (∀ b e, ¬ (b = 0 ∧ (e = 69 ∨ e = 86 ∨ e = 87 ∨ e = 89)) → M' b e = M b e) ∧ ∀ k, ¬ (k = 37 ∨ k = 40 ∨ k = 41) → M' 0 69 k = M 0 69 k
theorem kG_rf (M : xr_M) : kG M M := ⟨fun _ _ _ => rfl, fun _ _ => rfl⟩
theorem kG_tr {M M' M'' : xr_M} (h : kG M M') (h' : kG M' M'') : kG M M'' := ⟨fun b e q => (h'.1 b e q).trans (h.1 b e q), fun k q => (h'.2 k q).trans (h.2 k q)⟩
theorem kG_w (M : xr_M) {k : Nat} (hk : k = 37 ∨ k = 40 ∨ k = 41) (v : Int32) : kG M (xw M 0 69 k v) := ⟨fun b e q => by rw [xw_r (by omega)], fun j hj => by rw [xw_n (by omega)]⟩
theorem kG_f {M M' : xr_M} (h : ∀ b e, ¬ (b = 0 ∧ (e = 89 ∨ e = 86 ∨ e = 87)) → M' b e = M b e) : kG M M' := ⟨fun b e q => h b e (by omega), fun k _ => by rw [h 0 69 (by omega)]⟩
def sM (M : xr_M) (np nq ch st : Nat) (du pl : Nat → Nat) (dy : Nat → Int32) (dp : Nat → Nat → Nat) (sz : Nat) (kd : Nat → Nat) (gv : Nat → Int32) (X : wX) : Prop := xPl M np nq ch st du pl dy dp ∧ xLm M sz kd gv ∧ mRows M (fun _ => false) X
section
variable {np nq ch st : Nat} {du pl : Nat → Nat} {dy : Nat → Int32} {dp : Nat → Nat → Nat} {sz : Nat} {kd : Nat → Nat} {gv : Nat → Int32} {X : wX} {lv : Nat → Nat} {DO : Nat × Nat × Nat × Nat → aG → Bool × aG} {w : List Nat}
theorem sM_k {M M' : xr_M} (K : kG M M') (H : sM M np nq ch st du pl dy dp sz kd gv X) : sM M' np nq ch st du pl dy dp sz kd gv X := by
  refine ⟨xPl_fr (fun b e he => K.1 b e (by omega)) H.1, xLm_fr (fun k => K.1 k 1082 (by omega)) (K.2 21 (by omega)) H.2.1, fun j hj => ?_⟩
  unfold mRw
  rw [K.1 j 1088 (by omega)]
  exact H.2.2 j hj
/-- one step, as the model does it -/
def GD (w : List Nat) (np nq ch st : Nat) (du pl : Nat → Nat) (dy : Nat → Int32) (dp : Nat → Nat → Nat) (sz : Nat) (kd : Nat → Nat) (gv : Nat → Int32) (X : wX) (DO : Nat × Nat × Nat × Nat → aG → Bool × aG) : Prop := ∀ (d : Nat) (S : xr_S) (j : Nat) (G : aG), sM (xm S) np nq ch st du pl dy dp sz kd gv X → j < X.1 → (X.2.1 j).1 ≠ 5 → aGk np nq pl G → e5 G.1 (xm S 0 89) → xhM (xm S 0 89) G.2.1 G.2.2 → ∃ M, xr_Call (d + 6) 211 [xP 0 69, xP 0 89, xP j 1088] ([], w) S = some (.inl (some (cond (DO (X.2.1 j) G).1 (nI 1) (nI 0))), ([], w), xs S M) ∧ e5 (DO (X.2.1 j) G).2.1 (M 0 89) ∧ xhM (M 0 89) (DO (X.2.1 j) G).2.2.1 (DO (X.2.1 j) G).2.2.2 ∧ ∀ b e, ¬ (b = 0 ∧ (e = 89 ∨ e = 86 ∨ e = 87)) → M b e = xm S b e
theorem rmA_w {M : xr_M} {A : aS} (C : rmA M A) : rmA (xw M 0 69 40 (nI (A.1 + 1))) (A.1 + 1, A.2) := by
  obtain ⟨⟨c1, c2, c3⟩, c4, c5⟩ := C
  refine ⟨⟨xw_y (by omega), by rw [xw_n (by omega)]; exact c2, by rw [xw_n (by omega)]; exact c3⟩, ?_, ?_⟩
  · rw [xw_r (by omega)]; exact c4
  · rw [xw_r (by omega)]; exact c5
theorem xw2_89 {M : xr_M} {k k' : Nat} {v v' : Int32} : xw (xw M 0 69 k v) 0 69 k' v' 0 89 = M 0 89 := by rw [xw_r (by omega), xw_r (by omega)]
theorem rm212 {d : Nat} (hX : X.1 < 80) (hS : wSeg np nq X lv 0 0 X.1) (HD : GD w np nq ch st du pl dy dp sz kd gv X DO) (hD : ∀ j G, j < X.1 → (X.2.1 j).1 ≠ 5 → aGk np nq pl G → aGk np nq pl (DO (X.2.1 j) G).2) : ∀ (m lvl i b : Nat) (a1 : Int32) (v4 : xr_V) (A : aS) (S : xr_S), lvl ≤ 6 → i ≤ b → b - i ≤ m → b ≤ X.1 → (∀ j, i ≤ j → j < b → lvl ≤ lv j ∧ X.2.2 j ≤ b) → sM (xm S) np nq ch st du pl dy dp sz kd gv X → rmA (xm S) A → aOk np nq pl A → ∃ M, xr_Run (d + (6 - lvl) + 6) 212 2 [xP 0 69, xI a1, xI (nI b), xI (nI i), v4] [] ([], w) S = some (.inl none, ([], w), xs S M) ∧ rmA M (aRun DO X m i b A) ∧ kG (xm S) M := by
  have hE : ∀ j, j < X.1 → X.2.2 j ≤ X.1 := fun j hj => ((hS j (Nat.zero_le _) hj).1).2.1
  intro m
  induction m with
  | zero =>
    intro lvl i b a1 v4 A S h1 hib h2 h3 h5 T C O
    refine ⟨xm S, ?_, C, kG_rf _⟩
    refine (xg212_2 _ _ _ _ _ _ _).trans ?_
    rw [if_neg (by rw [xn_lt (by omega) (by omega)]; omega), xs_xm]
  | succ m ih =>
    intro lvl i b a1 v4 A S h1 hib h2 h3 h5 T C O
    have pre : xr_Run (d + (6 - lvl) + 6) 212 2 [xP 0 69, xI a1, xI (nI b), xI (nI i), v4] [] ([], w) S = _ := xg212_2 _ _ _ _ _ _ _
    by_cases q1 : i < b
    rotate_left
    · rw [if_neg (show ¬ nI i < nI b by rw [xn_lt (by omega) (by omega)]; exact q1)] at pre
      exact ⟨xm S, pre, by rw [aRun, if_neg (fun q => q1 q.1)]; exact C, kG_rf _⟩
    rw [if_pos (show nI i < nI b by rw [xn_lt (by omega) (by omega)]; exact q1), C.1.1] at pre
    have O1 := O.1
    by_cases q2 : A.1 < 200
    rotate_left
    · rw [if_neg (show ¬ nI A.1 < nI 200 by rw [xn_lt (by omega) (by omega)]; exact q2)] at pre
      exact ⟨xm S, pre, by rw [aRun, if_neg (fun q => q2 q.2)]; exact C, kG_rf _⟩
    have hi : i < X.1 := by omega
    obtain ⟨⟨s1, s2, s3, s4, s5⟩, s6⟩ := hS i (Nat.zero_le _) hi
    obtain ⟨l1, l2⟩ := h5 i (Nat.le_refl _) q1
    obtain ⟨T1, T2⟩ := T.2.2 i hi
    have i80 : xr_in (nI i) 80 = true := xi_t (by omega) (by omega)
    have i0 : xr_in (nI 0) 5 = true := xi_t (by omega) (by omega)
    have i1 : xr_in (nI 1) 5 = true := xi_t (by omega) (by omega)
    have i4 : xr_in (nI 4) 5 = true := xi_t (by omega) (by omega)
    have ki : xk (nI i) = i := xn_k (by omega)
    have k0 : xk (nI 0) = 0 := xn_k (by omega)
    have k1 : xk (nI 1) = 1 := xn_k (by omega)
    have k4 : xk (nI 4) = 4 := xn_k (by omega)
    rw [if_pos (show nI A.1 < nI 200 by rw [xn_lt (by omega) (by omega)]; exact q2), i80, cond_true, i0, cond_true, ki, k0, xn_add, xw_n (by omega), T1.1] at pre
    have K1 : kG (xm S) (xw (xm S) 0 69 40 (nI (A.1 + 1))) := kG_w _ (by omega) _
    have C1 := rmA_w C
    have O2 : aOk np nq pl (A.1 + 1, A.2) := ⟨by show A.1 + 1 ≤ 200; omega, O.2⟩
    generalize xw (xm S) 0 69 40 (nI (A.1 + 1)) = M1 at pre K1 C1
    have TT := sM_k K1 T
    have h5' : ∀ j, X.2.2 i ≤ j → j < b → lvl ≤ lv j ∧ X.2.2 j ≤ b := fun j g1 g2 => h5 j (by omega) g2
    rw [aRun, if_pos ⟨q1, q2⟩]
    by_cases k5 : (X.2.1 i).1 = 5
    · rw [k5, if_pos rfl] at pre
      rw [if_pos k5]
      have rep : ∀ (n t : Nat) (A : aS) (S : xr_S), t + n = (X.2.1 i).2.1 → sM (xm S) np nq ch st du pl dy dp sz kd gv X → rmA (xm S) A → aOk np nq pl A → ∃ M v, xr_Run (d + (6 - lvl) + 6) 212 42 [xP 0 69, xI a1, xI (nI b), xI (nI i), xI (nI t)] [] ([], w) S = xr_Run (d + (6 - lvl) + 6) 212 2 [xP 0 69, xI a1, xI (nI b), xI (nI (X.2.2 i)), v] [] ([], w) (xs S M) ∧ rmA M (aRep (aRun DO X m (i + 1) (X.2.2 i)) n A) ∧ kG (xm S) M := by
        intro n
        have f20 := s5.2.2.2.2.2 k5
        induction n with
        | zero =>
          intro t A S ht T C O
          obtain ⟨T1, T2⟩ := T.2.2 i hi
          have e23 := T1.2.1 (by omega)
          refine ⟨xm S, xI (nI t), ?_, C, kG_rf _⟩
          refine (xg212_42 _ _ _ _ _ _ _).trans ?_
          rw [i80, i1, i4, cond_true, cond_true, ki, k1, k4, e23, if_neg (by rw [xn_lt (by omega) (by omega)]; omega), cond_true, cond_true, T2 rfl, xs_xm]
        | succ n ihn =>
          intro t A S ht T C O
          obtain ⟨T1, T2⟩ := T.2.2 i hi
          have e23 := T1.2.1 (by omega)
          have l6 := s4 k5
          have OO := O.1
          by_cases qq : A.1 < 200
          rotate_left
          · refine ⟨xm S, xI (nI t), ?_, by rw [aRep_full qq]; exact C, kG_rf _⟩
            refine (xg212_42 _ _ _ _ _ _ _).trans ?_
            rw [i80, i1, i4, cond_true, cond_true, ki, k1, k4, e23, if_pos (by rw [xn_lt (by omega) (by omega)]; omega), C.1.1, if_neg (by rw [xn_lt (by omega) (by omega)]; omega), cond_true, cond_true, T2 rfl, xs_xm]
          obtain ⟨M2, e2, C2, K2⟩ := ih (lvl + 1) (i + 1) (X.2.2 i) (nI (i + 1)) xU A S (by omega) (by omega) (by omega) (by omega) (fun j g1 g2 => by
            obtain ⟨g3, g4⟩ := s6 j (by omega) g2
            exact ⟨by omega, g3⟩) T C O
          have e3 : xr_Call (d + (6 - lvl) + 6) 212 [xP 0 69, xI (nI (i + 1)), xI (nI (X.2.2 i))] ([], w) S = some (.inl none, ([], w), xs S M2) := by
            rw [show d + (6 - lvl) + 6 = (d + (6 - (lvl + 1)) + 6) + 1 by omega, xe212]
            exact e2
          obtain ⟨M3, v, e4, C3, K3⟩ := ihn (t + 1) _ (xs S M2) (by omega) (sM_k K2 T) C2 (aRun_ok hD hE m _ _ A (by omega) O)
          refine ⟨M3, v, ?_, C3, kG_tr K2 K3⟩
          refine (xg212_42 _ _ _ _ _ _ _).trans ?_
          rw [i80, i1, i4, cond_true, cond_true, ki, k1, k4, e23, if_pos (by rw [xn_lt (by omega) (by omega)]; omega), C.1.1, if_pos (by rw [xn_lt (by omega) (by omega)]; omega), cond_true, cond_true, T2 rfl, xn_add, e3, xr_cV_s, xn_add]
          exact e4
      obtain ⟨M2, v, e2, C2, K2⟩ := rep (X.2.1 i).2.1 0 _ (xs S M1) (by omega) TT C1 O2
      have O3 : aOk np nq pl (aRep (aRun DO X m (i + 1) (X.2.2 i)) (X.2.1 i).2.1 (A.1 + 1, A.2)) := aRep_ok (P := aOk np nq pl) (fun a ha => aRun_ok hD hE m _ _ a (by omega) ha) _ _ O2
      obtain ⟨M3, e3, C3, K3⟩ := ih lvl (X.2.2 i) b a1 v _ (xs (xs S M1) M2) h1 (by omega) (by omega) h3 h5' (sM_k K2 TT) C2 O3
      exact ⟨M3, pre.trans (e2.trans e3), C3, kG_tr K1 (kG_tr K2 K3)⟩
    · rw [if_neg (show ¬ nI (X.2.1 i).1 = nI 5 by rw [xn_eq (by have := s5.1; omega) (by omega)]; exact k5), cond_true] at pre
      rw [if_neg k5]
      obtain ⟨M2, e2, G2, H2, F2⟩ := HD (d + (6 - lvl)) (xs S M1) i A.2.2.2 TT hi k5 O.2 C1.2.1 C1.2.2
      have K2 : kG M1 M2 := kG_f F2
      have w69 : M2 0 69 = M1 0 69 := F2 0 69 (by omega)
      have w88 : M2 i 1088 = M1 i 1088 := F2 i 1088 (by omega)
      rw [e2, xr_cI_s] at pre
      have O3 : aOk np nq pl (aOne DO (X.2.1 i) (A.1 + 1, A.2)) := ⟨O2.1, hD i _ hi k5 O.2⟩
      obtain ⟨⟨c1, c2, c3⟩, _, _⟩ := C1
      dsimp only at c1 c2 c3
      have t4 := (TT.2.2 i hi).2 rfl
      cases hr : (DO (X.2.1 i) A.2.2.2).1 with
      | true =>
        have z : ¬ nI 1 = nI 0 := by decide
        rw [hr, cond_true, if_neg z, if_neg z, i4, cond_true, cond_true, k4, xm_xs, w69, c2, xn_add, xw_n (show ¬ (0 = 0 ∧ 69 = 69 ∧ 37 = 41) by omega), w69, c3, xn_add, xw_n (by omega), xw_n (by omega), w88, t4, xs_xs, xs_xs] at pre
        have K3 : kG M2 (xw (xw M2 0 69 41 (nI (A.2.1 + 1))) 0 69 37 (nI (A.2.2.1 + 0))) := kG_tr (kG_w _ (by omega) _) (kG_w _ (by omega) _)
        have C3 : rmA (xw (xw M2 0 69 41 (nI (A.2.1 + 1))) 0 69 37 (nI (A.2.2.1 + 0))) (aOne DO (X.2.1 i) (A.1 + 1, A.2)) := by
          refine ⟨⟨?_, ?_, ?_⟩, ?_, ?_⟩
          · rw [xw_n (by omega), xw_n (by omega), w69]; exact c1
          · rw [xw_n (by omega), xw_y (by omega)]; unfold aOne; dsimp only; rw [hr, if_pos rfl]
          · rw [xw_y (by omega)]; unfold aOne; dsimp only; rw [hr, if_pos rfl]; rfl
          · rw [xw2_89]; exact G2
          · rw [xw2_89]; exact H2
        obtain ⟨M3, e3, C4, K4⟩ := ih lvl (X.2.2 i) b a1 (xI (nI 1)) _ (xs S (xw (xw M2 0 69 41 (nI (A.2.1 + 1))) 0 69 37 (nI (A.2.2.1 + 0)))) h1 (by omega) (by omega) h3 h5' (sM_k (kG_tr K2 K3) TT) C3 O3
        exact ⟨M3, pre.trans e3, C4, kG_tr K1 (kG_tr K2 (kG_tr K3 K4))⟩
      | false =>
        rw [hr, cond_false, if_pos rfl, if_pos rfl, i4, cond_true, cond_true, k4, xm_xs, w69, c2, xn_add, xw_n (show ¬ (0 = 0 ∧ 69 = 69 ∧ 37 = 41) by omega), w69, c3, xn_add, xw_n (by omega), xw_n (by omega), w88, t4, xs_xs, xs_xs] at pre
        have K3 : kG M2 (xw (xw M2 0 69 41 (nI (A.2.1 + 0))) 0 69 37 (nI (A.2.2.1 + 1))) := kG_tr (kG_w _ (by omega) _) (kG_w _ (by omega) _)
        have C3 : rmA (xw (xw M2 0 69 41 (nI (A.2.1 + 0))) 0 69 37 (nI (A.2.2.1 + 1))) (aOne DO (X.2.1 i) (A.1 + 1, A.2)) := by
          refine ⟨⟨?_, ?_, ?_⟩, ?_, ?_⟩
          · rw [xw_n (by omega), xw_n (by omega), w69]; exact c1
          · rw [xw_n (by omega), xw_y (by omega)]; unfold aOne; dsimp only; rw [hr, if_neg (by decide)]; rfl
          · rw [xw_y (by omega)]; unfold aOne; dsimp only; rw [hr, if_neg (by decide)]
          · rw [xw2_89]; exact G2
          · rw [xw2_89]; exact H2
        obtain ⟨M3, e3, C4, K4⟩ := ih lvl (X.2.2 i) b a1 (xI (nI 0)) _ (xs S (xw (xw M2 0 69 41 (nI (A.2.1 + 0))) 0 69 37 (nI (A.2.2.1 + 1)))) h1 (by omega) (by omega) h3 h5' (sM_k (kG_tr K2 K3) TT) C3 O3
        exact ⟨M3, pre.trans e3, C4, kG_tr K1 (kG_tr K2 (kG_tr K3 K4))⟩
end
