/-! THE WORK'S STEPS: the class, all steps -/
def rcA (M : xr_M) (np nq : Nat) (pl : Nat → Nat) (A : aS) : Prop := (M 0 21 6 = nI A.1 ∧ M 0 21 7 = nI A.2.1 ∧ M 0 21 8 = nI A.2.2.1) ∧ xGr M 0 3 np nq pl A.2.2.2.1 ∧ xhC (M 0 10) (M 0 11) A.2.2.2.2.1 A.2.2.2.2.2
def kR (M M' : xr_M) : Prop := (∀ b e, ¬ (b = 0 ∧ ((3 ≤ e ∧ e ≤ 11) ∨ e = 21 ∨ e = 56 ∨ e = 57)) → M' b e = M b e) ∧ ∀ k, ¬ (6 ≤ k ∧ k ≤ 8) → M' 0 21 k = M 0 21 k
theorem kR_rf (M : xr_M) : kR M M := ⟨fun _ _ _ => rfl, fun _ _ => rfl⟩
theorem kR_tr {M M' M'' : xr_M} (h : kR M M') (h' : kR M' M'') : kR M M'' := ⟨fun b e q => (h'.1 b e q).trans (h.1 b e q), fun k q => (h'.2 k q).trans (h.2 k q)⟩
theorem kR_w (M : xr_M) {k : Nat} (hk : 6 ≤ k ∧ k ≤ 8) (v : Int32) : kR M (xw M 0 21 k v) := ⟨fun b e q => by rw [xw_r (by omega)], fun j hj => by rw [xw_n (by omega)]⟩
theorem kR_f {M M' : xr_M} (h : ∀ b e, ¬ (b = 0 ∧ ((3 ≤ e ∧ e ≤ 11) ∨ e = 56 ∨ e = 57)) → M' b e = M b e) : kR M M' := ⟨fun b e q => h b e (by omega), fun k _ => by rw [h 0 21 (by omega)]⟩
def sC (M : xr_M) (np nq ch st : Nat) (du pl : Nat → Nat) (dy : Nat → Int32) (dp : Nat → Nat → Nat) (sz : Nat) (kd : Nat → Nat) (gv : Nat → Int32) (X : wX) : Prop := xPl M np nq ch st du pl dy dp ∧ xLc M sz kd gv ∧ cRows M X
section
variable {np nq ch st : Nat} {du pl : Nat → Nat} {dy : Nat → Int32} {dp : Nat → Nat → Nat} {sz : Nat} {kd : Nat → Nat} {gv : Nat → Int32} {X : wX} {lv : Nat → Nat} {DO : Nat × Nat × Nat × Nat → aG → Bool × aG}
theorem sC_k {M M' : xr_M} (K : kR M M') (H : sC M np nq ch st du pl dy dp sz kd gv X) : sC M' np nq ch st du pl dy dp sz kd gv X := by
  refine ⟨xPl_fr (fun b e he => K.1 b e (by omega)) H.1, xLc_fr (fun e he => K.1 0 e (by omega)) H.2.1, fun j hj => ?_⟩
  unfold cRw
  rw [K.1 0 22 (by omega), K.1 0 23 (by omega), K.1 0 24 (by omega), K.1 0 25 (by omega), K.1 0 26 (by omega)]
  exact H.2.2 j hj
/-- one step, as the class does it -/
def CD (np nq ch st : Nat) (du pl : Nat → Nat) (dy : Nat → Int32) (dp : Nat → Nat → Nat) (sz : Nat) (kd : Nat → Nat) (gv : Nat → Int32) (X : wX) (DO : Nat × Nat × Nat × Nat → aG → Bool × aG) : Prop := ∀ (d : Nat) (S : xr_S) (j : Nat) (G : aG), sC (xm S) np nq ch st du pl dy dp sz kd gv X → j < X.1 → (X.2.1 j).1 ≠ 5 → aGk np nq pl G → xGr (xm S) 0 3 np nq pl G.1 → xhC (xm S 0 10) (xm S 0 11) G.2.1 G.2.2 → ∃ M, xr_Call (d + 6) 146 [xP 0 0, xI (nI j)] xMd S = some (.inl (some (cond (DO (X.2.1 j) G).1 (nI 1) (nI 0))), xMd, xs S M) ∧ xGr M 0 3 np nq pl (DO (X.2.1 j) G).2.1 ∧ xhC (M 0 10) (M 0 11) (DO (X.2.1 j) G).2.2.1 (DO (X.2.1 j) G).2.2.2 ∧ ∀ b e, ¬ (b = 0 ∧ ((3 ≤ e ∧ e ≤ 11) ∨ e = 56 ∨ e = 57)) → M b e = xm S b e
theorem rcA_w {M : xr_M} {A : aS} (C : rcA M np nq pl A) : rcA (xw M 0 21 6 (nI (A.1 + 1))) np nq pl (A.1 + 1, A.2) := by
  obtain ⟨⟨c1, c2, c3⟩, c4, c5⟩ := C
  refine ⟨⟨xw_y (by omega), by rw [xw_n (by omega)]; exact c2, by rw [xw_n (by omega)]; exact c3⟩, xGr_fr (fun e h1 h2 => xw_r (by omega)) c4, ?_⟩
  rw [xw_r (by omega), xw_r (by omega)]
  exact c5
theorem rc145 {d : Nat} (hX : X.1 < 150) (hS : wSeg np nq X lv 0 0 X.1) (HD : CD np nq ch st du pl dy dp sz kd gv X DO) (hD : ∀ j G, j < X.1 → (X.2.1 j).1 ≠ 5 → aGk np nq pl G → aGk np nq pl (DO (X.2.1 j) G).2) : ∀ (m lvl i b k : Nat) (a1 : Int32) (v6 : xr_V) (A : aS) (S : xr_S), lvl ≤ 6 → i ≤ b → b - i ≤ m → b ≤ X.1 → k + (b - i) < 150 → (∀ j, i ≤ j → j < b → lvl ≤ lv j ∧ X.2.2 j ≤ b) → sC (xm S) np nq ch st du pl dy dp sz kd gv X → rcA (xm S) np nq pl A → aOk np nq pl A → ∃ M, xr_Run (d + (6 - lvl) + 6) 145 6 [xP 0 0, xI a1, xI (nI b), xI (nI lvl), xI (nI i), xI (nI k), v6] [] xMd S = some (.inl none, xMd, xs S M) ∧ rcA M np nq pl (aRun DO X m i b A) ∧ kR (xm S) M := by
  have hE : ∀ j, j < X.1 → X.2.2 j ≤ X.1 := fun j hj => ((hS j (Nat.zero_le _) hj).1).2.1
  intro m
  induction m with
  | zero =>
    intro lvl i b k a1 v6 A S h1 hib h2 h3 h4 h5 T C O
    refine ⟨xm S, ?_, C, kR_rf _⟩
    refine (xg145_6 _ _ _ _ _ _ _ _).trans ?_
    rw [if_pos (by rw [xn_lt (by omega) (by omega)]; omega), if_neg (by rw [xn_lt (by omega) (by omega)]; omega), xs_xm]
  | succ m ih =>
    intro lvl i b k a1 v6 A S h1 hib h2 h3 h4 h5 T C O
    have pre : xr_Run (d + (6 - lvl) + 6) 145 6 [xP 0 0, xI a1, xI (nI b), xI (nI lvl), xI (nI i), xI (nI k), v6] [] xMd S = _ := xg145_6 _ _ _ _ _ _ _ _
    rw [if_pos (show nI k < nI 150 by rw [xn_lt (by omega) (by omega)]; omega)] at pre
    by_cases q1 : i < b
    rotate_left
    · rw [if_neg (show ¬ nI i < nI b by rw [xn_lt (by omega) (by omega)]; exact q1)] at pre
      exact ⟨xm S, pre, by rw [aRun, if_neg (fun q => q1 q.1)]; exact C, kR_rf _⟩
    rw [if_pos (show nI i < nI b by rw [xn_lt (by omega) (by omega)]; exact q1), C.1.1] at pre
    have O1 := O.1
    by_cases q2 : A.1 < 200
    rotate_left
    · rw [if_neg (show ¬ nI A.1 < nI 200 by rw [xn_lt (by omega) (by omega)]; exact q2)] at pre
      exact ⟨xm S, pre, by rw [aRun, if_neg (fun q => q2 q.2)]; exact C, kR_rf _⟩
    have hi : i < X.1 := by omega
    obtain ⟨⟨s1, s2, s3, s4, s5⟩, s6⟩ := hS i (Nat.zero_le _) hi
    obtain ⟨l1, l2⟩ := h5 i (Nat.le_refl _) q1
    obtain ⟨T1, T2⟩ := T.2.2 i hi
    rw [if_pos (show nI A.1 < nI 200 by rw [xn_lt (by omega) (by omega)]; exact q2), xi_t (by omega) (by omega), cond_true, xn_k (by omega), xn_add, xw_n (by omega), T1.1] at pre
    have K1 : kR (xm S) (xw (xm S) 0 21 6 (nI (A.1 + 1))) := kR_w _ (by omega) _
    have C1 := rcA_w C
    have O2 : aOk np nq pl (A.1 + 1, A.2) := ⟨by show A.1 + 1 ≤ 200; omega, O.2⟩
    generalize xw (xm S) 0 21 6 (nI (A.1 + 1)) = M1 at pre K1 C1
    have TT := sC_k K1 T
    have h5' : ∀ j, X.2.2 i ≤ j → j < b → lvl ≤ lv j ∧ X.2.2 j ≤ b := fun j g1 g2 => h5 j (by omega) g2
    rw [aRun, if_pos ⟨q1, q2⟩]
    by_cases k5 : (X.2.1 i).1 = 5
    · rw [k5, if_pos rfl] at pre
      rw [if_pos k5]
      have rep : ∀ (n t : Nat) (A : aS) (S : xr_S), t + n = (X.2.1 i).2.1 → sC (xm S) np nq ch st du pl dy dp sz kd gv X → rcA (xm S) np nq pl A → aOk np nq pl A → ∃ M, xr_Run (d + (6 - lvl) + 6) 145 63 [xP 0 0, xI a1, xI (nI b), xI (nI lvl), xI (nI i), xI (nI k), xI (nI t)] [] xMd S = xr_Run (d + (6 - lvl) + 6) 145 6 [xP 0 0, xI a1, xI (nI b), xI (nI lvl), xI (nI (X.2.2 i)), xI (nI (k + 1)), xI (nI (X.2.1 i).2.1)] [] xMd (xs S M) ∧ rcA M np nq pl (aRep (aRun DO X m (i + 1) (X.2.2 i)) n A) ∧ kR (xm S) M := by
        intro n
        have f20 := s5.2.2.2.2.2 k5
        induction n with
        | zero =>
          intro t A S ht T C O
          obtain ⟨T1, T2⟩ := T.2.2 i hi
          have e23 := T1.2.1 (by omega)
          refine ⟨xm S, ?_, C, kR_rf _⟩
          refine (xg145_63 _ _ _ _ _ _ _ _).trans ?_
          rw [xi_t (by omega) (by omega), cond_true, cond_true, cond_true, xn_k (by omega), e23, if_neg (by rw [xn_lt (by omega) (by omega)]; omega), T2, xn_add, xs_xm, ← ht]
          rfl
        | succ n ihn =>
          intro t A S ht T C O
          obtain ⟨T1, T2⟩ := T.2.2 i hi
          have e23 := T1.2.1 (by omega)
          have l6 := s4 k5
          obtain ⟨M2, e2, C2, K2⟩ := ih (lvl + 1) (i + 1) (X.2.2 i) 0 (nI (i + 1)) xU A S (by omega) (by omega) (by omega) (by omega) (by omega) (fun j g1 g2 => by
            obtain ⟨g3, g4⟩ := s6 j (by omega) g2
            exact ⟨by omega, g3⟩) T C O
          have e3 : xr_Call (d + (6 - lvl) + 6) 145 [xP 0 0, xI (nI (i + 1)), xI (nI (X.2.2 i)), xI (nI (lvl + 1))] xMd S = some (.inl none, xMd, xs S M2) := by
            rw [show d + (6 - lvl) + 6 = (d + (6 - (lvl + 1)) + 6) + 1 by omega, xe145]
            exact e2
          obtain ⟨M3, e4, C3, K3⟩ := ihn (t + 1) _ (xs S M2) (by omega) (sC_k K2 T) C2 (aRun_ok hD hE m _ _ A (by omega) O)
          refine ⟨M3, ?_, C3, kR_tr K2 K3⟩
          refine (xg145_63 _ _ _ _ _ _ _ _).trans ?_
          rw [xi_t (by omega) (by omega), cond_true, cond_true, xn_k (by omega), e23, if_pos (by rw [xn_lt (by omega) (by omega)]; omega), if_pos (by rw [xn_lt (by omega) (by omega)]; omega), T2, xn_add, xn_add, e3, xr_cV_s, xn_add]
          exact e4
      obtain ⟨M2, e2, C2, K2⟩ := rep (X.2.1 i).2.1 0 _ (xs S M1) (by omega) TT C1 O2
      have O3 : aOk np nq pl (aRep (aRun DO X m (i + 1) (X.2.2 i)) (X.2.1 i).2.1 (A.1 + 1, A.2)) := aRep_ok (P := aOk np nq pl) (fun a ha => aRun_ok hD hE m _ _ a (by omega) ha) _ _ O2
      obtain ⟨M3, e3, C3, K3⟩ := ih lvl (X.2.2 i) b (k + 1) a1 (xI (nI (X.2.1 i).2.1)) _ (xs (xs S M1) M2) h1 (by omega) (by omega) h3 (by omega) h5' (sC_k K2 TT) C2 O3
      exact ⟨M3, pre.trans (e2.trans e3), C3, kR_tr K1 (kR_tr K2 K3)⟩
    · rw [if_neg (show ¬ nI (X.2.1 i).1 = nI 5 by rw [xn_eq (by have := s5.1; omega) (by omega)]; exact k5)] at pre
      rw [if_neg k5]
      obtain ⟨M2, e2, G2, H2, F2⟩ := HD (d + (6 - lvl)) (xs S M1) i A.2.2.2 TT hi k5 O.2 C1.2.1 C1.2.2
      have K2 : kR M1 M2 := kR_f F2
      have w21 : M2 0 21 = M1 0 21 := F2 0 21 (by omega)
      rw [e2, xr_cI_s] at pre
      have O3 : aOk np nq pl (aOne DO (X.2.1 i) (A.1 + 1, A.2)) := ⟨O2.1, hD i _ hi k5 O.2⟩
      obtain ⟨⟨c1, c2, c3⟩, _, _⟩ := C1
      dsimp only at c1 c2 c3
      cases hr : (DO (X.2.1 i) A.2.2.2).1 with
      | true =>
        rw [hr, cond_true, if_neg (show ¬ nI 1 = nI 0 by decide), cond_true, xn_add, xm_xs, w21, c2, xn_add, xw_n (by omega), F2 0 26 (by omega), xm_xs, (TT.2.2 i hi).2, xs_xs, xs_xs] at pre
        have K3 : kR M2 (xw M2 0 21 7 (nI (A.2.1 + 1))) := kR_w _ (by omega) _
        have C3 : rcA (xw M2 0 21 7 (nI (A.2.1 + 1))) np nq pl (aOne DO (X.2.1 i) (A.1 + 1, A.2)) := by
          refine ⟨⟨?_, ?_, ?_⟩, xGr_fr (fun e h1 h2 => xw_r (by omega)) G2, ?_⟩
          · rw [xw_n (by omega), w21]; exact c1
          · rw [xw_y (by omega)]; unfold aOne; dsimp only; rw [hr, if_pos rfl]
          · rw [xw_n (by omega), w21, c3]; unfold aOne; dsimp only; rw [hr, if_pos rfl]
          · rw [xw_r (by omega), xw_r (by omega)]; exact H2
        obtain ⟨M3, e3, C4, K4⟩ := ih lvl (X.2.2 i) b (k + 1) a1 v6 _ (xs S (xw M2 0 21 7 (nI (A.2.1 + 1)))) h1 (by omega) (by omega) h3 (by omega) h5' (sC_k (kR_tr K2 K3) TT) C3 O3
        exact ⟨M3, pre.trans e3, C4, kR_tr K1 (kR_tr K2 (kR_tr K3 K4))⟩
      | false =>
        rw [hr, cond_false, if_pos rfl, cond_true, xn_add, xm_xs, w21, c3, xn_add, xw_n (by omega), F2 0 26 (by omega), xm_xs, (TT.2.2 i hi).2, xs_xs, xs_xs] at pre
        have K3 : kR M2 (xw M2 0 21 8 (nI (A.2.2.1 + 1))) := kR_w _ (by omega) _
        have C3 : rcA (xw M2 0 21 8 (nI (A.2.2.1 + 1))) np nq pl (aOne DO (X.2.1 i) (A.1 + 1, A.2)) := by
          refine ⟨⟨?_, ?_, ?_⟩, xGr_fr (fun e h1 h2 => xw_r (by omega)) G2, ?_⟩
          · rw [xw_n (by omega), w21]; exact c1
          · rw [xw_n (by omega), w21, c2]; unfold aOne; dsimp only; rw [hr, if_neg (by decide)]
          · rw [xw_y (by omega)]; unfold aOne; dsimp only; rw [hr, if_neg (by decide)]
          · rw [xw_r (by omega), xw_r (by omega)]; exact H2
        obtain ⟨M3, e3, C4, K4⟩ := ih lvl (X.2.2 i) b (k + 1) a1 v6 _ (xs S (xw M2 0 21 8 (nI (A.2.2.1 + 1)))) h1 (by omega) (by omega) h3 (by omega) h5' (sC_k (kR_tr K2 K3) TT) C3 O3
        exact ⟨M3, pre.trans e3, C4, kR_tr K1 (kR_tr K2 (kR_tr K3 K4))⟩
end
