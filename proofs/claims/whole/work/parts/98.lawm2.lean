/-! THE LAW'S TEXT: the model, 2 -/
section
variable {d k : Nat} {w : List Nat} {S : xr_S} {tb : Nat → Nat} {n : Nat} {full : Bool} {sr : lS → lS} {o : Nat}
theorem tm184 (hn : n ≤ 150) (hf : full = decide (¬ o < 6)) (ho : o ≤ 6) (hs : full = false → ∀ p D s, lInv n p D s → lInv n p (D + 1) (sr s)) (HS : full = false → MSum w tb n (k + 8) (o + 1) sr) {p D : Nat} {s : lS} (Y : tY (xm S) tb n) (C : mLw (xm S) n o s) (I : lInv n p D s) : ∃ M, xr_Call (d + k + 10) 184 [xP 0 69] ([], w) S = some (.inl none, ([], w), xs S M) ∧ kN (xm S) M ∧ mLw M n o (lUnt tb n full sr s) := by
  obtain ⟨r, X⟩ := s
  have x1 := Y.1
  have x2 := Y.2.1
  cases r with
  | inr q =>
    rw [lUnt_r (s := (.inr q, X)) (q := q) rfl]
    refine ⟨xm S, ?_, kN_rf _, C⟩
    rw [xe184, if_neg (rM_5 C.1), xs_xm]
  | inl a =>
    obtain ⟨i1, i2, i3, i4⟩ := I a rfl
    have h1 := sk_ge tb n a
    have hl := sk_le (tb := tb) i1
    have hb := sk_sk tb n a
    have edef : lUnt tb n full sr (.inl a, X) = if sk tb n a < n ∧ tb (sk tb n a) = 40 then (if full = true then (.inr (3, sk tb n a), X) else (pSgn tb n 41 (sr (.inl (sk tb n a + 1), X)).1, (sr (.inl (sk tb n a + 1), X)).2)) else if sk tb n a < n ∧ tdig (tb (sk tb n a)) = true then lAdd 0 (nI (pNum tb n 0 1000 (.inl a)).1) ((pNum tb n 0 1000 (.inl a)).2, X) else lWrd tb n full sr (sk tb n a) (wend tb n (sk tb n a)) X (lKnd tb (sk tb n a) (wend tb n (sk tb n a))) := rfl
    have ep : pNum tb n 0 1000 (.inl (sk tb n a)) = pNum tb n 0 1000 (.inl a) := by unfold pNum; dsimp only; rw [sk_sk]
    rw [edef, ← ep]
    have I' : lInv n p D (.inl (sk tb n a), X) := fun a' ha => by
      cases ha
      exact ⟨hl, by dsimp only at i2 ⊢; omega, i3, i4⟩
    have K1 : kM (xm S) (xw (xm S) 0 69 4 (nI (sk tb n a))) := kM_w _ (by omega) _
    have q1 := tm158 (d := d + k + 7) (w := w) Y i1 C.1.2.2.1
    have Y1 : tY (xm (xs S (xw (xm S) 0 69 4 (nI (sk tb n a))))) tb n := tY_k K1 Y
    have R1 : rM (xm (xs S (xw (xm S) 0 69 4 (nI (sk tb n a))))) n (.inl (sk tb n a)) := rM_sk C.1 hl
    have C1 : mLw (xm (xs S (xw (xm S) 0 69 4 (nI (sk tb n a))))) n o (.inl (sk tb n a), X) := mLw_r C K1 R1 (fun _ _ => ⟨_, rfl⟩)
    have start : xr_Call (d + k + 10) 184 [xP 0 69] ([], w) S = xr_Call (d + k + 10) 184 [xP 0 69] ([], w) (xs S (xw (xm S) 0 69 4 (nI (sk tb n a)))) := by
      have q2 := tm158 (d := d + k + 7) (w := w) Y1 hl R1.2.2.1
      rw [hb, xw_id R1.2.2.1, xs_xm] at q2
      rw [xe184, if_pos C.1.1, show d + k + 9 = d + k + 7 + 2 by omega, q1, xr_cV_s, xe184, if_pos R1.1, show d + k + 9 = d + k + 7 + 2 by omega, q2, xr_cV_s]
    have q2 := tm158 (d := d + k + 7) (w := w) Y1 hl R1.2.2.1
    have m13 := mw13 (d := d + k + 5) (w := w) Y1 R1
    have m14 := mw14 (d := d + k + 5) (w := w) Y1 R1
    have m183 := tm183 (d := d + k + 3) (w := w) hb Y1 R1
    have e40 := tv_eq (tb := tb) (n := n) (k := sk tb n a) (c := 40) x2 (by omega)
    have q157 := tm157 (d := d + k + 8) (w := w) Y1 (k := sk tb n a) (by omega)
    rw [start]
    rw [hb, xw_id R1.2.2.1, xs_xm] at q2 m13 m14
    generalize hS1 : xs S (xw (xm S) 0 69 4 (nI (sk tb n a))) = S1 at *
    have KS : kN (xm S) (xm S1) := by rw [← hS1]; exact kM_N K1
    have XS : ∀ M, xs S1 M = xs S M := fun M => by rw [← hS1, xs_xs]
    suffices G : ∃ M, xr_Call (d + k + 10) 184 [xP 0 69] ([], w) S1 = some (.inl none, ([], w), xs S1 M) ∧ kN (xm S1) M ∧ mLw M n o (if sk tb n a < n ∧ tb (sk tb n a) = 40 then (if full = true then (.inr (3, sk tb n a), X) else (pSgn tb n 41 (sr (.inl (sk tb n a + 1), X)).1, (sr (.inl (sk tb n a + 1), X)).2)) else if sk tb n a < n ∧ tdig (tb (sk tb n a)) = true then lAdd 0 (nI (pNum tb n 0 1000 (.inl (sk tb n a))).1) ((pNum tb n 0 1000 (.inl (sk tb n a))).2, X) else lWrd tb n full sr (sk tb n a) (wend tb n (sk tb n a)) X (lKnd tb (sk tb n a) (wend tb n (sk tb n a)))) by
      obtain ⟨M, g1, g2, g3⟩ := G
      exact ⟨M, by rw [g1, XS], kN_tr KS g2, g3⟩
    clear hS1 start q1 K1
    generalize hbb : sk tb n a = b at *
    have lt : ∀ j, 1 ≤ j ∧ j ≤ 20 → wis (xr_by j) tb b (wend tb n b) = true → (b < n ∧ tlet (tb b) = true) := fun j hj h9 => by
      have hw := trun_ge (p := tlet) (tb := tb) (n := n) n b
      rcases Nat.eq_or_lt_of_le hw.1 with h0 | h0
      · have : wend tb n b = b := h0.symm
        rw [this, wis_no hj] at h9; cases h9
      · exact hw.2.2 b (Nat.le_refl _) h0
    have nl : (b < n ∧ tlet (tb b) = true) → ¬ (b < n ∧ tb b = 40) ∧ ¬ (b < n ∧ tdig (tb b) = true) := fun h9 => by
      have : 97 ≤ tb b ∧ tb b ≤ 122 := of_decide_eq_true h9.2
      exact ⟨by omega, fun h8 => by have := tdig_b h8.2; omega⟩
    have cd : ∀ kk : Nat, (kk = 11 ∨ kk = 12) → lKnd tb b (wend tb n b) = some kk → (b < n ∧ tlet (tb b) = true) → ∃ M, (xr_cI ([], w) (xr_Call (d + k + 9) 180 [xP 0 69] ([], w) S1) (fun x61 S60 => (if x61 = (nI 0) then (some (.inl none, ([], w), S60)) else (xr_cV ([], w) (xr_Call (d + k + 9) 166 [xP 0 69] ([], w) S60) (fun S62 => (xr_cV ([], w) (xr_Call (d + k + 9) 168 [xP 0 69, xI (nI 91)] ([], w) S62) (fun S63 => (xr_cV ([], w) (xr_Call (d + k + 9) 181 [xP 0 69] ([], w) S63) (fun S64 => (xr_cV ([], w) (xr_Call (d + k + 9) 168 [xP 0 69, xI (nI 44)] ([], w) S64) (fun S65 => (xr_cV ([], w) (xr_Call (d + k + 9) 181 [xP 0 69] ([], w) S65) (fun S66 => (xr_cV ([], w) (xr_Call (d + k + 9) 168 [xP 0 69, xI (nI 93)] ([], w) S66) (fun S67 => (xr_cV ([], w) (xr_Call (d + k + 9) 179 [xP 0 69, xI (nI (kk - 5)), xI (nI 0)] ([], w) S67) (fun S68 => (some (.inl none, ([], w), (xs S68 (xw (xm S68) 0 69 8 (((xm S68) 0 69 8) - (nI 1))))))))))))))))))))))) = some (.inl none, ([], w), xs S1 M) ∧ kN (xm S1) M ∧ mLw M n o (lWrd tb n full sr b (wend tb n b) X (some kk)) := by
      intro kk hkk hk hlt
      by_cases qo : o < 6
      · have ef : full = false := by rw [hf]; exact decide_eq_false (by omega)
        rw [ef]
        exact tm184w hn qo (hs ef) (HS ef) hkk hb (lKnd_w hk).1 Y1 C1 I'
      · have ef : full = true := by rw [hf]; exact decide_eq_true qo
        have e8 := (C1.2 b rfl).1
        rw [show o = 6 by omega] at e8
        obtain ⟨M2, q2', K2, R2⟩ := tm180n (d := d + k + 7) (w := w) hl C1.1 e8
        refine ⟨M2, ?_, kM_N K2, ?_⟩
        · rw [show d + k + 9 = d + k + 7 + 2 by omega, q2', xr_cI_s, if_pos rfl]
        · unfold lWrd
          dsimp only
          rw [if_neg (by omega), if_pos ef]
          exact mLw_r C1 K2 R2 (fun _ h => (nomatch h))
    have head : ∀ T, T = xr_Call (d + k + 10) 184 [xP 0 69] ([], w) S1 → T = xr_Call (d + k + 10) 184 [xP 0 69] ([], w) S1 := fun _ h => h
    rw [xe184, if_pos R1.1, show d + k + 9 = d + k + 7 + 2 by omega, q2, xr_cV_s, show d + k + 7 + 2 = d + k + 5 + 4 by omega, m13, xr_cI_s]
    cases h13 : wis (xr_by 13) tb b (wend tb n b) with
    | true =>
      have hlt := lt 13 (by omega) h13
      have hk : lKnd tb b (wend tb n b) = some 11 := by rw [lKnd_e, h13]; rfl
      obtain ⟨n1, n2⟩ := nl hlt
      rw [if_neg n1, if_neg n2, hk, cond_true, if_neg (by rw [xn_eq (by omega) (by omega)]; omega), if_neg (fun h => (xn_m1 (show 6 < 2147483648 by omega)).mp h)]
      exact cd 11 (Or.inl rfl) hk hlt
    | false =>
      rw [cond_false, if_pos rfl, m14, xr_cI_s]
      cases h14 : wis (xr_by 14) tb b (wend tb n b) with
      | true =>
        have hlt := lt 14 (by omega) h14
        have hk : lKnd tb b (wend tb n b) = some 12 := by rw [lKnd_e, h13, h14]; rfl
        obtain ⟨n1, n2⟩ := nl hlt
        rw [if_neg n1, if_neg n2, hk, cond_true, if_neg (by rw [xn_eq (by omega) (by omega)]; omega), if_neg (fun h => (xn_m1 (show 7 < 2147483648 by omega)).mp h)]
        exact cd 12 (Or.inr rfl) hk hlt
      | false =>
        have hk : lKnd tb b (wend tb n b) = (lLeaf tb b (wend tb n b)).map (fun k => k + 1) := by rw [lKnd_e, h13, h14]; rfl
        rw [cond_false, if_pos rfl, if_pos rfl, R1.2.2.1, show d + k + 5 + 4 = d + k + 8 + 1 by omega, q157, xr_cI_s]
        by_cases qv : b < n ∧ tb b = 40
        · rw [if_pos qv, if_pos (by rw [e40]; exact qv)]
          obtain ⟨c0, c1, c2, c3⟩ := C1.2 b rfl
          by_cases qo : o < 6
          · have ef : full = false := by rw [hf]; exact decide_eq_false (by omega)
            rw [if_neg (by rw [ef]; simp)]
            have q3 := tm180y (d := d + k + 7) (w := w) C1.1 c0 qo
            have K3 : kN (xm S1) (xw (xw (xm S1) 0 69 8 (nI (o + 1))) 0 69 4 (nI (b + 1))) := ⟨fun b e h _ => by rw [xw_r h, xw_r h], fun k hk => by rw [xw_n (by omega), xw_n (by omega)]⟩
            have Y3 : tY (xm (xs S1 (xw (xw (xm S1) 0 69 8 (nI (o + 1))) 0 69 4 (nI (b + 1))))) tb n := tY_N K3 Y1
            have C3 : mLw (xm (xs S1 (xw (xw (xm S1) 0 69 8 (nI (o + 1))) 0 69 4 (nI (b + 1))))) n (o + 1) (.inl (b + 1), X) := ⟨rM_sk (rM_o C1.1 (by omega) _) (by omega), fun a ha => ⟨by rw [xm_xs, xw_n (by omega), xw_y (by omega)], by rw [xm_xs, xw_n (by omega), xw_n (by omega)]; exact c1, c2, fun j hj => by rw [xm_xs, xw_n (by omega), xw_n (by omega), xw_n (by omega), xw_n (by omega)]; exact c3 j hj⟩⟩
            have I3 : lInv n (p + 1) D (.inl (b + 1), X) := fun a' ha => by
              cases ha
              have := (I' b rfl).2.1
              exact ⟨by omega, by dsimp only at this ⊢; omega, i3, i4⟩
            obtain ⟨M4, q4, K4, C4⟩ := HS ef (d + 1) _ _ _ _ Y3 C3 I3
            rw [xs_xs] at q4
            rw [xm_xs] at K4
            have Y4 : tY (xm (xs S1 M4)) tb n := tY_N (kN_tr K3 K4) Y1
            obtain ⟨M5, q5, K5, R5⟩ := tm168 (d := d + k + 6) (w := w) (S := xs S1 M4) Y4 C4.1 (c := 41) (by omega)
            rw [xs_xs] at q5
            rw [xm_xs] at K5
            have C5 := mLw_r (M' := M5) C4 K5 R5 pSgn_s
            refine ⟨xw M5 0 69 8 (M5 0 69 8 - nI 1), ?_, kN_tr K3 (kN_tr K4 (kN_tr (kM_N K5) ⟨fun b e h _ => by rw [xw_r h], fun k hk => by rw [xw_n (by omega)]⟩)), rM_o C5.1 (by omega) _, fun a ha => ?_⟩
            · rw [show d + k + 8 + 1 = d + k + 7 + 2 by omega, q3, xr_cI_s, if_neg (by rw [xn_eq (by omega) (by omega)]; omega), xm_xs, xs_xs, xw_n (by omega), R1.2.2.1, xn_add, show d + k + 7 + 2 = d + 1 + (k + 8) by omega, q4, xr_cV_s, show d + 1 + (k + 8) = d + k + 6 + 3 by omega, q5, xr_cV_s, xm_xs, xs_xs]
            · obtain ⟨g0, g1, g2, g3⟩ := C5.2 a ha
              refine ⟨by rw [xw_y (by omega), g0, xn_sub (by omega), Nat.add_sub_cancel], by rw [xw_n (by omega)]; exact g1, g2, fun j hj => ?_⟩
              rw [xw_n (by omega), xw_n (by omega)]
              exact g3 j hj
          · have ef : full = true := by rw [hf]; exact decide_eq_true qo
            rw [show o = 6 by omega] at c0
            obtain ⟨M2, q2', K2, R2⟩ := tm180n (d := d + k + 7) (w := w) hl C1.1 c0
            rw [if_pos ef]
            refine ⟨M2, ?_, kM_N K2, mLw_r C1 K2 R2 (fun _ h => (nomatch h))⟩
            rw [show d + k + 8 + 1 = d + k + 7 + 2 by omega, q2', xr_cI_s, if_pos rfl]
        · rw [if_neg qv, if_neg (by rw [e40]; exact qv), show d + k + 8 + 1 = d + k + 3 + 6 by omega, m183, xr_cI_s]
          cases hlf : lLeaf tb b (wend tb n b) with
          | some x =>
            have hx := lLeaf_b hlf
            have hlt : b < n ∧ tlet (tb b) = true := by
              have hw := trun_ge (p := tlet) (tb := tb) (n := n) n b
              rw [hlf] at hk
              have := (lKnd_w hk).1
              exact hw.2.2 b (Nat.le_refl _) (by unfold wend at this; omega)
            obtain ⟨n1, n2⟩ := nl hlt
            have hwn : wend tb n b ≤ n := (trun_ge (p := tlet) (tb := tb) (n := n) n b).2.1 hl
            rw [hlf] at hk
            have h3 := (lKnd_w hk).1
            rw [if_neg n2, hk, show lKI (some x) = nI x from rfl, if_neg (fun h => (xn_m1 (show x < 2147483648 by omega)).mp h), show (some x).isSome = true from rfl, cond_true]
            have K2 : kM (xm S1) (xw (xm S1) 0 69 4 (nI (wend tb n b))) := kM_w _ (by omega) _
            have C2 : mLw (xm (xs S1 (xw (xm S1) 0 69 4 (nI (wend tb n b))))) n o (.inl (wend tb n b), X) := mLw_r C1 K2 (rM_sk C1.1 hwn) (fun _ _ => ⟨_, rfl⟩)
            have i2' := (I' b rfl).2.1
            obtain ⟨M3, q3, K3, C3⟩ := tm179 (d := d + k + 8) (w := w) (kk := x + 1) (v := nI 0) (a1 := nI 1) (a2 := nI x) C2 (fun a ha => ⟨by dsimp only at i2' ⊢; omega, fun h => by omega, fun _ _ => ⟨rfl, by rw [Nat.add_sub_cancel]⟩, fun h => by omega⟩)
            rw [xs_xs] at q3
            rw [xm_xs] at K3
            refine ⟨M3, ?_, kN_tr (kM_N K2) K3, ?_⟩
            · rw [show d + k + 3 + 6 = d + k + 8 + 1 by omega, q3, xr_cV_s]
            · show mLw M3 n o (lWrd tb n full sr b (wend tb n b) X (some (x + 1)))
              unfold lWrd
              dsimp only
              rw [if_pos (by omega)]
              exact C3
          | none =>
            rw [hlf] at hk
            rw [show lKI none = (-1 : Int32) from rfl, if_pos rfl, show (none : Option Nat).isSome = false from rfl, cond_false, xw_id R1.2.2.1, xs_xm]
            obtain ⟨M3, q3, K3, R3⟩ := tm162 (d := d + k + 6) (w := w) (lo := 0) (hn := 1000) (hi := nI 999) (by omega) (fun v hv => by rw [xn_lt (by omega) (by omega)]; omega) Y1 C1.1
            have C3 : mLw (xm (xs S1 M3)) n o ((pNum tb n 0 1000 (.inl b)).2, X) := mLw_r C1 K3 R3 (fun _ _ => ⟨_, rfl⟩)
            have i2' := (I' b rfl).2.1
            obtain ⟨M4, q4, K4, C4⟩ := tm179 (d := d + k + 8) (w := w) (kk := 0) (v := nI (pNum tb n 0 1000 (.inl b)).1) (a1 := nI 0) (a2 := nI (pNum tb n 0 1000 (.inl b)).1) C3 (fun a' ha => ⟨by have g := pNum_a ha; dsimp only at i2' ⊢; omega, fun _ => ⟨rfl, rfl⟩, fun h => by omega, fun h => by omega⟩)
            rw [xs_xs] at q4
            rw [xm_xs] at K4
            refine ⟨M4, ?_, kN_tr (kM_N K3) K4, ?_⟩
            · rw [show d + k + 3 + 6 = d + k + 6 + 3 by omega, q3, xr_cI_s, show d + k + 6 + 3 = d + k + 8 + 1 by omega, q4, xr_cV_s]
            · by_cases qd : b < n ∧ tdig (tb b) = true
              · rw [if_pos qd]; exact C4
              · rw [if_neg qd, hk]
                show mLw M4 n o (.inr (1, b), X)
                rw [pNum_d (by rw [hb]; exact qd), hb] at C4
                exact C4
theorem tm182L (hn : n ≤ 150) {F : lS → lS} (hF : ∀ p D s, lInv n p D s → lInv n p (D + 1) (F s)) (HF : ∀ (S : xr_S) (s : lS) (p D : Nat), tY (xm S) tb n → mLw (xm S) n o s → lInv n p D s → ∃ M, xr_Call (d + 4) 184 [xP 0 69] ([], w) S = some (.inl none, ([], w), xs S M) ∧ kN (xm S) M ∧ mLw M n o (F s)) (hr : ∀ q X, F (.inr q, X) = (.inr q, X)) (hm : ∀ a X a', (F (.inl a, X)).1 = .inl a' → a ≤ a') : ∀ (m : Nat) (S : xr_S) (s : lS) (p D : Nat) (u : xr_V), (∀ a, s.1 = .inl a → n ≤ a + m) → tY (xm S) tb n → mLw (xm S) n o s → lInv n p (D + 1) s → ∃ M, xr_Run (d + 4) 182 4 [xP 0 69, u] [] ([], w) S = some (.inl none, ([], w), xs S M) ∧ kN (xm S) M ∧ mLw M n o (lItr tb n F 42 9 47 10 m s) := by
  intro m
  induction m with
  | zero =>
    intro S s p D u hj Y C I
    obtain ⟨r, X⟩ := s
    cases r with
    | inr q =>
      refine ⟨xm S, ?_, kN_rf _, C⟩
      refine (xg182_4 _ _ _ _).trans ?_
      rw [if_neg (rM_5 C.1), xs_xm]
    | inl a =>
      have i1 := (I a rfl).1
      have h9 := hj a rfl
      have hsa : sk tb n a = a := skp_id (by omega) n
      have np : ∀ c, pTak tb n c (.inl a) = (false, .inl a) := fun c => by rw [pTak_n (by rw [hsa]; omega), hsa]
      obtain ⟨M1, q1, K1, R1⟩ := tm169 (d := d + 1) (w := w) (S := S) Y C.1 (c := 42) (by omega)
      rw [np] at q1 R1
      have Y1 : tY (xm (xs S M1)) tb n := tY_k K1 Y
      obtain ⟨M2, q2, K2, R2⟩ := tm169 (d := d + 1) (w := w) (S := xs S M1) (r := .inl a) Y1 R1 (c := 47) (by omega)
      rw [xs_xs] at q2
      rw [xm_xs] at K2
      rw [np] at q2 R2
      refine ⟨M2, ?_, kM_N (kM_tr K1 K2), mLw_r C (kM_tr K1 K2) R2 (fun _ _ => ⟨_, rfl⟩)⟩
      refine (xg182_4 _ _ _ _).trans ?_
      rw [if_pos C.1.1, q1, xr_cI_s, cond_false, if_pos rfl, q2, xr_cI_s, cond_false, if_pos rfl, if_pos rfl]
  | succ m ih =>
    intro S s p D u hj Y C I
    obtain ⟨r, X⟩ := s
    cases r with
    | inr q =>
      rw [lItr_r (s := (.inr q, X)) (q := q) rfl]
      refine ⟨xm S, ?_, kN_rf _, C⟩
      refine (xg182_4 _ _ _ _).trans ?_
      rw [if_neg (rM_5 C.1), xs_xm]
    | inl a =>
      obtain ⟨i1, i2, i3, i4⟩ := I a rfl
      have h1 := sk_ge tb n a
      have hl := sk_le (tb := tb) i1
      have h9 := hj a rfl
      have ed : lItr tb n F 42 9 47 10 (m + 1) (.inl a, X) = if sk tb n a < n ∧ tb (sk tb n a) = 42 then lItr tb n F 42 9 47 10 m (lAdd 9 (nI 0) (F (.inl (sk tb n a + 1), X))) else if sk tb n a < n ∧ tb (sk tb n a) = 47 then lItr tb n F 42 9 47 10 m (lAdd 10 (nI 0) (F (.inl (sk tb n a + 1), X))) else (.inl (sk tb n a), X) := rfl
      have I1 : sk tb n a < n → lInv n (p + 1) (D + 1) (.inl (sk tb n a + 1), X) := fun q a' ha => by
        cases ha
        exact ⟨by omega, by dsimp only at i2 ⊢; omega, i3, i4⟩
      obtain ⟨M1, q1, K1, R1⟩ := tm169 (d := d + 1) (w := w) (S := S) Y C.1 (c := 42) (by omega)
      have Y1 : tY (xm (xs S M1)) tb n := tY_k K1 Y
      have go : ∀ (kk : Nat) (M1 : xr_M), 7 ≤ kk ∧ kk ≤ 12 → sk tb n a < n → kM (xm S) M1 → rM M1 n (.inl (sk tb n a + 1)) → ∃ M, (xr_cV ([], w) (xr_Call (d + 4) 184 [xP 0 69] ([], w) (xs S M1)) (fun S9 => (xr_cV ([], w) (xr_Call (d + 4) 179 [xP 0 69, xI (nI (kk - 5)), xI (nI 0)] ([], w) S9) (fun S10 => (xr_Run (d + 4) 182 4 [xP 0 69, xI (nI (kk - 5))] [] ([], w) S10))))) = some (.inl none, ([], w), xs S M) ∧ kN (xm S) M ∧ mLw M n o (lItr tb n F 42 9 47 10 m (lAdd kk (nI 0) (F (.inl (sk tb n a + 1), X)))) := by
        intro kk M1 hk hlt K1 R1
        have Y1 : tY (xm (xs S M1)) tb n := tY_k K1 Y
        have C1 : mLw (xm (xs S M1)) n o (.inl (sk tb n a + 1), X) := mLw_r C K1 R1 (fun _ _ => ⟨_, rfl⟩)
        obtain ⟨M2, q2, K2, C2⟩ := HF (xs S M1) _ _ _ Y1 C1 (I1 hlt)
        rw [xs_xs] at q2
        rw [xm_xs] at K2
        have J2 := hF _ _ _ (I1 hlt)
        obtain ⟨M3, q3, K3, C3⟩ := tm179 (d := d + 3) (w := w) (S := xs S M2) (kk := kk) (v := nI 0) (a1 := nI (kk - 5)) (a2 := nI 0) C2 (fun a' ha => ⟨by have g1 := (J2 a' ha).2.1; have g2 := (J2 a' ha).1; omega, fun h => by omega, fun _ h => by omega, fun _ => rfl⟩)
        rw [xs_xs] at q3
        rw [xm_xs] at K3
        obtain ⟨M4, q4, K4, C4⟩ := ih (xs S M3) (lAdd kk (nI 0) (F (.inl (sk tb n a + 1), X))) p D (xI (nI (kk - 5))) (fun a' ha => by
          have hx : (F (.inl (sk tb n a + 1), X)).1 = .inl a' := by
            unfold lAdd at ha
            cases hc : (F (.inl (sk tb n a + 1), X)).1 with
            | inl z => rw [hc] at ha; dsimp only at ha; exact ha
            | inr z => rw [hc] at ha; dsimp only at ha; rw [hc] at ha; exact ha
          have := hm _ _ _ hx
          omega) (tY_N (kN_tr K2 K3) Y1) C3 (lInv_op hk.1 hk.2 J2)
        rw [xs_xs] at q4
        rw [xm_xs] at K4
        refine ⟨M4, ?_, kN_tr (kM_N K1) (kN_tr K2 (kN_tr K3 K4)), C4⟩
        rw [q2, xr_cV_s, q3, xr_cV_s, q4]
      rw [ed]
      by_cases qa : sk tb n a < n ∧ tb (sk tb n a) = 42
      · rw [if_pos qa]
        rw [pTak_y qa] at q1 R1
        obtain ⟨M2, q2, K2, C2⟩ := go 9 M1 (by omega) qa.1 K1 R1
        refine ⟨M2, ?_, K2, C2⟩
        rw [← q2]
        refine (xg182_4 _ _ _ _).trans ?_
        rw [if_pos C.1.1, q1, xr_cI_s, cond_true, if_neg (by rw [xn_eq (by omega) (by omega)]; omega), if_neg (fun h => (xn_m1 (show 4 < 2147483648 by omega)).mp h)]
      · rw [if_neg qa]
        rw [pTak_n qa] at q1 R1
        dsimp only at q1 R1
        obtain ⟨M2, q2, K2, R2⟩ := tm169 (d := d + 1) (w := w) (S := xs S M1) (r := .inl (sk tb n a)) Y1 R1 (c := 47) (by omega)
        rw [xs_xs] at q2
        rw [xm_xs] at K2
        by_cases qb : sk tb n a < n ∧ tb (sk tb n a) = 47
        · rw [if_pos qb]
          rw [pTak_y (by rw [sk_sk]; exact qb), sk_sk] at q2 R2
          obtain ⟨M3, q3, K3, C3⟩ := go 10 M2 (by omega) qb.1 (kM_tr K1 K2) R2
          refine ⟨M3, ?_, K3, C3⟩
          rw [← q3]
          refine (xg182_4 _ _ _ _).trans ?_
          rw [if_pos C.1.1, q1, xr_cI_s, cond_false, if_pos rfl, q2, xr_cI_s, cond_true, if_neg (by rw [xn_eq (by omega) (by omega)]; omega), if_neg (fun h => (xn_m1 (show 5 < 2147483648 by omega)).mp h)]
        · rw [if_neg qb]
          rw [pTak_n (by rw [sk_sk]; exact qb), sk_sk] at q2 R2
          dsimp only at q2 R2
          refine ⟨M2, ?_, kM_N (kM_tr K1 K2), mLw_r C (kM_tr K1 K2) R2 (fun _ _ => ⟨_, rfl⟩)⟩
          refine (xg182_4 _ _ _ _).trans ?_
          rw [if_pos C.1.1, q1, xr_cI_s, cond_false, if_pos rfl, q2, xr_cI_s, cond_false, if_pos rfl, if_pos rfl]
theorem tm181L (hn : n ≤ 150) {F : lS → lS} (hF : ∀ p D s, lInv n p D s → lInv n p (D + 1) (F s)) (HF : ∀ (S : xr_S) (s : lS) (p D : Nat), tY (xm S) tb n → mLw (xm S) n o s → lInv n p D s → ∃ M, xr_Call (d + 4) 182 [xP 0 69] ([], w) S = some (.inl none, ([], w), xs S M) ∧ kN (xm S) M ∧ mLw M n o (F s)) (hr : ∀ q X, F (.inr q, X) = (.inr q, X)) (hm : ∀ a X a', (F (.inl a, X)).1 = .inl a' → a ≤ a') : ∀ (m : Nat) (S : xr_S) (s : lS) (p D : Nat) (u : xr_V), (∀ a, s.1 = .inl a → n ≤ a + m) → tY (xm S) tb n → mLw (xm S) n o s → lInv n p (D + 1) s → ∃ M, xr_Run (d + 4) 181 4 [xP 0 69, u] [] ([], w) S = some (.inl none, ([], w), xs S M) ∧ kN (xm S) M ∧ mLw M n o (lItr tb n F 43 7 45 8 m s) := by
  intro m
  induction m with
  | zero =>
    intro S s p D u hj Y C I
    obtain ⟨r, X⟩ := s
    cases r with
    | inr q =>
      refine ⟨xm S, ?_, kN_rf _, C⟩
      refine (xg181_4 _ _ _ _).trans ?_
      rw [if_neg (rM_5 C.1), xs_xm]
    | inl a =>
      have i1 := (I a rfl).1
      have h9 := hj a rfl
      have hsa : sk tb n a = a := skp_id (by omega) n
      have np : ∀ c, pTak tb n c (.inl a) = (false, .inl a) := fun c => by rw [pTak_n (by rw [hsa]; omega), hsa]
      obtain ⟨M1, q1, K1, R1⟩ := tm169 (d := d + 1) (w := w) (S := S) Y C.1 (c := 43) (by omega)
      rw [np] at q1 R1
      have Y1 : tY (xm (xs S M1)) tb n := tY_k K1 Y
      obtain ⟨M2, q2, K2, R2⟩ := tm169 (d := d + 1) (w := w) (S := xs S M1) (r := .inl a) Y1 R1 (c := 45) (by omega)
      rw [xs_xs] at q2
      rw [xm_xs] at K2
      rw [np] at q2 R2
      refine ⟨M2, ?_, kM_N (kM_tr K1 K2), mLw_r C (kM_tr K1 K2) R2 (fun _ _ => ⟨_, rfl⟩)⟩
      refine (xg181_4 _ _ _ _).trans ?_
      rw [if_pos C.1.1, q1, xr_cI_s, cond_false, if_pos rfl, q2, xr_cI_s, cond_false, if_pos rfl, if_pos rfl]
  | succ m ih =>
    intro S s p D u hj Y C I
    obtain ⟨r, X⟩ := s
    cases r with
    | inr q =>
      rw [lItr_r (s := (.inr q, X)) (q := q) rfl]
      refine ⟨xm S, ?_, kN_rf _, C⟩
      refine (xg181_4 _ _ _ _).trans ?_
      rw [if_neg (rM_5 C.1), xs_xm]
    | inl a =>
      obtain ⟨i1, i2, i3, i4⟩ := I a rfl
      have h1 := sk_ge tb n a
      have hl := sk_le (tb := tb) i1
      have h9 := hj a rfl
      have ed : lItr tb n F 43 7 45 8 (m + 1) (.inl a, X) = if sk tb n a < n ∧ tb (sk tb n a) = 43 then lItr tb n F 43 7 45 8 m (lAdd 7 (nI 0) (F (.inl (sk tb n a + 1), X))) else if sk tb n a < n ∧ tb (sk tb n a) = 45 then lItr tb n F 43 7 45 8 m (lAdd 8 (nI 0) (F (.inl (sk tb n a + 1), X))) else (.inl (sk tb n a), X) := rfl
      have I1 : sk tb n a < n → lInv n (p + 1) (D + 1) (.inl (sk tb n a + 1), X) := fun q a' ha => by
        cases ha
        exact ⟨by omega, by dsimp only at i2 ⊢; omega, i3, i4⟩
      obtain ⟨M1, q1, K1, R1⟩ := tm169 (d := d + 1) (w := w) (S := S) Y C.1 (c := 43) (by omega)
      have Y1 : tY (xm (xs S M1)) tb n := tY_k K1 Y
      have go : ∀ (kk : Nat) (M1 : xr_M), 7 ≤ kk ∧ kk ≤ 12 → sk tb n a < n → kM (xm S) M1 → rM M1 n (.inl (sk tb n a + 1)) → ∃ M, (xr_cV ([], w) (xr_Call (d + 4) 182 [xP 0 69] ([], w) (xs S M1)) (fun S9 => (xr_cV ([], w) (xr_Call (d + 4) 179 [xP 0 69, xI (nI (kk - 5)), xI (nI 0)] ([], w) S9) (fun S10 => (xr_Run (d + 4) 181 4 [xP 0 69, xI (nI (kk - 5))] [] ([], w) S10))))) = some (.inl none, ([], w), xs S M) ∧ kN (xm S) M ∧ mLw M n o (lItr tb n F 43 7 45 8 m (lAdd kk (nI 0) (F (.inl (sk tb n a + 1), X)))) := by
        intro kk M1 hk hlt K1 R1
        have Y1 : tY (xm (xs S M1)) tb n := tY_k K1 Y
        have C1 : mLw (xm (xs S M1)) n o (.inl (sk tb n a + 1), X) := mLw_r C K1 R1 (fun _ _ => ⟨_, rfl⟩)
        obtain ⟨M2, q2, K2, C2⟩ := HF (xs S M1) _ _ _ Y1 C1 (I1 hlt)
        rw [xs_xs] at q2
        rw [xm_xs] at K2
        have J2 := hF _ _ _ (I1 hlt)
        obtain ⟨M3, q3, K3, C3⟩ := tm179 (d := d + 3) (w := w) (S := xs S M2) (kk := kk) (v := nI 0) (a1 := nI (kk - 5)) (a2 := nI 0) C2 (fun a' ha => ⟨by have g1 := (J2 a' ha).2.1; have g2 := (J2 a' ha).1; omega, fun h => by omega, fun _ h => by omega, fun _ => rfl⟩)
        rw [xs_xs] at q3
        rw [xm_xs] at K3
        obtain ⟨M4, q4, K4, C4⟩ := ih (xs S M3) (lAdd kk (nI 0) (F (.inl (sk tb n a + 1), X))) p D (xI (nI (kk - 5))) (fun a' ha => by
          have hx : (F (.inl (sk tb n a + 1), X)).1 = .inl a' := by
            unfold lAdd at ha
            cases hc : (F (.inl (sk tb n a + 1), X)).1 with
            | inl z => rw [hc] at ha; dsimp only at ha; exact ha
            | inr z => rw [hc] at ha; dsimp only at ha; rw [hc] at ha; exact ha
          have := hm _ _ _ hx
          omega) (tY_N (kN_tr K2 K3) Y1) C3 (lInv_op hk.1 hk.2 J2)
        rw [xs_xs] at q4
        rw [xm_xs] at K4
        refine ⟨M4, ?_, kN_tr (kM_N K1) (kN_tr K2 (kN_tr K3 K4)), C4⟩
        rw [q2, xr_cV_s, q3, xr_cV_s, q4]
      rw [ed]
      by_cases qa : sk tb n a < n ∧ tb (sk tb n a) = 43
      · rw [if_pos qa]
        rw [pTak_y qa] at q1 R1
        obtain ⟨M2, q2, K2, C2⟩ := go 7 M1 (by omega) qa.1 K1 R1
        refine ⟨M2, ?_, K2, C2⟩
        rw [← q2]
        refine (xg181_4 _ _ _ _).trans ?_
        rw [if_pos C.1.1, q1, xr_cI_s, cond_true, if_neg (by rw [xn_eq (by omega) (by omega)]; omega), if_neg (fun h => (xn_m1 (show 2 < 2147483648 by omega)).mp h)]
      · rw [if_neg qa]
        rw [pTak_n qa] at q1 R1
        dsimp only at q1 R1
        obtain ⟨M2, q2, K2, R2⟩ := tm169 (d := d + 1) (w := w) (S := xs S M1) (r := .inl (sk tb n a)) Y1 R1 (c := 45) (by omega)
        rw [xs_xs] at q2
        rw [xm_xs] at K2
        by_cases qb : sk tb n a < n ∧ tb (sk tb n a) = 45
        · rw [if_pos qb]
          rw [pTak_y (by rw [sk_sk]; exact qb), sk_sk] at q2 R2
          obtain ⟨M3, q3, K3, C3⟩ := go 8 M2 (by omega) qb.1 (kM_tr K1 K2) R2
          refine ⟨M3, ?_, K3, C3⟩
          rw [← q3]
          refine (xg181_4 _ _ _ _).trans ?_
          rw [if_pos C.1.1, q1, xr_cI_s, cond_false, if_pos rfl, q2, xr_cI_s, cond_true, if_neg (by rw [xn_eq (by omega) (by omega)]; omega), if_neg (fun h => (xn_m1 (show 3 < 2147483648 by omega)).mp h)]
        · rw [if_neg qb]
          rw [pTak_n (by rw [sk_sk]; exact qb), sk_sk] at q2 R2
          dsimp only at q2 R2
          refine ⟨M2, ?_, kM_N (kM_tr K1 K2), mLw_r C (kM_tr K1 K2) R2 (fun _ _ => ⟨_, rfl⟩)⟩
          refine (xg181_4 _ _ _ _).trans ?_
          rw [if_pos C.1.1, q1, xr_cI_s, cond_false, if_pos rfl, q2, xr_cI_s, cond_false, if_pos rfl, if_pos rfl]
end
