/-! THE LAW'S TEXT: the model -/
def rowK (a b : Int32) (kd : Nat) (v : Int32) : Prop := (kd = 0 → a = nI 0 ∧ b = v) ∧ (1 ≤ kd → kd < 7 → a = nI 1 ∧ b = nI (kd - 1)) ∧ (7 ≤ kd → a = nI (kd - 5))
def mLw (M : xr_M) (n o : Nat) (s : lS) : Prop := rM M n s.1 ∧ ∀ a, s.1 = .inl a → M 0 69 8 = nI o ∧ M 0 69 22 = nI s.2.1 ∧ s.2.1 ≤ 150 ∧ ∀ j, j < s.2.1 → rowK (M j 1083 0) (M j 1083 1) (s.2.2.1 j) (s.2.2.2 j)
def kN (M M' : xr_M) : Prop := (∀ b e, ¬ (b = 0 ∧ e = 69) → ¬ e = 1083 → M' b e = M b e) ∧ ∀ k, ¬ (k = 4 ∨ k = 5 ∨ k = 6 ∨ k = 8 ∨ k = 22) → M' 0 69 k = M 0 69 k
theorem kN_rf (M : xr_M) : kN M M := ⟨fun _ _ _ _ => rfl, fun _ _ => rfl⟩
theorem kN_tr {M M' M'' : xr_M} (h : kN M M') (h' : kN M' M'') : kN M M'' := ⟨fun b e q q2 => (h'.1 b e q q2).trans (h.1 b e q q2), fun k q => (h'.2 k q).trans (h.2 k q)⟩
theorem kM_N {M M' : xr_M} (h : kM M M') : kN M M' := ⟨fun b e q _ => h.1 b e q, fun k q => h.2 k (by omega)⟩
theorem tY_N {M M' : xr_M} {tb : Nat → Nat} {n : Nat} (K : kN M M') (X : tY M tb n) : tY M' tb n := ⟨X.1, X.2.1, by rw [K.2 2 (by omega)]; exact X.2.2.1, fun k hk => by rw [K.1 0 70 (by omega) (by omega)]; exact X.2.2.2 k hk⟩
theorem mLw_r {M M' : xr_M} {n o : Nat} {r r' : tR} {X : Nat × (Nat → Nat) × (Nat → Int32)} (C : mLw M n o (r, X)) (K : kM M M') (R : rM M' n r') (h : ∀ a', r' = .inl a' → ∃ a, r = .inl a) : mLw M' n o (r', X) := by
  obtain ⟨_, h3⟩ := C
  refine ⟨R, fun a' ha => ?_⟩
  obtain ⟨a, e⟩ := h a' ha
  obtain ⟨g0, g1, g2, g3⟩ := h3 a e
  refine ⟨by rw [K.2 8 (by omega)]; exact g0, by rw [K.2 22 (by omega)]; exact g1, g2, fun j hj => ?_⟩
  rw [K.1 j 1083 (by omega)]
  exact g3 j hj
theorem rM_5 {M : xr_M} {n : Nat} {q : Nat × Nat} (R : rM M n (.inr q)) : ¬ M 0 69 5 = nI 0 := by
  obtain ⟨k, p⟩ := q
  rw [R.1, xn_eq (by have := R.2.1; omega) (by omega)]
  have := R.2.1
  omega
theorem rM_o {M : xr_M} {n : Nat} {r : tR} (R : rM M n r) {k : Nat} (hk : ¬ (k = 4 ∨ k = 5 ∨ k = 6)) (v : Int32) : rM (xw M 0 69 k v) n r := by
  cases r with
  | inl a =>
    obtain ⟨r1, r2, r3, r4⟩ := R
    exact ⟨by rw [xw_n (by omega)]; exact r1, by rw [xw_n (by omega)]; exact r2, by rw [xw_n (by omega)]; exact r3, r4⟩
  | inr q =>
    obtain ⟨r1, r2, r3, r4, a, r5, r6⟩ := R
    exact ⟨by rw [xw_n (by omega)]; exact r1, r2, by rw [xw_n (by omega)]; exact r3, r4, a, r5, by rw [xw_n (by omega)]; exact r6⟩
section
variable {d k : Nat} {w : List Nat} {S : xr_S} {tb : Nat → Nat} {n : Nat} {full : Bool} {sr : lS → lS} {o : Nat}
/-- notes -/
theorem tm179 {kk : Nat} {v a1 a2 : Int32} {s : lS} (C : mLw (xm S) n o s) (hz : ∀ a, s.1 = .inl a → s.2.1 < 150 ∧ rowK a1 a2 kk v) : ∃ M, xr_Call (d + 1) 179 [xP 0 69, xI a1, xI a2] ([], w) S = some (.inl none, ([], w), xs S M) ∧ kN (xm S) M ∧ mLw M n o (lAdd kk v s) := by
  obtain ⟨R, h3⟩ := id C
  unfold lAdd
  cases hs : s.1 with
  | inr q =>
    rw [hs] at R
    refine ⟨xm S, ?_, kN_rf _, C⟩
    rw [xe179, if_neg (rM_5 R), xs_xm]
  | inl a =>
    rw [hs] at R
    obtain ⟨g0, g1, g2, g3⟩ := h3 a hs
    obtain ⟨y1, y2⟩ := hz a hs
    refine ⟨xw (xw (xw (xm S) s.2.1 1083 0 a1) s.2.1 1083 1 a2) 0 69 22 (nI (s.2.1 + 1)), ?_, ⟨fun b e h h2 => by rw [xw_r (by omega), xw_r (by omega), xw_r (by omega)], fun k hk => by rw [xw_n (by omega), xw_n (by omega), xw_n (by omega)]⟩, ?_, fun a' ha => ⟨?_, ?_, ?_, fun j hj => ?_⟩⟩
    · rw [xe179, if_pos R.1]
      simp (disch := omega) only [xi_t, xn_k, xn_lt, xn_eq, xn_mul, xn_add, xn_sub, xn_dec, xn_m1, xn_1m, if_pos, if_neg, if_true, if_false, cond_true, cond_false, true_and, and_true, false_and, and_false, xr_cI_s, xr_cV_s, xr_cI_e, xr_cV_e, xm_xs, xs_xs, xw_y, xw_n, g1]
    · refine rM_o ?_ (by omega) _
      obtain ⟨r1, r2, r3, r4⟩ := R
      exact ⟨by rw [xw_n (by omega), xw_n (by omega)]; exact r1, by rw [xw_n (by omega), xw_n (by omega)]; exact r2, by rw [xw_n (by omega), xw_n (by omega)]; exact r3, r4⟩
    · rw [xw_n (by omega), xw_n (by omega), xw_n (by omega)]; exact g0
    · rw [xw_y (by omega)]
    · dsimp only; omega
    · dsimp only at hj ⊢
      by_cases q : j = s.2.1
      · have f0 : xw (xw (xw (xm S) s.2.1 1083 0 a1) s.2.1 1083 1 a2) 0 69 22 (nI (s.2.1 + 1)) j 1083 0 = a1 := by rw [xw_n (by omega), xw_n (by omega), xw_y (by omega)]
        have f1 : xw (xw (xw (xm S) s.2.1 1083 0 a1) s.2.1 1083 1 a2) 0 69 22 (nI (s.2.1 + 1)) j 1083 1 = a2 := by rw [xw_n (by omega), xw_y (by omega)]
        rw [f0, f1, if_pos q, xu_y q]
        exact y2
      · have f0 : ∀ i, xw (xw (xw (xm S) s.2.1 1083 0 a1) s.2.1 1083 1 a2) 0 69 22 (nI (s.2.1 + 1)) j 1083 i = xm S j 1083 i := fun i => by rw [xw_n (by omega), xw_n (by omega), xw_n (by omega)]
        rw [f0, f0, if_neg q, xu_n q]
        exact g3 j (by omega)
/-- opensOne -/
theorem tm180y {a : Nat} (R : rM (xm S) n (.inl a)) (e8 : xm S 0 69 8 = nI o) (ho : o < 6) : xr_Call (d + 2) 180 [xP 0 69] ([], w) S = some (.inl (some (nI 1)), ([], w), xs S (xw (xm S) 0 69 8 (nI (o + 1)))) := by
  rw [xe180, if_pos R.1, if_neg (by rw [e8, xn_eq (by omega) (by omega)]; omega), if_pos R.1, if_pos (by rw [xw_n (by omega)]; exact R.1), e8, xn_add]
theorem tm180n {a : Nat} (ha : a ≤ n) (R : rM (xm S) n (.inl a)) (e8 : xm S 0 69 8 = nI 6) : ∃ M, xr_Call (d + 2) 180 [xP 0 69] ([], w) S = some (.inl (some (nI 0)), ([], w), xs S M) ∧ kM (xm S) M ∧ rM M n (.inr (3, a)) := by
  obtain ⟨M, q, K, R', _⟩ := tm159 (d := d) (w := w) (S := S) (k := 3) (p := a) (by omega) ha R
  refine ⟨M, ?_, K, R'⟩
  rw [xe180, if_pos R.1, if_pos e8, R.2.2.1, q, xr_cV_s, xm_xs, if_neg (rM_5 R')]
def lLeaf (tb : Nat → Nat) (b e : Nat) : Option Nat := cond (wis (xr_by 7) tb b e) (some 0) (cond (wis (xr_by 8) tb b e) (some 1) (cond (wis (xr_by 9) tb b e) (some 2) (cond (wis (xr_by 10) tb b e) (some 3) (cond (wis (xr_by 11) tb b e) (some 4) (cond (wis (xr_by 12) tb b e) (some 5) none)))))
/-- knownHere -/
theorem tm183 {b : Nat} (hb : sk tb n b = b) (Y : tY (xm S) tb n) (R : rM (xm S) n (.inl b)) : xr_Call (d + 6) 183 [xP 0 69] ([], w) S = some (.inl (some (lKI (lLeaf tb b (wend tb n b)))), ([], w), xs S (xw (xm S) 0 69 4 (nI (cond (lLeaf tb b (wend tb n b)).isSome (wend tb n b) b)))) := by
  have z : ¬ nI 1 = nI 0 := by decide
  have e4 := R.2.2.1
  have m7 := mt7 (d := d) (w := w) Y R
  have m8 := mt8 (d := d) (w := w) Y R
  have m9 := mt9 (d := d) (w := w) Y R
  have m10 := mt10 (d := d) (w := w) Y R
  have m11 := mt11 (d := d) (w := w) Y R
  have m12 := mt12 (d := d) (w := w) Y R
  rw [hb] at m7 m8 m9 m10 m11 m12
  unfold lLeaf
  rw [xe183, m7, xr_cI_s]
  cases wis (xr_by 7) tb b (wend tb n b) with
  | true => rw [cond_true, if_neg z]; rfl
  | false =>
  rw [cond_false, cond_false, cond_false, if_pos rfl, xw_id e4, xs_xm, m8, xr_cI_s]
  cases wis (xr_by 8) tb b (wend tb n b) with
  | true => rw [cond_true, if_neg z]; rfl
  | false =>
  rw [cond_false, cond_false, cond_false, if_pos rfl, xw_id e4, xs_xm, m9, xr_cI_s]
  cases wis (xr_by 9) tb b (wend tb n b) with
  | true => rw [cond_true, if_neg z]; rfl
  | false =>
  rw [cond_false, cond_false, cond_false, if_pos rfl, xw_id e4, xs_xm, m10, xr_cI_s]
  cases wis (xr_by 10) tb b (wend tb n b) with
  | true => rw [cond_true, if_neg z]; rfl
  | false =>
  rw [cond_false, cond_false, cond_false, if_pos rfl, xw_id e4, xs_xm, m11, xr_cI_s]
  cases wis (xr_by 11) tb b (wend tb n b) with
  | true => rw [cond_true, if_neg z]; rfl
  | false =>
  rw [cond_false, cond_false, cond_false, if_pos rfl, xw_id e4, xs_xm, m12, xr_cI_s]
  cases wis (xr_by 12) tb b (wend tb n b) with
  | true => rw [cond_true, if_neg z]; rfl
  | false => rw [cond_false, cond_false, cond_false, if_pos rfl]; rfl
def MSum (w : List Nat) (tb : Nat → Nat) (n K o : Nat) (F : lS → lS) : Prop := ∀ (d : Nat) (S : xr_S) (s : lS) (p D : Nat), tY (xm S) tb n → mLw (xm S) n o s → lInv n p D s → ∃ M, xr_Call (d + K) 181 [xP 0 69] ([], w) S = some (.inl none, ([], w), xs S M) ∧ kN (xm S) M ∧ mLw M n o (F s)
theorem lKnd_e {b e : Nat} : lKnd tb b e = cond (wis (xr_by 13) tb b e) (some 11) (cond (wis (xr_by 14) tb b e) (some 12) ((lLeaf tb b e).map (fun k => k + 1))) := by
  have ne : ∀ i j, i < 22 → j < 22 → xr_by i ≠ xr_by j → wis (xr_by i) tb b e = true → wis (xr_by j) tb b e = false := fun i j _ _ h h1 => by
    cases h2 : wis (xr_by j) tb b e with
    | false => rfl
    | true => exact absurd (wis_inj h1 h2) h
  unfold lKnd lLeaf
  cases h13 : wis (xr_by 13) tb b e with
  | true => rw [ne 13 7 (by omega) (by omega) (by decide) h13, ne 13 8 (by omega) (by omega) (by decide) h13, ne 13 9 (by omega) (by omega) (by decide) h13, ne 13 10 (by omega) (by omega) (by decide) h13, ne 13 11 (by omega) (by omega) (by decide) h13, ne 13 12 (by omega) (by omega) (by decide) h13]; rfl
  | false =>
    cases h14 : wis (xr_by 14) tb b e with
    | true => rw [ne 14 7 (by omega) (by omega) (by decide) h14, ne 14 8 (by omega) (by omega) (by decide) h14, ne 14 9 (by omega) (by omega) (by decide) h14, ne 14 10 (by omega) (by omega) (by decide) h14, ne 14 11 (by omega) (by omega) (by decide) h14, ne 14 12 (by omega) (by omega) (by decide) h14]; rfl
    | false =>
      cases wis (xr_by 7) tb b e <;> cases wis (xr_by 8) tb b e <;> cases wis (xr_by 9) tb b e <;> cases wis (xr_by 10) tb b e <;> cases wis (xr_by 11) tb b e <;> cases wis (xr_by 12) tb b e <;> rfl
theorem lKI_m {o : Option Nat} (h : ∀ x, o = some x → x < 100) : (lKI o = -1) = (o = none) := by
  apply propext
  cases o with
  | none => exact ⟨fun _ => rfl, fun _ => rfl⟩
  | some x => exact ⟨fun h9 => ((xn_m1 (show x < 2147483648 by have := h x rfl; omega)).mp h9).elim, fun h9 => nomatch h9⟩
theorem lLeaf_b {b e x : Nat} (h : lLeaf tb b e = some x) : x < 6 := by
  have hk := lKnd_e (tb := tb) (b := b) (e := e)
  unfold lLeaf at h
  revert h
  cases wis (xr_by 7) tb b e <;> cases wis (xr_by 8) tb b e <;> cases wis (xr_by 9) tb b e <;> cases wis (xr_by 10) tb b e <;> cases wis (xr_by 11) tb b e <;> cases wis (xr_by 12) tb b e <;> (intro h; cases h) <;> omega
/-- what stands behind least[ and most[ -/
theorem tm184w (hn : n ≤ 150) (ho : o < 6) (hs : ∀ p D s, lInv n p D s → lInv n p (D + 1) (sr s)) (HS : MSum w tb n (k + 8) (o + 1) sr) {b kk p D : Nat} {X : Nat × (Nat → Nat) × (Nat → Int32)} (hkk : kk = 11 ∨ kk = 12) (hb : sk tb n b = b) (h3 : b + 3 ≤ wend tb n b) (Y : tY (xm S) tb n) (C : mLw (xm S) n o (.inl b, X)) (I : lInv n p D (.inl b, X)) : ∃ M, (xr_cI ([], w) (xr_Call (d + k + 9) 180 [xP 0 69] ([], w) S) (fun x61 S60 => (if x61 = (nI 0) then (some (.inl none, ([], w), S60)) else (xr_cV ([], w) (xr_Call (d + k + 9) 166 [xP 0 69] ([], w) S60) (fun S62 => (xr_cV ([], w) (xr_Call (d + k + 9) 168 [xP 0 69, xI (nI 91)] ([], w) S62) (fun S63 => (xr_cV ([], w) (xr_Call (d + k + 9) 181 [xP 0 69] ([], w) S63) (fun S64 => (xr_cV ([], w) (xr_Call (d + k + 9) 168 [xP 0 69, xI (nI 44)] ([], w) S64) (fun S65 => (xr_cV ([], w) (xr_Call (d + k + 9) 181 [xP 0 69] ([], w) S65) (fun S66 => (xr_cV ([], w) (xr_Call (d + k + 9) 168 [xP 0 69, xI (nI 93)] ([], w) S66) (fun S67 => (xr_cV ([], w) (xr_Call (d + k + 9) 179 [xP 0 69, xI (nI (kk - 5)), xI (nI 0)] ([], w) S67) (fun S68 => (some (.inl none, ([], w), (xs S68 (xw (xm S68) 0 69 8 (((xm S68) 0 69 8) - (nI 1))))))))))))))))))))))) = some (.inl none, ([], w), xs S M) ∧ kN (xm S) M ∧ mLw M n o (lWrd tb n false sr b (wend tb n b) X (some kk)) := by
  obtain ⟨i1, i2, i3, i4⟩ := I b rfl
  obtain ⟨c0, c1, c2, c3⟩ := C.2 b rfl
  have hwe := trun_ge (p := tlet) (tb := tb) (n := n) n b
  have hw : wend tb n b ≤ n := hwe.2.1 i1
  have q1 := tm180y (d := d + k + 7) (w := w) (S := S) C.1 c0 ho
  have K1 : kN (xm S) (xw (xm S) 0 69 8 (nI (o + 1))) := ⟨fun b e h _ => by rw [xw_r h], fun k hk => by rw [xw_n (by omega)]⟩
  have Y1 : tY (xm (xs S (xw (xm S) 0 69 8 (nI (o + 1))))) tb n := tY_N K1 Y
  have R1 : rM (xm (xs S (xw (xm S) 0 69 8 (nI (o + 1))))) n (.inl b) := rM_o C.1 (by omega) _
  have C1 : mLw (xm (xs S (xw (xm S) 0 69 8 (nI (o + 1))))) n (o + 1) (.inl b, X) := ⟨R1, fun a ha => ⟨by rw [xm_xs, xw_y (by omega)], by rw [xm_xs, xw_n (by omega)]; exact c1, c2, fun j hj => by rw [xm_xs, xw_n (by omega), xw_n (by omega)]; exact c3 j hj⟩⟩
  obtain ⟨q2, _, _⟩ := tm166 (d := d + k + 7) (w := w) Y1 R1
  rw [xs_xs, xm_xs] at q2
  have K2 : kM (xw (xm S) 0 69 8 (nI (o + 1))) (xw (xw (xm S) 0 69 8 (nI (o + 1))) 0 69 4 (nI (wend tb n b))) := kM_w _ (by omega) _
  have C2 : mLw (xm (xs S (xw (xw (xm S) 0 69 8 (nI (o + 1))) 0 69 4 (nI (wend tb n b))))) n (o + 1) (.inl (wend tb n b), X) := mLw_r C1 K2 (rM_sk R1 hw) (fun _ _ => ⟨_, rfl⟩)
  have Y2 : tY (xm (xs S (xw (xw (xm S) 0 69 8 (nI (o + 1))) 0 69 4 (nI (wend tb n b))))) tb n := tY_k K2 Y1
  have I1 : lInv n (p + 1) D (.inl (wend tb n b), X) := fun a ha => by
    cases ha
    exact ⟨hw, by dsimp only at i2 ⊢; omega, i3, i4⟩
  obtain ⟨M3, q3, K3, R3⟩ := tm168 (d := d + k + 6) (w := w) Y2 C2.1 (c := 91) (by omega)
  rw [xs_xs] at q3
  rw [xm_xs] at K3
  have C3 := mLw_r (M' := M3) C2 K3 R3 pSgn_s
  have Y3 : tY (xm (xs S M3)) tb n := tY_k K3 Y2
  have J1 := lInv_mono (p' := p + 1) (by omega) (lInv_sgn (tb := tb) (c := 91) I1)
  obtain ⟨M4, q4, K4, C4⟩ := HS (d + 1) (xs S M3) _ _ _ Y3 C3 J1
  rw [xs_xs] at q4
  rw [xm_xs] at K4
  have Y4 : tY (xm (xs S M4)) tb n := tY_N K4 Y3
  have J2 := hs _ _ _ J1
  obtain ⟨M5, q5, K5, R5⟩ := tm168 (d := d + k + 6) (w := w) (S := xs S M4) Y4 C4.1 (c := 44) (by omega)
  rw [xs_xs] at q5
  rw [xm_xs] at K5
  have C5 := mLw_r (M' := M5) C4 K5 R5 pSgn_s
  have Y5 : tY (xm (xs S M5)) tb n := tY_k K5 Y4
  have J3 := lInv_mono (p' := p + 1) (by omega) (lInv_sgn (tb := tb) (c := 44) J2)
  obtain ⟨M6, q6, K6, C6⟩ := HS (d + 1) (xs S M5) _ _ _ Y5 C5 J3
  rw [xs_xs] at q6
  rw [xm_xs] at K6
  have Y6 : tY (xm (xs S M6)) tb n := tY_N K6 Y5
  have J4 := hs _ _ _ J3
  obtain ⟨M7, q7, K7, R7⟩ := tm168 (d := d + k + 6) (w := w) (S := xs S M6) Y6 C6.1 (c := 93) (by omega)
  rw [xs_xs] at q7
  rw [xm_xs] at K7
  have C7 := mLw_r (M' := M7) C6 K7 R7 pSgn_s
  have J5 := lInv_sgn (tb := tb) (c := 93) J4
  obtain ⟨M8, q8, K8, C8⟩ := tm179 (d := d + k + 8) (w := w) (S := xs S M7) (kk := kk) (v := nI 0) (a1 := nI (kk - 5)) (a2 := nI 0) C7 (fun a ha => ⟨by have h1 := (J5 a ha).2.1; have h2 := (J5 a ha).1; dsimp only at h1 ⊢; omega, fun h => by omega, fun _ h => by omega, fun _ => rfl⟩)
  rw [xs_xs] at q8
  rw [xm_xs] at K8
  have Kall : kN (xm S) M8 := kN_tr K1 (kN_tr (kM_N K2) (kN_tr (kM_N K3) (kN_tr K4 (kN_tr (kM_N K5) (kN_tr K6 (kN_tr (kM_N K7) K8))))))
  refine ⟨xw M8 0 69 8 (M8 0 69 8 - nI 1), ?_, kN_tr Kall ⟨fun b e h _ => by rw [xw_r h], fun k hk => by rw [xw_n (by omega)]⟩, ?_⟩
  · rw [show d + k + 9 = d + k + 7 + 2 by omega, q1, xr_cI_s, if_neg (by rw [xn_eq (by omega) (by omega)]; omega), q2, xr_cV_s, show d + k + 7 + 2 = d + k + 6 + 3 by omega, q3, xr_cV_s, show d + k + 6 + 3 = d + 1 + (k + 8) by omega, q4, xr_cV_s, show d + 1 + (k + 8) = d + k + 6 + 3 by omega, q5, xr_cV_s, show d + k + 6 + 3 = d + 1 + (k + 8) by omega, q6, xr_cV_s, show d + 1 + (k + 8) = d + k + 6 + 3 by omega, q7, xr_cV_s, show d + k + 6 + 3 = d + k + 8 + 1 by omega, q8, xr_cV_s, xm_xs, xs_xs]
  · unfold lWrd
    dsimp only
    rw [if_neg (by omega), if_neg (by simp)]
    refine ⟨rM_o C8.1 (by omega) _, fun a ha => ?_⟩
    obtain ⟨g0, g1, g2, g3⟩ := C8.2 a ha
    refine ⟨by rw [xw_y (by omega), g0, xn_sub (by omega), Nat.add_sub_cancel], by rw [xw_n (by omega)]; exact g1, g2, fun j hj => ?_⟩
    rw [xw_n (by omega), xw_n (by omega)]
    exact g3 j hj
end
