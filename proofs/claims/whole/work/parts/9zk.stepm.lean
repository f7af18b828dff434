/-! THE WORK'S STEPS: the model, one step -/
def e5 (g g' : Nat → Int32) : Prop := ∀ j, j < 145 → g' j = g j
section
variable {g g' : Nat → Int32} {sz : Nat} {kd : Nat → Nat} {gv : Nat → Int32} {dy : Nat → Int32} {due : Int32} {np nq : Nat} {pl : Nat → Nat}
theorem e5_u (e : e5 g g') (k : Nat) (v : Int32) : e5 (xu g k v) (xu g' k v) := fun j hj => by
  unfold xu
  split
  · rfl
  · exact e j hj
theorem e5_N (e : e5 g g') {j : Nat} (hj : j < 145) : gN g' j = gN g j := by unfold gN; rw [e j hj]
theorem gap_c5 (e : e5 g g') {a b n : Nat} (ha : a < 16) (hb : b < 16) (hn : n ≤ 6) : gap g' a b n = gap g a b n := xsN_congr n (fun k hk => by
  unfold gdist
  rw [e5_N e (by omega), e5_N e (by omega)])
theorem gcut_c5 (e : e5 g g') {half i : Nat} (hh : half < 16) (hi : i < 6) : gcut sz kd gv g' half due i = gcut sz kd gv g half due i := by
  unfold gcut
  rw [e5_N e (by omega), e 144 (by omega), e (32 + half) (by omega)]
theorem gwi_c5 (e : e5 g g') {half : Nat} (hh : half < 16) : ∀ n, n ≤ 6 → e5 (gwi sz kd gv g half due n) (gwi sz kd gv g' half due n)
  | 0, _ => e
  | n + 1, hn => by
    rw [gwi, gwi, gcut_c5 e hh (by omega)]
    exact e5_u (gwi_c5 e hh n (by omega)) _ _
theorem gwhalf_c5 (e : e5 g g') {p n half : Nat} (hh : half < 16) (hn : n ≤ 6) : e5 (gwhalf sz kd gv g p n half due) (gwhalf sz kd gv g' p n half due) := by
  unfold gwhalf
  rw [xsN_congr (g := gcut sz kd gv g' half due) (g' := gcut sz kd gv g half due) n (fun k hk => gcut_c5 e hh (by omega)), e (32 + half) (by omega)]
  split
  · exact e5_u (e5_u (gwi_c5 e hh n hn) _ _) _ _
  · exact e5_u (gwi_c5 e hh n hn) _ _
theorem gwear_c5 (e : e5 g g') {p : Nat} (hp : p < 8) (hn : pl p ≤ 6) : e5 (gwear sz kd gv pl dy g p) (gwear sz kd gv pl dy g' p) := by
  unfold gwear
  rw [e (8 + p) (by omega), e 144 (by omega)]
  split
  · exact gwhalf_c5 (gwhalf_c5 e (by omega) hn) (by omega) hn
  · exact e
theorem gpots_c5 (e : e5 g g') (n2 : nq ≤ 8) (n3 : ∀ p, p < nq → pl p ≤ 6) : ∀ n, n ≤ nq → e5 (gpots sz kd gv pl dy g n) (gpots sz kd gv pl dy g' n)
  | 0, _ => e
  | n + 1, hn => gwear_c5 (gpots_c5 e n2 n3 n (by omega)) (by omega) (n3 n (by omega))
theorem gyear_c5 (e : e5 g g') (n2 : nq ≤ 8) (n3 : ∀ p, p < nq → pl p ≤ 6) : e5 (gyear sz kd gv pl dy nq g) (gyear sz kd gv pl dy nq g') := by
  have h := gpots_c5 (sz := sz) (kd := kd) (gv := gv) (dy := dy) e n2 n3 nq (Nat.le_refl _)
  unfold gyear
  rw [h 144 (by omega)]
  exact e5_u h _ _
theorem xgW_c5 (e : e5 g g') (n2 : nq ≤ 8) (W : xgW np nq pl g) : xgW np nq pl g' := by
  refine ⟨fun k hk => ?_, fun k i hk hi => ?_⟩
  · unfold gN; rw [e _ (by omega)]; exact W.1 k hk
  · unfold gN; rw [e _ (by omega)]; exact W.2 k i hk hi
theorem xGr_c5 {M : xr_M} {b c : Nat} (e : e5 g g') (n1 : np ≤ 8) (n2 : nq ≤ 8) (n3 : ∀ p, p < nq → pl p ≤ 6) (G : xGr M b c np nq pl g) : xGr M b c np nq pl g' := by
  obtain ⟨g0, g1, g2, g3, g4, g5⟩ := G
  refine ⟨g0.trans (e _ (by omega)).symm, fun k hk => (g1 k hk).trans (e _ (by omega)).symm, fun k hk => (g2 k hk).trans (e _ (by omega)).symm, fun k hk => (g3 k hk).trans (e _ (by omega)).symm, fun k hk => (g4 k hk).trans (e _ (by omega)).symm, fun k i hk hi => (g5 k i hk hi).trans (e _ ?_).symm⟩
  have := n3 (k / 2) (by omega)
  omega
theorem gpay_c5 {du : Nat → Nat} (e : e5 g g') {p : Nat} (W : xgW np nq pl g) (n1 : np ≤ 8) (n2 : nq ≤ 8) (hp : p < nq) : e5 (gpay du g p) (gpay du g' p) := by
  obtain ⟨_, la⟩ := W.1 (2 * p + 1) (by omega)
  obtain ⟨_, lb⟩ := W.1 (2 * p) (by omega)
  unfold gpay
  rw [e5_N e (by omega), e5_N e (by omega), e _ (by omega), e5_u e _ _ _ (by omega)]
  exact e5_u (e5_u (e5_u e _ _) _ _) _ _
theorem ggive_c5 (e : e5 g g') (k y : Nat) : e5 (ggive g k y) (ggive g' k y) := e5_u (e5_u e _ _) _ _
end
section
variable {d : Nat} {w : List Nat} {S : xr_S} {np nq ch st : Nat} {du pl : Nat → Nat} {dy : Nat → Int32} {dp : Nat → Nat → Nat}
theorem gm210 (P : xPl (xm S) np nq ch st du pl dy dp) (W : xgW np nq pl (xm S 0 89)) {p : Nat} (hpq : p < nq) : (¬ ((xm S 0 89 (8 + p) = nI 0 ∧ gap (xm S 0 89) (2 * p) (2 * p + 1) (pl p) ≤ ch) ∧ ¬ xm S 0 89 (gN (xm S 0 89) (16 + (2 * p + 1))) < nI (du p)) → xr_Call (d + 5) 210 [xP 0 69, xP 0 89, xI (nI p)] ([], w) S = some (.inl (some (nI 0)), ([], w), S)) ∧ ((xm S 0 89 (8 + p) = nI 0 ∧ gap (xm S 0 89) (2 * p) (2 * p + 1) (pl p) ≤ ch) ∧ ¬ xm S 0 89 (gN (xm S 0 89) (16 + (2 * p + 1))) < nI (du p) → ∃ M, xr_Call (d + 5) 210 [xP 0 69, xP 0 89, xI (nI p)] ([], w) S = some (.inl (some (nI 1)), ([], w), xs S M) ∧ M 0 89 = gpay du (xm S 0 89) p ∧ ∀ b e, ¬ (b = 0 ∧ e = 89) → M b e = xm S b e) := by
  have P' := P
  obtain ⟨⟨p0, p1, p2, p3⟩, ⟨m0, m1, m2, m3⟩, ⟨b0, b1, b2, b3, b4⟩, hp, hd⟩ := P
  obtain ⟨c39, c40, c41, e2, e3, e4, l1, l2, l3⟩ := hp p hpq
  obtain ⟨wa, la⟩ := W.1 (2 * p + 1) (by omega)
  obtain ⟨wb, lb⟩ := W.1 (2 * p) (by omega)
  have f6 := gm206 (d := d + 3) (w := w) (S := S) (c := 89) (p := p) (Or.inl rfl) (by omega)
  have f5 := gm205 (d := d) (w := w) (c := 89) (Or.inl rfl) P' W hpq
  have z : ¬ nI 1 = nI 0 := by decide
  generalize hP : gN (xm S 0 89) (16 + (2 * p + 1)) = a at *
  generalize hT : gN (xm S 0 89) (16 + 2 * p) = t at *
  constructor
  · intro q
    rw [xe210 (d + 4) w S 89 (Or.inl rfl)]
    by_cases q1 : xm S 0 89 (8 + p) = nI 0
    · unfold bI at f6
      rw [if_pos q1] at f6
      by_cases q2 : gap (xm S 0 89) (2 * p) (2 * p + 1) (pl p) ≤ ch
      · have q3 : xm S 0 89 a < nI (du p) := Classical.not_not.mp (fun q3 => q ⟨⟨q1, q2⟩, q3⟩)
        unfold bI at f5
        rw [if_pos q2] at f5
        simp (disch := omega) only [xi_t, xn_k, xn_mul, xn_add, cond_true, xr_cI_s, Nat.add_assoc, Nat.zero_add, f6, f5, wa, wb, e2, q3, z, if_true, if_false]
      · unfold bI at f5
        rw [if_neg q2] at f5
        simp (disch := omega) only [xi_t, xn_k, xn_mul, xn_add, cond_true, xr_cI_s, Nat.add_assoc, Nat.zero_add, f6, f5, wa, wb, e2, z, if_true, if_false]
    · unfold bI at f6
      rw [if_neg q1] at f6
      simp (disch := omega) only [xi_t, xn_k, xn_mul, xn_add, cond_true, xr_cI_s, Nat.add_assoc, Nat.zero_add, f6, wa, wb, e2, z, if_true, if_false]
  · rintro ⟨⟨q1, q2⟩, q3⟩
    refine ⟨xw (xw (xw (xm S) 0 89 a (xm S 0 89 a - nI (du p))) 0 89 t (xw (xm S) 0 89 a (xm S 0 89 a - nI (du p)) 0 89 t + nI (du p))) 0 89 (8 + p) (nI 1), ?_, ?_, fun b e hb => ?_⟩
    · rw [xe210 (d + 4) w S 89 (Or.inl rfl)]
      unfold bI at f5 f6
      rw [if_pos q1] at f6
      rw [if_pos q2] at f5
      simp (disch := omega) only [xi_t, xn_k, xn_mul, xn_add, cond_true, xr_cI_s, Nat.add_assoc, Nat.zero_add, f6, f5, wa, wb, e2, q3, z, if_true, if_false]
    · unfold gpay
      rw [hP, hT]
      simp only [xw_u]
    · rw [xw_r (by omega), xw_r (by omega), xw_r (by omega)]
theorem tm211 {f j sz : Nat} {kd : Nat → Nat} {gv : Nat → Int32} (hf : 17000 ≤ f) (P : xPl (xm S) np nq ch st du pl dy dp) (L : xLm (xm S) sz kd gv) (V : xLv sz kd) {v : Nat × Nat × Nat × Nat} (hv : wRok np nq v) (h5 : v.1 ≠ 5) (C : mRw (xm S) j v) {G : aG} (hG : aGk np nq pl G) (E : e5 G.1 (xm S 0 89)) (H : xhM (xm S 0 89) G.2.1 G.2.2) : ∃ M, xr_Call (d + 6) 211 [xP 0 69, xP 0 89, xP j 1088] ([], w) S = some (.inl (some (cond (aDo f st ch du pl dy nq sz kd gv v G).1 (nI 1) (nI 0))), ([], w), xs S M) ∧ e5 (aDo f st ch du pl dy nq sz kd gv v G).2.1 (M 0 89) ∧ xhM (M 0 89) (aDo f st ch du pl dy nq sz kd gv v G).2.2.1 (aDo f st ch du pl dy nq sz kd gv v G).2.2.2 ∧ ∀ b e, ¬ (b = 0 ∧ (e = 89 ∨ e = 86 ∨ e = 87)) → M b e = xm S b e := by
  obtain ⟨k, p, x, y⟩ := v
  obtain ⟨g, h, s⟩ := G
  obtain ⟨W, I⟩ := hG
  obtain ⟨v1, v2, v3, v4, v5, v6⟩ := hv
  obtain ⟨C1, C2, C3, C4, C5⟩ := C
  dsimp only at v1 v2 v3 v4 v5 v6 W I C1 C2 C3 C4 C5 h5 E H
  have P' := P
  obtain ⟨⟨p0, p1, p2, p3⟩, ⟨m0, m1, m2, m3⟩, ⟨b0, b1, b2, b3, b4⟩, hp, hd⟩ := P
  have W9 := xgW_c5 E b1 W
  have B := hG_B (hI_G I)
  have pre : xr_Call (d + 6) 211 [xP 0 69, xP 0 89, xP j 1088] ([], w) S = _ := xe211 (d + 5) w S j
  rw [xi_t (by omega) (by omega), cond_true, xi_t (by omega) (by omega), cond_true, xi_t (by omega) (by omega), cond_true, xn_k (by omega), xn_k (by omega), xn_k (by omega), C1] at pre
  have hk : k = 0 ∨ k = 1 ∨ k = 2 ∨ k = 3 ∨ k = 4 := by omega
  have z : ¬ nI 1 = nI 0 := by decide
  unfold aDo
  dsimp only
  rcases hk with rfl | rfl | rfl | rfl | rfl
  · have hp := v2 (by omega)
    rw [C2 (by omega)] at pre
    obtain ⟨n, y⟩ := gm210 (d := d) (w := w) P' W9 hp
    rw [E (8 + p) (by omega), gap_c5 E (by omega) (by omega) (by have := (‹∀ p, p < nq → _› p hp); omega), e5_N E (by omega)] at n y
    obtain ⟨_, la⟩ := W.1 (2 * p + 1) (by omega)
    rw [E (gN g (16 + (2 * p + 1))) (by omega)] at n y
    by_cases q : (g (8 + p) = nI 0 ∧ gap g (2 * p) (2 * p + 1) (pl p) ≤ ch) ∧ ¬ g (gN g (16 + (2 * p + 1))) < nI (du p)
    · obtain ⟨M, e, G4, F⟩ := y q
      rw [if_pos q]
      refine ⟨M, ?_, by rw [G4]; exact gpay_c5 E W (by omega) b1 hp, ?_, fun b e hb => F b e (by omega)⟩
      · rw [pre, xg211_12_0, show xr_Call (d + 5) 210 [xP 0 69, xP 0 89, xI (nI p)] ([], w) S = _ from e, xr_cI_s, xok1]; rfl
      · rw [G4]
        obtain ⟨_, lb⟩ := W9.1 (2 * p) (by omega)
        obtain ⟨_, lc⟩ := W9.1 (2 * p + 1) (by omega)
        unfold gpay
        exact ⟨fun z hz => by rw [xu_n (by omega), xu_n (by omega), xu_n (by omega)]; exact H.1 z hz, fun z i hz hi => by rw [xu_n (by omega), xu_n (by omega), xu_n (by omega)]; exact H.2 z i hz hi⟩
    · rw [if_neg q]
      refine ⟨xm S, ?_, E, H, fun _ _ _ => rfl⟩
      rw [pre, xg211_12_0, show xr_Call (d + 5) 210 [xP 0 69, xP 0 89, xI (nI p)] ([], w) S = _ from n q, xr_cI_s, xok0]; rfl
  · have hp := v2 (by omega)
    obtain ⟨hx, hy⟩ := v3 rfl
    rw [C2 (by omega), C3 (by omega)] at pre
    have pre2 : xr_Call (d + 6) 211 [xP 0 69, xP 0 89, xP j 1088] ([], w) S = _ := pre.trans (xg211_12_1 (d + 5) w S j (nI p) (nI x))
    have f6 := gm206 (d := d + 4) (w := w) (S := S) (c := 89) (p := p) (Or.inl rfl) (by omega)
    rw [E (8 + p) (by omega)] at f6
    have fE := E (16 + (2 * p + x)) (by omega)
    have c4 := C4 rfl
    by_cases q1 : g (8 + p) = nI 0
    · unfold bI at f6
      rw [if_pos q1] at f6
      by_cases q2 : g (16 + (2 * p + x)) = nI y
      · have nq2 : ¬ (g (8 + p) = nI 0 ∧ ¬ g (16 + (2 * p + x)) = nI y) := fun q => q.2 q2
        rw [if_neg nq2]
        refine ⟨xm S, ?_, E, H, fun _ _ _ => rfl⟩
        rw [pre2]
        simp (disch := omega) only [xi_t, xn_k, xn_mul, xn_add, cond_true, cond_false, xr_cI_s, Nat.add_assoc, f6, z, if_false, if_true, c4, fE, q2, xs_xm]
      · have yq2 : g (8 + p) = nI 0 ∧ ¬ g (16 + (2 * p + x)) = nI y := ⟨q1, q2⟩
        rw [if_pos yq2]
        refine ⟨xw (xw (xm S) 0 89 (16 + (2 * p + x)) (nI y)) 0 89 (32 + (2 * p + x)) (nI 0), ?_, by simp only [xw_u]; exact ggive_c5 E _ _, ?_, fun b e hb => by rw [xw_r (by omega), xw_r (by omega)]⟩
        · rw [pre2]
          simp (disch := omega) only [xi_t, xn_k, xn_mul, xn_add, cond_true, xr_cI_s, Nat.add_assoc, f6, z, if_false, if_true, c4, fE, q2]
        · exact ⟨fun z hz => by rw [xw_n (by omega), xw_n (by omega)]; exact H.1 z hz, fun z i hz hi => by rw [xw_n (by omega), xw_n (by omega)]; exact H.2 z i hz hi⟩
    · unfold bI at f6
      rw [if_neg q1] at f6
      have nq2 : ¬ (g (8 + p) = nI 0 ∧ ¬ g (16 + (2 * p + x)) = nI y) := fun q => q1 q.1
      rw [if_neg nq2]
      refine ⟨xm S, ?_, E, H, fun _ _ _ => rfl⟩
      rw [pre2, f6, xr_cI_s, if_pos rfl]; rfl
  · have hp := v2 (by omega)
    have hx := v4 rfl
    have b1' := B x hx
    rw [C2 (by omega), C3 (by omega)] at pre
    have pre2 : xr_Call (d + 6) 211 [xP 0 69, xP 0 89, xP j 1088] ([], w) S = _ := pre.trans (xg211_12_2 (d + 5) w S j (nI p) (nI x))
    rw [show xr_Call (d + 5) 199 [xP 0 89, xI (nI p)] ([], w) S = _ from hm199 (d := d + 3) (Or.inl rfl) H (xhB_le (by omega) B) (nI p), xr_cI_s] at pre2
    rcases hq : hcol h s (nI p) with _ | z'
    rotate_left
    · have hz := (hcol_some hq).1
      rw [hq, if_neg (show ¬ oI (some z') = -1 from fun e => (xn_m1 (show z' < 2147483648 by omega)).mp e)] at pre2
      rw [if_pos (show (some z').isSome = true from rfl)]
      exact ⟨xm S, pre2, E, H, fun _ _ _ => rfl⟩
    · rw [hq, if_pos (show oI none = -1 from rfl)] at pre2
      rw [if_neg (show ¬ (none : Option Nat).isSome = true by decide)]
      obtain ⟨M1, e1, H1, F1, k1⟩ := hm194 (d := d + 3) (w := w) (S := S) (c := 89) (Or.inl rfl) H (xhB_le (by omega) B) hx (by omega) (nI p)
      have B1 : xhB 46 (hup h x (h x + 1)) := hup_B B (by omega)
      have q1 := hsq_le B1
      obtain ⟨M2, e2, H2, F2, k2⟩ := hm198 (d := d + 1) (w := w) (S := xs S M1) (c := 89) (Or.inl rfl) (show st < 100 by omega) (by omega) H1 (xhB_le (by omega) B1) (n := f) (by omega) (by rw [xm_xs, F1 0 73 (by omega)]; exact m3)
      refine ⟨M2, ?_, fun i hi => ?_, H2, fun b e hb => by rw [F2 b e (by omega), xm_xs, F1 b e (by omega)]⟩
      · rw [pre2, show xr_Call (d + 5) 194 [xP 0 89, xI (nI x), xI (nI p)] ([], w) S = _ from e1, xr_cV_s, show xr_Call (d + 5) 198 [xP 0 69, xP 0 89] ([], w) (xs S M1) = _ from e2, xr_cI_s, xs_xs]; rfl
      · rw [k2 i hi, xm_xs, k1 i hi]; exact E i hi
  · have hp := v5 rfl
    have b1' := B p hp
    rw [C5 rfl] at pre
    have pre2 : xr_Call (d + 6) 211 [xP 0 69, xP 0 89, xP j 1088] ([], w) S = _ := pre.trans (xg211_12_3 (d + 5) w S j (xm S j 1088 1) (nI p))
    rw [show xr_Call (d + 5) 192 [xP 0 89, xI (nI p)] ([], w) S = _ from hm192 (d := d + 4) (Or.inl rfl) H hp, xr_cI_s] at pre2
    by_cases q : h p = 0
    · rw [q, if_pos rfl] at pre2
      rw [if_pos q]
      exact ⟨xm S, pre2, E, H, fun _ _ _ => rfl⟩
    · rw [if_neg (show ¬ nI (h p) = nI 0 by rw [xn_eq (by omega) (by omega)]; exact q)] at pre2
      rw [if_neg q]
      obtain ⟨M1, e1, H1, F1, k1⟩ := hm195 (d := d + 2) (w := w) (S := S) (c := 89) (Or.inl rfl) H (xhB_le (by omega) B) hp (Nat.pos_of_ne_zero q)
      have B1 : xhB 46 (hup h p (h p - 1)) := hup_B B (by omega)
      have q1 := hsq_le B1
      obtain ⟨M2, e2, H2, F2, k2⟩ := hm198 (d := d + 1) (w := w) (S := xs S M1) (c := 89) (Or.inl rfl) (show st < 100 by omega) (by omega) H1 (xhB_le (by omega) B1) (n := f) (by omega) (by rw [xm_xs, F1 0 73 (by omega)]; exact m3)
      refine ⟨M2, ?_, fun i hi => ?_, H2, fun b e hb => by rw [F2 b e (by omega), xm_xs, F1 b e (by omega)]⟩
      · rw [pre2, show xr_Call (d + 5) 195 [xP 0 89, xI (nI p)] ([], w) S = _ from e1, xr_cI_s, show xr_Call (d + 5) 198 [xP 0 69, xP 0 89] ([], w) (xs S M1) = _ from e2, xr_cI_s, xs_xs]; rfl
      · rw [k2 i hi, xm_xs, k1 i hi]; exact E i hi
  · have pre2 : xr_Call (d + 6) 211 [xP 0 69, xP 0 89, xP j 1088] ([], w) S = _ := pre.trans (xg211_12_4 (d + 5) w S j (xm S j 1088 1) (xm S j 1088 2))
    rw [xi_t (by omega) (by omega), cond_true, xn_k (by omega), E 144 (by omega)] at pre2
    have n3 : ∀ p, p < nq → pl p ≤ 6 := fun p h => by
      obtain ⟨_, _, _, _, _, _, _, _, l3⟩ := (‹∀ p, p < nq → _› p h)
      exact l3
    by_cases q : g 144 < nI 200
    · obtain ⟨M, e, G4, F⟩ := gm209 (d := d) (w := w) (c := 89) (Or.inl rfl) V W9 P' L rfl
      rw [if_pos q]
      rw [if_pos q] at pre2
      refine ⟨M, ?_, by rw [G4]; exact gyear_c5 E b1 n3, by rw [G4]; exact xhM_year n3 b1 H, fun b e hb => F b e (by omega)⟩
      rw [pre2, show xr_Call (d + 5) 209 [xP 0 69, xP 0 89] ([], w) S = _ from e, xr_cV_s]; rfl
    · rw [if_neg q]
      rw [if_neg q] at pre2
      exact ⟨xm S, pre2, E, H, fun _ _ _ => rfl⟩
end
