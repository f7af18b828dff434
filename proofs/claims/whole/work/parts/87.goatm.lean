/-! GOATS, the model -/
theorem gyear_pp {sz : Nat} {kd : Nat → Nat} {gv : Nat → Int32} {pl : Nat → Nat} {dy : Nat → Int32} {nq : Nat} {g g' : Nat → Int32} {p : Nat} (n2 : nq ≤ 8) (hn : ∀ p, p < nq → pl p ≤ 6) (hp : p < nq) (h : ∀ j, pidx p j → g j = g' j) : ∀ j, pidx p j → gyear sz kd gv pl dy nq g j = gyear sz kd gv pl dy nq g' j := fun j hj => by
  rw [gyear_p n2 hn hp h j hj, gyear_p n2 hn hp (g := g') (g' := g') (fun _ _ => rfl) j hj]
def gtM (M : xr_M) (t : gtS) : Prop := M 0 69 44 = t.1 ∧ M 0 69 45 = nI t.2.1 ∧ M 0 69 46 = nI t.2.2.1 ∧ xhM (M 0 90) t.2.2.2.1 t.2.2.2.2
def gtF (S : xr_S) (M : xr_M) : Prop := (∀ b e, ¬ (b = 0 ∧ (e = 69 ∨ e = 90 ∨ e = 86 ∨ e = 87)) → M b e = xm S b e) ∧ ∀ k, k ≤ 43 → M 0 69 k = xm S 0 69 k
theorem gtF_w {S : xr_S} {M : xr_M} (F : gtF S M) {k : Nat} (hk : 44 ≤ k) (v : Int32) : gtF S (xw M 0 69 k v) := ⟨fun b e h => by rw [xw_r (by omega)]; exact F.1 b e h, fun j hj => by rw [xw_n (by omega)]; exact F.2 j hj⟩
theorem gtF_90 {S : xr_S} {M M' : xr_M} (F : gtF S M) (h : ∀ b e, ¬ (b = 0 ∧ (e = 90 ∨ e = 86 ∨ e = 87)) → M' b e = M b e) : gtF S M' := ⟨fun b e q => by rw [h b e (by omega)]; exact F.1 b e q, fun j hj => by rw [h 0 69 (by omega)]; exact F.2 j hj⟩
section
variable {d : Nat} {w : List Nat} {S : xr_S} {np nq ch st : Nat} {du pl : Nat → Nat} {dy : Nat → Int32} {dp : Nat → Nat → Nat} {sz : Nat} {kd : Nat → Nat} {gv g : Nat → Int32} {h : Nat → Nat} {s : Nat → Nat → Int32} {ln : Nat} {ti : Nat → Nat} {fl : Nat → Option Nat} {dr : Int32 → Nat} {lo : Int32 → Int32}
theorem xIq_gt {M : xr_M} (I : xIq (xm S) np nq ch st du pl dy dp sz kd gv g h s ln ti fl) (F : gtF S M) : xIq (xm (xs S M)) np nq ch st du pl dy dp sz kd gv g h s ln ti fl := xIq_fr (M := xm S) ⟨fun b e h1 h2 h3 => by rw [xm_xs, F.1 b e (by omega)], by rw [xm_xs, F.2 21 (by omega)], by rw [xm_xs, F.2 35 (by omega)]⟩ I
def gtL (np nq : Nat) (pl : Nat → Nat) (M : xr_M) (G : Nat → Int32) : Prop := xgW np nq pl (M 0 90) ∧ ∀ p, p < nq → ∀ j, pidx p j → M 0 90 j = G j
theorem gtL_lo {M M' : xr_M} {G : Nat → Int32} (n2 : nq ≤ 8) (L : gtL np nq pl M G) (h : ∀ k, k < 145 → M' 0 90 k = M 0 90 k) : gtL np nq pl M' G := ⟨xgW_lo n2 h L.1, fun p hp j hj => by rw [h j (by unfold pidx at hj; omega)]; exact L.2 p hp j hj⟩
theorem gmY (I : xIq (xm S) np nq ch st du pl dy dp sz kd gv g h s ln ti fl) {M : xr_M} {t : gtS} {G : Nat → Int32} (C : gtM M t) (F : gtF S M) (L : gtL np nq pl M G) : ∃ M', xr_Call (d + 5) 209 [xP 0 69, xP 0 90] ([], w) (xs S M) = some (.inl none, ([], w), xs S M') ∧ gtM M' t ∧ gtF S M' ∧ gtL np nq pl M' (gyear sz kd gv pl dy nq G) := by
  have b1 := I.1.2.2.1.2.1
  have n3 : ∀ p, p < nq → pl p ≤ 6 := fun p hpq => (I.1.2.2.2.1 p hpq).2.2.2.2.2.2.2.2
  have I2 := xIq_gt I F
  obtain ⟨M4, r4, G4, F4⟩ := gm209 (d := d) (w := w) (S := xs S M) (g := M 0 90) (Or.inr rfl) I.2.1.2.2 L.1 I2.1 I2.2.1.2.1 rfl
  rw [xs_xs] at r4
  rw [xm_xs] at F4
  obtain ⟨c1, c2, c3, c4⟩ := C
  refine ⟨M4, r4, ⟨?_, ?_, ?_, ?_⟩, gtF_90 F (fun b e h => F4 b e (by omega)), ?_, fun p hp j hj => ?_⟩
  · rw [F4 0 69 (by omega)]; exact c1
  · rw [F4 0 69 (by omega)]; exact c2
  · rw [F4 0 69 (by omega)]; exact c3
  · rw [G4]; exact xhM_year n3 b1 c4
  · rw [G4]; exact xgW_gyear L.1 b1 n3
  · rw [G4]; exact gyear_pp b1 n3 hp (L.2 p hp) j hj
theorem gm261k (hdr : ∀ l, dr l = gdr l) (hlo : ∀ l, lo l = glot l) {fu q n y : Nat} {sd : Int32} {M : xr_M} {t : gtS} {G : Nat → Int32} (hf : 16928 ≤ fu) (hq : q ≤ 16) (hy : y < 1000) (I : xIq (xm S) np nq ch st du pl dy dp sz kd gv g h s ln ti fl) {k : Nat} (hk : k < y) (In : gtI n t) (hn : n < 1000) (C : gtM M t) (F : gtF S M) (L : gtL np nq pl M G) (u1 u2 : xr_V) : ∃ M' v1 v2, xr_Run (d + 9) 261 29 [xP 0 69, xI sd, xI (nI q), xI (nI y), xI (nI k), u1, u2] [] ([], w) (xs S M) = xr_Run (d + 9) 261 29 [xP 0 69, xI sd, xI (nI q), xI (nI y), xI (nI (k + 1)), v1, v2] [] ([], w) (xs S M') ∧ gtM M' (gtk dr lo fu st q t) ∧ gtF S M' ∧ gtL np nq pl M' (gyear sz kd gv pl dy nq G) := by
  obtain ⟨c1, c2, c3, c4⟩ := id C
  obtain ⟨Gh, K, Ls⟩ := In
  obtain ⟨b0, b1, b2, h1, h9⟩ := I.1.2.2.1
  have B := hG_B Gh
  have hx : gtx dr lo t < 8 := Nat.mod_lt _ (by omega)
  have r1 := gm260 (d := d + 8) (w := w) (S := xs S M) (m := 16) (by omega) (by omega)
  rw [xs_xs, xm_xs, c1, ← hlo, ← hdr] at r1
  have g1 : dr (lo t.1) < 32768 := by rw [hdr]; exact gdr_lt _
  by_cases q1 : dr (lo t.1) % 16 < q
  · have r2 := gm260 (d := d + 8) (w := w) (S := xs S (xw M 0 69 44 (lo t.1))) (m := 8) (by omega) (by omega)
    rw [xs_xs, xm_xs, xw_y ⟨rfl, rfl, rfl⟩, xw_xw, ← hlo, ← hdr] at r2
    have Fa : gtF S (xw M 0 69 44 (lo (lo t.1))) := gtF_w F (by omega) _
    have Ia := xIq_gt I Fa
    have Ha : xhM (xm (xs S (xw M 0 69 44 (lo (lo t.1)))) 0 90) t.2.2.2.1 t.2.2.2.2 := by rw [xm_xs, xw_r (by omega)]; exact c4
    have r3 := hm192 (d := d + 8) (w := w) (Or.inr rfl) Ha hx
    have La : gtL np nq pl (xw M 0 69 44 (lo (lo t.1))) G := gtL_lo b1 L (fun k _ => by rw [xw_r (by omega)])
    have bx := B _ hx
    have bl := B _ (hlow_lt (h := t.2.2.2.1) hx)
    unfold gtk
    rw [if_pos q1]
    by_cases q2 : 0 < t.2.2.2.1 (gtx dr lo t)
    · rw [if_pos q2]
      have r4 := hm196 (d := d + 7) (w := w) (Or.inr rfl) Ha (xhB_le (by omega) B) hx
      obtain ⟨M5, M6, r5, r6, H6, F6, L6⟩ := hmfall (d := d + 6) (w := w) (S := xs S (xw M 0 69 44 (lo (lo t.1)))) (Or.inr rfl) Ha (xhB_le (by omega) B) hx q2 (by omega)
      rw [xs_xs] at r5
      rw [xs_xs, xs_xs] at r6
      rw [xm_xs] at F6 L6
      have Fb : gtF S M6 := gtF_90 Fa (fun b e h => F6 b e (by omega))
      have Lb : gtL np nq pl M6 G := gtL_lo b1 La L6
      have e45 : M6 0 69 45 = nI t.2.1 := by rw [F6 0 69 (by omega), xw_n (by omega)]; exact c2
      have e46 : M6 0 69 46 = nI t.2.2.1 := by rw [F6 0 69 (by omega), xw_n (by omega)]; exact c3
      have e44 : M6 0 69 44 = lo (lo t.1) := by rw [F6 0 69 (by omega), xw_y (by omega)]
      have Fc : gtF S (xw M6 0 69 45 (nI (t.2.1 + 1))) := gtF_w Fb (by omega) _
      have B2 : xhB 46 (hfh t.2.2.2.1 (gtx dr lo t)) := hfh_B (xhB_le (by omega) B) hx (by omega)
      have hq2 := hsq_le B2
      have Hc2 : xhM (xm (xs S (xw M6 0 69 45 (nI (t.2.1 + 1)))) 0 90) (hfh t.2.2.2.1 (gtx dr lo t)) (hfs t.2.2.2.1 t.2.2.2.2 (gtx dr lo t)) := by rw [xm_xs, xw_r (by omega)]; exact H6
      obtain ⟨M7, r7, H7, F7, L7⟩ := hm198 (d := d + 5) (w := w) (S := xs S (xw M6 0 69 45 (nI (t.2.1 + 1)))) (st := st) (Or.inr rfl) (by omega) h1 Hc2 (xhB_le (by omega) B2) (n := fu) (by omega) ((xIq_gt I Fc).1.2.1.2.2.2)
      rw [xs_xs] at r7
      rw [xm_xs] at F7 L7
      have Fd : gtF S (xw M7 0 69 46 (nI (t.2.2.1 + (hset st fu (hfh t.2.2.2.1 (gtx dr lo t)) (hfs t.2.2.2.1 t.2.2.2.2 (gtx dr lo t))).1))) := gtF_w (gtF_90 Fc (fun b e h => F7 b e (by omega))) (by omega) _
      obtain ⟨M8, r8, C8, F8, L8⟩ := gmY (d := d + 4) (w := w) (t := (lo (lo t.1), t.2.1 + 1, t.2.2.1 + (hset st fu (hfh t.2.2.2.1 (gtx dr lo t)) (hfs t.2.2.2.1 t.2.2.2.2 (gtx dr lo t))).1, (hset st fu (hfh t.2.2.2.1 (gtx dr lo t)) (hfs t.2.2.2.1 t.2.2.2.2 (gtx dr lo t))).2)) I (M := xw M7 0 69 46 (nI (t.2.2.1 + (hset st fu (hfh t.2.2.2.1 (gtx dr lo t)) (hfs t.2.2.2.1 t.2.2.2.2 (gtx dr lo t))).1))) ⟨by rw [xw_n (by omega), F7 0 69 (by omega), xw_n (by omega)]; exact e44, by rw [xw_n (by omega), F7 0 69 (by omega), xw_y (by omega)], by rw [xw_y (by omega)], by rw [xw_r (by omega)]; exact H7⟩ Fd (gtL_lo b1 (gtL_lo (M' := xw M6 0 69 45 (nI (t.2.1 + 1))) b1 Lb (fun k _ => by rw [xw_r (by omega)])) (fun k hk => by rw [xw_r (by omega)]; exact L7 k hk))
      refine ⟨M8, xI (nI (gtx dr lo t)), xI (nI (hlow t.2.2.2.1 (gtx dr lo t))), ?_, C8, F8, L8⟩
      refine (xg261_29 _ _ _ _ _ _ _ _ _).trans ?_
      rw [if_pos (by rw [xn_lt (by omega) (by omega)]; exact hk), r1, xr_cI_s, if_pos (by rw [xn_lt (by omega) (by omega)]; exact q1), r2, xr_cI_s]
      have ne : ¬ nI (gtx dr lo t) = -1 := fun h => (xn_m1 (show gtx dr lo t < 2147483648 by omega)).mp h
      rw [show dr (lo (lo t.1)) % 8 = gtx dr lo t from rfl, if_neg ne, r3, xr_cI_s, if_pos (by rw [xn_lt (by omega) (by omega)]; exact q2), r4, xr_cI_s, r5, xr_cI_s, r6, xr_cV_s, if_neg ne, xm_xs, xs_xs, e45, xn_add, r7, xr_cI_s, xm_xs, xs_xs, xw_n (by omega), e46, xn_add, r8, xr_cV_s, xn_add]
    · rw [if_neg q2]
      have hq2 := hsq_le B
      have e46 : xw M 0 69 44 (lo (lo t.1)) 0 69 46 = nI t.2.2.1 := by rw [xw_n (by omega)]; exact c3
      obtain ⟨M7, r7, H7, F7, L7⟩ := hm198 (d := d + 5) (w := w) (S := xs S (xw M 0 69 44 (lo (lo t.1)))) (st := st) (Or.inr rfl) (by omega) h1 Ha (xhB_le (by omega) B) (n := fu) (by omega) Ia.1.2.1.2.2.2
      rw [xs_xs] at r7
      rw [xm_xs] at F7 L7
      have Fd : gtF S (xw M7 0 69 46 (nI (t.2.2.1 + (hset st fu t.2.2.2.1 t.2.2.2.2).1))) := gtF_w (gtF_90 Fa (fun b e h => F7 b e (by omega))) (by omega) _
      obtain ⟨M8, r8, C8, F8, L8⟩ := gmY (d := d + 4) (w := w) (t := (lo (lo t.1), t.2.1, t.2.2.1 + (hset st fu t.2.2.2.1 t.2.2.2.2).1, (hset st fu t.2.2.2.1 t.2.2.2.2).2)) I (M := xw M7 0 69 46 (nI (t.2.2.1 + (hset st fu t.2.2.2.1 t.2.2.2.2).1))) ⟨by rw [xw_n (by omega), F7 0 69 (by omega), xw_y (by omega)], by rw [xw_n (by omega), F7 0 69 (by omega), xw_n (by omega)]; exact c2, by rw [xw_y (by omega)], by rw [xw_r (by omega)]; exact H7⟩ Fd (gtL_lo b1 La (fun k hk => by rw [xw_r (by omega)]; exact L7 k hk))
      refine ⟨M8, xI (nI (gtx dr lo t)), u2, ?_, C8, F8, L8⟩
      refine (xg261_29 _ _ _ _ _ _ _ _ _).trans ?_
      have ne : ¬ nI (gtx dr lo t) = -1 := fun h => (xn_m1 (show gtx dr lo t < 2147483648 by omega)).mp h
      rw [if_pos (by rw [xn_lt (by omega) (by omega)]; exact hk), r1, xr_cI_s, if_pos (by rw [xn_lt (by omega) (by omega)]; exact q1), r2, xr_cI_s, show dr (lo (lo t.1)) % 8 = gtx dr lo t from rfl, if_neg ne, r3, xr_cI_s, if_neg (by rw [xn_lt (by omega) (by omega)]; exact q2), if_neg ne, r7, xr_cI_s, xm_xs, xm_xs, xs_xs, e46, xn_add, r8, xr_cV_s, xn_add]
  · unfold gtk
    rw [if_neg q1]
    obtain ⟨M8, r8, C8, F8, L8⟩ := gmY (d := d + 4) (w := w) (t := (lo t.1, t.2)) I (M := xw (xw M 0 69 44 (lo t.1)) 0 69 46 (nI t.2.2.1)) ⟨by rw [xw_n (by omega), xw_y (by omega)], by rw [xw_n (by omega), xw_n (by omega)]; exact c2, by rw [xw_y (by omega)], by rw [xw_r (by omega), xw_r (by omega)]; exact c4⟩ (gtF_w (gtF_w F (by omega) _) (by omega) _) (gtL_lo b1 L (fun k _ => by rw [xw_r (by omega), xw_r (by omega)]))
    refine ⟨M8, xI (-1), u2, ?_, C8, F8, L8⟩
    refine (xg261_29 _ _ _ _ _ _ _ _ _).trans ?_
    rw [if_pos (by rw [xn_lt (by omega) (by omega)]; exact hk), r1, xr_cI_s, if_neg (by rw [xn_lt (by omega) (by omega)]; exact q1), if_pos rfl, if_pos rfl, xm_xs, xs_xs, xw_n (by omega), c3, xn_add, Nat.add_zero t.2.2.1, r8, xr_cV_s, xn_add]
theorem gm261 (hdr : ∀ l, dr l = gdr l) (hlo : ∀ l, lo l = glot l) {fu q y : Nat} {sd : Int32} (hf : 16928 ≤ fu) (hq : q ≤ 16) (hy : y < 1000) (I : xIq (xm S) np nq ch st du pl dy dp sz kd gv g h s ln ti fl) : ∃ M, xr_Call (d + 10) 261 [xP 0 69, xI sd, xI (nI q), xI (nI y)] ([], w) S = some (.inl none, ([], w), xs S M) ∧ gtM M (gtn dr lo fu st q (sd, 0, 0, h, s) y) ∧ gtF S M ∧ gtL np nq pl M (gyk sz kd gv pl dy nq g y) := by
  obtain ⟨b0, b1, b2, h1, h9⟩ := I.1.2.2.1
  have n3 : ∀ p, p < nq → pl p ≤ 6 := fun p hpq => (I.1.2.2.2.1 p hpq).2.2.2.2.2.2.2.2
  obtain ⟨e89, _, W⟩ := I.2.2.1
  obtain ⟨_, Hm, HI⟩ := I.2.2.2.1
  have Gh := hI_G HI
  have B := hG_B Gh
  obtain ⟨M3, r3, C3, F3⟩ := gm177a (d := d + 8) (w := w) (S := S)
  have e90 : ∀ j, j < 793 → M3 0 90 j = g j := fun j hj => by rw [C3 j hj, e89]
  have I0 : gtI 0 (sd, 0, 0, h, s) := ⟨Gh, by dsimp only; omega, by dsimp only; omega⟩
  have lp : ∀ n, n ≤ y → ∃ M v1 v2, xr_Run (d + 9) 261 29 [xP 0 69, xI sd, xI (nI q), xI (nI y), xI (nI 0), xU, xU] [] ([], w) (xs S (xw (xw (xw M3 0 69 44 sd) 0 69 45 (nI 0)) 0 69 46 (nI 0))) = xr_Run (d + 9) 261 29 [xP 0 69, xI sd, xI (nI q), xI (nI y), xI (nI n), v1, v2] [] ([], w) (xs S M) ∧ gtM M (gtn dr lo fu st q (sd, 0, 0, h, s) n) ∧ gtF S M ∧ gtL np nq pl M (gyk sz kd gv pl dy nq g n) := by
    intro n
    induction n with
    | zero =>
      intro _
      refine ⟨_, xU, xU, rfl, ⟨?_, ?_, ?_, ?_⟩, gtF_w (gtF_w (gtF_w (gtF_90 (S := S) (M := xm S) ⟨fun _ _ _ => rfl, fun _ _ => rfl⟩ (fun b e h => F3 b e (by omega))) (by omega) _) (by omega) _) (by omega) _, ?_, fun p hp j hj => ?_⟩
      · rw [xw_n (by omega), xw_n (by omega), xw_y (by omega)]; rfl
      · rw [xw_n (by omega), xw_y (by omega)]; rfl
      · rw [xw_y (by omega)]; rfl
      · rw [xw_r (by omega), xw_r (by omega), xw_r (by omega)]; exact xhM_cg (xhB_le (by omega) B) e90 Hm
      · rw [xw_r (by omega), xw_r (by omega), xw_r (by omega)]; exact xgW_cg b1 e90 W
      · rw [xw_r (by omega), xw_r (by omega), xw_r (by omega)]; exact e90 j (by unfold pidx at hj; omega)
    | succ n ih =>
      intro hn
      obtain ⟨M, v1, v2, r, C, F, L⟩ := ih (by omega)
      obtain ⟨M2, x1, x2, r2, C2, F2, L2⟩ := gm261k (d := d) (w := w) (sd := sd) (y := y) hdr hlo hf hq hy I (k := n) (by omega) (gtI_n (st := st) (q := q) hf h1 h9 I0 n) (by omega) C F L v1 v2
      exact ⟨M2, x1, x2, by rw [r, r2], C2, F2, L2⟩
  obtain ⟨M, v1, v2, r, C, F, L⟩ := lp y (Nat.le_refl _)
  refine ⟨M, ?_, C, F, L⟩
  rw [xe261, r3, xr_cV_s, xm_xs, xs_xs, r]
  refine (xg261_29 _ _ _ _ _ _ _ _ _).trans ?_
  rw [if_neg (by rw [xn_lt (by omega) (by omega)]; omega)]
end
