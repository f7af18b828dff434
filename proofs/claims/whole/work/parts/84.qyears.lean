/-! QUESTIONS, 11: years to come -/
def gyk (sz : Nat) (kd : Nat → Nat) (gv : Nat → Int32) (pl : Nat → Nat) (dy : Nat → Int32) (nq : Nat) (g : Nat → Int32) (n : Nat) : Nat → Int32 := xfo (fun _ g => gyear sz kd gv pl dy nq g) n g
def pidx (p j : Nat) : Prop := j = 144 ∨ j = 8 + p ∨ (32 + 2 * p ≤ j ∧ j < 34 + 2 * p) ∨ (48 + 12 * p ≤ j ∧ j < 60 + 12 * p)
section
variable {sz : Nat} {kd : Nat → Nat} {gv : Nat → Int32} {pl : Nat → Nat} {dy : Nat → Int32} {nq : Nat} {g g' : Nat → Int32} {p : Nat}
theorem gcut_cong {half i : Nat} {due : Int32} (hh : half / 2 = p) (hi : i < 6) (h : ∀ j, pidx p j → g j = g' j) : gcut sz kd gv g half due i = gcut sz kd gv g' half due i := by
  unfold gcut gN
  rw [h (48 + 6 * half + i) (by unfold pidx; omega), h 144 (by unfold pidx; omega), h (32 + half) (by unfold pidx; omega)]
theorem gwi_cong {half : Nat} {due : Int32} (hh : half / 2 = p) (h : ∀ j, pidx p j → g j = g' j) : ∀ n, n ≤ 6 → ∀ j, pidx p j → gwi sz kd gv g half due n j = gwi sz kd gv g' half due n j
  | 0, _, j, hj => h j hj
  | n + 1, hn, j, hj => by
    rw [gwi, gwi, gcut_cong hh (by omega) h]
    unfold xu
    split
    · rfl
    · exact gwi_cong hh h n (by omega) j hj
theorem gwhalf_cong {half n : Nat} {due : Int32} (hh : half / 2 = p) (hn : n ≤ 6) (h : ∀ j, pidx p j → g j = g' j) : ∀ j, pidx p j → gwhalf sz kd gv g p n half due j = gwhalf sz kd gv g' p n half due j := by
  intro j hj
  unfold gwhalf
  rw [xsN_congr (g := gcut sz kd gv g half due) (g' := gcut sz kd gv g' half due) n (fun k hk => gcut_cong hh (by omega) h), h (32 + half) (by unfold pidx; omega)]
  split
  · unfold xu
    split
    · rfl
    · split
      · rfl
      · exact gwi_cong hh h n hn j hj
  · unfold xu
    split
    · rfl
    · exact gwi_cong hh h n hn j hj
theorem gwear_cong (hn : pl p ≤ 6) (h : ∀ j, pidx p j → g j = g' j) : ∀ j, pidx p j → gwear sz kd gv pl dy g p j = gwear sz kd gv pl dy g' p j := by
  intro j hj
  unfold gwear
  rw [h (8 + p) (by unfold pidx; omega), h 144 (by unfold pidx; omega)]
  split
  · exact gwhalf_cong (by omega) hn (gwhalf_cong (by omega) hn h) j hj
  · exact h j hj
theorem gpots_p (n2 : nq ≤ 8) (hn : ∀ p, p < nq → pl p ≤ 6) (hp : p < nq) : ∀ n, n ≤ nq → ∀ j, pidx p j → gpots sz kd gv pl dy g n j = if p < n then gwear sz kd gv pl dy g p j else g j
  | 0, _, j, _ => by rw [if_neg (by omega)]; rfl
  | n + 1, h, j, hj => by
    show gwear sz kd gv pl dy (gpots sz kd gv pl dy g n) n j = _
    have ih := gpots_p n2 hn hp n (by omega)
    by_cases q : n = p
    · subst q
      rw [if_pos (by omega)]
      refine gwear_cong (hn n (by omega)) (fun i hi => ?_) j hj
      rw [ih i hi, if_neg (by omega)]
    · rw [gwear_o (hn n (by omega)) (by unfold pidx at hj; omega), ih j hj]
      by_cases q2 : p < n
      · rw [if_pos q2, if_pos (by omega)]
      · rw [if_neg q2, if_neg (by omega)]
/-- a year, for one pot alone -/
def gone (sz : Nat) (kd : Nat → Nat) (gv : Nat → Int32) (pl : Nat → Nat) (dy : Nat → Int32) (g : Nat → Int32) (p : Nat) : Nat → Int32 := xu (gwear sz kd gv pl dy g p) 144 (gwear sz kd gv pl dy g p 144 + nI 1)
theorem gyear_p (n2 : nq ≤ 8) (hn : ∀ p, p < nq → pl p ≤ 6) (hp : p < nq) (h : ∀ j, pidx p j → g j = g' j) : ∀ j, pidx p j → gyear sz kd gv pl dy nq g j = gone sz kd gv pl dy g' p j := by
  intro j hj
  have e : ∀ j, pidx p j → gpots sz kd gv pl dy g nq j = gwear sz kd gv pl dy g' p j := fun j hj => by
    rw [gpots_p n2 hn hp nq (Nat.le_refl _) j hj, if_pos hp]
    exact gwear_cong (hn p hp) h j hj
  unfold gyear gone xu
  split
  · rw [e 144 (by unfold pidx; omega)]
  · exact e j hj
theorem gap_cong {n : Nat} (hn : n ≤ 6) (h : ∀ j, pidx p j → g j = g' j) : gap g (2 * p) (2 * p + 1) n = gap g' (2 * p) (2 * p + 1) n := by
  refine xsN_congr n (fun k hk => ?_)
  unfold gdist gN
  rw [h (48 + 6 * (2 * p) + k) (by unfold pidx; omega), h (48 + 6 * (2 * p + 1) + k) (by unfold pidx; omega)]
def gno (nq : Nat) (g : Nat → Int32) : Prop := ∀ p, p < nq → ¬ g (8 + p) = nI 0
theorem gyear_no (h : gno nq g) : ∀ j, j ≠ 144 → gyear sz kd gv pl dy nq g j = g j := by
  intro j hj
  unfold gyear
  rw [xu_n hj]
  have L : ∀ n, n ≤ nq → gpots sz kd gv pl dy g n = g := by
    intro n
    induction n with
    | zero => intro _; rfl
    | succ n ih =>
      intro hn
      show gwear sz kd gv pl dy (gpots sz kd gv pl dy g n) n = g
      rw [ih (by omega)]
      unfold gwear
      rw [if_neg (h n (by omega))]
  rw [L nq (Nat.le_refl _)]
theorem gyk_no (n2 : nq ≤ 8) (h : gno nq g) : ∀ k, ∀ j, j ≠ 144 → gyk sz kd gv pl dy nq g k j = g j
  | 0, j, _ => rfl
  | k + 1, j, hj => by
    show gyear sz kd gv pl dy nq (gyk sz kd gv pl dy nq g k) j = g j
    have ih := gyk_no n2 h k
    rw [gyear_no (fun p hp => by rw [ih (8 + p) (by omega)]; exact h p hp) j hj, ih j hj]
theorem gyk_add (a : Nat) : ∀ b, gyk sz kd gv pl dy nq g (a + b) = gyk sz kd gv pl dy nq (gyk sz kd gv pl dy nq g a) b
  | 0 => rfl
  | b + 1 => by
    show gyear sz kd gv pl dy nq (gyk sz kd gv pl dy nq g (a + b)) = gyear sz kd gv pl dy nq _
    rw [gyk_add a b]; rfl
theorem xgW_gyk {np : Nat} (W : xgW np nq pl g) (n2 : nq ≤ 8) (hn : ∀ p, p < nq → pl p ≤ 6) : ∀ k, xgW np nq pl (gyk sz kd gv pl dy nq g k)
  | 0 => W
  | k + 1 => xgW_gyear (xgW_gyk W n2 hn k) n2 hn
end
def lsts (ch : Nat) (sz : Nat) (kd : Nat → Nat) (gv : Nat → Int32) (pl : Nat → Nat) (dy : Nat → Int32) (nq p : Nat) : Nat → Nat → (Nat → Int32) → Int32
  | 0, _, _ => -1
  | n + 1, k, g => if g (8 + p) = nI 2 then nI k else if gap g (2 * p) (2 * p + 1) (pl p) ≤ ch then lsts ch sz kd gv pl dy nq p n (k + 1) (gyear sz kd gv pl dy nq g) else nI k
section
variable {d : Nat} {w : List Nat} {S : xr_S} {np nq ch st : Nat} {du pl : Nat → Nat} {dy : Nat → Int32} {dp : Nat → Nat → Nat} {sz : Nat} {kd : Nat → Nat} {gv g : Nat → Int32} {h : Nat → Nat} {s : Nat → Nat → Int32} {ln : Nat} {ti : Nat → Nat} {fl : Nat → Option Nat}
theorem lsts_paid (n2 : nq ≤ 8) (hn : ∀ p, p < nq → pl p ≤ 6) {p : Nat} (hp : p < nq) : ∀ (n k : Nat) (g : Nat → Int32), ¬ g (8 + p) = nI 0 → ¬ g (8 + p) = nI 2 → gap g (2 * p) (2 * p + 1) (pl p) ≤ ch → lsts ch sz kd gv pl dy nq p n k g = -1
  | 0, _, _, _, _, _ => rfl
  | n + 1, k, g, h0, h2, hg => by
    rw [lsts, if_neg h2, if_pos hg]
    have e : ∀ j, pidx p j → j ≠ 144 → gyear sz kd gv pl dy nq g j = g j := fun j hj h9 => by
      rw [gyear_p n2 hn hp (g' := g) (fun _ _ => rfl) j hj]
      unfold gone gwear
      rw [if_neg h0, xu_n h9]
    have e8 : gyear sz kd gv pl dy nq g (8 + p) = g (8 + p) := e (8 + p) (by unfold pidx; omega) (by omega)
    refine lsts_paid n2 hn hp n (k + 1) _ (by rw [e8]; exact h0) (by rw [e8]; exact h2) ?_
    have : gap (gyear sz kd gv pl dy nq g) (2 * p) (2 * p + 1) (pl p) = gap g (2 * p) (2 * p + 1) (pl p) := by
      refine xsN_congr _ (fun i hi => ?_)
      have := hn p hp
      unfold gdist gN
      rw [e (48 + 6 * (2 * p) + i) (by unfold pidx; omega) (by omega), e (48 + 6 * (2 * p + 1) + i) (by unfold pidx; omega) (by omega)]
    rw [this]; exact hg
theorem q_lasts (I : xIq (xm S) np nq ch st du pl dy dp sz kd gv g h s ln ti fl) (a : Int32) : qRes d 113 228 [xI a] S 1 0 := by
  obtain ⟨P, ⟨Lc, Lm, Lv⟩, ⟨e89, G, W⟩, ⟨Hc, Hm, HI⟩, To⟩ := id I; obtain ⟨⟨p0, p1, p2, p3⟩, ⟨m0, m1, m2, m3⟩, ⟨b0, b1, b2, b3, b4⟩, hp, hd⟩ := id P
  have n3 : ∀ p, p < nq → pl p ≤ 6 := fun p hpq => (hp p hpq).2.2.2.2.2.2.2.2
  by_cases q : xrl a nq
  · obtain ⟨p, hpq, rfl⟩ := q
    obtain ⟨M1, r1, C1, F1⟩ := gc6a (d := d + 57) (w := [35, 44, 53, 58, 63, 66]) (S := S)
    have lc : ∀ (n k : Nat) (M : xr_M) (g1 g2 : Nat → Int32), k + n = 201 → (∀ j, pidx p j → g1 j = g2 j) → xGr M 0 12 np nq pl g1 → xgW np nq pl g1 → (∀ b e, ¬ (b = 0 ∧ ((12 ≤ e ∧ e ≤ 20) ∨ e = 56 ∨ e = 57)) → M b e = xm S b e) → ∃ M', xr_Run (d + 59) 113 25 [xP 0 0, xI (nI p), xI (nI k)] [] xMd (xs S M) = some (.inl (some (lsts ch sz kd gv pl dy nq p n k g2)), xMd, xs S M') ∧ ∀ b e, ¬ (b = 0 ∧ ((12 ≤ e ∧ e ≤ 20) ∨ e = 56 ∨ e = 57)) → M' b e = xm S b e := by
      intro n
      induction n with
      | zero =>
        intro k M g1 g2 hk hg G1 W1 F
        refine ⟨M, ?_, F⟩
        refine (xg113_25 _ _ _ _).trans ?_
        rw [if_pos (by rw [xn_lt (by omega) (by omega)]; omega), lsts]
      | succ n ih =>
        intro k M g1 g2 hk hg G1 W1 F
        have P1 : xPl (xm (xs S M)) np nq ch st du pl dy dp := xPl_fr (fun b e he => F b e (by omega)) P
        have L1 : xLc (xm (xs S M)) sz kd gv := xLc_fr (fun e he => F 0 e (by omega)) Lc
        have e8 := hg (8 + p) (by unfold pidx; omega)
        have es : M 0 14 p = g1 (8 + p) := G1.2.2.1 p hpq
        have eg := gap_cong (n := pl p) (n3 p hpq) hg
        have e14 := gc14 (d := d + 57) (w := [35, 44, 53, 58, 63, 66]) (S := xs S M) (Or.inr rfl) P1 G1 W1 hpq
        rw [lsts, ← e8, ← eg]
        by_cases q2 : g1 (8 + p) = nI 2
        · refine ⟨M, ?_, F⟩
          refine (xg113_25 _ _ _ _).trans ?_
          rw [if_neg (by rw [xn_lt (by omega) (by omega)]; omega), xi_t (by omega) (by omega), cond_true, if_pos (by rw [xm_xs, xn_k (by omega), es]; exact q2), if_pos q2]
        · by_cases q3 : gap g1 (2 * p) (2 * p + 1) (pl p) ≤ ch
          · rw [show bI (gap g1 (2 * p) (2 * p + 1) (pl p) ≤ ch) = nI 1 from if_pos q3] at e14
            by_cases q0 : g1 (8 + p) = nI 0
            · obtain ⟨M2, r2, G2, F2⟩ := gc12 (d := d + 55) (w := [35, 44, 53, 58, 63, 66]) (S := xs S M) (Or.inr rfl) Lv W1 hpq P1 L1 G1
              rw [xs_xs] at r2
              rw [xm_xs] at F2
              obtain ⟨M3, r3, F3⟩ := ih (k + 1) (xw M2 0 12 0 (gwear sz kd gv pl dy g1 p 144 + nI 1)) (gone sz kd gv pl dy g1 p) (gyear sz kd gv pl dy nq g2) (by omega) (fun j hj => (gyear_p b1 n3 hpq (fun j hj => (hg j hj).symm) j hj).symm) (xGr_y G2 b0 b1 n3 _) (xgW_o (xgW_gwear W1 b1 (n3 p hpq) hpq) b1 (by omega)) (fun b e h => by rw [xw_r (by omega), F2 b e (by omega), F b e h])
              refine ⟨M3, ?_, F3⟩
              refine (xg113_25 _ _ _ _).trans ?_
              rw [if_neg (by rw [xn_lt (by omega) (by omega)]; omega), xi_t (by omega) (by omega), cond_true, if_neg (by rw [xm_xs, xn_k (by omega), es]; exact q2), e14, xr_cI_s, if_neg (by rw [xn_eq (by omega) (by omega)]; omega), cond_true, if_pos (by rw [xm_xs, xn_k (by omega), es]; exact q0), r2, xr_cV_s, xn_add, xm_xs, xs_xs, G2.1, r3, if_neg q2, if_pos q3]
            · refine ⟨M, ?_, F⟩
              refine (xg113_25 _ _ _ _).trans ?_
              rw [if_neg (by rw [xn_lt (by omega) (by omega)]; omega), xi_t (by omega) (by omega), cond_true, if_neg (by rw [xm_xs, xn_k (by omega), es]; exact q2), e14, xr_cI_s, if_neg (by rw [xn_eq (by omega) (by omega)]; omega), cond_true, if_neg (by rw [xm_xs, xn_k (by omega), es]; exact q0), if_neg q2, if_pos q3]
              have h0 : ¬ g2 (8 + p) = nI 0 := by rw [← e8]; exact q0
              have h2 : ¬ g2 (8 + p) = nI 2 := by rw [← e8]; exact q2
              have h3 : gap g2 (2 * p) (2 * p + 1) (pl p) ≤ ch := by rw [← eg]; exact q3
              have := lsts_paid (ch := ch) (sz := sz) (kd := kd) (gv := gv) (dy := dy) b1 n3 hpq (n + 1) k g2 h0 h2 h3
              rw [lsts, if_neg h2, if_pos h3] at this
              rw [this]
          · rw [show bI (gap g1 (2 * p) (2 * p + 1) (pl p) ≤ ch) = nI 0 from if_neg q3] at e14
            refine ⟨M, ?_, F⟩
            refine (xg113_25 _ _ _ _).trans ?_
            rw [if_neg (by rw [xn_lt (by omega) (by omega)]; omega), xi_t (by omega) (by omega), cond_true, if_neg (by rw [xm_xs, xn_k (by omega), es]; exact q2), e14, xr_cI_s, if_pos rfl, if_neg q2, if_neg q3]
    obtain ⟨M2, r2, F2⟩ := lc 201 0 M1 g g (by omega) (fun _ _ => rfl) (xGr_cp C1 b0 b1 n3 G) W (fun b e h => F1 b e (by omega))
    have I1 : xIq (xm (xs S (xw M2 0 69 0 (nI 0)))) np nq ch st du pl dy dp sz kd gv g h s ln ti fl := xIq_fr (M := xm S) ⟨fun b e h1 h2 h3 => by rw [xm_xs, xw_r (by omega), F2 b e (by omega)], by rw [xm_xs, xw_n (by omega), F2 0 69 (by omega)], by rw [xm_xs, xw_n (by omega), F2 0 69 (by omega)]⟩ I
    obtain ⟨M3, r3, C3, F3⟩ := gm177a (d := d + 58) (w := [35, 44, 53, 58, 63, 66]) (S := xs S (xw M2 0 69 0 (nI 0)))
    rw [xs_xs] at r3
    rw [xm_xs] at C3 F3
    have lm : ∀ (n k : Nat) (M : xr_M), k + n = 201 → xgW np nq pl (M 0 90) → (∀ b e, ¬ (b = 0 ∧ (e = 90 ∨ e = 86 ∨ e = 87)) → M b e = xw M2 0 69 0 (nI 0) b e) → ∃ M', xr_Run (d + 59) 228 42 [xP 0 69, xI (nI p), xI (nI k)] [] xMd (xs S M) = some (.inl (some (lsts ch sz kd gv pl dy nq p n k (M 0 90))), xMd, xs S M') ∧ ∀ b e, ¬ (b = 0 ∧ (e = 90 ∨ e = 86 ∨ e = 87)) → M' b e = xw M2 0 69 0 (nI 0) b e := by
      intro n
      induction n with
      | zero =>
        intro k M hk W1 F
        refine ⟨M, ?_, F⟩
        refine (xg228_42 _ _ _ _ _).trans ?_
        rw [if_pos (by rw [xn_lt (by omega) (by omega)]; omega), lsts]
      | succ n ih =>
        intro k M hk W1 F
        have I2 : xIq (xm (xs S M)) np nq ch st du pl dy dp sz kd gv g h s ln ti fl := xIq_fr (M := xw M2 0 69 0 (nI 0)) ⟨fun b e h1 h2 h3 => by rw [xm_xs, F b e (by omega)], by rw [xm_xs, F 0 69 (by omega)], by rw [xm_xs, F 0 69 (by omega)]⟩ I1
        have e5 := gm205 (d := d + 55) (w := [35, 44, 53, 58, 63, 66]) (S := xs S M) (Or.inr rfl) I2.1 W1 hpq
        rw [xm_xs] at e5
        rw [lsts]
        by_cases q2 : M 0 90 (8 + p) = nI 2
        · refine ⟨M, ?_, F⟩
          refine (xg228_42 _ _ _ _ _).trans ?_
          rw [if_neg (by rw [xn_lt (by omega) (by omega)]; omega), xn_add, xi_t (by omega) (by omega), cond_true, if_pos (by rw [xm_xs, xn_k (by omega)]; exact q2), if_pos q2]
        · by_cases q3 : gap (M 0 90) (2 * p) (2 * p + 1) (pl p) ≤ ch
          · rw [show bI (gap (M 0 90) (2 * p) (2 * p + 1) (pl p) ≤ ch) = nI 1 from if_pos q3] at e5
            obtain ⟨M4, r4, G4, F4⟩ := gm209 (d := d + 54) (w := [35, 44, 53, 58, 63, 66]) (S := xs S M) (g := M 0 90) (Or.inr rfl) Lv W1 I2.1 I2.2.1.2.1 rfl
            rw [xs_xs] at r4
            rw [xm_xs] at F4
            obtain ⟨M5, r5, F5⟩ := ih (k + 1) M4 (by omega) (by rw [G4]; exact xgW_gyear W1 b1 n3) (fun b e h => by rw [F4 b e (by omega), F b e (by omega)])
            rw [G4] at r5
            refine ⟨M5, ?_, F5⟩
            refine (xg228_42 _ _ _ _ _).trans ?_
            rw [if_neg (by rw [xn_lt (by omega) (by omega)]; omega), xn_add, xi_t (by omega) (by omega), cond_true, if_neg (by rw [xm_xs, xn_k (by omega)]; exact q2), e5, xr_cI_s, if_neg (by rw [xn_eq (by omega) (by omega)]; omega), r4, xr_cV_s, xn_add, r5, if_neg q2, if_pos q3]
          · rw [show bI (gap (M 0 90) (2 * p) (2 * p + 1) (pl p) ≤ ch) = nI 0 from if_neg q3] at e5
            refine ⟨M, ?_, F⟩
            refine (xg228_42 _ _ _ _ _).trans ?_
            rw [if_neg (by rw [xn_lt (by omega) (by omega)]; omega), xn_add, xi_t (by omega) (by omega), cond_true, if_neg (by rw [xm_xs, xn_k (by omega)]; exact q2), e5, xr_cI_s, if_pos rfl, if_neg q2, if_neg q3]
    have e90 : ∀ j, j < 793 → M3 0 90 j = g j := fun j hj => by
      rw [C3 j hj]
      have := I1.2.2.1.1
      rw [xm_xs] at this
      rw [this]
    obtain ⟨M4, r4, F4⟩ := lm 201 0 M3 (by omega) (xgW_cg b1 e90 W) (fun b e h => F3 b e (by omega))
    have el : lsts ch sz kd gv pl dy nq p 201 0 (M3 0 90) = lsts ch sz kd gv pl dy nq p 201 0 g := by
      have L : ∀ (n k : Nat) (g1 g2 : Nat → Int32), (∀ j, pidx p j → g1 j = g2 j) → lsts ch sz kd gv pl dy nq p n k g1 = lsts ch sz kd gv pl dy nq p n k g2 := by
        intro n
        induction n with
        | zero => intro k g1 g2 h; rfl
        | succ n ih =>
          intro k g1 g2 h
          rw [lsts, lsts, h (8 + p) (by unfold pidx; omega), gap_cong (n3 p hpq) h, ih (k + 1) _ _ (fun j hj => (gyear_p b1 n3 hpq h j hj).trans (gyear_p b1 n3 hpq (g := g2) (g' := g2) (fun _ _ => rfl) j hj).symm)]
      exact L 201 0 _ _ (fun j hj => e90 j (by unfold pidx at hj; omega))
    rw [el] at r4
    refine Or.inl ⟨lsts ch sz kd gv pl dy nq p 201 0 g, M2, M4, ?_, ?_, ?_, fun b e h => ?_, fun j h1 h2 => ?_⟩
    · rw [xe113, p1, qc140y hpq (by omega), xr_cV_s, r1, xr_cV_s, r2]
    · rw [xe228]
      have e0 : xm (xs S (xw M2 0 69 0 (nI 0))) 0 69 0 = nI 0 := by rw [xm_xs, xw_y (by omega)]
      rw [xm_xs, xs_xs, qm218y hpq (by omega) I1.1.2.1.2.1, xr_cI_s, if_neg (by rw [xn_eq (by omega) (by omega)]; omega), qm151f _ _ e0, xr_cI_s, if_pos rfl, r3, xr_cV_s, r4]
    · rw [F4 0 69 (by omega), xw_y (by omega)]
    · rw [F4 b e (by omega), xw_r (by omega), F2 b e (by omega)]
    · rw [F4 0 69 (by omega), xw_n (by omega), F2 0 69 (by omega)]
  · refine Or.inr (Or.inl ⟨by omega, qNo_of (nI 0) (by omega) ?_ (fun T hT => ?_)⟩)
    · rw [xe113]; simp (disch := omega) only [xi_t, xn_k, xn_lt, xn_eq, xn_mul, xn_add, xn_sub, xn_dec, xn_m1, xn_1m, if_pos, if_neg, if_true, if_false, cond_true, cond_false, true_and, and_true, false_and, and_false, xr_cI_s, xr_cV_s, xr_cI_e, xr_cV_e, xm_xs, xs_xs, p1, qc140n (by omega) q]
    · rw [xe228]; have e0 : xm (xs T (xw (xm T) 0 69 0 (nI 0))) 0 69 0 = nI 0 := (by rw [xm_xs, xw_y (by omega)]); have f1 : xm (xs T (xw (xm T) 0 69 0 (nI 0))) 0 73 1 = nI nq := (by rw [xm_xs, xw_n (by omega), hT, xw_n (by omega)]; exact m1)
      simp (disch := omega) only [xi_t, xn_k, xn_lt, xn_eq, xn_mul, xn_add, xn_sub, xn_dec, xn_m1, xn_1m, if_pos, if_neg, if_true, if_false, cond_true, cond_false, true_and, and_true, false_and, and_false, xr_cI_s, xr_cV_s, xr_cI_e, xr_cV_e, xm_xs, xs_xs, qm218n (by omega) f1 q, qm151t (t := 1) (r := 0) (by omega) (by omega) (by omega) e0]
end
