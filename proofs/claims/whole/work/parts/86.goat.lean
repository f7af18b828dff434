/-! GOATS -/
abbrev gtS : Type := Int32 × Nat × Nat × (Nat → Nat) × (Nat → Nat → Int32)
def gtx (dr : Int32 → Nat) (lo : Int32 → Int32) (t : gtS) : Nat := dr (lo (lo t.1)) % 8
def gtk (dr : Int32 → Nat) (lo : Int32 → Int32) (fu st q : Nat) (t : gtS) : gtS := if dr (lo t.1) % 16 < q then
    (if 0 < t.2.2.2.1 (gtx dr lo t) then (lo (lo t.1), t.2.1 + 1, t.2.2.1 + (hset st fu (hfh t.2.2.2.1 (gtx dr lo t)) (hfs t.2.2.2.1 t.2.2.2.2 (gtx dr lo t))).1, (hset st fu (hfh t.2.2.2.1 (gtx dr lo t)) (hfs t.2.2.2.1 t.2.2.2.2 (gtx dr lo t))).2)
    else (lo (lo t.1), t.2.1, t.2.2.1 + (hset st fu t.2.2.2.1 t.2.2.2.2).1, (hset st fu t.2.2.2.1 t.2.2.2.2).2))
  else (lo t.1, t.2)
def gtn (dr : Int32 → Nat) (lo : Int32 → Int32) (fu st q : Nat) (t : gtS) (n : Nat) : gtS := xfo (fun _ t => gtk dr lo fu st q t) n t
def gtI (n : Nat) (t : gtS) : Prop := hG t.2.2.2.1 ∧ t.2.1 ≤ n ∧ t.2.2.1 ≤ 17000 * n
theorem gtI_k {dr : Int32 → Nat} {lo : Int32 → Int32} {fu st q n : Nat} {t : gtS} (hf : 16928 ≤ fu) (h1 : 1 ≤ st) (h9 : st ≤ 9) (I : gtI n t) : gtI (n + 1) (gtk dr lo fu st q t) := by
  obtain ⟨G, K, L⟩ := I
  have B := hG_B G
  have hx : gtx dr lo t < 8 := Nat.mod_lt _ (by omega)
  unfold gtk
  by_cases q1 : dr (lo t.1) % 16 < q
  · rw [if_pos q1]
    by_cases q2 : 0 < t.2.2.2.1 (gtx dr lo t)
    · rw [if_pos q2]
      have B2 : xhB 46 (hfh t.2.2.2.1 (gtx dr lo t)) := hfh_B (xhB_le (by omega) B) hx (by have := B _ (hlow_lt (h := t.2.2.2.1) hx); omega)
      have hq := hsq_le B2
      have hl := hset_le (st := st) h1 fu (hfh t.2.2.2.1 (gtx dr lo t)) (hfs t.2.2.2.1 t.2.2.2.2 (gtx dr lo t))
      exact ⟨hG_set h1 h9 (by omega) (by rw [hfh_T hx q2]; exact G.2), by dsimp only; omega, by dsimp only; omega⟩
    · rw [if_neg q2]
      have hq := hsq_le B
      have hl := hset_le (st := st) h1 fu t.2.2.2.1 t.2.2.2.2
      exact ⟨hG_set h1 h9 (by omega) G.2, by dsimp only; omega, by dsimp only; omega⟩
  · rw [if_neg q1]
    exact ⟨G, by dsimp only; omega, by dsimp only; omega⟩
theorem gtI_n {dr : Int32 → Nat} {lo : Int32 → Int32} {fu st q : Nat} {t : gtS} (hf : 16928 ≤ fu) (h1 : 1 ≤ st) (h9 : st ≤ 9) (I : gtI 0 t) : ∀ n, gtI n (gtn dr lo fu st q t n) := by
  intro n
  induction n with
  | zero => exact I
  | succ n ih =>
    have e : gtn dr lo fu st q t (n + 1) = gtk dr lo fu st q (gtn dr lo fu st q t n) := rfl
    rw [e]
    exact gtI_k hf h1 h9 ih
section
variable {d : Nat} {w : List Nat} {S : xr_S}
theorem gc3 : xr_Call (d + 1) 3 [xP 0 30] ([], w) S = some (.inl (some (nI (gdr (glot (xm S 0 30 1))))), ([], w), xs S (xw (xm S) 0 30 1 (glot (xm S 0 30 1)))) := by
  rw [xe3, xw_y ⟨rfl, rfl, rfl⟩, gdr_c]
  rfl
theorem gm260 {m : Nat} (h0 : 0 < m) (hm : m < 1000) : xr_Call (d + 1) 260 [xP 0 69, xI (nI m)] ([], w) S = some (.inl (some (nI (gdr (glot (xm S 0 69 44)) % m))), ([], w), xs S (xw (xm S) 0 69 44 (glot (xm S 0 69 44)))) := by
  rw [xe260, xw_y ⟨rfl, rfl, rfl⟩, gdr_m, if_neg (xn_nz h0 (by omega)), xn_mod (by have := gdr_lt (xm S 0 69 44 * nI 1103515245 + nI 12345); omega) h0 (by omega)]
  rfl
/-- what the class keeps of the goats -/
def gtC (M : xr_M) (t : gtS) : Prop := M 0 30 1 = t.1 ∧ M 0 30 2 = nI t.2.1 ∧ M 0 30 3 = nI t.2.2.1 ∧ xhC (M 0 32) (M 0 33) t.2.2.2.1 t.2.2.2.2
theorem gc1k {dr : Int32 → Nat} {lo : Int32 → Int32} (hdr : ∀ l, dr l = gdr l) (hlo : ∀ l, lo l = glot l) {fu st q n y : Nat} {sd : Int32} {M : xr_M} {t : gtS} (hf : 16928 ≤ fu ∧ fu < 800000) (h1 : 1 ≤ st) (h9 : st ≤ 9) (hq : q ≤ 16) (hy : y < 1000) {k : Nat} (hk : k < y) (I : gtI n t) (C : gtC M t) : ∃ M', xr_Run (d + 5) 1 26 [xP 0 30, xP 0 9, xI (nI st), xI sd, xI (nI q), xI (nI y), xI (nI k)] [] ([], w) (xs S M) = xr_Run (d + 5) 1 26 [xP 0 30, xP 0 9, xI (nI st), xI sd, xI (nI q), xI (nI y), xI (nI (k + 1))] [] ([], w) (xs S M') ∧ gtC M' (gtk dr lo fu st q t) ∧ ∀ b e, ¬ (b = 0 ∧ (e = 30 ∨ e = 32 ∨ e = 33)) → M' b e = M b e := by
  obtain ⟨c1, c2, c3, c4⟩ := C
  obtain ⟨G, K, L⟩ := I
  have B := hG_B G
  have hx : gtx dr lo t < 8 := Nat.mod_lt _ (by omega)
  have r1 := gc3 (d := d + 4) (w := w) (S := xs S M)
  rw [xs_xs, xm_xs, c1, ← hlo, ← hdr] at r1
  have g1 : dr (lo t.1) < 32768 := by rw [hdr]; exact gdr_lt _
  have z16 : ¬ nI 16 = 0 := by decide
  have z8 : ¬ nI 8 = 0 := by decide
  by_cases q1 : dr (lo t.1) % 16 < q
  · have r2 := gc3 (d := d + 4) (w := w) (S := xs S (xw M 0 30 1 (lo t.1)))
    rw [xs_xs, xm_xs, xw_y ⟨rfl, rfl, rfl⟩, xw_xw, ← hlo, ← hdr] at r2
    have g2 : dr (lo (lo t.1)) < 32768 := by rw [hdr]; exact gdr_lt _
    have H2 : xhC (xm (xs S (xw M 0 30 1 (lo (lo t.1)))) 0 (31 + 1)) (xm (xs S (xw M 0 30 1 (lo (lo t.1)))) 0 (31 + 2)) t.2.2.2.1 t.2.2.2.2 := by
      rw [xm_xs, xw_r (by omega), xw_r (by omega)]; exact c4
    have pre : ∀ R, (xr_cV ([], w) (xr_Call (d + 5) 2 [xP 0 30, xI (nI (gtx dr lo t))] ([], w) (xs S (xw M 0 30 1 (lo (lo t.1))))) (fun S5 => (xr_cI ([], w) (xr_Call (d + 5) 35 [xP 0 31, xI (nI st)] ([], w) S5) (fun x7 S6 => (xr_Run (d + 5) 1 26 [xP 0 30, xP 0 9, xI (nI st), xI sd, xI (nI q), xI (nI y), xI (nI k + nI 1)] [] ([], w) (xs S6 (xw (xm S6) 0 30 3 (((xm S5) 0 30 3) + x7)))))))) = R → xr_Run (d + 5) 1 26 [xP 0 30, xP 0 9, xI (nI st), xI sd, xI (nI q), xI (nI y), xI (nI k)] [] ([], w) (xs S M) = R := fun R hR => by
      refine (xg1_26 _ _ _ _ _ _ _ _).trans ?_
      rw [if_pos (by rw [xn_lt (by omega) (by omega)]; exact hk), r1, xr_cI_s, if_neg z16, xn_mod (by omega) (by omega) (by omega), if_pos (by rw [xn_lt (by omega) (by omega)]; exact q1), r2, xr_cI_s, if_neg z8, xn_mod (by omega) (by omega) (by omega)]
      exact hR
    unfold gtk
    rw [if_pos q1]
    by_cases q2 : 0 < t.2.2.2.1 (gtx dr lo t)
    · rw [if_pos q2]
      have bx := B _ hx
      have bl := B _ (hlow_lt (h := t.2.2.2.1) hx)
      obtain ⟨M3, r3, H3, F3⟩ := hc33 (d := d + 2) (w := w) (S := xs S (xw M 0 30 1 (lo (lo t.1)))) (c := 31) (Or.inr (Or.inr rfl)) H2 (xhB_le (by omega) B) hx q2 (by omega)
      rw [xs_xs] at r3
      rw [xm_xs] at F3
      have B2 : xhB 46 (hfh t.2.2.2.1 (gtx dr lo t)) := hfh_B (xhB_le (by omega) B) hx (by omega)
      have hq2 := hsq_le B2
      have e2 : M3 0 30 2 = nI t.2.1 := by rw [F3 0 30 (by omega), xw_n (by omega)]; exact c2
      have r5 : xr_Call (d + 5) 2 [xP 0 30, xI (nI (gtx dr lo t))] ([], w) (xs S (xw M 0 30 1 (lo (lo t.1)))) = some (.inl none, ([], w), xs S (xw M3 0 30 2 (nI (t.2.1 + 1)))) := by
        rw [xe2, xi_t hx (by omega), cond_true, xm_xs, xn_k (by omega), xw_n (by omega)]
        rw [if_pos (by rw [c4.1 _ hx, xn_lt (by omega) (by omega)]; exact q2), r3, xr_cV_s, xm_xs, xs_xs, e2, xn_add]
      obtain ⟨M4, r4, H4, F4⟩ := hc35 (d := d + 2) (w := w) (S := xs S (xw M3 0 30 2 (nI (t.2.1 + 1)))) (c := 31) (st := st) (h := hfh t.2.2.2.1 (gtx dr lo t)) (s := hfs t.2.2.2.1 t.2.2.2.2 (gtx dr lo t)) (Or.inr (Or.inr rfl)) (by omega) h1 (by rw [xm_xs, xw_r (by omega), xw_r (by omega)]; exact H3) (xhB_le (by omega) B2) (n := fu) (by omega) hf.2
      rw [xs_xs] at r4
      rw [xm_xs] at F4
      have e3 : xw M3 0 30 2 (nI (t.2.1 + 1)) 0 30 3 = nI t.2.2.1 := by rw [xw_n (by omega), F3 0 30 (by omega), xw_n (by omega)]; exact c3
      refine ⟨xw M4 0 30 3 (nI (t.2.2.1 + (hset st fu (hfh t.2.2.2.1 (gtx dr lo t)) (hfs t.2.2.2.1 t.2.2.2.2 (gtx dr lo t))).1)), pre _ ?_, ⟨?_, ?_, ?_, ?_⟩, fun b e h => ?_⟩
      · rw [r5, xr_cV_s, r4, xr_cI_s, xm_xs, xm_xs, xs_xs, e3, xn_add, xn_add]
      · rw [xw_n (by omega), F4 0 30 (by omega), xw_n (by omega), F3 0 30 (by omega), xw_y (by omega)]
      · rw [xw_n (by omega), F4 0 30 (by omega), xw_y (by omega)]
      · rw [xw_y (by omega)]
      · rw [xw_r (by omega), xw_r (by omega)]; exact H4
      · rw [xw_r (by omega), F4 b e (by omega), xw_r (by omega), F3 b e (by omega), xw_r (by omega)]
    · rw [if_neg q2]
      have bx := B _ hx
      have hq2 := hsq_le B
      have r5 : xr_Call (d + 5) 2 [xP 0 30, xI (nI (gtx dr lo t))] ([], w) (xs S (xw M 0 30 1 (lo (lo t.1)))) = some (.inl none, ([], w), xs S (xw M 0 30 1 (lo (lo t.1)))) := by
        rw [xe2, xi_t hx (by omega), cond_true, xm_xs, xn_k (by omega), xw_n (by omega)]
        rw [if_neg (by rw [c4.1 _ hx, xn_lt (by omega) (by omega)]; exact q2)]
      obtain ⟨M4, r4, H4, F4⟩ := hc35 (d := d + 2) (w := w) (S := xs S (xw M 0 30 1 (lo (lo t.1)))) (c := 31) (st := st) (Or.inr (Or.inr rfl)) (by omega) h1 H2 (xhB_le (by omega) B) (n := fu) (by omega) hf.2
      rw [xs_xs] at r4
      rw [xm_xs] at F4
      have e3 : xw M 0 30 1 (lo (lo t.1)) 0 30 3 = nI t.2.2.1 := by rw [xw_n (by omega)]; exact c3
      refine ⟨xw M4 0 30 3 (nI (t.2.2.1 + (hset st fu t.2.2.2.1 t.2.2.2.2).1)), pre _ ?_, ⟨?_, ?_, ?_, ?_⟩, fun b e h => ?_⟩
      · rw [r5, xr_cV_s, r4, xr_cI_s, xm_xs, xm_xs, xs_xs, e3, xn_add, xn_add]
      · rw [xw_n (by omega), F4 0 30 (by omega), xw_y (by omega)]
      · rw [xw_n (by omega), F4 0 30 (by omega), xw_n (by omega)]; exact c2
      · rw [xw_y (by omega)]
      · rw [xw_r (by omega), xw_r (by omega)]; exact H4
      · rw [xw_r (by omega), F4 b e (by omega), xw_r (by omega)]
  · unfold gtk
    rw [if_neg q1]
    refine ⟨xw M 0 30 1 (lo t.1), ?_, ⟨xw_y (by omega), ?_, ?_, ?_⟩, fun b e h => by rw [xw_r (by omega)]⟩
    · refine (xg1_26 _ _ _ _ _ _ _ _).trans ?_
      rw [if_pos (by rw [xn_lt (by omega) (by omega)]; exact hk), r1, xr_cI_s, if_neg z16, xn_mod (by omega) (by omega) (by omega), if_neg (by rw [xn_lt (by omega) (by omega)]; exact q1), xn_add]
    · rw [xw_n (by omega)]; exact c2
    · rw [xw_n (by omega)]; exact c3
    · rw [xw_r (by omega), xw_r (by omega)]; exact c4
theorem gc1 {dr : Int32 → Nat} {lo : Int32 → Int32} (hdr : ∀ l, dr l = gdr l) (hlo : ∀ l, lo l = glot l) {fu st q y : Nat} {sd : Int32} {h : Nat → Nat} {s : Nat → Nat → Int32} (hf : 16928 ≤ fu ∧ fu < 800000) (h1 : 1 ≤ st) (h9 : st ≤ 9) (hq : q ≤ 16) (hy : y < 1000) (G : hG h) (H : xhC (xm S 0 10) (xm S 0 11) h s) : ∃ M, xr_Call (d + 6) 1 [xP 0 30, xP 0 9, xI (nI st), xI sd, xI (nI q), xI (nI y)] ([], w) S = some (.inl none, ([], w), xs S M) ∧ gtC M (gtn dr lo fu st q (sd, 0, 0, h, s) y) ∧ ∀ b e, ¬ (b = 0 ∧ (e = 30 ∨ e = 32 ∨ e = 33)) → M b e = xm S b e := by
  have B := hG_B G
  obtain ⟨M1, r1, H1, F1⟩ := hc28a_H (d := d + 4) (w := w) (S := S) (c := 31) (Or.inr rfl) (xhB_le (by omega) B) H
  have I0 : gtI 0 (sd, 0, 0, h, s) := ⟨G, by dsimp only; omega, by dsimp only; omega⟩
  have lp : ∀ n, n ≤ y → ∃ M, xr_Run (d + 5) 1 26 [xP 0 30, xP 0 9, xI (nI st), xI sd, xI (nI q), xI (nI y), xI (nI 0)] [] ([], w) (xs S (xw (xw (xw M1 0 30 1 sd) 0 30 2 (nI 0)) 0 30 3 (nI 0))) = xr_Run (d + 5) 1 26 [xP 0 30, xP 0 9, xI (nI st), xI sd, xI (nI q), xI (nI y), xI (nI n)] [] ([], w) (xs S M) ∧ gtC M (gtn dr lo fu st q (sd, 0, 0, h, s) n) ∧ ∀ b e, ¬ (b = 0 ∧ (e = 30 ∨ e = 32 ∨ e = 33)) → M b e = xm S b e := by
    intro n
    induction n with
    | zero =>
      intro _
      refine ⟨_, rfl, ⟨?_, ?_, ?_, ?_⟩, fun b e h => ?_⟩
      · rw [xw_n (by omega), xw_n (by omega), xw_y (by omega)]; rfl
      · rw [xw_n (by omega), xw_y (by omega)]; rfl
      · rw [xw_y (by omega)]; rfl
      · rw [xw_r (by omega), xw_r (by omega), xw_r (by omega), xw_r (by omega), xw_r (by omega), xw_r (by omega)]; exact H1
      · rw [xw_r (by omega), xw_r (by omega), xw_r (by omega), F1 b e (by omega)]
    | succ n ih =>
      intro hn
      obtain ⟨M, r, C, F⟩ := ih (by omega)
      obtain ⟨M2, r2, C2, F2⟩ := gc1k (d := d) (w := w) (S := S) (sd := sd) (y := y) hdr hlo hf h1 h9 hq hy (k := n) (by omega) (gtI_n (st := st) (q := q) hf.1 h1 h9 I0 n) C
      exact ⟨M2, by rw [r, r2], C2, fun b e h => by rw [F2 b e h, F b e h]⟩
  obtain ⟨M, r, C, F⟩ := lp y (Nat.le_refl _)
  refine ⟨M, ?_, C, F⟩
  rw [xe1, r1, xr_cV_s, xm_xs, xs_xs, r]
  refine (xg1_26 _ _ _ _ _ _ _ _).trans ?_
  rw [if_neg (by rw [xn_lt (by omega) (by omega)]; omega)]
end
