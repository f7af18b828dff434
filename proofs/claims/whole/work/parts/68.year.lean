/-! A YEAR over the ground -/
theorem xGr_fr {M M' : xr_M} {b c np nq : Nat} {pl : Nat → Nat} {g : Nat → Int32} (h : ∀ e, c ≤ e → e ≤ c + 5 → M' b e = M b e) (G : xGr M b c np nq pl g) : xGr M' b c np nq pl g := by
  unfold xGr at G ⊢
  rw [h c (by omega) (by omega), h (c + 1) (by omega) (by omega), h (c + 2) (by omega) (by omega), h (c + 3) (by omega) (by omega), h (c + 4) (by omega) (by omega), h (c + 5) (by omega) (by omega)]
  exact G
section
variable {M : xr_M} {b c np nq : Nat} {pl : Nat → Nat} {g : Nat → Int32}
theorem xGr_w (G : xGr M b c np nq pl g) (n1 : np ≤ 8) {k : Nat} (hk : k < np) (v : Int32) : xGr (xw M b (c + 1) k v) b c np nq pl (xu g k v) := by
  obtain ⟨g0, g1, g2, g3, g4, g5⟩ := G
  refine ⟨?_, fun j hj => ?_, fun j hj => ?_, fun j hj => ?_, fun j hj => ?_, fun j i hj hi => ?_⟩
  · simp (disch := omega) only [xw_y, xw_n, xu_y, xu_n, if_pos, if_neg, if_true, if_false, true_and, and_true, false_and, and_false]; exact g0
  · by_cases q : j = k
    · simp (disch := omega) only [xw_y, xw_n, xu_y, xu_n, if_pos, if_neg, if_true, if_false, true_and, and_true, false_and, and_false]
    · simp (disch := omega) only [xw_y, xw_n, xu_y, xu_n, if_pos, if_neg, if_true, if_false, true_and, and_true, false_and, and_false]; exact g1 j hj
  · simp (disch := omega) only [xw_y, xw_n, xu_y, xu_n, if_pos, if_neg, if_true, if_false, true_and, and_true, false_and, and_false]; exact g2 j hj
  · simp (disch := omega) only [xw_y, xw_n, xu_y, xu_n, if_pos, if_neg, if_true, if_false, true_and, and_true, false_and, and_false]; exact g3 j hj
  · simp (disch := omega) only [xw_y, xw_n, xu_y, xu_n, if_pos, if_neg, if_true, if_false, true_and, and_true, false_and, and_false]; exact g4 j hj
  · simp (disch := omega) only [xw_y, xw_n, xu_y, xu_n, if_pos, if_neg, if_true, if_false, true_and, and_true, false_and, and_false]; exact g5 j i hj hi
theorem xGr_s (G : xGr M b c np nq pl g) (n1 : np ≤ 8) (n2 : nq ≤ 8) {k : Nat} (hk : k < nq) (v : Int32) : xGr (xw M b (c + 2) k v) b c np nq pl (xu g (8 + k) v) := by
  obtain ⟨g0, g1, g2, g3, g4, g5⟩ := G
  refine ⟨?_, fun j hj => ?_, fun j hj => ?_, fun j hj => ?_, fun j hj => ?_, fun j i hj hi => ?_⟩
  · simp (disch := omega) only [xw_y, xw_n, xu_y, xu_n, if_pos, if_neg, if_true, if_false, true_and, and_true, false_and, and_false]; exact g0
  · simp (disch := omega) only [xw_y, xw_n, xu_y, xu_n, if_pos, if_neg, if_true, if_false, true_and, and_true, false_and, and_false]; exact g1 j hj
  · by_cases q : j = k
    · simp (disch := omega) only [xw_y, xw_n, xu_y, xu_n, if_pos, if_neg, if_true, if_false, true_and, and_true, false_and, and_false]
    · simp (disch := omega) only [xw_y, xw_n, xu_y, xu_n, if_pos, if_neg, if_true, if_false, true_and, and_true, false_and, and_false]; exact g2 j hj
  · simp (disch := omega) only [xw_y, xw_n, xu_y, xu_n, if_pos, if_neg, if_true, if_false, true_and, and_true, false_and, and_false]; exact g3 j hj
  · simp (disch := omega) only [xw_y, xw_n, xu_y, xu_n, if_pos, if_neg, if_true, if_false, true_and, and_true, false_and, and_false]; exact g4 j hj
  · simp (disch := omega) only [xw_y, xw_n, xu_y, xu_n, if_pos, if_neg, if_true, if_false, true_and, and_true, false_and, and_false]; exact g5 j i hj hi
theorem xGr_h (G : xGr M b c np nq pl g) (n1 : np ≤ 8) (n2 : nq ≤ 8) {k : Nat} (hk : k < 2 * nq) (v : Int32) : xGr (xw M b (c + 3) k v) b c np nq pl (xu g (16 + k) v) := by
  obtain ⟨g0, g1, g2, g3, g4, g5⟩ := G
  refine ⟨?_, fun j hj => ?_, fun j hj => ?_, fun j hj => ?_, fun j hj => ?_, fun j i hj hi => ?_⟩
  · simp (disch := omega) only [xw_y, xw_n, xu_y, xu_n, if_pos, if_neg, if_true, if_false, true_and, and_true, false_and, and_false]; exact g0
  · simp (disch := omega) only [xw_y, xw_n, xu_y, xu_n, if_pos, if_neg, if_true, if_false, true_and, and_true, false_and, and_false]; exact g1 j hj
  · simp (disch := omega) only [xw_y, xw_n, xu_y, xu_n, if_pos, if_neg, if_true, if_false, true_and, and_true, false_and, and_false]; exact g2 j hj
  · by_cases q : j = k
    · simp (disch := omega) only [xw_y, xw_n, xu_y, xu_n, if_pos, if_neg, if_true, if_false, true_and, and_true, false_and, and_false]
    · simp (disch := omega) only [xw_y, xw_n, xu_y, xu_n, if_pos, if_neg, if_true, if_false, true_and, and_true, false_and, and_false]; exact g3 j hj
  · simp (disch := omega) only [xw_y, xw_n, xu_y, xu_n, if_pos, if_neg, if_true, if_false, true_and, and_true, false_and, and_false]; exact g4 j hj
  · simp (disch := omega) only [xw_y, xw_n, xu_y, xu_n, if_pos, if_neg, if_true, if_false, true_and, and_true, false_and, and_false]; exact g5 j i hj hi
theorem xGr_a (G : xGr M b c np nq pl g) (n1 : np ≤ 8) (n2 : nq ≤ 8) {k : Nat} (hk : k < 2 * nq) (v : Int32) : xGr (xw M b (c + 4) k v) b c np nq pl (xu g (32 + k) v) := by
  obtain ⟨g0, g1, g2, g3, g4, g5⟩ := G
  refine ⟨?_, fun j hj => ?_, fun j hj => ?_, fun j hj => ?_, fun j hj => ?_, fun j i hj hi => ?_⟩
  · simp (disch := omega) only [xw_y, xw_n, xu_y, xu_n, if_pos, if_neg, if_true, if_false, true_and, and_true, false_and, and_false]; exact g0
  · simp (disch := omega) only [xw_y, xw_n, xu_y, xu_n, if_pos, if_neg, if_true, if_false, true_and, and_true, false_and, and_false]; exact g1 j hj
  · simp (disch := omega) only [xw_y, xw_n, xu_y, xu_n, if_pos, if_neg, if_true, if_false, true_and, and_true, false_and, and_false]; exact g2 j hj
  · simp (disch := omega) only [xw_y, xw_n, xu_y, xu_n, if_pos, if_neg, if_true, if_false, true_and, and_true, false_and, and_false]; exact g3 j hj
  · by_cases q : j = k
    · simp (disch := omega) only [xw_y, xw_n, xu_y, xu_n, if_pos, if_neg, if_true, if_false, true_and, and_true, false_and, and_false]
    · simp (disch := omega) only [xw_y, xw_n, xu_y, xu_n, if_pos, if_neg, if_true, if_false, true_and, and_true, false_and, and_false]; exact g4 j hj
  · simp (disch := omega) only [xw_y, xw_n, xu_y, xu_n, if_pos, if_neg, if_true, if_false, true_and, and_true, false_and, and_false]; exact g5 j i hj hi
theorem xGr_d (G : xGr M b c np nq pl g) (n1 : np ≤ 8) (n2 : nq ≤ 8) (n3 : ∀ p, p < nq → pl p ≤ 6) {k i : Nat} (hk : k < 2 * nq) (hi : i < 6) (v : Int32) : xGr (xw M b (c + 5) (k * 6 + i) v) b c np nq pl (xu g (48 + 6 * k + i) v) := by
  obtain ⟨g0, g1, g2, g3, g4, g5⟩ := G
  refine ⟨?_, fun j hj => ?_, fun j hj => ?_, fun j hj => ?_, fun j hj => ?_, fun j l hj hl => ?_⟩
  · simp (disch := omega) only [xw_y, xw_n, xu_y, xu_n, if_pos, if_neg, if_true, if_false, true_and, and_true, false_and, and_false]; exact g0
  · simp (disch := omega) only [xw_y, xw_n, xu_y, xu_n, if_pos, if_neg, if_true, if_false, true_and, and_true, false_and, and_false]; exact g1 j hj
  · simp (disch := omega) only [xw_y, xw_n, xu_y, xu_n, if_pos, if_neg, if_true, if_false, true_and, and_true, false_and, and_false]; exact g2 j hj
  · simp (disch := omega) only [xw_y, xw_n, xu_y, xu_n, if_pos, if_neg, if_true, if_false, true_and, and_true, false_and, and_false]; exact g3 j hj
  · simp (disch := omega) only [xw_y, xw_n, xu_y, xu_n, if_pos, if_neg, if_true, if_false, true_and, and_true, false_and, and_false]; exact g4 j hj
  · have h6 := n3 (j / 2) (by omega)
    by_cases q : j = k ∧ l = i
    · obtain ⟨rfl, rfl⟩ := q
      simp (disch := omega) only [xw_y, xw_n, xu_y, xu_n, if_pos, if_neg, if_true, if_false, true_and, and_true, false_and, and_false]
    · have q2 : ¬ j * 6 + l = k * 6 + i := by omega
      simp (disch := omega) only [xw_y, xw_n, xu_y, xu_n, if_pos, if_neg, if_true, if_false, true_and, and_true, false_and, and_false]; exact g5 j l hj hl
theorem xGr_y (G : xGr M b c np nq pl g) (n1 : np ≤ 8) (n2 : nq ≤ 8) (n3 : ∀ p, p < nq → pl p ≤ 6) (v : Int32) : xGr (xw M b c 0 v) b c np nq pl (xu g 144 v) := by
  obtain ⟨g0, g1, g2, g3, g4, g5⟩ := G
  refine ⟨?_, fun j hj => ?_, fun j hj => ?_, fun j hj => ?_, fun j hj => ?_, fun j i hj hi => ?_⟩
  · simp (disch := omega) only [xw_y, xw_n, xu_y, xu_n, if_pos, if_neg, if_true, if_false, true_and, and_true, false_and, and_false]
  · simp (disch := omega) only [xw_y, xw_n, xu_y, xu_n, if_pos, if_neg, if_true, if_false, true_and, and_true, false_and, and_false]; exact g1 j hj
  · simp (disch := omega) only [xw_y, xw_n, xu_y, xu_n, if_pos, if_neg, if_true, if_false, true_and, and_true, false_and, and_false]; exact g2 j hj
  · simp (disch := omega) only [xw_y, xw_n, xu_y, xu_n, if_pos, if_neg, if_true, if_false, true_and, and_true, false_and, and_false]; exact g3 j hj
  · simp (disch := omega) only [xw_y, xw_n, xu_y, xu_n, if_pos, if_neg, if_true, if_false, true_and, and_true, false_and, and_false]; exact g4 j hj
  · have h6 := n3 (j / 2) (by omega)
    simp (disch := omega) only [xw_y, xw_n, xu_y, xu_n, if_pos, if_neg, if_true, if_false, true_and, and_true, false_and, and_false]; exact g5 j i hj hi
end
theorem gN_u {g : Nat → Int32} {k j : Nat} {v : Int32} (h : ¬ j = k) : gN (xu g k v) j = gN g j := by
  unfold gN; rw [xu_n h]
theorem gN_y {g : Nat → Int32} {k n : Nat} (hn : n < 2147483648) : gN (xu g k (nI n)) k = n := by
  unfold gN; rw [xu_y rfl, xn_k hn]
/-- what is written elsewhere keeps xgW -/
theorem xgW_o {np nq : Nat} {pl : Nat → Nat} {g : Nat → Int32} {k : Nat} {v : Int32} (W : xgW np nq pl g) (n2 : nq ≤ 8) (h : ¬ (16 ≤ k ∧ k < 32) ∧ ¬ (48 ≤ k ∧ k < 144)) : xgW np nq pl (xu g k v) := by
  refine ⟨fun j hj => ?_, fun j i hj hi => ?_⟩
  · rw [gN_u (by omega), xu_n (by omega)]; exact W.1 j hj
  · rw [gN_u (by omega), xu_n (by omega)]; exact W.2 j i hj hi
theorem xgW_d {np nq : Nat} {pl : Nat → Nat} {g : Nat → Int32} {k i n : Nat} (W : xgW np nq pl g) (n2 : nq ≤ 8) (hk : k < 2 * nq) (hi : i < 6) (hn : n ≤ gN g (48 + 6 * k + i)) : xgW np nq pl (xu g (48 + 6 * k + i) (nI n)) := by
  refine ⟨fun j hj => ?_, fun j l hj hl => ?_⟩
  · rw [gN_u (by omega), xu_n (by omega)]; exact W.1 j hj
  · obtain ⟨w1, w2, w3⟩ := W.2 k i hk hi
    by_cases q : j = k ∧ l = i
    · obtain ⟨rfl, rfl⟩ := q
      rw [gN_y (by omega), xu_y rfl]
      exact ⟨rfl, by omega, fun h => by have := w3 h; omega⟩
    · rw [gN_u (by omega), xu_n (by omega)]; exact W.2 j l hj hl
def gcut (sz : Nat) (kd : Nat → Nat) (gv : Nat → Int32) (g : Nat → Int32) (half : Nat) (due : Int32) (i : Nat) : Nat := gN g (48 + 6 * half + i) - lwear sz kd gv (gN g (48 + 6 * half + i)) (nI i) (nI (half % 2)) (g 144) (g (32 + half)) due
def gwi (sz : Nat) (kd : Nat → Nat) (gv : Nat → Int32) (g : Nat → Int32) (half : Nat) (due : Int32) : Nat → Nat → Int32
  | 0 => g
  | i + 1 => xu (gwi sz kd gv g half due i) (48 + 6 * half + i) (nI (gcut sz kd gv g half due i))
def gwhalf (sz : Nat) (kd : Nat → Nat) (gv : Nat → Int32) (g : Nat → Int32) (p n half : Nat) (due : Int32) : Nat → Int32 := if xsN (gcut sz kd gv g half due) n = 0 then xu (xu (gwi sz kd gv g half due n) (32 + half) (g (32 + half) + nI 1)) (8 + p) (nI 2) else xu (gwi sz kd gv g half due n) (32 + half) (g (32 + half) + nI 1)
def gwear (sz : Nat) (kd : Nat → Nat) (gv : Nat → Int32) (pl : Nat → Nat) (dy : Nat → Int32) (g : Nat → Int32) (p : Nat) : Nat → Int32 := if g (8 + p) = nI 0 then gwhalf sz kd gv (gwhalf sz kd gv g p (pl p) (2 * p) (bI (dy p < g 144))) p (pl p) (2 * p + 1) (bI (dy p < g 144)) else g
def gpots (sz : Nat) (kd : Nat → Nat) (gv : Nat → Int32) (pl : Nat → Nat) (dy : Nat → Int32) (g : Nat → Int32) (n : Nat) : Nat → Int32 := xfo (fun p g => gwear sz kd gv pl dy g p) n g
def gyear (sz : Nat) (kd : Nat → Nat) (gv : Nat → Int32) (pl : Nat → Nat) (dy : Nat → Int32) (nq : Nat) (g : Nat → Int32) : Nat → Int32 := xu (gpots sz kd gv pl dy g nq) 144 (gpots sz kd gv pl dy g nq 144 + nI 1)
section
variable {sz : Nat} {kd : Nat → Nat} {gv : Nat → Int32} {g : Nat → Int32} {due : Int32} {half : Nat}
theorem gwi_o : ∀ (n j : Nat), ¬ (48 + 6 * half ≤ j ∧ j < 48 + 6 * half + n) → gwi sz kd gv g half due n j = g j
  | 0, _, _ => rfl
  | n + 1, j, h => by
    rw [gwi, xu_n (by omega)]
    exact gwi_o n j (by omega)
theorem gwhalf_o {p n j : Nat} (hn : n ≤ 6) (h : ¬ (48 + 6 * half ≤ j ∧ j < 54 + 6 * half) ∧ j ≠ 32 + half ∧ j ≠ 8 + p) : gwhalf sz kd gv g p n half due j = g j := by
  unfold gwhalf
  split
  · rw [xu_n (by omega), xu_n (by omega), gwi_o _ _ (by omega)]
  · rw [xu_n (by omega), gwi_o _ _ (by omega)]
theorem gwear_o {pl : Nat → Nat} {dy : Nat → Int32} {p j : Nat} (hn : pl p ≤ 6) (h : ¬ (48 + 12 * p ≤ j ∧ j < 60 + 12 * p) ∧ ¬ (32 + 2 * p ≤ j ∧ j < 34 + 2 * p) ∧ j ≠ 8 + p) : gwear sz kd gv pl dy g p j = g j := by
  unfold gwear
  split
  · rw [gwhalf_o hn (by omega), gwhalf_o hn (by omega)]
  · rfl
theorem xgW_gwi {np nq : Nat} {pl : Nat → Nat} (W : xgW np nq pl g) (n2 : nq ≤ 8) (hk : half < 2 * nq) : ∀ n, n ≤ 6 → xgW np nq pl (gwi sz kd gv g half due n)
  | 0, _ => W
  | n + 1, hn => by
    rw [gwi]
    refine xgW_d (xgW_gwi W n2 hk n (by omega)) n2 hk (by omega) ?_
    unfold gN
    rw [gwi_o _ _ (by omega)]
    exact Nat.sub_le _ _
theorem xgW_gwhalf {np nq : Nat} {pl : Nat → Nat} {p n : Nat} (W : xgW np nq pl g) (n2 : nq ≤ 8) (hk : half < 2 * nq) (hn : n ≤ 6) (hp : p < nq) : xgW np nq pl (gwhalf sz kd gv g p n half due) := by
  unfold gwhalf
  split
  · exact xgW_o (xgW_o (xgW_gwi W n2 hk n hn) n2 (by omega)) n2 (by omega)
  · exact xgW_o (xgW_gwi W n2 hk n hn) n2 (by omega)
theorem xgW_gwear {np nq : Nat} {pl : Nat → Nat} {dy : Nat → Int32} {p : Nat} (W : xgW np nq pl g) (n2 : nq ≤ 8) (hn : pl p ≤ 6) (hp : p < nq) : xgW np nq pl (gwear sz kd gv pl dy g p) := by
  unfold gwear
  split
  · exact xgW_gwhalf (xgW_gwhalf W n2 (by omega) hn hp) n2 (by omega) hn hp
  · exact W
theorem xgW_gpots {np nq : Nat} {pl : Nat → Nat} {dy : Nat → Int32} (W : xgW np nq pl g) (n2 : nq ≤ 8) (hn : ∀ p, p < nq → pl p ≤ 6) : ∀ n, n ≤ nq → xgW np nq pl (gpots sz kd gv pl dy g n)
  | 0, _ => W
  | n + 1, h => xgW_gwear (xgW_gpots W n2 hn n (by omega)) n2 (hn n (by omega)) (by omega)
theorem xgW_gyear {np nq : Nat} {pl : Nat → Nat} {dy : Nat → Int32} (W : xgW np nq pl g) (n2 : nq ≤ 8) (hn : ∀ p, p < nq → pl p ≤ 6) : xgW np nq pl (gyear sz kd gv pl dy nq g) := xgW_o (xgW_gpots W n2 hn nq (Nat.le_refl _)) n2 (by omega)
theorem gpots_o {nq : Nat} {pl : Nat → Nat} {dy : Nat → Int32} (hn : ∀ p, p < nq → pl p ≤ 6) (n2 : nq ≤ 8) : ∀ n, n ≤ nq → ∀ j, ¬ (48 ≤ j ∧ j < 144) → ¬ (32 ≤ j ∧ j < 48) → ¬ (8 ≤ j ∧ j < 16) → gpots sz kd gv pl dy g n j = g j
  | 0, _, _, _, _, _ => rfl
  | n + 1, h, j, h1, h2, h3 => by
    show gwear sz kd gv pl dy (gpots sz kd gv pl dy g n) n j = g j
    rw [gwear_o (hn n (by omega)) (by omega)]
    exact gpots_o hn n2 n (by omega) j h1 h2 h3
/-- the heap, the people's wealth and the holders stay -/
theorem gyear_o {nq : Nat} {pl : Nat → Nat} {dy : Nat → Int32} (hn : ∀ p, p < nq → pl p ≤ 6) (n2 : nq ≤ 8) {j : Nat} (h1 : ¬ (32 ≤ j ∧ j < 145)) (h3 : ¬ (8 ≤ j ∧ j < 16)) : gyear sz kd gv pl dy nq g j = g j := by
  unfold gyear
  rw [xu_n (by omega), gpots_o hn n2 nq (Nat.le_refl _) j (by omega) (by omega) h3]
theorem xhM_year {nq : Nat} {pl : Nat → Nat} {dy : Nat → Int32} (hn : ∀ p, p < nq → pl p ≤ 6) (n2 : nq ≤ 8) {h : Nat → Nat} {s : Nat → Nat → Int32} (H : xhM g h s) : xhM (gyear sz kd gv pl dy nq g) h s := by
  refine ⟨fun x hx => ?_, fun x k hx hk => ?_⟩
  · rw [gyear_o hn n2 (by omega) (by omega)]; exact H.1 x hx
  · rw [gyear_o hn n2 (by omega) (by omega)]; exact H.2 x k hx hk
end
