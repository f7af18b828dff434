/-! TEXTS, 4: the model's words and signs -/
section
variable {d : Nat} {w : List Nat} {S : xr_S} {tb : Nat → Nat} {n : Nat} {r : tR}
theorem dg27 {A B x y : Nat} (hx : 1 ≤ x ∧ x ≤ 26) (hy : 1 ≤ y ∧ y ≤ 26) (h : 27 * A + x = 27 * B + y) : A = B ∧ x = y := by omega
theorem wlet (tb : Nat → Nat) (n b : Nat) {k : Nat} (h1 : b ≤ k) (h2 : k < wend tb n b) : 97 ≤ tb k ∧ tb k ≤ 122 := of_decide_eq_true ((trun_ge (p := tlet) (tb := tb) (n := n) n b).2.2 k h1 h2).2
theorem wis3 {l1 l2 l3 b e : Nat} : wis [l1, l2, l3] tb b e = true ↔ e - b = 3 ∧ tb (b + 0) = l1 ∧ tb (b + 1) = l2 ∧ tb (b + 2) = l3 := by
  unfold wis
  rw [decide_eq_true_eq]
  constructor
  · rintro ⟨h0, h1⟩
    exact ⟨h0, h1 0 (by simp), h1 1 (by simp), h1 2 (by simp)⟩
  · rintro ⟨h0, g0, g1, g2⟩
    refine ⟨h0, fun i hi => ?_⟩
    have hi : i < 3 := hi
    rcases (by omega : i = 0 ∨ i = 1 ∨ i = 2) with rfl | rfl | rfl
    · exact g0
    · exact g1
    · exact g2
theorem wcd3 {l1 l2 l3 b : Nat} (hl1 : 97 ≤ l1 ∧ l1 ≤ 122) (hl2 : 97 ≤ l2 ∧ l2 ≤ 122) (hl3 : 97 ≤ l3 ∧ l3 ≤ 122) : ((if wend tb n b - b ≤ 6 then nI (wc tb b (wend tb n b - b)) else -1) = nI (27 * (27 * (l1 - 96) + (l2 - 96)) + (l3 - 96))) ↔ wis [l1, l2, l3] tb b (wend tb n b) = true := by
  rw [wis3]
  have hl := @wlet tb n b
  generalize wend tb n b = e at *
  by_cases q : e - b ≤ 6
  · rw [if_pos q]
    rcases (by omega : e - b = 0 ∨ e - b = 1 ∨ e - b = 2 ∨ e - b = 3 ∨ e - b = 4 ∨ e - b = 5 ∨ e - b = 6) with q0 | q0 | q0 | q0 | q0 | q0 | q0
    · rw [q0]
      simp only [wc, Nat.mul_zero, Nat.zero_add, Nat.add_zero]
      rw [xn_eq (by omega) (by omega)]
      omega
    · rw [q0]
      simp only [wc, Nat.mul_zero, Nat.zero_add, Nat.add_zero]
      have y0 := @hl (b + 0) (by omega) (by omega)
      rw [Nat.add_zero] at y0
      rw [xn_eq (by omega) (by omega)]
      omega
    · rw [q0]
      simp only [wc, Nat.mul_zero, Nat.zero_add, Nat.add_zero]
      have y0 := @hl (b + 0) (by omega) (by omega)
      have y1 := @hl (b + 1) (by omega) (by omega)
      rw [Nat.add_zero] at y0
      rw [xn_eq (by omega) (by omega)]
      omega
    · rw [q0]
      simp only [wc, Nat.mul_zero, Nat.zero_add, Nat.add_zero]
      have y0 := @hl (b + 0) (by omega) (by omega)
      have y1 := @hl (b + 1) (by omega) (by omega)
      have y2 := @hl (b + 2) (by omega) (by omega)
      rw [Nat.add_zero] at y0
      rw [xn_eq (by omega) (by omega)]
      constructor
      · intro h9
        obtain ⟨k2, z2⟩ := dg27 (by omega) (by omega) h9
        obtain ⟨k1, z1⟩ := dg27 (by omega) (by omega) k2
        refine ⟨trivial, ?_, ?_, ?_⟩ <;> omega
      · rintro ⟨_, g0, g1, g2⟩
        omega
    · rw [q0]
      simp only [wc, Nat.mul_zero, Nat.zero_add, Nat.add_zero]
      have y0 := @hl (b + 0) (by omega) (by omega)
      have y1 := @hl (b + 1) (by omega) (by omega)
      have y2 := @hl (b + 2) (by omega) (by omega)
      have y3 := @hl (b + 3) (by omega) (by omega)
      rw [Nat.add_zero] at y0
      rw [xn_eq (by omega) (by omega)]
      omega
    · rw [q0]
      simp only [wc, Nat.mul_zero, Nat.zero_add, Nat.add_zero]
      have y0 := @hl (b + 0) (by omega) (by omega)
      have y1 := @hl (b + 1) (by omega) (by omega)
      have y2 := @hl (b + 2) (by omega) (by omega)
      have y3 := @hl (b + 3) (by omega) (by omega)
      have y4 := @hl (b + 4) (by omega) (by omega)
      rw [Nat.add_zero] at y0
      rw [xn_eq (by omega) (by omega)]
      omega
    · rw [q0]
      simp only [wc, Nat.mul_zero, Nat.zero_add, Nat.add_zero]
      have y0 := @hl (b + 0) (by omega) (by omega)
      have y1 := @hl (b + 1) (by omega) (by omega)
      have y2 := @hl (b + 2) (by omega) (by omega)
      have y3 := @hl (b + 3) (by omega) (by omega)
      have y4 := @hl (b + 4) (by omega) (by omega)
      have y5 := @hl (b + 5) (by omega) (by omega)
      rw [Nat.add_zero] at y0
      rw [xn_eq (by omega) (by omega)]
      omega
  · rw [if_neg q, xn_1m (by omega)]
    exact ⟨fun h => h.elim, fun h => by omega⟩
theorem tm165_3 {a l1 l2 l3 : Nat} (hl1 : 97 ≤ l1 ∧ l1 ≤ 122) (hl2 : 97 ≤ l2 ∧ l2 ≤ 122) (hl3 : 97 ≤ l3 ∧ l3 ≤ 122) (Y : tY (xm S) tb n) (R : rM (xm S) n (.inl a)) : xr_Call (d + 4) 165 [xP 0 69, xI (nI (l1 - 96)), xI (nI (l2 - 96)), xI (nI (l3 - 96)), xI (nI 0), xI (nI 0), xI (nI 0)] ([], w) S = some (.inl (some (cond (wis [l1, l2, l3] tb (sk tb n a) (wend tb n (sk tb n a))) (nI 1) (nI 0))), ([], w), xs S (xw (xm S) 0 69 4 (nI (sk tb n a)))) := by
  have e := wcd3 (tb := tb) (n := n) (b := sk tb n a) hl1 hl2 hl3
  rw [xe165, if_pos R.1, tm163 Y R, xr_cI_s, xe164]
  rw [if_pos (rfl : nI 0 = nI 0)]
  rw [if_pos (rfl : nI 0 = nI 0)]
  rw [if_pos (rfl : nI 0 = nI 0)]
  simp only [xn_mul, xn_add, xr_cI_s]
  cases hq : wis [l1, l2, l3] tb (sk tb n a) (wend tb n (sk tb n a)) with
  | true => rw [if_pos (e.mpr hq)]; rfl
  | false => rw [if_neg (fun h => by rw [e.mp h] at hq; cases hq)]; rfl
theorem tm165f_3 {l1 l2 l3 : Nat} {q : Nat × Nat} (R : rM (xm S) n (.inr q)) : xr_Call (d + 4) 165 [xP 0 69, xI (nI (l1 - 96)), xI (nI (l2 - 96)), xI (nI (l3 - 96)), xI (nI 0), xI (nI 0), xI (nI 0)] ([], w) S = some (.inl (some (nI 0)), ([], w), S) := by
  obtain ⟨k, p⟩ := q
  rw [xe165, if_neg (by rw [R.1, xn_eq (by have := R.2.1; omega) (by omega)]; have := R.2.1; omega)]
theorem wis4 {l1 l2 l3 l4 b e : Nat} : wis [l1, l2, l3, l4] tb b e = true ↔ e - b = 4 ∧ tb (b + 0) = l1 ∧ tb (b + 1) = l2 ∧ tb (b + 2) = l3 ∧ tb (b + 3) = l4 := by
  unfold wis
  rw [decide_eq_true_eq]
  constructor
  · rintro ⟨h0, h1⟩
    exact ⟨h0, h1 0 (by simp), h1 1 (by simp), h1 2 (by simp), h1 3 (by simp)⟩
  · rintro ⟨h0, g0, g1, g2, g3⟩
    refine ⟨h0, fun i hi => ?_⟩
    have hi : i < 4 := hi
    rcases (by omega : i = 0 ∨ i = 1 ∨ i = 2 ∨ i = 3) with rfl | rfl | rfl | rfl
    · exact g0
    · exact g1
    · exact g2
    · exact g3
theorem wcd4 {l1 l2 l3 l4 b : Nat} (hl1 : 97 ≤ l1 ∧ l1 ≤ 122) (hl2 : 97 ≤ l2 ∧ l2 ≤ 122) (hl3 : 97 ≤ l3 ∧ l3 ≤ 122) (hl4 : 97 ≤ l4 ∧ l4 ≤ 122) : ((if wend tb n b - b ≤ 6 then nI (wc tb b (wend tb n b - b)) else -1) = nI (27 * (27 * (27 * (l1 - 96) + (l2 - 96)) + (l3 - 96)) + (l4 - 96))) ↔ wis [l1, l2, l3, l4] tb b (wend tb n b) = true := by
  rw [wis4]
  have hl := @wlet tb n b
  generalize wend tb n b = e at *
  by_cases q : e - b ≤ 6
  · rw [if_pos q]
    rcases (by omega : e - b = 0 ∨ e - b = 1 ∨ e - b = 2 ∨ e - b = 3 ∨ e - b = 4 ∨ e - b = 5 ∨ e - b = 6) with q0 | q0 | q0 | q0 | q0 | q0 | q0
    · rw [q0]
      simp only [wc, Nat.mul_zero, Nat.zero_add, Nat.add_zero]
      rw [xn_eq (by omega) (by omega)]
      omega
    · rw [q0]
      simp only [wc, Nat.mul_zero, Nat.zero_add, Nat.add_zero]
      have y0 := @hl (b + 0) (by omega) (by omega)
      rw [Nat.add_zero] at y0
      rw [xn_eq (by omega) (by omega)]
      omega
    · rw [q0]
      simp only [wc, Nat.mul_zero, Nat.zero_add, Nat.add_zero]
      have y0 := @hl (b + 0) (by omega) (by omega)
      have y1 := @hl (b + 1) (by omega) (by omega)
      rw [Nat.add_zero] at y0
      rw [xn_eq (by omega) (by omega)]
      omega
    · rw [q0]
      simp only [wc, Nat.mul_zero, Nat.zero_add, Nat.add_zero]
      have y0 := @hl (b + 0) (by omega) (by omega)
      have y1 := @hl (b + 1) (by omega) (by omega)
      have y2 := @hl (b + 2) (by omega) (by omega)
      rw [Nat.add_zero] at y0
      rw [xn_eq (by omega) (by omega)]
      omega
    · rw [q0]
      simp only [wc, Nat.mul_zero, Nat.zero_add, Nat.add_zero]
      have y0 := @hl (b + 0) (by omega) (by omega)
      have y1 := @hl (b + 1) (by omega) (by omega)
      have y2 := @hl (b + 2) (by omega) (by omega)
      have y3 := @hl (b + 3) (by omega) (by omega)
      rw [Nat.add_zero] at y0
      rw [xn_eq (by omega) (by omega)]
      constructor
      · intro h9
        obtain ⟨k3, z3⟩ := dg27 (by omega) (by omega) h9
        obtain ⟨k2, z2⟩ := dg27 (by omega) (by omega) k3
        obtain ⟨k1, z1⟩ := dg27 (by omega) (by omega) k2
        refine ⟨trivial, ?_, ?_, ?_, ?_⟩ <;> omega
      · rintro ⟨_, g0, g1, g2, g3⟩
        omega
    · rw [q0]
      simp only [wc, Nat.mul_zero, Nat.zero_add, Nat.add_zero]
      have y0 := @hl (b + 0) (by omega) (by omega)
      have y1 := @hl (b + 1) (by omega) (by omega)
      have y2 := @hl (b + 2) (by omega) (by omega)
      have y3 := @hl (b + 3) (by omega) (by omega)
      have y4 := @hl (b + 4) (by omega) (by omega)
      rw [Nat.add_zero] at y0
      rw [xn_eq (by omega) (by omega)]
      omega
    · rw [q0]
      simp only [wc, Nat.mul_zero, Nat.zero_add, Nat.add_zero]
      have y0 := @hl (b + 0) (by omega) (by omega)
      have y1 := @hl (b + 1) (by omega) (by omega)
      have y2 := @hl (b + 2) (by omega) (by omega)
      have y3 := @hl (b + 3) (by omega) (by omega)
      have y4 := @hl (b + 4) (by omega) (by omega)
      have y5 := @hl (b + 5) (by omega) (by omega)
      rw [Nat.add_zero] at y0
      rw [xn_eq (by omega) (by omega)]
      omega
  · rw [if_neg q, xn_1m (by omega)]
    exact ⟨fun h => h.elim, fun h => by omega⟩
theorem tm165_4 {a l1 l2 l3 l4 : Nat} (hl1 : 97 ≤ l1 ∧ l1 ≤ 122) (hl2 : 97 ≤ l2 ∧ l2 ≤ 122) (hl3 : 97 ≤ l3 ∧ l3 ≤ 122) (hl4 : 97 ≤ l4 ∧ l4 ≤ 122) (Y : tY (xm S) tb n) (R : rM (xm S) n (.inl a)) : xr_Call (d + 4) 165 [xP 0 69, xI (nI (l1 - 96)), xI (nI (l2 - 96)), xI (nI (l3 - 96)), xI (nI (l4 - 96)), xI (nI 0), xI (nI 0)] ([], w) S = some (.inl (some (cond (wis [l1, l2, l3, l4] tb (sk tb n a) (wend tb n (sk tb n a))) (nI 1) (nI 0))), ([], w), xs S (xw (xm S) 0 69 4 (nI (sk tb n a)))) := by
  have e := wcd4 (tb := tb) (n := n) (b := sk tb n a) hl1 hl2 hl3 hl4
  rw [xe165, if_pos R.1, tm163 Y R, xr_cI_s, xe164]
  rw [if_neg (show ¬ nI (l4 - 96) = nI 0 by rw [xn_eq (by omega) (by omega)]; omega)]
  rw [if_pos (rfl : nI 0 = nI 0)]
  rw [if_pos (rfl : nI 0 = nI 0)]
  simp only [xn_mul, xn_add, xr_cI_s]
  cases hq : wis [l1, l2, l3, l4] tb (sk tb n a) (wend tb n (sk tb n a)) with
  | true => rw [if_pos (e.mpr hq)]; rfl
  | false => rw [if_neg (fun h => by rw [e.mp h] at hq; cases hq)]; rfl
theorem tm165f_4 {l1 l2 l3 l4 : Nat} {q : Nat × Nat} (R : rM (xm S) n (.inr q)) : xr_Call (d + 4) 165 [xP 0 69, xI (nI (l1 - 96)), xI (nI (l2 - 96)), xI (nI (l3 - 96)), xI (nI (l4 - 96)), xI (nI 0), xI (nI 0)] ([], w) S = some (.inl (some (nI 0)), ([], w), S) := by
  obtain ⟨k, p⟩ := q
  rw [xe165, if_neg (by rw [R.1, xn_eq (by have := R.2.1; omega) (by omega)]; have := R.2.1; omega)]
theorem wis5 {l1 l2 l3 l4 l5 b e : Nat} : wis [l1, l2, l3, l4, l5] tb b e = true ↔ e - b = 5 ∧ tb (b + 0) = l1 ∧ tb (b + 1) = l2 ∧ tb (b + 2) = l3 ∧ tb (b + 3) = l4 ∧ tb (b + 4) = l5 := by
  unfold wis
  rw [decide_eq_true_eq]
  constructor
  · rintro ⟨h0, h1⟩
    exact ⟨h0, h1 0 (by simp), h1 1 (by simp), h1 2 (by simp), h1 3 (by simp), h1 4 (by simp)⟩
  · rintro ⟨h0, g0, g1, g2, g3, g4⟩
    refine ⟨h0, fun i hi => ?_⟩
    have hi : i < 5 := hi
    rcases (by omega : i = 0 ∨ i = 1 ∨ i = 2 ∨ i = 3 ∨ i = 4) with rfl | rfl | rfl | rfl | rfl
    · exact g0
    · exact g1
    · exact g2
    · exact g3
    · exact g4
theorem wcd5 {l1 l2 l3 l4 l5 b : Nat} (hl1 : 97 ≤ l1 ∧ l1 ≤ 122) (hl2 : 97 ≤ l2 ∧ l2 ≤ 122) (hl3 : 97 ≤ l3 ∧ l3 ≤ 122) (hl4 : 97 ≤ l4 ∧ l4 ≤ 122) (hl5 : 97 ≤ l5 ∧ l5 ≤ 122) : ((if wend tb n b - b ≤ 6 then nI (wc tb b (wend tb n b - b)) else -1) = nI (27 * (27 * (27 * (27 * (l1 - 96) + (l2 - 96)) + (l3 - 96)) + (l4 - 96)) + (l5 - 96))) ↔ wis [l1, l2, l3, l4, l5] tb b (wend tb n b) = true := by
  rw [wis5]
  have hl := @wlet tb n b
  generalize wend tb n b = e at *
  by_cases q : e - b ≤ 6
  · rw [if_pos q]
    rcases (by omega : e - b = 0 ∨ e - b = 1 ∨ e - b = 2 ∨ e - b = 3 ∨ e - b = 4 ∨ e - b = 5 ∨ e - b = 6) with q0 | q0 | q0 | q0 | q0 | q0 | q0
    · rw [q0]
      simp only [wc, Nat.mul_zero, Nat.zero_add, Nat.add_zero]
      rw [xn_eq (by omega) (by omega)]
      omega
    · rw [q0]
      simp only [wc, Nat.mul_zero, Nat.zero_add, Nat.add_zero]
      have y0 := @hl (b + 0) (by omega) (by omega)
      rw [Nat.add_zero] at y0
      rw [xn_eq (by omega) (by omega)]
      omega
    · rw [q0]
      simp only [wc, Nat.mul_zero, Nat.zero_add, Nat.add_zero]
      have y0 := @hl (b + 0) (by omega) (by omega)
      have y1 := @hl (b + 1) (by omega) (by omega)
      rw [Nat.add_zero] at y0
      rw [xn_eq (by omega) (by omega)]
      omega
    · rw [q0]
      simp only [wc, Nat.mul_zero, Nat.zero_add, Nat.add_zero]
      have y0 := @hl (b + 0) (by omega) (by omega)
      have y1 := @hl (b + 1) (by omega) (by omega)
      have y2 := @hl (b + 2) (by omega) (by omega)
      rw [Nat.add_zero] at y0
      rw [xn_eq (by omega) (by omega)]
      omega
    · rw [q0]
      simp only [wc, Nat.mul_zero, Nat.zero_add, Nat.add_zero]
      have y0 := @hl (b + 0) (by omega) (by omega)
      have y1 := @hl (b + 1) (by omega) (by omega)
      have y2 := @hl (b + 2) (by omega) (by omega)
      have y3 := @hl (b + 3) (by omega) (by omega)
      rw [Nat.add_zero] at y0
      rw [xn_eq (by omega) (by omega)]
      omega
    · rw [q0]
      simp only [wc, Nat.mul_zero, Nat.zero_add, Nat.add_zero]
      have y0 := @hl (b + 0) (by omega) (by omega)
      have y1 := @hl (b + 1) (by omega) (by omega)
      have y2 := @hl (b + 2) (by omega) (by omega)
      have y3 := @hl (b + 3) (by omega) (by omega)
      have y4 := @hl (b + 4) (by omega) (by omega)
      rw [Nat.add_zero] at y0
      rw [xn_eq (by omega) (by omega)]
      constructor
      · intro h9
        obtain ⟨k4, z4⟩ := dg27 (by omega) (by omega) h9
        obtain ⟨k3, z3⟩ := dg27 (by omega) (by omega) k4
        obtain ⟨k2, z2⟩ := dg27 (by omega) (by omega) k3
        obtain ⟨k1, z1⟩ := dg27 (by omega) (by omega) k2
        refine ⟨trivial, ?_, ?_, ?_, ?_, ?_⟩ <;> omega
      · rintro ⟨_, g0, g1, g2, g3, g4⟩
        omega
    · rw [q0]
      simp only [wc, Nat.mul_zero, Nat.zero_add, Nat.add_zero]
      have y0 := @hl (b + 0) (by omega) (by omega)
      have y1 := @hl (b + 1) (by omega) (by omega)
      have y2 := @hl (b + 2) (by omega) (by omega)
      have y3 := @hl (b + 3) (by omega) (by omega)
      have y4 := @hl (b + 4) (by omega) (by omega)
      have y5 := @hl (b + 5) (by omega) (by omega)
      rw [Nat.add_zero] at y0
      rw [xn_eq (by omega) (by omega)]
      omega
  · rw [if_neg q, xn_1m (by omega)]
    exact ⟨fun h => h.elim, fun h => by omega⟩
theorem tm165_5 {a l1 l2 l3 l4 l5 : Nat} (hl1 : 97 ≤ l1 ∧ l1 ≤ 122) (hl2 : 97 ≤ l2 ∧ l2 ≤ 122) (hl3 : 97 ≤ l3 ∧ l3 ≤ 122) (hl4 : 97 ≤ l4 ∧ l4 ≤ 122) (hl5 : 97 ≤ l5 ∧ l5 ≤ 122) (Y : tY (xm S) tb n) (R : rM (xm S) n (.inl a)) : xr_Call (d + 4) 165 [xP 0 69, xI (nI (l1 - 96)), xI (nI (l2 - 96)), xI (nI (l3 - 96)), xI (nI (l4 - 96)), xI (nI (l5 - 96)), xI (nI 0)] ([], w) S = some (.inl (some (cond (wis [l1, l2, l3, l4, l5] tb (sk tb n a) (wend tb n (sk tb n a))) (nI 1) (nI 0))), ([], w), xs S (xw (xm S) 0 69 4 (nI (sk tb n a)))) := by
  have e := wcd5 (tb := tb) (n := n) (b := sk tb n a) hl1 hl2 hl3 hl4 hl5
  rw [xe165, if_pos R.1, tm163 Y R, xr_cI_s, xe164]
  rw [if_neg (show ¬ nI (l4 - 96) = nI 0 by rw [xn_eq (by omega) (by omega)]; omega)]
  rw [if_neg (show ¬ nI (l5 - 96) = nI 0 by rw [xn_eq (by omega) (by omega)]; omega)]
  rw [if_pos (rfl : nI 0 = nI 0)]
  simp only [xn_mul, xn_add, xr_cI_s]
  cases hq : wis [l1, l2, l3, l4, l5] tb (sk tb n a) (wend tb n (sk tb n a)) with
  | true => rw [if_pos (e.mpr hq)]; rfl
  | false => rw [if_neg (fun h => by rw [e.mp h] at hq; cases hq)]; rfl
theorem tm165f_5 {l1 l2 l3 l4 l5 : Nat} {q : Nat × Nat} (R : rM (xm S) n (.inr q)) : xr_Call (d + 4) 165 [xP 0 69, xI (nI (l1 - 96)), xI (nI (l2 - 96)), xI (nI (l3 - 96)), xI (nI (l4 - 96)), xI (nI (l5 - 96)), xI (nI 0)] ([], w) S = some (.inl (some (nI 0)), ([], w), S) := by
  obtain ⟨k, p⟩ := q
  rw [xe165, if_neg (by rw [R.1, xn_eq (by have := R.2.1; omega) (by omega)]; have := R.2.1; omega)]
theorem wis6 {l1 l2 l3 l4 l5 l6 b e : Nat} : wis [l1, l2, l3, l4, l5, l6] tb b e = true ↔ e - b = 6 ∧ tb (b + 0) = l1 ∧ tb (b + 1) = l2 ∧ tb (b + 2) = l3 ∧ tb (b + 3) = l4 ∧ tb (b + 4) = l5 ∧ tb (b + 5) = l6 := by
  unfold wis
  rw [decide_eq_true_eq]
  constructor
  · rintro ⟨h0, h1⟩
    exact ⟨h0, h1 0 (by simp), h1 1 (by simp), h1 2 (by simp), h1 3 (by simp), h1 4 (by simp), h1 5 (by simp)⟩
  · rintro ⟨h0, g0, g1, g2, g3, g4, g5⟩
    refine ⟨h0, fun i hi => ?_⟩
    have hi : i < 6 := hi
    rcases (by omega : i = 0 ∨ i = 1 ∨ i = 2 ∨ i = 3 ∨ i = 4 ∨ i = 5) with rfl | rfl | rfl | rfl | rfl | rfl
    · exact g0
    · exact g1
    · exact g2
    · exact g3
    · exact g4
    · exact g5
theorem wcd6 {l1 l2 l3 l4 l5 l6 b : Nat} (hl1 : 97 ≤ l1 ∧ l1 ≤ 122) (hl2 : 97 ≤ l2 ∧ l2 ≤ 122) (hl3 : 97 ≤ l3 ∧ l3 ≤ 122) (hl4 : 97 ≤ l4 ∧ l4 ≤ 122) (hl5 : 97 ≤ l5 ∧ l5 ≤ 122) (hl6 : 97 ≤ l6 ∧ l6 ≤ 122) : ((if wend tb n b - b ≤ 6 then nI (wc tb b (wend tb n b - b)) else -1) = nI (27 * (27 * (27 * (27 * (27 * (l1 - 96) + (l2 - 96)) + (l3 - 96)) + (l4 - 96)) + (l5 - 96)) + (l6 - 96))) ↔ wis [l1, l2, l3, l4, l5, l6] tb b (wend tb n b) = true := by
  rw [wis6]
  have hl := @wlet tb n b
  generalize wend tb n b = e at *
  by_cases q : e - b ≤ 6
  · rw [if_pos q]
    rcases (by omega : e - b = 0 ∨ e - b = 1 ∨ e - b = 2 ∨ e - b = 3 ∨ e - b = 4 ∨ e - b = 5 ∨ e - b = 6) with q0 | q0 | q0 | q0 | q0 | q0 | q0
    · rw [q0]
      simp only [wc, Nat.mul_zero, Nat.zero_add, Nat.add_zero]
      rw [xn_eq (by omega) (by omega)]
      omega
    · rw [q0]
      simp only [wc, Nat.mul_zero, Nat.zero_add, Nat.add_zero]
      have y0 := @hl (b + 0) (by omega) (by omega)
      rw [Nat.add_zero] at y0
      rw [xn_eq (by omega) (by omega)]
      omega
    · rw [q0]
      simp only [wc, Nat.mul_zero, Nat.zero_add, Nat.add_zero]
      have y0 := @hl (b + 0) (by omega) (by omega)
      have y1 := @hl (b + 1) (by omega) (by omega)
      rw [Nat.add_zero] at y0
      rw [xn_eq (by omega) (by omega)]
      omega
    · rw [q0]
      simp only [wc, Nat.mul_zero, Nat.zero_add, Nat.add_zero]
      have y0 := @hl (b + 0) (by omega) (by omega)
      have y1 := @hl (b + 1) (by omega) (by omega)
      have y2 := @hl (b + 2) (by omega) (by omega)
      rw [Nat.add_zero] at y0
      rw [xn_eq (by omega) (by omega)]
      omega
    · rw [q0]
      simp only [wc, Nat.mul_zero, Nat.zero_add, Nat.add_zero]
      have y0 := @hl (b + 0) (by omega) (by omega)
      have y1 := @hl (b + 1) (by omega) (by omega)
      have y2 := @hl (b + 2) (by omega) (by omega)
      have y3 := @hl (b + 3) (by omega) (by omega)
      rw [Nat.add_zero] at y0
      rw [xn_eq (by omega) (by omega)]
      omega
    · rw [q0]
      simp only [wc, Nat.mul_zero, Nat.zero_add, Nat.add_zero]
      have y0 := @hl (b + 0) (by omega) (by omega)
      have y1 := @hl (b + 1) (by omega) (by omega)
      have y2 := @hl (b + 2) (by omega) (by omega)
      have y3 := @hl (b + 3) (by omega) (by omega)
      have y4 := @hl (b + 4) (by omega) (by omega)
      rw [Nat.add_zero] at y0
      rw [xn_eq (by omega) (by omega)]
      omega
    · rw [q0]
      simp only [wc, Nat.mul_zero, Nat.zero_add, Nat.add_zero]
      have y0 := @hl (b + 0) (by omega) (by omega)
      have y1 := @hl (b + 1) (by omega) (by omega)
      have y2 := @hl (b + 2) (by omega) (by omega)
      have y3 := @hl (b + 3) (by omega) (by omega)
      have y4 := @hl (b + 4) (by omega) (by omega)
      have y5 := @hl (b + 5) (by omega) (by omega)
      rw [Nat.add_zero] at y0
      rw [xn_eq (by omega) (by omega)]
      constructor
      · intro h9
        obtain ⟨k5, z5⟩ := dg27 (by omega) (by omega) h9
        obtain ⟨k4, z4⟩ := dg27 (by omega) (by omega) k5
        obtain ⟨k3, z3⟩ := dg27 (by omega) (by omega) k4
        obtain ⟨k2, z2⟩ := dg27 (by omega) (by omega) k3
        obtain ⟨k1, z1⟩ := dg27 (by omega) (by omega) k2
        refine ⟨trivial, ?_, ?_, ?_, ?_, ?_, ?_⟩ <;> omega
      · rintro ⟨_, g0, g1, g2, g3, g4, g5⟩
        omega
  · rw [if_neg q, xn_1m (by omega)]
    exact ⟨fun h => h.elim, fun h => by omega⟩
theorem tm165_6 {a l1 l2 l3 l4 l5 l6 : Nat} (hl1 : 97 ≤ l1 ∧ l1 ≤ 122) (hl2 : 97 ≤ l2 ∧ l2 ≤ 122) (hl3 : 97 ≤ l3 ∧ l3 ≤ 122) (hl4 : 97 ≤ l4 ∧ l4 ≤ 122) (hl5 : 97 ≤ l5 ∧ l5 ≤ 122) (hl6 : 97 ≤ l6 ∧ l6 ≤ 122) (Y : tY (xm S) tb n) (R : rM (xm S) n (.inl a)) : xr_Call (d + 4) 165 [xP 0 69, xI (nI (l1 - 96)), xI (nI (l2 - 96)), xI (nI (l3 - 96)), xI (nI (l4 - 96)), xI (nI (l5 - 96)), xI (nI (l6 - 96))] ([], w) S = some (.inl (some (cond (wis [l1, l2, l3, l4, l5, l6] tb (sk tb n a) (wend tb n (sk tb n a))) (nI 1) (nI 0))), ([], w), xs S (xw (xm S) 0 69 4 (nI (sk tb n a)))) := by
  have e := wcd6 (tb := tb) (n := n) (b := sk tb n a) hl1 hl2 hl3 hl4 hl5 hl6
  rw [xe165, if_pos R.1, tm163 Y R, xr_cI_s, xe164]
  rw [if_neg (show ¬ nI (l4 - 96) = nI 0 by rw [xn_eq (by omega) (by omega)]; omega)]
  rw [if_neg (show ¬ nI (l5 - 96) = nI 0 by rw [xn_eq (by omega) (by omega)]; omega)]
  rw [if_neg (show ¬ nI (l6 - 96) = nI 0 by rw [xn_eq (by omega) (by omega)]; omega)]
  simp only [xn_mul, xn_add, xr_cI_s]
  cases hq : wis [l1, l2, l3, l4, l5, l6] tb (sk tb n a) (wend tb n (sk tb n a)) with
  | true => rw [if_pos (e.mpr hq)]; rfl
  | false => rw [if_neg (fun h => by rw [e.mp h] at hq; cases hq)]; rfl
theorem tm165f_6 {l1 l2 l3 l4 l5 l6 : Nat} {q : Nat × Nat} (R : rM (xm S) n (.inr q)) : xr_Call (d + 4) 165 [xP 0 69, xI (nI (l1 - 96)), xI (nI (l2 - 96)), xI (nI (l3 - 96)), xI (nI (l4 - 96)), xI (nI (l5 - 96)), xI (nI (l6 - 96))] ([], w) S = some (.inl (some (nI 0)), ([], w), S) := by
  obtain ⟨k, p⟩ := q
  rw [xe165, if_neg (by rw [R.1, xn_eq (by have := R.2.1; omega) (by omega)]; have := R.2.1; omega)]
/-- skipWord -/
theorem tm166 (Y : tY (xm S) tb n) {a : Nat} (R : rM (xm S) n (.inl a)) : xr_Call (d + 2) 166 [xP 0 69] ([], w) S = some (.inl none, ([], w), xs S (xw (xm S) 0 69 4 (nI (wend tb n a)))) ∧ a ≤ wend tb n a ∧ wend tb n a ≤ n := by
  have x1 := Y.1
  have hge := trun_ge (p := tlet) (tb := tb) (n := n) n a
  have L : ∀ (f a : Nat) (M : xr_M), wend tb n a = a + f → tY M tb n → rM M n (.inl a) → xr_Run (d + 1) 166 0 [xP 0 69] [] ([], w) (xs S M) = some (.inl none, ([], w), xs S (xw M 0 69 4 (nI (wend tb n a)))) := by
    intro f
    induction f with
    | zero =>
      intro a M he X R
      have ne := trun_end (p := tlet) (tb := tb) (n := n) n a (by omega)
      rw [show trun tlet tb n n a = wend tb n a from rfl, he, Nat.add_zero] at ne
      refine (xe166 (d + 1) w (xs S M)).trans ?_
      have e := R.2.2.1
      rw [he, Nat.add_zero a, xw_id e, xm_xs, e, tm157 (S := xs S M) X (by have := R.2.2.2; omega), xr_cI_s, tm161 X.2.1, xr_cI_s, band ne, cond_false, if_pos rfl]
    | succ f ih =>
      intro a M he X R
      have hg := (trun_ge (p := tlet) (tb := tb) (n := n) n a).2.2 a (Nat.le_refl _) (by rw [show trun tlet tb n n a = wend tb n a from rfl, he]; omega)
      have he2 : wend tb n (a + 1) = a + 1 + f := by
        unfold wend at he ⊢
        rw [← trun_s hg, he]; omega
      have e := R.2.2.1
      have := ih (a + 1) (xw M 0 69 4 (nI (a + 1))) he2 (tY_k (kM_w M (by omega) _) X) (rM_sk R (by omega))
      rw [xw_xw, he2, show a + 1 + f = wend tb n a by omega] at this
      rw [← this]
      refine (xe166 (d + 1) w (xs S M)).trans ?_
      rw [xm_xs, e, tm157 (S := xs S M) X (by omega), xr_cI_s, tm161 X.2.1, xr_cI_s, bandy hg, cond_true, if_neg (by rw [xn_eq (by omega) (by omega)]; omega), xm_xs, xs_xs, e, xn_add]
  have h1 := L (wend tb n a - a) a (xm S) (by unfold wend; omega) Y R
  rw [xs_xm] at h1
  exact ⟨h1, hge.1, hge.2.1 R.2.2.2⟩
/-- sign -/
theorem tm168 (Y : tY (xm S) tb n) (R : rM (xm S) n r) {c : Nat} (hc : c ≤ 255) : ∃ M, xr_Call (d + 3) 168 [xP 0 69, xI (nI c)] ([], w) S = some (.inl none, ([], w), xs S M) ∧ kM (xm S) M ∧ rM M n (pSgn tb n c r) := by
  cases r with
  | inr q =>
    obtain ⟨k, p⟩ := q
    refine ⟨xm S, ?_, kM_rf _, R⟩
    rw [xe168, if_neg (by rw [R.1, xn_eq (by have := R.2.1; omega) (by omega)]; have := R.2.1; omega), xs_xm]
  | inl a =>
    obtain ⟨r1, r2, r3, r4⟩ := id R
    have x1 := Y.1
    have hl := sk_le (tb := tb) r4
    have Y1 : tY (xm (xs S (xw (xm S) 0 69 4 (nI (sk tb n a))))) tb n := tY_k (kM_w _ (by omega) _) Y
    have R1 := rM_sk R hl
    have e := tv_eq (tb := tb) (n := n) (k := sk tb n a) Y.2.1 hc
    by_cases q : sk tb n a < n ∧ tb (sk tb n a) = c
    · rw [pSgn_y q]
      refine ⟨xw (xw (xm S) 0 69 4 (nI (sk tb n a))) 0 69 4 (nI (sk tb n a + 1)), ?_, kM_tr (kM_w _ (by omega) _) (kM_w _ (by omega) _), rM_sk R1 (by omega)⟩
      rw [xe168, if_pos r1, tm158 Y r4 r3, xr_cV_s, xm_xs, xw_y (by omega), tm157 Y1 (by omega), xr_cI_s, if_pos (by rw [e]; exact q), xm_xs, xs_xs, xw_y (by omega), xn_add]
    · rw [pSgn_n q]
      obtain ⟨M2, q2, K2, R2, _⟩ := tm159 (d := d + 1) (w := w) (S := xs S (xw (xm S) 0 69 4 (nI (sk tb n a)))) (k := 1) (p := sk tb n a) (by omega) hl R1
      rw [xs_xs] at q2
      rw [xm_xs] at K2
      refine ⟨M2, ?_, kM_tr (kM_w _ (by omega) _) K2, R2⟩
      rw [xe168, if_pos r1, tm158 Y r4 r3, xr_cV_s, xm_xs, xw_y (by omega), tm157 Y1 (by omega), xr_cI_s, if_neg (by rw [e]; exact q), xm_xs, xw_y (by omega), q2, xr_cV_s]
/-- takesSign -/
theorem tm169 (Y : tY (xm S) tb n) (R : rM (xm S) n r) {c : Nat} (hc : c ≤ 255) : ∃ M, xr_Call (d + 3) 169 [xP 0 69, xI (nI c)] ([], w) S = some (.inl (some (cond (pTak tb n c r).1 (nI 1) (nI 0))), ([], w), xs S M) ∧ kM (xm S) M ∧ rM M n (pTak tb n c r).2 := by
  cases r with
  | inr q =>
    obtain ⟨k, p⟩ := q
    refine ⟨xm S, ?_, kM_rf _, R⟩
    rw [xe169, if_neg (by rw [R.1, xn_eq (by have := R.2.1; omega) (by omega)]; have := R.2.1; omega), xs_xm]
    rfl
  | inl a =>
    obtain ⟨r1, r2, r3, r4⟩ := id R
    have x1 := Y.1
    have hl := sk_le (tb := tb) r4
    have Y1 : tY (xm (xs S (xw (xm S) 0 69 4 (nI (sk tb n a))))) tb n := tY_k (kM_w _ (by omega) _) Y
    have R1 := rM_sk R hl
    have e := tv_eq (tb := tb) (n := n) (k := sk tb n a) Y.2.1 hc
    by_cases q : sk tb n a < n ∧ tb (sk tb n a) = c
    · rw [pTak_y q]
      refine ⟨xw (xw (xm S) 0 69 4 (nI (sk tb n a))) 0 69 4 (nI (sk tb n a + 1)), ?_, kM_tr (kM_w _ (by omega) _) (kM_w _ (by omega) _), rM_sk R1 (by omega)⟩
      rw [xe169, if_pos r1, tm158 Y r4 r3, xr_cV_s, xm_xs, xw_y (by omega), tm157 Y1 (by omega), xr_cI_s, if_pos (by rw [e]; exact q), if_neg (by rw [xn_eq (by omega) (by omega)]; omega), xm_xs, xs_xs, xw_y (by omega), xn_add]
      rfl
    · rw [pTak_n q]
      refine ⟨xw (xm S) 0 69 4 (nI (sk tb n a)), ?_, kM_w _ (by omega) _, R1⟩
      rw [xe169, if_pos r1, tm158 Y r4 r3, xr_cV_s, xm_xs, xw_y (by omega), tm157 Y1 (by omega), xr_cI_s, if_neg (by rw [e]; exact q), if_pos rfl]
      rfl
end
