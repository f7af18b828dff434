/-! THE HEAP'S INVARIANT: columns beside each other differ by 9 at most, and there are 80 shards at most -/
def hpr (h : Nat → Nat) (s : Nat → Nat → Int32) (v : Int32) : Prop := ∃ x k, x < 8 ∧ k < h x ∧ s x k = v
theorem hcol_pr {h : Nat → Nat} {s : Nat → Nat → Int32} {v : Int32} : (hcol h s v).isSome = true ↔ hpr h s v := by
  constructor
  · intro q
    obtain ⟨x, hx⟩ := Option.isSome_iff_exists.mp q
    obtain ⟨h1, k, h2⟩ := hcol_some hx
    obtain ⟨h3, h4, _⟩ := hrow_lt h2
    exact ⟨x, k, h1, h3, h4⟩
  · rintro ⟨x, k, hx, hk, e⟩
    cases hq : hcol h s v with
    | some y => rfl
    | none =>
      have h1 := xfst_none _ _ hq x (by omega) (by omega)
      cases hr : hrow h s x v with
      | some j => rw [hr] at h1; cases h1
      | none => exact absurd e (of_decide_eq_false (xfst_none _ _ hr k (by omega) (by omega)))
def hcnt (h : Nat → Nat) (s : Nat → Nat → Int32) : Nat := xsN (fun p => if (hcol h s (nI p)).isSome then 1 else 0) 8
def hadj (h : Nat → Nat) : Prop := ∀ x, x < 7 → h x ≤ h (x + 1) + 9 ∧ h (x + 1) ≤ h x + 9
def hG (h : Nat → Nat) : Prop := hadj h ∧ xsN h 8 ≤ 80
def hI (h : Nat → Nat) (s : Nat → Nat → Int32) : Prop := hadj h ∧ xsN h 8 ≤ 72 + hcnt h s
theorem xsN_le1 {g : Nat → Nat} : ∀ (n : Nat), (∀ k, k < n → g k ≤ 1) → xsN g n ≤ n := fun n h => by
  have := xsN_le (B := 1) n h
  omega
theorem hI_G {h : Nat → Nat} {s : Nat → Nat → Int32} (I : hI h s) : hG h := by
  refine ⟨I.1, ?_⟩
  have h1 := I.2
  have h2 : hcnt h s ≤ 8 := xsN_le1 8 (fun k _ => by split <;> omega)
  omega
theorem hG_B {h : Nat → Nat} (I : hG h) : xhB 45 h := by
  intro x hx
  obtain ⟨A, T⟩ := I
  have a0 := A 0 (by omega)
  have a1 := A 1 (by omega)
  have a2 := A 2 (by omega)
  have a3 := A 3 (by omega)
  have a4 := A 4 (by omega)
  have a5 := A 5 (by omega)
  have a6 := A 6 (by omega)
  simp only [xsN, Nat.zero_add, Nat.reduceAdd] at a0 a1 a2 a3 a4 a5 a6 T
  rcases (by omega : x = 0 ∨ x = 1 ∨ x = 2 ∨ x = 3 ∨ x = 4 ∨ x = 5 ∨ x = 6 ∨ x = 7) with rfl | rfl | rfl | rfl | rfl | rfl | rfl | rfl <;> omega
theorem xhB_le {n m : Nat} {h : Nat → Nat} (q : n ≤ m) (B : xhB n h) : xhB m h := fun x hx => Nat.le_trans (B x hx) q
theorem xsN_sum2 {g g' : Nat → Nat} {x : Nat} : ∀ (n : Nat), x < n → (∀ y, y < n → y ≠ x → g' y = g y) → xsN g' n + g x = xsN g n + g' x := by
  intro n hx h
  have e := xsN_up (g := g) (x := x) (a := g' x) n hx
  rw [xsN_congr (g := g') (g' := fun y => if y = x then g' x else g y) n (fun k hk => by
    by_cases q : k = x
    · rw [if_pos q, q]
    · rw [if_neg q]; exact h k hk q)]
  exact e
theorem hup_T {h : Nat → Nat} {x n : Nat} (hx : x < 8) : xsN (hup h x n) 8 + h x = xsN h 8 + n := by
  have := xsN_sum2 (g := h) (g' := hup h x n) 8 hx (fun y _ q => if_neg q)
  rwa [show hup h x n x = n from if_pos rfl] at this
theorem hfh_T {h : Nat → Nat} {x : Nat} (hx : x < 8) (hh : 0 < h x) : xsN (hfh h x) 8 = xsN h 8 := by
  have e1 := hup_T (h := h) (n := h x - 1) hx
  have e2 := hup_T (h := hup h x (h x - 1)) (n := h (hlow h x) + 1) (hlow_lt (h := h) hx)
  rw [show hup h x (h x - 1) (hlow h x) = h (hlow h x) from if_neg hlow_ne] at e2
  unfold hfh
  omega
theorem hpr_fall {h : Nat → Nat} {s : Nat → Nat → Int32} {x : Nat} {v : Int32} (hx : x < 8) (hh : 0 < h x) (q : hpr h s v) : hpr (hfh h x) (hfs h s x) v := by
  obtain ⟨y, k, hy, hk, e⟩ := q
  have hn : hlow h x ≠ x := hlow_ne
  by_cases q1 : y = x ∧ k = h x - 1
  · obtain ⟨rfl, rfl⟩ := q1
    refine ⟨hlow h y, h (hlow h y), hlow_lt hx, ?_, ?_⟩
    · unfold hfh hup; rw [if_pos rfl]; omega
    · unfold hfs hus; rw [if_pos ⟨rfl, rfl⟩]; exact e
  · refine ⟨y, k, hy, ?_, ?_⟩
    · unfold hfh hup
      by_cases q2 : y = hlow h x
      · rw [if_pos q2]; rw [q2] at hk; omega
      · rw [if_neg q2]
        by_cases q3 : y = x
        · rw [if_pos q3]; subst q3; omega
        · rw [if_neg q3]; exact hk
    · unfold hfs hus
      rw [if_neg (fun q2 => by rw [q2.1] at hk; omega)]
      exact e
theorem hset_keep {st : Nat} : ∀ (n : Nat) (h : Nat → Nat) (s : Nat → Nat → Int32) (m : Nat), xhB m h → xhB m (hset st n h s).2.1 ∧ xsN (hset st n h s).2.1 8 = xsN h 8 ∧ ∀ v, hpr h s v → hpr (hset st n h s).2.1 (hset st n h s).2.2 v
  | 0, h, s, m, B => ⟨B, rfl, fun _ q => q⟩
  | n + 1, h, s, m, B => by
    rw [hset]
    cases hf : hfst st h with
    | none => exact ⟨B, rfl, fun _ q => q⟩
    | some x =>
      obtain ⟨hx, hs⟩ := hfst_some hf
      have b1 := B x hx
      obtain ⟨i1, i2, i3⟩ := hset_keep (st := st) n (hfh h x) (hfs h s x) m (hfh_B B hx (by omega))
      refine ⟨i1, ?_, fun v q => i3 v (hpr_fall hx (by omega) q)⟩
      show xsN (hset st n (hfh h x) (hfs h s x)).2.1 8 = _
      rw [i2, hfh_T hx (by omega)]
theorem hset_done {st : Nat} (h1 : 1 ≤ st) : ∀ (n : Nat) (h : Nat → Nat) (s : Nat → Nat → Int32), hsq h ≤ n → hfst st (hset st n h s).2.1 = none
  | 0, h, s, hq => by
    show hfst st h = none
    cases hf : hfst st h with
    | none => rfl
    | some x =>
      obtain ⟨hx, hs⟩ := hfst_some hf
      have := hsq_fall hx hs h1
      omega
  | n + 1, h, s, hq => by
    rw [hset]
    cases hf : hfst st h with
    | none => exact hf
    | some x =>
      obtain ⟨hx, hs⟩ := hfst_some hf
      have := hsq_fall hx hs h1
      exact hset_done h1 n (hfh h x) (hfs h s x) (by omega)
theorem hlow_min {h : Nat → Nat} {x : Nat} (hx : x < 8) : (x < 7 → h (hlow h x) ≤ h (x + 1)) ∧ (0 < x → h (hlow h x) ≤ h (x - 1)) := by
  unfold hlow
  by_cases q0 : x = 0
  · subst q0
    exact ⟨fun _ => by rw [if_pos rfl]; exact Nat.le_refl _, fun h => by omega⟩
  · rw [if_neg q0]
    by_cases q7 : x = 7
    · subst q7
      exact ⟨fun h => by omega, fun _ => by rw [if_pos rfl]; exact Nat.le_refl _⟩
    · rw [if_neg q7]
      by_cases q : h (x + 1) < h (x - 1)
      · rw [if_pos q]; exact ⟨fun _ => Nat.le_refl _, fun _ => by omega⟩
      · rw [if_neg q]; exact ⟨fun _ => by omega, fun _ => Nat.le_refl _⟩
theorem hadj_done {st : Nat} {h : Nat → Nat} (hs : st ≤ 9) (q : hfst st h = none) : hadj h := by
  intro x hx
  have n1 := hfst_none q x (by omega)
  have n2 := hfst_none q (x + 1) (by omega)
  have m1 := (hlow_min (h := h) (x := x) (by omega)).1 (by omega)
  have m2 := (hlow_min (h := h) (x := x + 1) (by omega)).2 (by omega)
  rw [Nat.add_sub_cancel] at m2
  omega
theorem hsq_le {h : Nat → Nat} {n : Nat} (B : xhB n h) : hsq h ≤ 8 * (n * n) := xsN_le 8 (fun k hk => Nat.mul_le_mul (B k hk) (B k hk))
/-- settled -/
theorem hG_set {st n : Nat} {h : Nat → Nat} {s : Nat → Nat → Int32} (h1 : 1 ≤ st) (h9 : st ≤ 9) (hq : hsq h ≤ n) (T : xsN h 8 ≤ 80) : hG (hset st n h s).2.1 := by
  refine ⟨hadj_done h9 (hset_done h1 n h s hq), ?_⟩
  have := (hset_keep (st := st) n h s _ (fun x hx => xsN_mem (g := h) (x := x) 8 hx)).2.1
  omega
theorem hcnt_mono {h h' : Nat → Nat} {s s' : Nat → Nat → Int32} (q : ∀ v, hpr h s v → hpr h' s' v) : hcnt h s ≤ hcnt h' s' := by
  unfold hcnt
  have L : ∀ n, xsN (fun p => if (hcol h s (nI p)).isSome then 1 else 0) n ≤ xsN (fun p => if (hcol h' s' (nI p)).isSome then 1 else 0) n := by
    intro n
    induction n with
    | zero => exact Nat.le_refl _
    | succ n ih =>
      rw [xsN, xsN]
      by_cases q1 : (hcol h s (nI n)).isSome = true
      · rw [if_pos q1, if_pos (hcol_pr.mpr (q _ (hcol_pr.mp q1)))]; omega
      · rw [if_neg q1]; omega
  exact L 8
theorem hI_set {st n : Nat} {h : Nat → Nat} {s : Nat → Nat → Int32} (h1 : 1 ≤ st) (h9 : st ≤ 9) (hq : hsq h ≤ n) (T : xsN h 8 ≤ 72 + hcnt h s) : hI (hset st n h s).2.1 (hset st n h s).2.2 := by
  refine ⟨hadj_done h9 (hset_done h1 n h s hq), ?_⟩
  obtain ⟨_, k2, k3⟩ := hset_keep (st := st) n h s _ (fun x hx => xsN_mem (g := h) (x := x) 8 hx)
  have := hcnt_mono k3
  omega
/-- a pot's shard thrown -/
theorem hcnt_put {h : Nat → Nat} {s : Nat → Nat → Int32} {x p : Nat} (hx : x < 8) (hp : p < 8) (q : hcol h s (nI p) = none) : hcnt h s + 1 ≤ hcnt (hup h x (h x + 1)) (hus s x (h x) (nI p)) := by
  have mono : ∀ v, hpr h s v → hpr (hup h x (h x + 1)) (hus s x (h x) (nI p)) v := by
    rintro v ⟨y, k, hy, hk, e⟩
    refine ⟨y, k, hy, ?_, ?_⟩
    · unfold hup
      split
      · rename_i q; subst q; omega
      · exact hk
    · unfold hus
      rw [if_neg (fun q2 => by rw [q2.1] at hk; omega)]
      exact e
  have new : hpr (hup h x (h x + 1)) (hus s x (h x) (nI p)) (nI p) := ⟨x, h x, hx, by unfold hup; rw [if_pos rfl]; omega, by unfold hus; rw [if_pos ⟨rfl, rfl⟩]⟩
  have L : ∀ n, xsN (fun p => if (hcol h s (nI p)).isSome then 1 else 0) n + (if p < n then 1 else 0) ≤ xsN (fun j => if (hcol (hup h x (h x + 1)) (hus s x (h x) (nI p)) (nI j)).isSome then 1 else 0) n := by
    intro n
    induction n with
    | zero => simp [xsN]
    | succ n ih =>
      rw [xsN, xsN]
      by_cases q3 : p = n
      · subst q3
        rw [if_neg (by rw [q]; simp), if_pos (hcol_pr.mpr new)]
        rw [if_neg (by omega)] at ih
        rw [if_pos (by omega)]
        omega
      · by_cases q1 : (hcol h s (nI n)).isSome = true
        · rw [if_pos q1, if_pos (hcol_pr.mpr (mono _ (hcol_pr.mp q1)))]
          by_cases q4 : p < n
          · rw [if_pos (by omega)]; rw [if_pos q4] at ih; omega
          · rw [if_neg (by omega)]; rw [if_neg q4] at ih; omega
        · rw [if_neg q1]
          by_cases q4 : p < n
          · rw [if_pos (by omega)]; rw [if_pos q4] at ih; omega
          · rw [if_neg (by omega)]; rw [if_neg q4] at ih; omega
  have := L 8
  rw [if_pos hp] at this
  exact this
theorem hcnt_dig {h : Nat → Nat} {s : Nat → Nat → Int32} {x : Nat} (hx : x < 8) (hh : 0 < h x) : hcnt h s ≤ hcnt (hup h x (h x - 1)) s + 1 := by
  have mono : ∀ v, hpr h s v → hpr (hup h x (h x - 1)) s v ∨ v = s x (h x - 1) := by
    rintro v ⟨y, k, hy, hk, e⟩
    by_cases q : y = x ∧ k = h x - 1
    · obtain ⟨rfl, rfl⟩ := q
      exact Or.inr e.symm
    · refine Or.inl ⟨y, k, hy, ?_, e⟩
      unfold hup
      by_cases q2 : y = x
      · rw [if_pos q2]; subst q2; omega
      · rw [if_neg q2]; exact hk
  have L : ∀ n, n ≤ 8 → xsN (fun p => if (hcol h s (nI p)).isSome then 1 else 0) n ≤ xsN (fun j => if (hcol (hup h x (h x - 1)) s (nI j)).isSome then 1 else 0) n + xsN (fun j => if nI j = s x (h x - 1) then 1 else 0) n := by
    intro n
    induction n with
    | zero => intro _; simp [xsN]
    | succ n ih =>
      intro hn
      have ih := ih (by omega)
      rw [xsN, xsN, xsN]
      by_cases q1 : (hcol h s (nI n)).isSome = true
      · rw [if_pos q1]
        rcases mono _ (hcol_pr.mp q1) with q2 | q2
        · rw [if_pos (hcol_pr.mpr q2)]; omega
        · rw [if_pos q2]; omega
      · rw [if_neg q1]; omega
  have L2 : ∀ n, n ≤ 8 → xsN (fun j => if nI j = s x (h x - 1) then 1 else 0) n ≤ 1 ∧ (xsN (fun j => if nI j = s x (h x - 1) then 1 else 0) n = 1 → ∃ j, j < n ∧ nI j = s x (h x - 1)) := by
    intro n
    induction n with
    | zero => intro _; exact ⟨by simp [xsN], fun h => by simp [xsN] at h⟩
    | succ n ih =>
      intro hn
      obtain ⟨i1, i2⟩ := ih (by omega)
      rw [xsN]
      by_cases q : nI n = s x (h x - 1)
      · rw [if_pos q]
        have z : ¬ xsN (fun j => if nI j = s x (h x - 1) then 1 else 0) n = 1 := fun h1 => by
          obtain ⟨j, hj, e⟩ := i2 h1
          rw [← q, xn_eq (by omega) (by omega)] at e
          omega
        exact ⟨by omega, fun _ => ⟨n, by omega, q⟩⟩
      · rw [if_neg q]
        exact ⟨by omega, fun h1 => by
          obtain ⟨j, hj, e⟩ := i2 (by omega)
          exact ⟨j, by omega, e⟩⟩
  have := L 8 (by omega)
  have := (L2 8 (by omega)).1
  unfold hcnt
  omega
