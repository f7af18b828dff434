/-! THE HILL'S TEXT: abstract -/
/-- people, pots, chips, steep; what they have; a pot's row: creditor, debtor, due, due year, places; depths; old shards -/
abbrev hY := (Nat × Nat × Nat × Nat) × (Nat → Nat) × (Nat → Nat × Nat × Nat × Nat × Nat) × (Nat → Nat → Nat) × (Nat → Nat)
abbrev hS := tR × hY
def hKnd (tb : Nat → Nat) (b e : Nat) : Option Nat := cond (wis (xr_by 1) tb b e) (some 0) (cond (wis (xr_by 2) tb b e) (some 1) (cond (wis (xr_by 3) tb b e) (some 4) (cond (wis (xr_by 4) tb b e) (some 2) (cond (wis (xr_by 5) tb b e) (some 3) none))))
/-- a pot's places -/
def hPl (tb : Nat → Nat) (n : Nat) : Nat → Nat → Nat → (Nat → Nat) → tR × Nat × (Nat → Nat)
  | 0, a, m, D => (.inr (3, sk tb n a), m, D)
  | f + 1, a, m, D => if wis (xr_by 6) tb (sk tb n a) (wend tb n (sk tb n a)) = true then ((if m < 3 then .inr (4, sk tb n a) else .inl (wend tb n (sk tb n a))), m, D) else (match (pNum tb n 0 10 (.inl (sk tb n a))).2 with
    | .inr q => (.inr q, m, D)
    | .inl a' => if m = 6 then (.inr (3, sk tb n a), m, D) else hPl tb n f a' (m + 1) (fun j => if j = m then (pNum tb n 0 10 (.inl (sk tb n a))).1 else D j))
def hPlr (tb : Nat → Nat) (n : Nat) (r : tR) : tR × Nat × (Nat → Nat) := match r with
  | .inl a => hPl tb n 7 a 0 (fun _ => 0)
  | .inr q => (.inr q, 0, fun _ => 0)
/-- creditor and debtor are two -/
def hEq (tb : Nat → Nat) (n : Nat) (r1 : tR) (v1 v2 : Nat) (r2 : tR) : tR := match r2 with
  | .inr q => .inr q
  | .inl a2 => match r1 with
    | .inl a1 => if v1 = v2 then .inr (2, sk tb n a1) else .inl a2
    | .inr q => .inr q
def hN1 (tb : Nat → Nat) (n np a : Nat) : Nat × tR := pNum tb n 0 np (.inl a)
def hN2 (tb : Nat → Nat) (n np a : Nat) : Nat × tR := pNum tb n 0 np (hN1 tb n np a).2
def hR2 (tb : Nat → Nat) (n np a : Nat) : tR := hEq tb n (hN1 tb n np a).2 (hN1 tb n np a).1 (hN2 tb n np a).1 (hN2 tb n np a).2
def hN3 (tb : Nat → Nat) (n np a : Nat) : Nat × tR := pNum tb n 1 41 (hR2 tb n np a)
def hN4 (tb : Nat → Nat) (n np a : Nat) : Nat × tR := pNum tb n 0 61 (hN3 tb n np a).2
def hPot (tb : Nat → Nat) (n np a : Nat) : tR × (Nat × Nat × Nat × Nat × Nat) × (Nat → Nat) := ((hPlr tb n (hN4 tb n np a).2).1, ((hN1 tb n np a).1, (hN2 tb n np a).1, (hN3 tb n np a).1, (hN4 tb n np a).1, (hPlr tb n (hN4 tb n np a).2).2.1), (hPlr tb n (hN4 tb n np a).2).2.2)
def hYp (Y : hY) (v : Nat) : hY := ((Y.1.1 + 1, Y.1.2), (fun j => if j = Y.1.1 then v else Y.2.1 j), Y.2.2)
def hYq (Y : hY) (v : Nat × Nat × Nat × Nat × Nat) (D : Nat → Nat) : hY := ((Y.1.1, Y.1.2.1 + 1, Y.1.2.2), Y.2.1, (fun j => if j = Y.1.2.1 then v else Y.2.2.1 j), (fun j => if j = Y.1.2.1 then D else Y.2.2.2.1 j), Y.2.2.2.2)
def hYc (Y : hY) (v : Nat) : hY := ((Y.1.1, Y.1.2.1, v, Y.1.2.2.2), Y.2)
def hYs (Y : hY) (v : Nat) : hY := ((Y.1.1, Y.1.2.1, Y.1.2.2.1, v), Y.2)
def hYh (Y : hY) (x v : Nat) : hY := (Y.1, Y.2.1, Y.2.2.1, Y.2.2.2.1, (fun j => if j = x then v else Y.2.2.2.2 j))
/-- a clause behind its word -/
def hRst (tb : Nat → Nat) (n k a : Nat) (Y : hY) : hS := match k with
  | 0 => ((pNum tb n 0 100 (.inl a)).2, hYp Y (pNum tb n 0 100 (.inl a)).1)
  | 1 => ((hPot tb n Y.1.1 a).1, hYq Y (hPot tb n Y.1.1 a).2.1 (hPot tb n Y.1.1 a).2.2)
  | 2 => ((pNum tb n 0 21 (.inl a)).2, hYc Y (pNum tb n 0 21 (.inl a)).1)
  | 3 => ((pNum tb n 1 10 (.inl a)).2, hYs Y (pNum tb n 1 10 (.inl a)).1)
  | _ => ((pNum tb n 0 10 (pNum tb n 0 8 (.inl a)).2).2, hYh Y (pNum tb n 0 8 (.inl a)).1 (pNum tb n 0 10 (pNum tb n 0 8 (.inl a)).2).1)
def hFul (cl k : Nat) (Y : hY) : Prop := cl = 60 ∨ (k = 0 ∧ Y.1.1 = 8) ∨ (k = 1 ∧ Y.1.2.1 = 8)
/-- a clause, from its word on, with its sign -/
def hCl (tb : Nat → Nat) (n cl b : Nat) (Y : hY) : hS := match hKnd tb b (wend tb n b) with
  | none => (.inr (1, b), Y)
  | some k => if cl = 60 ∨ (k = 0 ∧ Y.1.1 = 8) ∨ (k = 1 ∧ Y.1.2.1 = 8) then (.inr (3, b), Y) else (pSgn tb n 59 (hRst tb n k (wend tb n b) Y).1, (hRst tb n k (wend tb n b) Y).2)
def hItr (tb : Nat → Nat) (n : Nat) : Nat → Nat → hS → hS
  | 0, _, s => s
  | _ + 1, _, (.inr q, Y) => (.inr q, Y)
  | m + 1, cl, (.inl a, Y) => if sk tb n a < n then hItr tb n m (cl + 1) (hCl tb n cl (sk tb n a) Y) else (.inl (sk tb n a), Y)
def hY0 : hY := ((0, 0, 2, 2), (fun _ => 0), (fun _ => (0, 0, 0, 0, 0)), (fun _ _ => 0), (fun _ => 0))
def hAll (tb : Nat → Nat) (n : Nat) : hS := hItr tb n 61 0 (.inl 0, hY0)
/-- what a text well read tells -/
def hInv (Y : hY) : Prop := (Y.1.1 ≤ 8 ∧ Y.1.2.1 ≤ 8 ∧ Y.1.2.2.1 ≤ 20 ∧ 1 ≤ Y.1.2.2.2 ∧ Y.1.2.2.2 ≤ 9) ∧ (∀ p, p < Y.1.2.1 → (Y.2.2.1 p).1 < Y.1.1 ∧ (Y.2.2.1 p).2.1 < Y.1.1 ∧ (Y.2.2.1 p).2.2.1 ≤ 40 ∧ 3 ≤ (Y.2.2.1 p).2.2.2.2 ∧ (Y.2.2.1 p).2.2.2.2 ≤ 6) ∧ (∀ p i, p < Y.1.2.1 → Y.2.2.2.1 p i ≤ 9 ∧ ((Y.2.2.1 p).2.2.2.2 ≤ i → Y.2.2.2.1 p i = 0)) ∧ ∀ x, Y.2.2.2.2 x ≤ 9
section
variable {tb : Nat → Nat} {n np : Nat}
theorem hKnd_le {b e k : Nat} (h : hKnd tb b e = some k) : k ≤ 4 := by
  revert h
  unfold hKnd
  cases wis (xr_by 1) tb b e <;> cases wis (xr_by 2) tb b e <;> cases wis (xr_by 3) tb b e <;> cases wis (xr_by 4) tb b e <;> cases wis (xr_by 5) tb b e <;> intro h <;> cases h <;> omega
theorem hItr_r {q : Nat × Nat} {Y : hY} : ∀ m cl, hItr tb n m cl (.inr q, Y) = (.inr q, Y)
  | 0, _ => rfl
  | _ + 1, _ => rfl
theorem pNum_v {lo hn a' : Nat} {r : tR} (h : (pNum tb n lo hn r).2 = .inl a') : (pNum tb n lo hn r).1 < hn ∧ lo ≤ (pNum tb n lo hn r).1 := by
  obtain ⟨c, rfl, _⟩ := pNum_a' h
  refine ⟨pNum_b h, ?_⟩
  unfold pNum at h ⊢
  dsimp only at h ⊢
  split at h
  · rename_i q1
    rw [if_pos q1]
    split at h
    · rename_i q2; rw [if_pos q2]; exact q2.1
    · cases h
  · cases h
theorem hPl_ok : ∀ (f a m : Nat) (D : Nat → Nat) a', f + m = 7 → (∀ j, D j ≤ 9 ∧ (m ≤ j → D j = 0)) → (hPl tb n f a m D).1 = .inl a' → (3 ≤ (hPl tb n f a m D).2.1 ∧ (hPl tb n f a m D).2.1 ≤ 6) ∧ ∀ j, (hPl tb n f a m D).2.2 j ≤ 9 ∧ ((hPl tb n f a m D).2.1 ≤ j → (hPl tb n f a m D).2.2 j = 0)
  | 0, _, _, _, _, _, _, h => by cases h
  | f + 1, a, m, D, a', hm, hD, h => by
    rw [hPl] at h ⊢
    by_cases q : wis (xr_by 6) tb (sk tb n a) (wend tb n (sk tb n a)) = true
    · rw [if_pos q] at h ⊢
      dsimp only at h ⊢
      by_cases q3 : m < 3
      · rw [if_pos q3] at h; cases h
      · exact ⟨⟨by omega, by omega⟩, hD⟩
    · rw [if_neg q] at h ⊢
      cases hp : (pNum tb n 0 10 (.inl (sk tb n a))).2 with
      | inr z => rw [hp] at h; cases h
      | inl c =>
        rw [hp] at h
        dsimp only at h ⊢
        by_cases q6 : m = 6
        · rw [if_pos q6] at h; cases h
        · rw [if_neg q6] at h ⊢
          refine hPl_ok f c (m + 1) _ a' (by omega) (fun j => ?_) h
          have := pNum_v hp
          try dsimp only
          split
          · exact ⟨by omega, fun g => by omega⟩
          · exact ⟨(hD j).1, fun g => (hD j).2 (by omega)⟩
theorem hPlr_ok {r : tR} {a' : Nat} (h : (hPlr tb n r).1 = .inl a') : (3 ≤ (hPlr tb n r).2.1 ∧ (hPlr tb n r).2.1 ≤ 6) ∧ (∀ j, (hPlr tb n r).2.2 j ≤ 9 ∧ ((hPlr tb n r).2.1 ≤ j → (hPlr tb n r).2.2 j = 0)) ∧ ∃ a, r = .inl a := by
  cases r with
  | inr q => cases h
  | inl a =>
    obtain ⟨h1, h2⟩ := hPl_ok (tb := tb) (n := n) 7 a 0 (fun _ => 0) a' rfl (fun j => ⟨Nat.zero_le _, fun _ => rfl⟩) h
    exact ⟨h1, h2, a, rfl⟩
theorem hEq_l {r1 r2 : tR} {v1 v2 a' : Nat} (h : hEq tb n r1 v1 v2 r2 = .inl a') : r2 = .inl a' ∧ ∃ a, r1 = .inl a := by
  cases r2 with
  | inr q => cases h
  | inl a2 =>
    cases r1 with
    | inr q => cases h
    | inl a1 =>
      unfold hEq at h
      dsimp only at h
      split at h
      · cases h
      · cases h; exact ⟨rfl, a1, rfl⟩
theorem hPot_ok {a a' : Nat} (h : (hPot tb n np a).1 = .inl a') : ((hPot tb n np a).2.1.1 < np ∧ (hPot tb n np a).2.1.2.1 < np ∧ (hPot tb n np a).2.1.2.2.1 ≤ 40 ∧ 3 ≤ (hPot tb n np a).2.1.2.2.2.2 ∧ (hPot tb n np a).2.1.2.2.2.2 ≤ 6) ∧ ∀ i, (hPot tb n np a).2.2 i ≤ 9 ∧ ((hPot tb n np a).2.1.2.2.2.2 ≤ i → (hPot tb n np a).2.2 i = 0) := by
  obtain ⟨h1, h2, a4, e4⟩ := hPlr_ok h
  obtain ⟨a3, e3, _⟩ := pNum_a' (show (pNum tb n 0 61 (hN3 tb n np a).2).2 = .inl a4 from e4)
  obtain ⟨a2, e2, _⟩ := pNum_a' (show (pNum tb n 1 41 (hR2 tb n np a)).2 = .inl a3 from e3)
  obtain ⟨g1, a1, g2⟩ := hEq_l e2
  have v1 := pNum_v (show (pNum tb n 0 np (.inl a)).2 = .inl a1 from g2)
  have v2 := pNum_v (show (pNum tb n 0 np (hN1 tb n np a).2).2 = .inl a2 from g1)
  have v3 := pNum_v (show (pNum tb n 1 41 (hR2 tb n np a)).2 = .inl a3 from e3)
  exact ⟨⟨v1.1, v2.1, by have := v3.1; exact Nat.le_of_lt_succ this, h1.1, h1.2⟩, h2⟩
theorem hRst_ok {k a a' : Nat} {Y : hY} (hk : k ≤ 4) (hf : ¬ (k = 0 ∧ Y.1.1 = 8) ∧ ¬ (k = 1 ∧ Y.1.2.1 = 8)) (I : hInv Y) (h : (hRst tb n k a Y).1 = .inl a') : hInv (hRst tb n k a Y).2 := by
  obtain ⟨⟨i1, i2, i3, i4, i5⟩, i6, i7, i8⟩ := I
  have hk : k = 0 ∨ k = 1 ∨ k = 2 ∨ k = 3 ∨ k = 4 := by omega
  rcases hk with rfl | rfl | rfl | rfl | rfl
  · refine ⟨⟨by show Y.1.1 + 1 ≤ 8; omega, i2, i3, i4, i5⟩, fun p hp => ?_, i7, i8⟩
    have := i6 p hp
    refine ⟨?_, ?_, this.2.2⟩
    · show (Y.2.2.1 p).1 < Y.1.1 + 1; omega
    · show (Y.2.2.1 p).2.1 < Y.1.1 + 1; omega
  · obtain ⟨p1, p2⟩ := hPot_ok h
    show hInv (hYq Y (hPot tb n Y.1.1 a).2.1 (hPot tb n Y.1.1 a).2.2)
    refine ⟨⟨i1, by show Y.1.2.1 + 1 ≤ 8; omega, i3, i4, i5⟩, fun p hp => ?_, fun p i hp => ?_, i8⟩
    · have hp : p < Y.1.2.1 + 1 := hp
      unfold hYq
      dsimp only
      by_cases q : p = Y.1.2.1
      · rw [if_pos q]; exact p1
      · rw [if_neg q]; exact i6 p (by omega)
    · have hp : p < Y.1.2.1 + 1 := hp
      unfold hYq
      dsimp only
      by_cases q : p = Y.1.2.1
      · rw [if_pos q, if_pos q]; exact p2 i
      · rw [if_neg q, if_neg q]; exact i7 p i (by omega)
  · have v := pNum_v (show (pNum tb n 0 21 (.inl a)).2 = .inl a' from h)
    exact ⟨⟨i1, i2, Nat.le_of_lt_succ v.1, i4, i5⟩, i6, i7, i8⟩
  · have v := pNum_v (show (pNum tb n 1 10 (.inl a)).2 = .inl a' from h)
    exact ⟨⟨i1, i2, i3, v.2, Nat.le_of_lt_succ v.1⟩, i6, i7, i8⟩
  · have v := pNum_v (show (pNum tb n 0 10 (pNum tb n 0 8 (.inl a)).2).2 = .inl a' from h)
    show hInv (hYh Y (pNum tb n 0 8 (.inl a)).1 (pNum tb n 0 10 (pNum tb n 0 8 (.inl a)).2).1)
    refine ⟨⟨i1, i2, i3, i4, i5⟩, i6, i7, fun x => ?_⟩
    unfold hYh
    dsimp only
    split
    · exact Nat.le_of_lt_succ v.1
    · exact i8 x
theorem hCl_ok {cl b a' : Nat} {Y : hY} (I : hInv Y) (h : (hCl tb n cl b Y).1 = .inl a') : hInv (hCl tb n cl b Y).2 ∧ cl < 60 ∨ 60 < cl ∧ hInv (hCl tb n cl b Y).2 := by
  unfold hCl at h ⊢
  cases hk : hKnd tb b (wend tb n b) with
  | none => rw [hk] at h; cases h
  | some k =>
    rw [hk] at h
    dsimp only at h ⊢
    split at h
    · cases h
    · rename_i q
      rw [if_neg q]
      obtain ⟨c, e, _⟩ := pSgn_nn h
      have := hRst_ok (hKnd_le hk) ⟨fun z => q (Or.inr (Or.inl z)), fun z => q (Or.inr (Or.inr z))⟩ I e
      rcases Nat.lt_or_ge cl 60 with g | g
      · exact Or.inl ⟨this, g⟩
      · exact Or.inr ⟨by omega, this⟩
theorem hCl_I {cl b a' : Nat} {Y : hY} (I : hInv Y) (h : (hCl tb n cl b Y).1 = .inl a') : hInv (hCl tb n cl b Y).2 := by
  rcases hCl_ok I h with g | g
  · exact g.1
  · exact g.2
theorem hItr_I : ∀ m cl (s : hS) a', hInv s.2 → (hItr tb n m cl s).1 = .inl a' → hInv (hItr tb n m cl s).2
  | 0, _, _, _, I, _ => I
  | _ + 1, _, (.inr _, _), _, _, h => by cases h
  | m + 1, cl, (.inl a, Y), a', I, h => by
    have e : hItr tb n (m + 1) cl (.inl a, Y) = if sk tb n a < n then hItr tb n m (cl + 1) (hCl tb n cl (sk tb n a) Y) else (.inl (sk tb n a), Y) := rfl
    rw [e] at h ⊢
    split at h
    · rename_i q
      rw [if_pos q]
      rcases hc : hCl tb n cl (sk tb n a) Y with ⟨r, Y1⟩
      rw [hc] at h
      cases r with
      | inr z => rw [hItr_r] at h; cases h
      | inl c =>
        have I1 := hCl_I (tb := tb) (n := n) (cl := cl) (b := sk tb n a) (a' := c) I (by rw [hc])
        rw [hc] at I1
        exact hItr_I m (cl + 1) _ a' I1 h
    · rename_i q
      rw [if_neg q]
      exact I
theorem hInv_0 : hInv hY0 := ⟨⟨by decide, by decide, by decide, by decide, by decide⟩, (fun p hp => by cases hp), (fun p i hp => by cases hp), fun x => Nat.zero_le _⟩
theorem hAll_I {a' : Nat} (h : (hAll tb n).1 = .inl a') : hInv (hAll tb n).2 := hItr_I 61 0 _ a' hInv_0 h
end
