/-! THE WORK'S TEXT: abstract -/
/-- size, rows (kind, three numbers), ends -/
abbrev wX := Nat × (Nat → Nat × Nat × Nat × Nat) × (Nat → Nat)
abbrev wS := tR × wX
/-- the numbers of a step -/
def wNum (tb : Nat → Nat) (n np nq : Nat) (k : Nat) (r : tR) : (Nat × Nat × Nat) × tR := match k with
  | 0 => (((pNum tb n 0 nq r).1, 0, 0), (pNum tb n 0 nq r).2)
  | 1 => (((pNum tb n 0 nq r).1, (pNum tb n 0 2 (pNum tb n 0 nq r).2).1, (pNum tb n 0 np (pNum tb n 0 2 (pNum tb n 0 nq r).2).2).1), (pNum tb n 0 np (pNum tb n 0 2 (pNum tb n 0 nq r).2).2).2)
  | 2 => (((pNum tb n 0 nq r).1, (pNum tb n 0 8 (pNum tb n 0 nq r).2).1, 0), (pNum tb n 0 8 (pNum tb n 0 nq r).2).2)
  | 3 => (((pNum tb n 0 8 r).1, 0, 0), (pNum tb n 0 8 r).2)
  | 4 => ((0, 0, 0), r)
  | _ => (((pNum tb n 0 21 r).1, 0, 0), (pNum tb n 0 21 r).2)
/-- a new row -/
def wRow (k : Nat) (v : Nat × Nat × Nat) (X : wX) : wX := (X.1 + 1, (fun j => if j = X.1 then (k, v) else X.2.1 j), (fun j => if j = X.1 then X.1 + 1 else X.2.2 j))
/-- the row i ends here -/
def wEnd (i : Nat) (X : wX) : wX := (X.1, X.2.1, (fun j => if j = i then X.1 else X.2.2 j))
def wKin (tb : Nat → Nat) (n np nq : Nat) (full : Bool) (sr : wS → wS) (b : Nat) (X : wX) (o : Option Nat) : wS := match o with
  | none => (.inr (1, b), X)
  | some k => if k = 5 then (if full = true then (.inr (3, b), X) else
      (pSgn tb n 59 (pSgn tb n 93 (sr (pSgn tb n 91 (wNum tb n np nq 5 (.inl (wend tb n b))).2, wRow 5 (wNum tb n np nq 5 (.inl (wend tb n b))).1 X)).1), wEnd X.1 (sr (pSgn tb n 91 (wNum tb n np nq 5 (.inl (wend tb n b))).2, wRow 5 (wNum tb n np nq 5 (.inl (wend tb n b))).1 X)).2))
    else (pSgn tb n 59 (wNum tb n np nq k (.inl (wend tb n b))).2, wRow k (wNum tb n np nq k (.inl (wend tb n b))).1 X)
/-- one step, from its word on -/
def wStp (tb : Nat → Nat) (n np nq : Nat) (full : Bool) (sr : wS → wS) (b : Nat) (X : wX) : wS := wKin tb n np nq full sr b X (wKnd tb b (wend tb n b))
def wStop (top : Bool) (tb : Nat → Nat) (n p : Nat) : Bool := if top = true then decide (¬ p < n) else decide (p < n ∧ tb p = 93)
/-- steps up to the stop -/
def wItr (tb : Nat → Nat) (n : Nat) (F : Nat → wX → wS) (top : Bool) : Nat → wS → wS
  | 0, s => s
  | _ + 1, (.inr q, X) => (.inr q, X)
  | m + 1, (.inl a, X) => if wStop top tb n (sk tb n a) = true then (.inl (sk tb n a), X) else wItr tb n F top m (F (sk tb n a) X)
/-- the steps of a bracket, with L more levels below -/
def wIn (tb : Nat → Nat) (n np nq : Nat) : Nat → wS → wS
  | 0 => wItr tb n (wStp tb n np nq true id) false 150
  | L + 1 => wItr tb n (wStp tb n np nq false (wIn tb n np nq L)) false 150
def wAll (tb : Nat → Nat) (n np nq : Nat) : wS := wItr tb n (wStp tb n np nq false (wIn tb n np nq 5)) true 150 (.inl 0, 0, (fun _ => (0, 0, 0, 0)), (fun _ => 0))
/-- a step takes five bytes at least -/
def wInv (n : Nat) (s : wS) : Prop := ∀ a, s.1 = .inl a → a ≤ n ∧ 5 * s.2.1 ≤ a
section
variable {tb : Nat → Nat} {n np nq : Nat}
theorem wItr_r {F : Nat → wX → wS} {top : Bool} {q : Nat × Nat} {X : wX} : ∀ m, wItr tb n F top m (.inr q, X) = (.inr q, X)
  | 0 => rfl
  | _ + 1 => rfl
theorem wIn_r {q : Nat × Nat} {X : wX} : ∀ L, wIn tb n np nq L (.inr q, X) = (.inr q, X)
  | 0 => wItr_r 150
  | _ + 1 => wItr_r 150
theorem pNum_a' {lo hn a' : Nat} {r : tR} (h : (pNum tb n lo hn r).2 = .inl a') : ∃ a, r = .inl a ∧ a < a' ∧ a' ≤ n := by
  cases r with
  | inr q => cases h
  | inl a => exact ⟨a, rfl, pNum_a h⟩
theorem wNum_a {k a a' : Nat} (ha : a ≤ n) (h : (wNum tb n np nq k (.inl a)).2 = .inl a') : a ≤ a' ∧ a' ≤ n ∧ (k ≠ 4 → a < a') := by
  unfold wNum at h
  split at h
  · have := pNum_a h; omega
  · obtain ⟨c1, h1, _⟩ := pNum_a' h
    obtain ⟨c2, h2, _⟩ := pNum_a' h1
    have := pNum_a h2
    omega
  · obtain ⟨c1, h1, _⟩ := pNum_a' h
    have := pNum_a h1
    omega
  · have := pNum_a h; omega
  · cases h; omega
  · have := pNum_a h; omega
theorem wKnd_len {b e k : Nat} (h : wKnd tb b e = some k) : b + 3 ≤ e ∧ (k = 4 → b + 4 ≤ e) ∧ (k = 5 → b + 5 ≤ e) := by
  have l : ∀ i m, (xr_by i).length = m → wis (xr_by i) tb b e = true → e - b = m := fun i m hm hw => by rw [(of_decide_eq_true hw).1]; exact hm
  revert h
  unfold wKnd
  intro h
  cases h15 : wis (xr_by 15) tb b e with
  | true => rw [h15] at h; cases h; have := l 15 3 (by decide) h15; omega
  | false =>
  rw [h15, cond_false] at h
  cases h16 : wis (xr_by 16) tb b e with
  | true => rw [h16] at h; cases h; have := l 16 4 (by decide) h16; omega
  | false =>
  rw [h16, cond_false] at h
  cases h17 : wis (xr_by 17) tb b e with
  | true => rw [h17] at h; cases h; have := l 17 5 (by decide) h17; omega
  | false =>
  rw [h17, cond_false] at h
  cases h18 : wis (xr_by 18) tb b e with
  | true => rw [h18] at h; cases h; have := l 18 3 (by decide) h18; omega
  | false =>
  rw [h18, cond_false] at h
  cases h19 : wis (xr_by 19) tb b e with
  | true => rw [h19] at h; cases h; have := l 19 4 (by decide) h19; omega
  | false =>
  rw [h19, cond_false] at h
  cases h20 : wis (xr_by 20) tb b e with
  | true => rw [h20] at h; cases h; have := l 20 5 (by decide) h20; omega
  | false => rw [h20] at h; cases h
end
