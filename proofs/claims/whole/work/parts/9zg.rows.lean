/-! THE WORK'S STEPS: the order of the rows -/
/-- a row's numbers -/
def wRok (np nq : Nat) (v : Nat × Nat × Nat × Nat) : Prop := v.1 ≤ 5 ∧ ((v.1 = 0 ∨ v.1 = 1 ∨ v.1 = 2) → v.2.1 < nq) ∧ (v.1 = 1 → v.2.2.1 < 2 ∧ v.2.2.2 < np) ∧ (v.1 = 2 → v.2.2.1 < 8) ∧ (v.1 = 3 → v.2.1 < 8) ∧ (v.1 = 5 → v.2.1 ≤ 20)
def wSeg (np nq : Nat) (X : wX) (lv : Nat → Nat) (o a b : Nat) : Prop := ∀ j, a ≤ j → j < b → (j < X.2.2 j ∧ X.2.2 j ≤ b ∧ o ≤ lv j ∧ ((X.2.1 j).1 = 5 → lv j < 6) ∧ wRok np nq (X.2.1 j)) ∧ ∀ k, j < k → k < X.2.2 j → X.2.2 k ≤ X.2.2 j ∧ lv j < lv k
/-- what a piece of text adds -/
def wAdd (np nq o : Nat) (X Y : wX) : Prop := X.1 ≤ Y.1 ∧ (∀ j, j < X.1 → Y.2.1 j = X.2.1 j ∧ Y.2.2 j = X.2.2 j) ∧ ∃ lv, wSeg np nq Y lv o X.1 Y.1
section
variable {tb : Nat → Nat} {n np nq o : Nat}
theorem wAdd_rf (X : wX) : wAdd np nq o X X := ⟨Nat.le_refl _, fun _ _ => ⟨rfl, rfl⟩, fun _ => 0, fun j h1 h2 => by omega⟩
theorem wAdd_tr {X Y Z : wX} (h : wAdd np nq o X Y) (h' : wAdd np nq o Y Z) : wAdd np nq o X Z := by
  obtain ⟨a1, a2, lv1, a3⟩ := h
  obtain ⟨b1, b2, lv2, b3⟩ := h'
  refine ⟨by omega, fun j hj => ?_, fun j => if j < Y.1 then lv1 j else lv2 j, fun j h1 h2 => ?_⟩
  · obtain ⟨e1, e2⟩ := b2 j (by omega)
    rw [e1, e2]
    exact a2 j hj
  · by_cases q : j < Y.1
    · obtain ⟨e1, e2⟩ := b2 j q
      obtain ⟨⟨c1, c2, c3, c4, c5⟩, c6⟩ := a3 j h1 q
      rw [e1, e2]
      dsimp only
      rw [if_pos q]
      refine ⟨⟨c1, by omega, c3, c4, c5⟩, fun k k1 k2 => ?_⟩
      rw [if_pos (show k < Y.1 by omega), (b2 k (by omega)).2]
      exact c6 k k1 k2
    · obtain ⟨⟨c1, c2, c3, c4, c5⟩, c6⟩ := b3 j (by omega) h2
      dsimp only
      rw [if_neg q]
      refine ⟨⟨c1, c2, c3, c4, c5⟩, fun k k1 k2 => ?_⟩
      rw [if_neg (show ¬ k < Y.1 by omega)]
      exact c6 k k1 k2
theorem wAdd_row {X : wX} {k : Nat} {v : Nat × Nat × Nat} (hk : k ≠ 5) (hv : wRok np nq (k, v)) : wAdd np nq o X (wRow k v X) := by
  refine ⟨Nat.le_succ _, fun j hj => ?_, fun _ => o, fun j h1 h2 => ?_⟩
  · unfold wRow
    dsimp only
    rw [if_neg (by omega), if_neg (by omega)]
    exact ⟨rfl, rfl⟩
  · have h2 : j < X.1 + 1 := h2
    have e : j = X.1 := by omega
    unfold wRow
    dsimp only
    rw [if_pos e, if_pos e]
    exact ⟨⟨by omega, Nat.le_refl _, Nat.le_refl _, fun h => absurd h hk, hv⟩, fun k k1 k2 => by omega⟩
theorem wAdd_end {X Y : wX} {v : Nat × Nat × Nat} (ho : o < 6) (hv : wRok np nq (5, v)) (h : wAdd np nq (o + 1) (wRow 5 v X) Y) : wAdd np nq o X (wEnd X.1 Y) := by
  obtain ⟨a1, a2, lv, a3⟩ := h
  have a1 : X.1 + 1 ≤ Y.1 := a1
  refine ⟨by show X.1 ≤ Y.1; omega, fun j hj => ?_, fun j => if j = X.1 then o else lv j, fun j h1 h2 => ?_⟩
  · obtain ⟨e1, e2⟩ := a2 j (by show j < X.1 + 1; omega)
    unfold wEnd
    dsimp only
    rw [if_neg (by omega), e1, e2]
    unfold wRow
    dsimp only
    rw [if_neg (by omega), if_neg (by omega)]
    exact ⟨rfl, rfl⟩
  · have h2 : j < Y.1 := h2
    by_cases q : j = X.1
    · subst q
      obtain ⟨e1, e2⟩ := a2 X.1 (by show X.1 < X.1 + 1; omega)
      have e1 : Y.2.1 X.1 = (5, v) := e1.trans (if_pos rfl)
      unfold wEnd
      dsimp only
      rw [if_pos rfl, if_pos rfl, e1]
      refine ⟨⟨by omega, Nat.le_refl _, Nat.le_refl _, fun _ => ho, hv⟩, fun k k1 k2 => ?_⟩
      rw [if_neg (by omega), if_neg (by omega)]
      obtain ⟨⟨c1, c2, c3, c4, c5⟩, c6⟩ := a3 k (by show X.1 + 1 ≤ k; omega) k2
      exact ⟨c2, by omega⟩
    · obtain ⟨⟨c1, c2, c3, c4, c5⟩, c6⟩ := a3 j (by show X.1 + 1 ≤ j; omega) h2
      unfold wEnd
      dsimp only
      rw [if_neg q, if_neg q]
      refine ⟨⟨c1, c2, by omega, c4, c5⟩, fun k k1 k2 => ?_⟩
      rw [if_neg (by omega), if_neg (by omega)]
      exact c6 k k1 k2
theorem wNum_ok {k a a' : Nat} (hk : k ≤ 5) (h : (wNum tb n np nq k (.inl a)).2 = .inl a') : wRok np nq (k, (wNum tb n np nq k (.inl a)).1) := by
  have bb : ∀ {lo hn a' : Nat} {r : tR}, (pNum tb n lo hn r).2 = .inl a' → (pNum tb n lo hn r).1 < hn := fun {lo hn a' r} h => by
    obtain ⟨c, rfl, _⟩ := pNum_a' h
    exact pNum_b h
  have hk : k = 0 ∨ k = 1 ∨ k = 2 ∨ k = 3 ∨ k = 4 ∨ k = 5 := by omega
  unfold wRok
  rcases hk with rfl | rfl | rfl | rfl | rfl | rfl
  · exact ⟨by omega, fun _ => bb h, by dsimp only; omega, by dsimp only; omega, by dsimp only; omega, by dsimp only; omega⟩
  · obtain ⟨c1, h1, _⟩ := pNum_a' h
    obtain ⟨c2, h2, _⟩ := pNum_a' h1
    exact ⟨by omega, fun _ => bb h2, fun _ => ⟨bb h1, bb h⟩, by dsimp only; omega, by dsimp only; omega, by dsimp only; omega⟩
  · obtain ⟨c1, h1, _⟩ := pNum_a' h
    exact ⟨by omega, fun _ => bb h1, by dsimp only; omega, fun _ => bb h, by dsimp only; omega, by dsimp only; omega⟩
  · exact ⟨by omega, by dsimp only; omega, by dsimp only; omega, by dsimp only; omega, fun _ => bb h, by dsimp only; omega⟩
  · exact ⟨by omega, by dsimp only; omega, by dsimp only; omega, by dsimp only; omega, by dsimp only; omega, by dsimp only; omega⟩
  · exact ⟨by omega, by dsimp only; omega, by dsimp only; omega, by dsimp only; omega, by dsimp only; omega, fun _ => by have := bb h; exact Nat.le_of_lt_succ this⟩
theorem wStp_add {full : Bool} {sr : wS → wS} {b a' : Nat} {X : wX} (ho : full = false → o < 6) (hs : full = false → ∀ s a, (sr s).1 = .inl a → (∃ c, s.1 = .inl c) ∧ wAdd np nq (o + 1) s.2 (sr s).2) (h : (wStp tb n np nq full sr b X).1 = .inl a') : wAdd np nq o X (wStp tb n np nq full sr b X).2 := by
  unfold wStp at h ⊢
  cases hk : wKnd tb b (wend tb n b) with
  | none => rw [hk] at h; cases h
  | some k =>
    rw [hk] at h
    have hk5 := wKnd_le hk
    unfold wKin at h ⊢
    dsimp only at h ⊢
    by_cases k5 : k = 5
    · rw [if_pos k5] at h ⊢
      cases full with
      | true => rw [if_pos rfl] at h; cases h
      | false =>
        rw [if_neg (by decide)] at h ⊢
        obtain ⟨c1, e1, _⟩ := pSgn_nn h
        obtain ⟨c2, e2, _⟩ := pSgn_nn e1
        obtain ⟨⟨c3, e3⟩, A⟩ := hs rfl _ _ e2
        obtain ⟨c4, e4, _⟩ := pSgn_nn e3
        exact wAdd_end (ho rfl) (wNum_ok (by omega) e4) A
    · rw [if_neg k5] at h ⊢
      obtain ⟨c1, e1, _⟩ := pSgn_nn h
      exact wAdd_row k5 (wNum_ok hk5 e1)
theorem wItr_add {F : Nat → wX → wS} {top : Bool} (hF : ∀ b X a', (F b X).1 = .inl a' → wAdd np nq o X (F b X).2) : ∀ m (s : wS) a', (wItr tb n F top m s).1 = .inl a' → (∃ c, s.1 = .inl c) ∧ wAdd np nq o s.2 (wItr tb n F top m s).2
  | 0, s, a', h => ⟨⟨a', h⟩, wAdd_rf _⟩
  | _ + 1, (.inr _, _), a', h => by cases h
  | m + 1, (.inl a, X), a', h => by
    have e : wItr tb n F top (m + 1) (.inl a, X) = if wStop top tb n (sk tb n a) = true then (.inl (sk tb n a), X) else wItr tb n F top m (F (sk tb n a) X) := rfl
    rw [e] at h ⊢
    refine ⟨⟨a, rfl⟩, ?_⟩
    split at h
    · rename_i q; rw [if_pos q]; exact wAdd_rf _
    · rename_i q
      rw [if_neg q]
      obtain ⟨⟨c, hc⟩, A⟩ := wItr_add hF m _ a' h
      exact wAdd_tr (hF _ _ c hc) A
theorem wIn_add : ∀ L, L ≤ 5 → ∀ (s : wS) a', (wIn tb n np nq L s).1 = .inl a' → (∃ c, s.1 = .inl c) ∧ wAdd np nq (6 - L) s.2 (wIn tb n np nq L s).2
  | 0, _ => wItr_add (fun b X a' h => wStp_add (fun h => by cases h) (fun h => by cases h) h) 150
  | L + 1, hL => wItr_add (fun b X a' h => wStp_add (o := 6 - (L + 1)) (fun _ => by omega) (fun _ s a hh => by
      have e : 6 - (L + 1) + 1 = 6 - L := by omega
      rw [e]
      exact wIn_add L (by omega) s a hh) h) 150
theorem wAll_add {a' : Nat} (h : (wAll tb n np nq).1 = .inl a') : ∃ lv, wSeg np nq (wAll tb n np nq).2 lv 0 0 (wAll tb n np nq).2.1 := by
  obtain ⟨_, _, _, lv, H⟩ := wItr_add (o := 0) (F := wStp tb n np nq false (wIn tb n np nq 5)) (fun b X a' h => wStp_add (o := 0) (fun _ => by omega) (fun _ s a hh => wIn_add 5 (by omega) s a hh) h) 150 _ _ h
  exact ⟨lv, H⟩
end
