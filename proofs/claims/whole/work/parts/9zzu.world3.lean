/-! THE START, 6: the interpreter's first state, and what it is in the machine -/
noncomputable def xq_w0 (b L : Nat) (sc : Nat → Int32) (adK adV : Nat → Nat) : Nat → Option xq_E := fun a => if a = b then some (.inl (9, L, .inl sc)) else
  @dite _ (∃ k, k < 22 ∧ adK k = a) (Classical.propDecidable _) (fun h => some (.inr (20, [.ref (adV h.choose), .int 0]))) (fun _ =>
  @dite _ (∃ k, k < 22 ∧ adV k = a) (Classical.propDecidable _) (fun h => some (.inl (8, (xr_by h.choose).length, .inl (fun j => Int32.ofNat ((xr_by h.choose).getD j 0))))) (fun _ => none))
section
variable {s : State} {b L : Nat} {sc : Nat → Int32} {adK adV : Nat → Nat} {fm : Option Nat}
theorem w0_b : xq_w0 b L sc adK adV b = some (.inl (9, L, .inl sc)) := if_pos rfl
theorem w0_K (hX : va_X b L sc s s.heap) (hK : ∀ k, k < 22 → xq_sK s k (adK k) (adV k)) {k : Nat} (hk : k < 22) : xq_w0 b L sc adK adV (adK k) = some (.inr (20, [.ref (adV k), .int 0])) := by
  unfold xq_w0
  have h : ∃ j, j < 22 ∧ adK j = adK k := ⟨k, hk, rfl⟩
  rw [if_neg (fun e => (sK_b hX (hK k hk)).1 e.symm), dif_pos h]
  obtain ⟨h1, h2⟩ := h.choose_spec
  have h3 := hK _ h1
  rw [h2] at h3
  rw [sK_v h3 (hK k hk)]
theorem w0_V (hf : heapFits s = true) (hX : va_X b L sc s s.heap) (hK : ∀ k, k < 22 → xq_sK s k (adK k) (adV k)) {k : Nat} (hk : k < 22) : ∃ g, xq_w0 b L sc adK adV (adV k) = some (.inl (8, (xr_by k).length, .inl g)) ∧ ∀ j, j < (xr_by k).length → g j = Int32.ofNat ((xr_by k).getD j 0) := by
  have h : ∃ j, j < 22 ∧ adV j = adV k := ⟨k, hk, rfl⟩
  have hn : ¬ ∃ j, j < 22 ∧ adK j = adV k := fun ⟨j, h1, h2⟩ => sK_ne hf (hK j h1) (hK k hk) h2
  obtain ⟨h1, h2⟩ := h.choose_spec
  have h3 := hK _ h1
  rw [h2] at h3
  obtain ⟨e1, e2⟩ := sK_t h1 hk h3 (hK k hk)
  refine ⟨fun j => Int32.ofNat ((xr_by h.choose).getD j 0), ?_, fun j hj => e2 j hj⟩
  unfold xq_w0
  rw [if_neg (fun e => (sK_b hX (hK k hk)).2 e.symm), dif_neg hn, dif_pos h, e1]
theorem w0_all {a : Nat} {e : xq_E} (h : xq_w0 b L sc adK adV a = some e) : (a = b ∧ e = .inl (9, L, .inl sc)) ∨ (∃ k, k < 22 ∧ a = adK k ∧ e = .inr (20, [.ref (adV k), .int 0])) ∨ ∃ k, k < 22 ∧ a = adV k ∧ e = .inl (8, (xr_by k).length, .inl (fun j => Int32.ofNat ((xr_by k).getD j 0))) := by
  unfold xq_w0 at h
  split at h
  · rename_i h1
    exact Or.inl ⟨h1, (Option.some.inj h).symm⟩
  · split at h
    · rename_i h1
      exact Or.inr (Or.inl ⟨_, h1.choose_spec.1, h1.choose_spec.2.symm, (Option.some.inj h).symm⟩)
    · split at h
      · rename_i h1
        exact Or.inr (Or.inr ⟨_, h1.choose_spec.1, h1.choose_spec.2.symm, (Option.some.inj h).symm⟩)
      · cases h
theorem start_J {dC : Nat → ClassId} {dI : Nat → Nat → Nat} {ac : Nat → ClassId} (hX : va_X b L sc s s.heap) (hb : b < s.heap.size) (hK : ∀ k, k < 22 → xq_sK s k (adK k) (adV k)) : xq_J s.heap.size dC dI ac (s.heap.size, 0, xq_w0 b L sc adK adV, adK, fm) s s.heap s.heap := by
  refine ⟨rfl, fun a e h => ?_⟩
  have lt : ∀ {a : Nat} {cell : Cell}, s.heap[a]? = some cell → a < s.heap.size := fun h => (Array.getElem?_eq_some_iff.mp h).1
  rcases w0_all h with ⟨rfl, rfl⟩ | ⟨k, hk, rfl, rfl⟩ | ⟨k, hk, rfl, rfl⟩
  · exact ⟨hb, (fun h => by cases h), fun _ => Or.inr ⟨rfl, hX, hb, Nat.not_le.mpr hb⟩⟩
  · obtain ⟨h1, h2, h3, h4⟩ := hK k hk
    obtain ⟨cell, g1, -⟩ := id h1
    exact ⟨lt g1, (fun h => by cases h), fun _ => ⟨rfl, adV k, rfl, h1, h3, h2⟩⟩
  · obtain ⟨h1, h2, h3, h4⟩ := hK k hk
    obtain ⟨cell, g1, -⟩ := id h4
    exact ⟨lt g1, (fun h => by cases h), fun _ => Or.inl ⟨rfl, h4⟩⟩
theorem start_R (hf : heapFits s = true) (hX : va_X b L sc s s.heap) (hK : ∀ k, k < 22 → xq_sK s k (adK k) (adV k)) : xr_Rep (fun z => if z.2 = 3000 then adK z.1 else adV z.1) ([], [0, 0, 0, 0, 0, 0]) (s.heap.size, 0, (0, 0), none, (fun _ _ _ => 0), (fun _ _ => none)) (s.heap.size, 0, xq_w0 b L sc adK adV, adK, fm) := by
  have dm : ∀ z, xr_dom (0, 0) z → (z.2 = 3000 ∨ z.2 = 4000) ∧ z.1 < 22 := by
    rintro z (⟨h1, ⟨h2, h3⟩ | ⟨h2, h3⟩⟩ | ⟨h1, h3, ⟨h4, h5⟩ | ⟨h4, h5⟩⟩ | h)
    · exact absurd h3 (Nat.not_lt_zero _)
    · exact absurd h2 (Nat.not_lt_zero _)
    · exact absurd h5 (Nat.not_lt_zero _)
    · exact absurd h4 (Nat.not_lt_zero _)
    · exact h
  have lt : ∀ {a : Nat} {cell : Cell}, s.heap[a]? = some cell → a < s.heap.size := fun h => (Array.getElem?_eq_some_iff.mp h).1
  refine ⟨⟨rfl, rfl⟩, fun z hz => ?_, fun z z' hz _ h2 => ?_, fun k hk => ?_, ⟨fun q hq => ?_, fun b k q hq => ?_, fun j q hj hq => ?_⟩, fun _ _ _ _ _ => rfl, fun _ _ _ => rfl⟩
  · obtain ⟨h1, h2⟩ := dm z hz
    obtain ⟨k, c⟩ := z
    dsimp only at h1 h2
    rcases h1 with rfl | rfl
    · obtain ⟨g1, g2, g3, g4⟩ := hK k h2
      obtain ⟨cell, g1, -⟩ := id g1
      refine ⟨lt g1, _, w0_K hX hK h2, (fun h => by cases h), (fun h => by cases h), (fun h => by cases h), (fun h => by cases h), fun _ => ⟨_, rfl, rfl, fun j cc hj => ?_⟩⟩
      have hj : ([1010, 9] : List Nat)[j]? = some cc := hj
      match j, hj with
      | 0, hj =>
        cases hj
        exact ⟨(by show 0 < 2; omega), fun _ _ => ⟨(by show some (Value.ref (adV k)) = some (Value.ref (if 3000 + (1010 - 10) = 3000 then adK k else adV k)); rw [if_neg (by omega)]), Or.inr (Or.inr ⟨Or.inr (by show 3000 + (1010 - 10) = 4000; omega), h2⟩)⟩, (fun h => by cases h), (fun h => by cases h), (fun h => by cases h), (fun h => by cases h), fun _ h => by omega⟩
      | 1, hj =>
        cases hj
        exact ⟨(by show 1 < 2; omega), (fun h => by omega), (fun h => by cases h), fun _ => rfl, (fun h => by cases h), (fun h => by cases h), fun _ h => by omega⟩
      | n + 2, hj => cases hj
    · obtain ⟨g1, g2, g3, g4⟩ := hK k h2
      obtain ⟨cell, g4, -⟩ := id g4
      obtain ⟨g, e1, e2⟩ := w0_V hf hX hK h2
      refine ⟨lt g4, _, e1, (fun h => by cases h), (fun h => by cases h), (fun h => by cases h), fun _ => ⟨g, rfl, fun j hj => e2 j hj⟩, fun h => ?_⟩
      have h : (100 : Nat) ≤ 8 := h
      exact absurd h (by omega)
  · have := (dm z hz).1
    omega
  · rfl
  · cases hq
  · cases hq
  · exfalso
    have hj : ([0, 0, 0, 0, 0, 0] : List Nat)[j]? = some q := hj
    have := List.mem_of_getElem? hj
    simp at this
    exact hq this
end
