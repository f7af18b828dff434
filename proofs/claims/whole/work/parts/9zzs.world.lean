/-! THE START, 4: the machine's state as the interpreter sees it -/
def xq_sT (k : Nat) : Term := .string ((xq_S.getD k ("", 0, "")).1) ((xq_S.getD k ("", 0, "")).2.1)
def xq_sF (k : Nat) : Term := .field (xq_sT k) "java/lang/String" "value" "[B"
def xq_sW (k : Nat) : List Cond := [.exactly (xq_sT k) "java/lang/String", .eq (.field (xq_sT k) "java/lang/String" "coder" "B") (.int 0), .arrayOf (xq_sF k) .byte, .eq (.length (xq_sF k)) (.int (Int32.ofNat (xr_by k).length))] ++ (List.range (xr_by k).length).map (fun j => .eq (.elem (xq_sF k) (.int (Int32.ofNat j))) (.int (Int32.ofNat ((xr_by k).getD j 0))))
def ixOk (F : List Cond) : List Cond → List Nat → Bool
  | [], _ => true
  | w :: l, i :: ix => decide (F[i]? = some w) && ixOk F l ix
  | _ :: _, [] => false
theorem ixOk_mem {F : List Cond} : ∀ (l : List Cond) (ix : List Nat), ixOk F l ix = true → ∀ w ∈ l, w ∈ F
  | [], _, _, w, hw => by cases hw
  | u :: l, [], h, w, hw => by cases h
  | u :: l, i :: ix, h, w, hw => by
    obtain ⟨h1, h2⟩ := xq_and (show (decide (F[i]? = some u) && ixOk F l ix) = true from h)
    rcases List.mem_cons.mp hw with rfl | hw
    · exact List.mem_of_getElem? (of_decide_eq_true h1)
    · exact ixOk_mem l ix h2 w hw
theorem xq_si0 : ixOk (flatC narrow_1) (xq_sW 0) [35, 36, 37, 38, 39, 40, 41, 42, 43, 44, 45, 46, 47] = true := by decide +kernel
theorem xq_si1 : ixOk (flatC narrow_1) (xq_sW 1) [48, 49, 50, 51, 52, 53, 54, 55, 56, 57] = true := by decide +kernel
theorem xq_si2 : ixOk (flatC narrow_1) (xq_sW 2) [59, 60, 61, 62, 63, 64, 65] = true := by decide +kernel
theorem xq_si3 : ixOk (flatC narrow_1) (xq_sW 3) [68, 69, 70, 71, 72, 73, 74, 75] = true := by decide +kernel
theorem xq_si4 : ixOk (flatC narrow_1) (xq_sW 4) [79, 80, 81, 82, 83, 84, 85, 86, 87] = true := by decide +kernel
theorem xq_si5 : ixOk (flatC narrow_1) (xq_sW 5) [92, 93, 94, 95, 96, 97, 98, 99, 100] = true := by decide +kernel
theorem xq_si6 : ixOk (flatC narrow_1) (xq_sW 6) [106, 107, 108, 109, 110, 111, 112] = true := by decide +kernel
theorem xq_si7 : ixOk (flatC narrow_1) (xq_sW 7) [119, 120, 121, 122, 123, 124, 125, 126, 127] = true := by decide +kernel
theorem xq_si8 : ixOk (flatC narrow_1) (xq_sW 8) [135, 136, 137, 138, 139, 140, 141, 142, 143] = true := by decide +kernel
theorem xq_si9 : ixOk (flatC narrow_1) (xq_sW 9) [152, 153, 154, 155, 156, 157, 158, 159] = true := by decide +kernel
theorem xq_si10 : ixOk (flatC narrow_1) (xq_sW 10) [169, 170, 171, 172, 173, 174, 175, 176] = true := by decide +kernel
theorem xq_si11 : ixOk (flatC narrow_1) (xq_sW 11) [187, 188, 189, 190, 191, 192, 193] = true := by decide +kernel
theorem xq_si12 : ixOk (flatC narrow_1) (xq_sW 12) [205, 206, 207, 208, 209, 210, 211] = true := by decide +kernel
theorem xq_si13 : ixOk (flatC narrow_1) (xq_sW 13) [224, 225, 226, 227, 228, 229, 230, 231, 232] = true := by decide +kernel
theorem xq_si14 : ixOk (flatC narrow_1) (xq_sW 14) [246, 247, 248, 249, 250, 251, 252, 253] = true := by decide +kernel
theorem xq_si15 : ixOk (flatC narrow_1) (xq_sW 15) [268, 269, 270, 271, 272, 273, 274] = true := by decide +kernel
theorem xq_si16 : ixOk (flatC narrow_1) (xq_sW 16) [290, 291, 292, 293, 294, 295, 296, 297] = true := by decide +kernel
theorem xq_si17 : ixOk (flatC narrow_1) (xq_sW 17) [314, 315, 316, 317, 318, 319, 320, 321, 322] = true := by decide +kernel
theorem xq_si18 : ixOk (flatC narrow_1) (xq_sW 18) [340, 341, 342, 343, 344, 345, 346] = true := by decide +kernel
theorem xq_si19 : ixOk (flatC narrow_1) (xq_sW 19) [365, 366, 367, 368, 369, 370, 371, 372] = true := by decide +kernel
theorem xq_si20 : ixOk (flatC narrow_1) (xq_sW 20) [392, 393, 394, 395, 396, 397, 398, 399, 400] = true := by decide +kernel
theorem xq_si21 : ixOk (flatC narrow_1) (xq_sW 21) [421, 422, 423, 424, 425, 426, 427, 428, 429, 430, 431, 432, 433, 434, 435, 436, 437, 438, 439, 440, 441, 442, 443, 444, 445, 446, 447, 448, 449, 450, 451, 452, 453, 454, 455, 456, 457, 458] = true := by decide +kernel
theorem xq_sW_in : ∀ k, k < 22 → ∀ w ∈ xq_sW k, w ∈ flatC narrow_1 := by
  intro k hk
  match k, hk with
  | 0, _ => exact ixOk_mem _ _ xq_si0
  | 1, _ => exact ixOk_mem _ _ xq_si1
  | 2, _ => exact ixOk_mem _ _ xq_si2
  | 3, _ => exact ixOk_mem _ _ xq_si3
  | 4, _ => exact ixOk_mem _ _ xq_si4
  | 5, _ => exact ixOk_mem _ _ xq_si5
  | 6, _ => exact ixOk_mem _ _ xq_si6
  | 7, _ => exact ixOk_mem _ _ xq_si7
  | 8, _ => exact ixOk_mem _ _ xq_si8
  | 9, _ => exact ixOk_mem _ _ xq_si9
  | 10, _ => exact ixOk_mem _ _ xq_si10
  | 11, _ => exact ixOk_mem _ _ xq_si11
  | 12, _ => exact ixOk_mem _ _ xq_si12
  | 13, _ => exact ixOk_mem _ _ xq_si13
  | 14, _ => exact ixOk_mem _ _ xq_si14
  | 15, _ => exact ixOk_mem _ _ xq_si15
  | 16, _ => exact ixOk_mem _ _ xq_si16
  | 17, _ => exact ixOk_mem _ _ xq_si17
  | 18, _ => exact ixOk_mem _ _ xq_si18
  | 19, _ => exact ixOk_mem _ _ xq_si19
  | 20, _ => exact ixOk_mem _ _ xq_si20
  | 21, _ => exact ixOk_mem _ _ xq_si21
  | n + 22, h => exact absurd h (by omega)
theorem xq_by_lt : ∀ k, k < 22 → (xr_by k).length < 2 ^ 31 := by decide
section
variable {args : Array Value} {s : State}
/-- a String constant's cells -/
def xq_sK (s : State) (k a v : Nat) : Prop := va_O "java/lang/String" a (xq_A s.heap.size) s s.heap ∧ va_OF "java/lang/String" "coder" "B" (.int 0) a (xq_A s.heap.size) s s.heap ∧ va_OF "java/lang/String" "value" "[B" (.ref v) a (xq_A s.heap.size) s s.heap ∧ va_T .byte v (xr_by k).length (fun j => .int (Int32.ofNat ((xr_by k).getD j 0))) (xq_A s.heap.size) s s.heap
theorem str_world (hn : ∀ w ∈ flatC narrow_1, w.before args s = true) : ∃ adK adV : Nat → Nat, ∀ k, k < 22 → (xq_sT k).eval args s none [] s = some (.ref (adK k)) ∧ xq_sK s k (adK k) (adV k) := by
  have hA : ∀ a : Nat, a < s.heap.size → ¬ xq_A s.heap.size a := fun a h => Nat.not_le.mpr h
  have h0 : ∀ k : Nat, ∃ q : Nat × Nat, k < 22 → (xq_sT k).eval args s none [] s = some (.ref q.1) ∧ xq_sK s k q.1 q.2 := by
    intro k
    by_cases hk : k < 22
    · have hw : ∀ w ∈ xq_sW k, w.before args s = true := fun w h => hn w (xq_sW_in k hk w h)
      have w0 := hw (.exactly (xq_sT k) "java/lang/String") (List.mem_append_left _ List.mem_cons_self)
      have w1 := hw (.eq (.field (xq_sT k) "java/lang/String" "coder" "B") (.int 0)) (List.mem_append_left _ (List.mem_cons_of_mem _ List.mem_cons_self))
      have w2 := hw (.arrayOf (xq_sF k) .byte) (List.mem_append_left _ (List.mem_cons_of_mem _ (List.mem_cons_of_mem _ List.mem_cons_self)))
      have w3 := hw (.eq (.length (xq_sF k)) (.int (Int32.ofNat (xr_by k).length))) (List.mem_append_left _ (List.mem_cons_of_mem _ (List.mem_cons_of_mem _ (List.mem_cons_of_mem _ List.mem_cons_self))))
      have w4 : ∀ j, j < (xr_by k).length → (Cond.eq (.elem (xq_sF k) (.int (Int32.ofNat j))) (.int (Int32.ofNat ((xr_by k).getD j 0)))).before args s = true := fun j hj => hw _ (List.mem_append_right _ (List.mem_map.mpr ⟨j, List.mem_range.mpr hj, rfl⟩))
      obtain ⟨a, c, cA, kA, q1, -⟩ := Cond.exactly_spec (args := args) (first := s) (o := none) (s := s) (idx := []) w0
      obtain ⟨t, ht, hT⟩ := va_Tof (f := fun j => .int (Int32.ofNat ((xr_by k).getD j 0))) (A := xq_A s.heap.size) (xq_by_lt k hk) w2 (va_eqt w3) (fun j hj => va_eqt (w4 j hj)) hA
      exact ⟨(a, t), fun _ => ⟨q1, va_Oof w0 q1 hA, vk_OFof q1 (va_eqt w1) hA, vk_OFof q1 ht hA, hT⟩⟩
    · exact ⟨(0, 0), fun h => absurd h hk⟩
  obtain ⟨ad, had⟩ := Classical.axiomOfChoice h0
  exact ⟨fun k => (ad k).1, fun k => (ad k).2, had⟩
theorem fits_no (hf : heapFits s = true) {a i v : Nat} {cell : Cell} (ha : s.heap[a]? = some cell) (hb : s.isArrayOf cell .byte) (hi : cell.slots[i]? = some (.ref v)) : False := by
  obtain ⟨hlt, he⟩ := Array.getElem?_eq_some_iff.mp ha
  have h1 := Array.all_eq_true.mp hf a hlt
  rw [he] at h1
  have h2 := List.all_eq_true.mp h1 i (List.mem_range.mpr (Array.getElem?_eq_some_iff.mp hi).1)
  rw [hi] at h2
  obtain ⟨h3, k, h4, comp, h5⟩ := hb
  have h6 : s.slotType? cell.cls cell.vm i = some .byte := by
    unfold State.slotType?
    rw [h4]
    cases hv : cell.vm with
    | statics c => exact absurd hv (h3 c)
    | _ => simp [h5]
  have h2 : s.fitsSlot cell.cls cell.vm i (.ref v) = true := h2
  unfold State.fitsSlot at h2
  rw [h6] at h2
  cases h2
theorem sK_ne (hf : heapFits s = true) {i j a v a' v' : Nat} (h : xq_sK s i a v) (h' : xq_sK s j a' v') : a ≠ v' := by
  rintro rfl
  obtain ⟨-, -, ⟨cf, k, i0, f, cell, -, -, g1, -, g2, -⟩, -⟩ := h
  obtain ⟨-, -, -, ⟨cell', g3, g4, -⟩⟩ := h'
  rw [g1] at g3
  cases g3
  exact fits_no hf g1 g4 g2
theorem sK_b {i a v b L : Nat} {sc : Nat → Int32} (hX : va_X b L sc s s.heap) (h : xq_sK s i a v) : b ≠ a ∧ b ≠ v := by
  obtain ⟨scr, x1, x2, x3, x4, x5⟩ := hX
  constructor
  · rintro rfl
    obtain ⟨-, -, ⟨cf, k, i0, f, cell, -, -, g1, -, g2, -⟩, -⟩ := h
    rw [x1] at g1
    cases g1
    have := (Array.getElem?_eq_some_iff.mp g2).1
    rw [x5 _ (by omega)] at g2
    cases g2
  · rintro rfl
    obtain ⟨-, -, -, ⟨cell', g3, ⟨-, kk, g5, comp, g6⟩, -⟩⟩ := h
    obtain ⟨-, k2, g7, comp2, g8⟩ := x2
    rw [x1] at g3
    cases g3
    rw [g5] at g7
    cases g7
    rw [g6] at g8
    cases g8
theorem sK_v {i j a v v' : Nat} (h : xq_sK s i a v) (h' : xq_sK s j a v') : v = v' := by
  obtain ⟨-, -, ⟨cf, k, i0, f, cell, e1, -, g1, -, g2, -⟩, -⟩ := h
  obtain ⟨-, -, ⟨cf', k', i0', f', cell', e1', -, g1', -, g2', -⟩, -⟩ := h'
  rw [g1] at g1'
  cases g1'
  rw [e1] at e1'
  cases e1'
  rw [g2] at g2'
  cases g2'
  rfl
theorem sK_t {i j a a' v : Nat} (hi : i < 22) (hj : j < 22) (h : xq_sK s i a v) (h' : xq_sK s j a' v) : (xr_by i).length = (xr_by j).length ∧ ∀ t, t < (xr_by j).length → Int32.ofNat ((xr_by i).getD t 0) = Int32.ofNat ((xr_by j).getD t 0) := by
  obtain ⟨-, -, -, ⟨cell, g1, -, -, g3, g4, g5, -⟩⟩ := h
  obtain ⟨-, -, -, ⟨cell', g1', -, -, g3', g4', g5', -⟩⟩ := h'
  rw [g1] at g1'
  cases g1'
  have e : (xr_by i).length = (xr_by j).length := by
    have := g4.symm.trans g4'
    exact (nI_eq (xq_by_lt i hi) (xq_by_lt j hj)).mp this
  refine ⟨e, fun t ht => ?_⟩
  have h1 := g5 t (by omega)
  have h2 := g5' t ht
  exact Value.int.inj (Option.some.inj (h1.symm.trans h2))
end
