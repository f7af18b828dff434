/-! SOUNDNESS, 1: what a state of the interpreter is in the machine -/
def xq_A (B : Nat) : Nat → Prop := fun q => B ≤ q
def xq_cv (ac : Nat → ClassId) (e : xq_E) : va_E := match e with
  | .inl (k, v) => .inl (ac k, v)
  | .inr o => .inr o
def xq_ro (e : xq_E) : Bool := match e with
  | .inl (k, _) => Nat.ble 4 k
  | .inr (c, _) => Nat.ble 12 c
/-- what is never written: a constant's bytes, the script, a String constant -/
def xq_roAt (B a : Nat) (e : xq_E) (U : State) (H : Heap) : Prop := match e with
  | .inl (k, n, .inl f) => (k = 8 ∧ va_T .byte a n (fun j => .int (f j)) (xq_A B) U H) ∨ (k = 9 ∧ va_X a n f U H ∧ a < H.size ∧ ¬ xq_A B a)
  | .inl _ => False
  | .inr (c, fs) => c = 20 ∧ ∃ v, fs = [.ref v, .int 0] ∧ va_O "java/lang/String" a (xq_A B) U H ∧ va_OF "java/lang/String" "value" "[B" (.ref v) a (xq_A B) U H ∧ va_OF "java/lang/String" "coder" "B" (.int 0) a (xq_A B) U H
def xq_tl (ac : Nat → ClassId) : List (ClassId × FieldType) := [(ac 0, .int), (ac 1, .long), (ac 2, .array .int), (ac 3, .object RX6)]
/-- words that a callee can't take over by itself -/
def xq_xw : List Cond := [.arrayOver (.object RX6), .arrayOver (.array .int), .castable "java/lang/IllegalArgumentException" "java/lang/IllegalArgumentException", .castable "java/util/NoSuchElementException" "java/util/NoSuchElementException", .declares (Bundle.initS "java/lang/RuntimeException"), .declares (Bundle.initS "java/lang/Exception"), .declares (Bundle.initS "java/lang/Throwable")]
theorem xq_AOA_moved {t : FieldType} {u U : State} (hvm : u.vm.Alike U.vm) (h : va_AOA t u) : va_AOA t U := by
  obtain ⟨comp, c, k, h1, h2, h3, h4, h5⟩ := arrayOverA_spec h
  obtain ⟨k', hk', he⟩ := hvm.2.2 _ _ h3
  have e1 := va_idx_bare U.vm comp
  have e2 := va_idx_bare u.vm comp
  have hb : U.vm.bare = u.vm.bare := by first | exact hvm.bare_eq | exact hvm.bare_eq.symm
  rw [hb] at e1
  have hi := e1.symm.trans (e2.trans h2)
  have hkind : k'.kind = .array comp (.array t) := by rw [he]; exact h4
  have f1 : U.vm.findClass (FieldType.array t).toString = some comp := by rw [hvm.findClass]; exact h1
  have f2 : U.vm.findClass ("[" ++ (FieldType.array t).toString) = some c := by rw [hvm.findClass]; exact h5
  unfold va_AOA Cond.before Cond.holds
  simp only [Cond.value]
  rw [f1, Option.bind_some]
  refine (congrArg (fun o : Option Nat => (o.bind (fun c => (U.vm.classes[c]?).map fun (k : Class) => match k.kind with | .array _ ty => decide (ty = FieldType.array t) && decide (U.vm.findClass ("[" ++ (FieldType.array t).toString) = some c) | _ => false) == some true)) hi).trans ?_
  simp [hk', hkind, f2]
theorem xq_tr {c : Cond} {u U : State} (hc : c.onTables = true) (h : c.before #[] (u.setVm U.vm) = true) : c.before #[] U = true := by
  have e := Cond.onTables_vm (A := #[]) (A' := #[]) (U := u) (U' := U) U.vm c hc
  have hU : U.setVm U.vm = U := rfl
  rw [hU] at e
  rw [← e]
  exact h
theorem xq_xw_moved {u U : State} (hvm : u.vm.Alike U.vm) (h : ∀ w ∈ xq_xw, w.before #[] u = true) : ∀ w ∈ xq_xw, w.before #[] U = true := by
  intro w hw
  have h0 := h w hw
  simp only [xq_xw, List.mem_cons, List.not_mem_nil, or_false] at hw
  rcases hw with rfl | rfl | rfl | rfl | rfl | rfl | rfl
  · exact va_AO.moved hvm h0
  · exact xq_AOA_moved hvm h0
  · exact xq_tr rfl (by rw [Cond.castable_setVm hvm]; exact h0)
  · exact xq_tr rfl (by rw [Cond.castable_setVm hvm]; exact h0)
  · exact xq_tr rfl (by rw [Cond.declares_setVm hvm]; exact h0)
  · exact xq_tr rfl (by rw [Cond.declares_setVm hvm]; exact h0)
  · exact xq_tr rfl (by rw [Cond.declares_setVm hvm]; exact h0)
def xq_G (B : Nat) (env : (Nat → Nat) × Option Nat) (U : State) (H : Heap) : Prop :=
  va_Z "java/lang/String" "COMPACT_STRINGS" "Z" (.int 1) (xq_A B) U H ∧ va_Z "jdk/internal/util/Preconditions" "SIOOBE_FORMATTER" "Ljava/util/function/BiFunction;" (va_rf env.2) (xq_A B) U H ∧
  vx_Zq Bundle.tN "UNASSIGNED_STACK" Bundle.steD (xq_A B) U H ∧ vx_Zq Bundle.tN "SUPPRESSED_SENTINEL" Bundle.listD (xq_A B) U H ∧ (∀ k q, xq_S[k]? = some q → vk_R q.1 q.2.1 q.2.2 (env.1 k) U) ∧ va_Nc "java/lang/IllegalArgumentException" "java/util/NoSuchElementException" U ∧ va_Nc "java/util/NoSuchElementException" "java/lang/IllegalArgumentException" U ∧ ∀ w ∈ xq_xw, w.before #[] U = true
section
variable {B : Nat}
theorem xq_roAt.to {a : Nat} {e : xq_E} {u U : State} {H H1 : Heap} (h : xq_roAt B a e u H) (hvm : u.vm.Alike U.vm) (hz : H.size ≤ H1.size) (hq : ∀ a : Nat, a < H.size → ¬ xq_A B a → H1[a]? = H[a]?) : xq_roAt B a e U H1 := by
  rcases e with ⟨k, n, v⟩ | ⟨c, fs⟩
  · cases v with
    | inl f =>
      rcases h with ⟨hk, h⟩ | ⟨hk, h, hlt, hA⟩
      · exact Or.inl ⟨hk, (h.moved hvm).kept hq⟩
      · exact Or.inr ⟨hk, (h.moved hvm).kept (hq a hlt hA), Nat.lt_of_lt_of_le hlt hz, hA⟩
    | inr v => exact h
  · obtain ⟨hc, v, hv, h1, h2, h3⟩ := h
    exact ⟨hc, v, hv, (h1.moved hvm).kept hq, (h2.moved hvm).kept hq, (h3.moved hvm).kept hq⟩
theorem xq_G.to {env : (Nat → Nat) × Option Nat} {s U : State} {H H1 : Heap} (h : xq_G B env s H) (hW : s.WarmedH U.vm) (hq : ∀ a : Nat, a < H.size → ¬ xq_A B a → H1[a]? = H[a]?) : xq_G B env U H1 := by
  obtain ⟨h1, h2, h3, h4, h5, h6, h7, h8⟩ := h
  exact ⟨(h1.moved hW.alike).kept hq, (h2.moved hW.alike).kept hq, (h3.moved hW.alike).kept hq, (h4.moved hW.alike).kept hq, fun k q hk => (h5 k q hk).warm hW, h6.moved hW.alike, h7.moved hW.alike, xq_xw_moved hW.alike h8⟩
end
/-- the cells of X: those that may be written lie in H, the others in s's own heap -/
def xq_J (B : Nat) (dC : Nat → ClassId) (dI : Nat → Nat → Nat) (ac : Nat → ClassId) (X : xq_X) (s : State) (H0 H : Heap) : Prop :=
  H.size = X.1 ∧ ∀ a e, xq_h X a = some e → a < X.1 ∧ (xq_ro e = false → B ≤ a ∧ va_at (dC, dI) vwCl (a, xq_cv ac e) H) ∧ (xq_ro e = true → xq_roAt B a e s H0)
def xq_Wd (B : Nat) (dC : Nat → ClassId) (dI : Nat → Nat → Nat) (ac : Nat → ClassId) (X : xq_X) (U : State) : Prop :=
  xq_J B dC dI ac X U U.heap U.heap ∧ B ≤ X.1 ∧ va_K (dC, dI) vwCl (xq_tl ac) U ∧ xq_G B X.2.2.2 U U.heap
/-- what a callee leaves -/
def xq_Pd (B : Nat) (dC : Nat → ClassId) (dI : Nat → Nat → Nat) (ac : Nat → ClassId) (X : xq_X) (t : State) : Prop :=
  t.heap.size = X.1 ∧ ∀ a e, xq_h X a = some e → xq_ro e = false → B ≤ a ∧ va_at (dC, dI) vwCl (a, xq_cv ac e) t.heap
/-- from X to Y: more cells, the same constants -/
def xq_St (X Y : xq_X) : Prop := X.1 ≤ Y.1 ∧ X.2.1 ≤ Y.2.1 ∧ Y.2.2.2 = X.2.2.2 ∧ ∀ a e, xq_ro e = true → xq_h Y a = some e → xq_h X a = some e
theorem xq_St.rf (X : xq_X) : xq_St X X := ⟨Nat.le_refl _, Nat.le_refl _, rfl, fun _ _ _ h => h⟩
theorem xq_St.tr {X Y Z : xq_X} (h : xq_St X Y) (h2 : xq_St Y Z) : xq_St X Z := ⟨Nat.le_trans h.1 h2.1, Nat.le_trans h.2.1 h2.2.1, h2.2.2.1.trans h.2.2.1, fun a e hr he => h.2.2.2 a e hr (h2.2.2.2 a e hr he)⟩
theorem xq_St.set {X : xq_X} {a : Nat} {e : xq_E} (he : xq_ro e = false) : xq_St X (xq_set X a e) := by
  refine ⟨Nat.le_refl _, Nat.le_refl _, rfl, fun b e2 hr h => ?_⟩
  unfold xq_h xq_set at h
  dsimp only at h
  split at h
  · cases h; rw [he] at hr; cases hr
  · exact h
theorem xq_St.push {X : xq_X} {n : Nat} {e : xq_E} (he : xq_ro e = false) : xq_St X (xq_push X n e) := by
  refine ⟨Nat.le_succ _, Nat.le_add_right _ _, rfl, fun b e2 hr h => ?_⟩
  unfold xq_h xq_push at h
  dsimp only at h
  split at h
  · cases h; rw [he] at hr; cases hr
  · exact h
theorem xq_St.grid {X : xq_X} {n m : Nat} : xq_St X (xq_grid X n m) := by
  refine ⟨by show X.1 ≤ X.1 + 1 + n; omega, by show X.2.1 ≤ X.2.1 + n + n * m; omega, rfl, fun b e2 hr h => ?_⟩
  unfold xq_h xq_grid at h
  dsimp only at h
  split at h
  · cases h; cases hr
  · split at h
    · cases h; cases hr
    · exact h
/-! locals -/
def xq_lv (ls : Array Slot) (L : List Value) : Prop := ls.size = L.length ∧ lv_wf ls ∧ ∀ (k : Nat) (v : Value), L[k]? = some v → xq_isl v = true → ls[k]? = some (.val v)
def xq_lp (L : List Value) : List (Nat × Value) := (List.range L.length).filterMap (fun k => match L[k]? with
  | some v => if xq_isl v = true then some (k, v) else none
  | none => none)
theorem xq_lp_m {L : List Value} {k : Nat} {v : Value} (h : L[k]? = some v) (hv : xq_isl v = true) : (k, v) ∈ xq_lp L := by
  refine List.mem_filterMap.mpr ⟨k, List.mem_range.mpr (List.getElem?_eq_some_iff.mp h).1, ?_⟩
  rw [h]; simp [hv]
theorem xq_lp_of {L : List Value} {q : Nat × Value} (h : q ∈ xq_lp L) : L[q.1]? = some q.2 ∧ xq_isl q.2 = true := by
  obtain ⟨k, -, h⟩ := List.mem_filterMap.mp h
  cases hk : L[k]? with
  | none => rw [hk] at h; cases h
  | some v =>
    rw [hk] at h
    by_cases hv : xq_isl v = true
    · simp only [hv, if_true] at h; cases h; exact ⟨hk, hv⟩
    · simp only [hv, if_false] at h; cases h
theorem xq_cat {v : Value} (h : xq_isl v = true) : v.category = 1 := by cases v <;> first | rfl | cases h
theorem xq_lv.has {ls : Array Slot} {L : List Value} (h : xq_lv ls L) : lv_has ls L.length (xq_lp L) := ⟨h.1, h.2.1, fun q hq => h.2.2 q.1 q.2 (xq_lp_of hq).1 (xq_lp_of hq).2⟩
theorem xq_lv.of {ls : Array Slot} {L : List Value} {i : Nat} {x : Value} (h : lv_has ls L.length ((i, x) :: (xq_lp L).filter (fun q => !(q.1 == i) && !(q.1 + 1 == i && q.2.category == 2)))) : xq_lv ls (L.set i x) := by
  refine ⟨by rw [List.length_set]; exact h.1, h.2.1, fun k v hk hv => ?_⟩
  by_cases hki : k = i
  · subst hki
    have h1 : k < L.length := by have := (List.getElem?_eq_some_iff.mp hk).1; rwa [List.length_set] at this
    rw [List.getElem?_set_self h1] at hk
    cases hk
    exact h.2.2 (k, x) List.mem_cons_self
  · rw [List.getElem?_set_ne (Ne.symm hki)] at hk
    refine h.2.2 (k, v) (List.mem_cons_of_mem _ (List.mem_filter.mpr ⟨xq_lp_m hk hv, ?_⟩))
    have h1 := xq_cat hv
    simp [hki, h1]
theorem xq_lv.drop {ls : Array Slot} {L : List Value} (h : xq_lv ls L) (k : Nat) : xq_lv ls (L.set k (.retAddr 0)) := by
  refine ⟨by rw [List.length_set]; exact h.1, h.2.1, fun j v hj hv => ?_⟩
  by_cases hki : k = j
  · subst hki
    have h1 : k < L.length := by have := (List.getElem?_eq_some_iff.mp hj).1; rwa [List.length_set] at this
    rw [List.getElem?_set_self h1] at hj
    cases hj; cases hv
  · rw [List.getElem?_set_ne hki] at hj
    exact h.2.2 j v hj hv
theorem xq_args_m : ∀ (As : List Value) (o k : Nat) (v : Value), (∀ w ∈ As, xq_isl w = true) → As[k]? = some v → (o + k, v) ∈ lv_args o As
  | [], _, _, _, _, h => by simp at h
  | a :: As, o, 0, v, hA, h => by simp at h; subst h; exact List.mem_cons_self
  | a :: As, o, k + 1, v, hA, h => by
    have hc := xq_cat (hA a List.mem_cons_self)
    have h1 := xq_args_m As (o + 1) k v (fun w hw => hA w (List.mem_cons_of_mem _ hw)) (by simpa using h)
    have e : o + 1 + k = o + (k + 1) := by omega
    rw [e] at h1
    refine List.mem_cons_of_mem _ ?_
    rw [if_neg (by rw [hc]; decide)]
    exact h1
theorem xq_sl_len : ∀ (As : List Value), (∀ w ∈ As, xq_isl w = true) → (lg_sl As).length = As.length
  | [], _ => rfl
  | a :: As, hA => by
    have h1 := xq_sl_len As (fun w hw => hA w (List.mem_cons_of_mem _ hw))
    have h2 := hA a List.mem_cons_self
    have h3 := xq_cat h2
    have e : lg_sl (a :: As) = .val a :: lg_sl As := by simp [lg_sl, h3]
    rw [e]; simp [h1]
theorem xq_lv_entry {As : List Value} {n : Nat} (hA : ∀ w ∈ As, xq_isl w = true) (hn : As.length ≤ n) : xq_lv ((lg_sl As ++ List.replicate (n - (lg_sl As).length) Slot.unset).toArray) (As ++ List.replicate (n - As.length) (.retAddr 0)) := by
  have h := lv_entry As (n := n) (by rw [xq_sl_len As hA]; exact hn)
  refine ⟨by rw [h.1]; simp; omega, h.2.1, fun k v hk hv => ?_⟩
  by_cases hkl : k < As.length
  · rw [List.getElem?_append_left hkl] at hk
    have h1 := xq_args_m As 0 k v hA hk
    rw [Nat.zero_add] at h1
    exact h.2.2 _ h1
  · rw [List.getElem?_append_right (by omega)] at hk
    rw [List.getElem?_replicate] at hk
    split at hk
    · cases hk; cases hv
    · cases hk
