/-! SOUNDNESS, 8: contracts and calls -/
theorem xq_onok : ((List.range 18).all fun o => (Nat.beq o 13 || plainName (xq_on o)) && (decide (xq_on o ≠ "java/lang/invoke/MethodHandle") && decide (xq_on o ≠ "java/lang/invoke/VarHandle"))) = true := by decide +kernel
theorem xq_mo_all : ((List.range 311).all fun j => Nat.blt (xq_mo j) 18) = true := by decide +kernel
set_option maxRecDepth 100000 in
theorem xq_nm_all : (List.range 311).map (fun i => cond (Nat.beq (xq_kd i) 2) (xq_m i).1.name "<init>") = (List.range 311).map (fun _ => "<init>") := rfl
theorem xq_map_at {α β : Type} {f g : α → β} {l : List α} (h : l.map f = l.map g) : ∀ a ∈ l, f a = g a := List.map_inj_left.mp h
theorem xq_cls_on {j : Nat} (h : j < 311) : (xq_m j).1.cls = xq_on (xq_mo j) := xq_map_at xq_own_all j (List.mem_range.mpr h)
theorem xq_mo_lt {j : Nat} (h : j < 311) : xq_mo j < 18 := Nat.le_of_ble_eq_true (List.all_eq_true.mp xq_mo_all j (List.mem_range.mpr h))
theorem xq_pd {j : Nat} (h : j < 310) : (parseMethodDescriptor (xq_m j).1.desc).map (fun d => d.parameters.length) = some (xq_na j) := by
  rcases Nat.lt_or_ge j 100 with h1 | h1
  · exact of_decide_eq_true (List.all_eq_true.mp xq_pd0 j (List.mem_range.mpr h1))
  · rcases Nat.lt_or_ge j 200 with h2 | h2
    · have := of_decide_eq_true (List.all_eq_true.mp xq_pd1 (j - 100) (List.mem_range.mpr (by omega)))
      rwa [show j - 100 + 100 = j by omega] at this
    · rcases Nat.lt_or_ge j 300 with h3 | h3
      · have := of_decide_eq_true (List.all_eq_true.mp xq_pd2 (j - 200) (List.mem_range.mpr (by omega)))
        rwa [show j - 200 + 200 = j by omega] at this
      · have := of_decide_eq_true (List.all_eq_true.mp xq_pd3 (j - 300) (List.mem_range.mpr (by omega)))
        rwa [show j - 300 + 300 = j by omega] at this
theorem xq_plain {j : Nat} (h : j < 311) : (xq_mo j ≠ 13 → plainName (xq_m j).1.cls = true) ∧ (xq_m j).1.cls ≠ "java/lang/invoke/MethodHandle" ∧ (xq_m j).1.cls ≠ "java/lang/invoke/VarHandle" := by
  rw [xq_cls_on h]
  have h1 := List.all_eq_true.mp xq_onok _ (List.mem_range.mpr (xq_mo_lt h))
  obtain ⟨h1, h2⟩ := xq_and h1
  obtain ⟨h2, h3⟩ := xq_and h2
  refine ⟨fun h9 => ?_, of_decide_eq_true h2, of_decide_eq_true h3⟩
  rcases Bool.or_eq_true_iff.mp h1 with h8 | h8
  · exact absurd (xq_beq h8) h9
  · exact h8
/-- the word of a method's code -/
def xq_cw (j : Nat) : Cond := cond (xq_hh j).isEmpty (.code (xq_m j).1 (xq_by j) (xq_loc j) (xq_ret j)) (.codeWith (xq_m j).1 (xq_by j) (xq_loc j) (xq_ret j) (xq_hh j))
def xq_ws (j : Nat) : List Cond := xq_cw j :: xq_g
theorem xq_mokd {j : Nat} (h : j < 310) : xq_loc j ≤ 22 ∧ Cond.initialized (xq_m j).1.cls ∈ xq_g ∧ xq_cw j ∈ xq_g ∧ ((xq_hh j).isEmpty = false → xq_kd j = 0) ∧ (xq_kd j = 0 → Cond.static (xq_m j).1 ∈ xq_g) ∧ (¬ xq_kd j = 0 → Cond.instanceMethod (xq_m j).1 ∈ xq_g) ∧ (xq_kd j = 1 → Cond.selects (xq_m j).1.cls (xq_m j).1 (xq_m j).1 ∈ xq_g) ∧ xq_na j + cond (Nat.beq (xq_kd j) 0) 0 1 ≤ xq_loc j := by
  have h0 := List.all_eq_true.mp xq_moks j (List.mem_range.mpr h)
  unfold xq_mok at h0
  obtain ⟨h1, h0⟩ := xq_and h0
  obtain ⟨h2, h0⟩ := xq_and h0
  obtain ⟨h3, h0⟩ := xq_and h0
  obtain ⟨h4, h0⟩ := xq_and h0
  obtain ⟨h5, h6⟩ := xq_and h0
  refine ⟨Nat.le_of_ble_eq_true h1, ?_, ?_, ?_, ?_, ?_, ?_, Nat.le_of_ble_eq_true h6⟩
  · rw [xq_cls_on (by omega)]; exact xq_W_init _ (xq_in1_m h2)
  · unfold xq_cw
    cases hh : (xq_hh j).isEmpty with
    | true => rw [hh] at h3; exact xq_W_code _ (xq_in1_m h3)
    | false => rw [hh] at h3; exact xq_W_codeWith _ (xq_in1_m (xq_and h3).1)
  · intro hh
    rw [hh] at h3
    exact xq_beq (xq_and h3).2
  · intro hk
    rw [hk] at h4
    exact xq_W_static _ (xq_in1_m h4)
  · intro hk
    have hk : Nat.beq (xq_kd j) 0 = false := by
      cases h9 : Nat.beq (xq_kd j) 0 with
      | false => rfl
      | true => exact absurd (xq_beq h9) hk
    rw [hk] at h4
    exact xq_W_inst _ (xq_in1_m h4)
  · intro hk
    rw [hk] at h5
    exact xq_W_sel _ (xq_in1_m h5)
theorem xq_good_g : ∀ w ∈ xq_g, w ∈ xq_g ∧ ((w.onTables && w.keeps) = true ∨ ∃ ty, w = .arrayClass ty) := fun w h => ⟨h, good_of_word (List.mem_filter.mp h).2⟩
theorem xq_good_ws {j : Nat} (h : j < 310) : GoodIn xq_g (xq_ws j) := by
  intro w hw
  rcases List.mem_cons.mp hw with rfl | hw
  · exact xq_good_g _ (xq_mokd h).2.2.1
  · exact xq_good_g _ hw
def xq_rm (d : Nat) (X Y : xq_X) : Room := { frames := d + 10, cells := Y.1 - X.1, slots := Y.2.1 - X.2.1, locals := 41 * d + 500 }
def xq_Qc (B : Nat) (dC : Nat → ClassId) (dI : Nat → Nat → Nat) (ac : Nat → ClassId) (q : xq_O × xq_X) : Array Value → State → Outcome → State → Prop := match q.1 with
  | .inl (some (.int r0)) => va_Qi (fun r (_ : Unit) => r = r0) (fun _ t => xq_Pd B dC dI ac q.2 t) (xq_A B)
  | .inl none => va_Qv (fun (_ : Unit) => True) (fun _ t => xq_Pd B dC dI ac q.2 t) (xq_A B)
  | _ => fun _ _ _ _ => False
def xq_XC (B : Nat) (dC : Nat → ClassId) (dI : Nat → Nat → Nat) (ac : Nat → ClassId) (q : xq_O × xq_X) : String → State → State → Prop := vx_X (fun (_ : Unit) => True) (fun E _ t => q.1 = .inr E ∧ xq_Pd B dC dI ac q.2 t) (xq_A B)
/-- the contract of a call that the interpreter has run -/
def xq_Mt (B : Nat) (dC : Nat → ClassId) (dI : Nat → Nat → Nat) (ac : Nat → ClassId) (l : Launch) (d j : Nat) (As : List Value) (X : xq_X) (q : xq_O × xq_X) : Prop :=
  vx_Met l (xq_m j).1 (xq_ws j) (xq_rm d X q.2) (va_Pc As (fun U => xq_Wd B dC dI ac X U)) (xq_Qc B dC dI ac q) (xq_XC B dC dI ac q) (q.2.1 - X.1) (q.2.2.1 - X.2.1) (xq_A B)
/-- from pc on, a frame of method i ends with r -/
def xq_SW (B : Nat) (dC : Nat → ClassId) (dI : Nat → Nat → Nat) (ac : Nat → ClassId) (l : Launch) (d i pc : Nat) (L st : List Value) (X : xq_X) (r : xq_O × xq_X) : Prop :=
  ∀ (p : Program) (e : Env) (R : Room) (s : State) (m : MethodId) (args : Array Value) (below : List Frame) (meth : Method) (c : Code) (X0 : xq_X), xq_Fr B dC dI ac p l R s m args meth c i d X0 → xq_St X0 X → r.2.1 - X0.1 ≤ R.cells → r.2.2.1 - X0.2.1 ≤ R.slots →
  ∀ (H : Heap) (locs : List Loc) (ls : Array Slot), xq_J B dC dI ac X s s.heap H → va_S (xq_A B) s.heap H locs → xq_lv ls L →
    W p l e R s m args below meth c H locs (X.1 - X0.1) (X.2.1 - X0.2.1) (vx_MQ below (xq_Qc B dC dI ac r) (xq_XC B dC dI ac r) args s (r.2.1 - X0.1) (r.2.2.1 - X0.2.1) (xq_A B)) (F0 m pc ls st)
section
variable {B : Nat} {dC : Nat → ClassId} {dI : Nat → Nat → Nat} {ac : Nat → ClassId} {l : Launch}
theorem xq_Mt_of (hl : l.stackTraces = false) {d j : Nat} {As : List Value} {X : xq_X} {q : xq_O × xq_X} (hj : j < 310) (h13 : xq_mo j ≠ 13) (hA : ∀ v ∈ As, xq_isl v = true) (hn : As.length = xq_na j + cond (Nat.beq (xq_kd j) 0) 0 1) (h : xq_SW B dC dI ac l d j 0 (xq_entry j As) [] X q) : xq_Mt B dC dI ac l d j As X q := by
  have body : ∀ (p : Program) (e : Env) (s : State) (m : MethodId) (args : Array Value) (below : List Frame) (meth : Method) (c : Code) (s₁ : State), BodyLoose p l (xq_m j).1 (headSpec (xq_ws j) (xq_rm d X q.2)) (xq_by j) (xq_loc j) (xq_ret j) e s m args below meth c s₁ → c.maxLocals = xq_loc j → c.exceptionTable.toList = tableOf (xq_hh j) → va_Pc As (fun U => xq_Wd B dC dI ac X U) args s →
      W p l e (headSpec (xq_ws j) (xq_rm d X q.2)).room s m args below meth c s.heap [] 0 0 (vx_MQ below (xq_Qc B dC dI ac q) (xq_XC B dC dI ac q) args s (q.2.1 - X.1) (q.2.2.1 - X.2.1) (xq_A B)) (entryFrame m args (xq_loc j)) := by
    intro p e s m args below meth c s₁ Bd hml htab hP
    obtain ⟨rfl, hJ, hBX, hK, hG⟩ := hP
    have hts := atoms_spec (ws := xq_ws j) Bd.pre
    have hown : s.vm.findClass (xq_m j).1.cls = some m.cls := findClass_of_methodNamed Bd.named
    rw [xq_cls_on (by omega)] at hown
    have hname : xq_kd j = 2 → meth.name = "<init>" := fun hk => by
      have h1 := (name_of_methodNamed Bd.named Bd.method).1
      have h2 := xq_map_at xq_nm_all j (List.mem_range.mpr (by omega))
      rw [hk] at h2
      exact h1.trans h2
    have hF : xq_Fr B dC dI ac p l (headSpec (xq_ws j) (xq_rm d X q.2)).room s m As.toArray meth c j d X :=
      ⟨⟨Bd.exec, Bd.bytes, hml, Bd.returns⟩, ⟨fun w hw => hts w (List.mem_cons_of_mem _ hw), hown, Bd.notSynchronized, hname⟩, ⟨htab, hl, Nat.le_refl _, Nat.le_refl _⟩, ⟨hK, hG, by rw [hJ.1]; exact hBX, hJ.1⟩⟩
    have hle : As.length ≤ xq_loc j := by rw [hn]; exact (xq_mokd hj).2.2.2.2.2.2.2
    have h9 := h p e _ s m As.toArray below meth c X hF (xq_St.rf X) (Nat.le_refl _) (Nat.le_refl _) s.heap [] _ hJ va_S.rf (xq_lv_entry hA hle)
    rw [Nat.sub_self, Nat.sub_self] at h9
    rw [lg_entry_eq]
    exact h9
  unfold xq_Mt
  cases hh : (xq_hh j).isEmpty with
  | true =>
    refine vx_ofW (cc := xq_by j) (maxL := xq_loc j) (ret := xq_ret j) (ws' := xq_g) ((xq_plain (by omega)).1 h13) (by unfold xq_ws xq_cw; rw [hh]; rfl) ?_
    intro p e s m args below meth c s₁ Bd hml ht hP
    refine body p e s m args below meth c s₁ Bd hml ?_ hP
    rw [List.isEmpty_iff.mp hh]
    cases h9 : c.exceptionTable.toList with
    | nil => rfl
    | cons a t => exact (ht a (by rw [h9]; exact List.mem_cons_self)).elim
  | false =>
    have hw : xq_ws j = Cond.codeWith (xq_m j).1 (xq_by j) (xq_loc j) (xq_ret j) (xq_hh j) :: xq_g := by unfold xq_ws xq_cw; rw [hh]; rfl
    refine vx_ofWH (cc := xq_by j) (maxL := xq_loc j) (ret := xq_ret j) (hh := xq_hh j) (ws' := xq_g) ((xq_plain (by omega)).1 h13) hw ?_
    intro p e s m args below meth c s₁ Bd hml hP
    refine body p e s m args below meth c s₁ Bd hml ?_ hP
    exact vx_table (x := (xq_m j).1) Bd (atoms_spec (ws := xq_ws j) Bd.pre _ (by rw [hw]; exact List.mem_cons_self))
variable {p : Program} {e : Env} {R : Room} {s : State} {m : MethodId} {args : Array Value} {below : List Frame} {meth : Method} {c : Code} {H : Heap} {locs : List Loc} {cells slots : Nat} {Q : State → Prop} {i d pc : Nat} {X0 X : xq_X} {ls : Array Slot} {rest : List Value}
theorem xq_Wd_of (hF : xq_Fr B dC dI ac p l R s m args meth c i d X0) (hX : X.2.2.2 = X0.2.2.2) (hJ : xq_J B dC dI ac X s s.heap H) (hS : va_S (xq_A B) s.heap H locs) {U : State} (hU : U.heap = H) (hW : s.WarmedH U.vm) : xq_Wd B dC dI ac X U := by
  obtain ⟨-, -, -, ⟨hK, hG, hB, hN⟩⟩ := hF
  have hq : ∀ a : Nat, a < s.heap.size → ¬ xq_A B a → U.heap[a]? = s.heap[a]? := fun a h1 h2 => by rw [hU]; exact hS.2.1 a h1 h2
  refine ⟨⟨by rw [hU]; exact hJ.1, fun a e2 h => ?_⟩, by rw [← hJ.1]; exact Nat.le_trans hB hS.1, va_K.moved hW.alike hK, ?_⟩
  · obtain ⟨h1, h2, h3⟩ := hJ.2 a e2 h
    exact ⟨h1, fun h9 => by rw [hU]; exact h2 h9, fun h9 => (h3 h9).to hW.alike (by rw [hU]; exact hS.1) hq⟩
  · rw [hX]; exact hG.to hW hq
theorem xq_blind {As : List Value} : FrameBlind (va_Pc As (fun U => xq_Wd B dC dI ac X U)) := by
  intro a U g mk h
  obtain ⟨h0, hJ, hBX, hK, hG⟩ := h
  refine ⟨h0, ⟨hJ.1, fun b e2 hb => ?_⟩, hBX, va_K.moved (u := U) (U := U.calling g mk a) (Vm.Alike.refl U.vm) hK, hG.to (State.WarmedH.refl U) (fun _ _ _ => rfl)⟩
  obtain ⟨h1, h2, h3⟩ := hJ.2 b e2 hb
  exact ⟨h1, h2, fun h9 => (h3 h9).to (Vm.Alike.refl U.vm) (Nat.le_refl _) (fun _ _ _ => rfl)⟩
/-- what comes back from a callee is a state again -/
theorem xq_J_back {Y : xq_X} {t : State} {H1 : Heap} (hJ : xq_J B dC dI ac X s s.heap H) (hSt : xq_St X Y) (ht : t.heap = H1) (hP : xq_Pd B dC dI ac Y t) : xq_J B dC dI ac Y s s.heap H1 := by
  obtain ⟨hz, hc⟩ := hP
  rw [ht] at hz hc
  refine ⟨hz, fun a e2 h => ?_⟩
  cases hr : xq_ro e2 with
  | false =>
    have h9 := hc a e2 h hr
    exact ⟨by rw [← hz]; exact h9.2.lt, fun _ => h9, fun h8 => by cases h8⟩
  | true =>
    obtain ⟨h1, h2, h3⟩ := hJ.2 a e2 (hSt.2.2.2 a e2 hr h)
    exact ⟨Nat.lt_of_lt_of_le h1 hSt.1, fun h8 => (by cases h8), fun _ => h3 hr⟩
end
