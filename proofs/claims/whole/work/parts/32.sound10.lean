/-! SOUNDNESS, 10: one step, and all -/
theorem xq_pure_len {I : xq_I} {L L' st st' : List Value} {X : xq_X} (h : xq_pure I L st X = some (L', st')) : L'.length = L.length := by
  obtain ⟨ins, len, v, p0, p1, p2, p3⟩ := I
  unfold xq_pure at h
  dsimp only [xq_p0, xq_p1, xq_v] at h
  split at h
  all_goals first
    | (cases h; done)
    | (cases h; rfl)
    | (split at h <;> first | (cases h; rfl) | (cases h; exact List.length_set) | (cases hb : Nat.blt p0 L.length <;> rw [hb] at h <;> first | (cases h; exact List.length_set) | cases h) | cases h)
    | (cases hb : Nat.beq p0 0 <;> rw [hb] at h <;> first | (cases h; rfl) | cases h)
def xq_Ex (o : xq_O) : Prop := ∀ E, o = .inr E → E = xq_IA ∨ E = xq_NS
def xq_Ok (B : Nat) (dC : Nat → ClassId) (dI : Nat → Nat → Nat) (ac : Nat → ClassId) (l : Launch) (d i pc : Nat) (L st : List Value) (X : xq_X) (r : xq_O × xq_X) : Prop := xq_St X r.2 ∧ xq_Ex r.1 ∧ xq_SW B dC dI ac l d i pc L st X r
section
variable {B : Nat} {dC : Nat → ClassId} {dI : Nat → Nat → Nat} {ac : Nat → ClassId} {l : Launch} {K : xq_KT} {C : xq_CT} {d i pc : Nat} {I : xq_I} {L st : List Value} {X : xq_X} {r : xq_O × xq_X}
/-- a row that goes on at one place, with the state as it was -/
theorem xq_go {pc' : Nat} {L' st' : List Value} (hk : xq_Ok B dC dI ac l d i pc' L' st' X r)
    (row : ∀ (p : Program) (e : Env) (R : Room) (s : State) (m : MethodId) (args : Array Value) (below : List Frame) (meth : Method) (c : Code) (X0 : xq_X), xq_Fr B dC dI ac p l R s m args meth c i d X0 → xq_St X0 X → ∀ (H : Heap) (locs : List Loc) (ls : Array Slot), xq_J B dC dI ac X s s.heap H → va_S (xq_A B) s.heap H locs → xq_lv ls L → ∀ (cells slots : Nat) (Q : State → Prop),
      (∀ ls' : Array Slot, xq_lv ls' L' → W p l e R s m args below meth c H locs cells slots Q (F0 m pc' ls' st')) → W p l e R s m args below meth c H locs cells slots Q (F0 m pc ls st)) : xq_Ok B dC dI ac l d i pc L st X r :=
  ⟨hk.1, hk.2.1, fun p e R s m args below meth c X0 hF hSt hc hs H locs ls hJ hS hl => row p e R s m args below meth c X0 hF hSt H locs ls hJ hS hl _ _ _ (fun ls' hl' => hk.2.2 p e R s m args below meth c X0 hF hSt hc hs H locs ls' hJ hS hl')⟩
/-- as xq_go, with the room that is there -/
theorem xq_gm {pc' : Nat} {L' st' : List Value} (hk : xq_Ok B dC dI ac l d i pc' L' st' X r)
    (row : ∀ (p : Program) (e : Env) (R : Room) (s : State) (m : MethodId) (args : Array Value) (below : List Frame) (meth : Method) (c : Code) (X0 : xq_X), xq_Fr B dC dI ac p l R s m args meth c i d X0 → xq_St X0 X → ∀ (H : Heap) (locs : List Loc) (ls : Array Slot), xq_J B dC dI ac X s s.heap H → va_S (xq_A B) s.heap H locs → xq_lv ls L → ∀ (cells slots : Nat) (Q : State → Prop), cells ≤ R.cells → slots ≤ R.slots →
      (∀ ls' : Array Slot, xq_lv ls' L' → W p l e R s m args below meth c H locs cells slots Q (F0 m pc' ls' st')) → W p l e R s m args below meth c H locs cells slots Q (F0 m pc ls st)) : xq_Ok B dC dI ac l d i pc L st X r :=
  ⟨hk.1, hk.2.1, fun p e R s m args below meth c X0 hF hSt hc hs H locs ls hJ hS hl => row p e R s m args below meth c X0 hF hSt H locs ls hJ hS hl _ _ _ (by have := hk.1.1; omega) (by have := hk.1.2.1; omega) (fun ls' hl' => hk.2.2 p e R s m args below meth c X0 hF hSt hc hs H locs ls' hJ hS hl')⟩
/-- a row that writes: the state behind it is Y -/
theorem xq_wr {Y : xq_X} {pc' : Nat} {st' : List Value} (hY : xq_St X Y) (h1 : Y.1 = X.1) (h2 : Y.2.1 = X.2.1) (hk : xq_Ok B dC dI ac l d i pc' L st' Y r)
    (row : ∀ (p : Program) (e : Env) (R : Room) (s : State) (m : MethodId) (args : Array Value) (below : List Frame) (meth : Method) (c : Code) (X0 : xq_X), xq_Fr B dC dI ac p l R s m args meth c i d X0 → xq_St X0 X → ∀ (H : Heap) (locs : List Loc) (ls : Array Slot), xq_J B dC dI ac X s s.heap H → va_S (xq_A B) s.heap H locs → xq_lv ls L → ∀ (cells slots : Nat) (Q : State → Prop),
      (∀ (H1 : Heap) (locs1 : List Loc), xq_J B dC dI ac Y s s.heap H1 → va_S (xq_A B) s.heap H1 locs1 → W p l e R s m args below meth c H1 locs1 cells slots Q (F0 m pc' ls st')) → W p l e R s m args below meth c H locs cells slots Q (F0 m pc ls st)) : xq_Ok B dC dI ac l d i pc L st X r := by
  refine ⟨hY.tr hk.1, hk.2.1, fun p e R s m args below meth c X0 hF hSt hc hs H locs ls hJ hS hl => row p e R s m args below meth c X0 hF hSt H locs ls hJ hS hl _ _ _ (fun H1 locs1 hJ1 hS1 => ?_)⟩
  have h9 := hk.2.2 p e R s m args below meth c X0 hF (hSt.tr hY) hc hs H1 locs1 ls hJ1 hS1 hl
  rw [h1, h2] at h9
  exact h9
/-- a row that makes nc cells of ns slots -/
theorem xq_mk {Y : xq_X} {pc' nc ns : Nat} {st' : List Value} (hY : xq_St X Y) (h1 : Y.1 = X.1 + nc) (h2 : Y.2.1 = X.2.1 + ns) (hk : xq_Ok B dC dI ac l d i pc' L st' Y r)
    (row : ∀ (p : Program) (e : Env) (R : Room) (s : State) (m : MethodId) (args : Array Value) (below : List Frame) (meth : Method) (c : Code) (X0 : xq_X), xq_Fr B dC dI ac p l R s m args meth c i d X0 → xq_St X0 X → ∀ (H : Heap) (locs : List Loc) (ls : Array Slot), xq_J B dC dI ac X s s.heap H → va_S (xq_A B) s.heap H locs → xq_lv ls L → ∀ (cells slots : Nat) (Q : State → Prop), cells + nc ≤ R.cells → slots + ns ≤ R.slots →
      (∀ H1 : Heap, xq_J B dC dI ac Y s s.heap H1 → va_S (xq_A B) s.heap H1 locs → W p l e R s m args below meth c H1 locs (cells + nc) (slots + ns) Q (F0 m pc' ls st')) → W p l e R s m args below meth c H locs cells slots Q (F0 m pc ls st)) : xq_Ok B dC dI ac l d i pc L st X r := by
  refine ⟨hY.tr hk.1, hk.2.1, fun p e R s m args below meth c X0 hF hSt hc hs H locs ls hJ hS hl => ?_⟩
  have a1 := hSt.1
  have a2 := hSt.2.1
  have a3 := hk.1.1
  have a4 := hk.1.2.1
  rw [h1] at a3
  rw [h2] at a4
  refine row p e R s m args below meth c X0 hF hSt H locs ls hJ hS hl _ _ _ (by omega) (by omega) (fun H1 hJ1 hS1 => ?_)
  have h9 := hk.2.2 p e R s m args below meth c X0 hF (hSt.tr hY) hc hs H1 locs ls hJ1 hS1 hl
  rw [h1, h2] at h9
  rw [show X.1 - X0.1 + nc = X.1 + nc - X0.1 by omega, show X.2.1 - X0.2.1 + ns = X.2.1 + ns - X0.2.1 by omega]
  exact h9
theorem xq_room_sum {l : List Value} (h : xq_room l = true) : (l.map fun v => v.category).sum ≤ 8 := Nat.le_of_ble_eq_true h
/-- behind a call with result q, in a frame that may have handlers -/
theorem xq_back (hi : i < 311) (hL : L.length = xq_loc i) {q : xq_O × xq_X} {rest : List Value} (hSt1 : xq_St X q.2) (hEx : xq_Ex q.1)
    (hv : q.1 = .inl none → xq_Ok B dC dI ac l d i (pc + 3) L rest q.2 r) (hI : ∀ x, q.1 = .inl (some (.int x)) → xq_Ok B dC dI ac l d i (pc + 3) L (.int x :: rest) q.2 r)
    (hX : ∀ E, q.1 = .inr E → (∃ n k, xq_find pc E (xq_ht i) = some (n, k) ∧ xq_Ok B dC dI ac l d i n (L.set k (.retAddr 0)) [] q.2 r) ∨ (xq_find pc E (xq_ht i) = none ∧ r = (.inr E, q.2)))
    (hO : (∀ v, q.1 = .inl v → v = none ∨ ∃ x, v = some (.int x)))
    (row : xq_St q.2 r.2 → ∀ (p : Program) (e : Env) (R : Room) (s : State) (m : MethodId) (args : Array Value) (below : List Frame) (meth : Method) (c : Code) (X0 : xq_X), xq_Fr B dC dI ac p l R s m args meth c i d X0 → xq_St X0 X → r.2.1 - X0.1 ≤ R.cells → r.2.2.1 - X0.2.1 ≤ R.slots → ∀ (H : Heap) (locs : List Loc) (ls : Array Slot), xq_J B dC dI ac X s s.heap H → va_S (xq_A B) s.heap H locs → xq_lv ls L →
      ∃ a : Array Value, vx_Run p l e R s m args below meth c H locs (X.1 - X0.1) (X.2.1 - X0.2.1) (q.2.1 - X.1) (q.2.2.1 - X.2.1) (F0 m pc ls st) rest (xq_Qc B dC dI ac q a) (xq_XC B dC dI ac q) (xq_A B)) : xq_Ok B dC dI ac l d i pc L st X r := by
  have hfin : xq_St q.2 r.2 ∧ xq_Ex r.1 := by
    obtain ⟨o, Y⟩ := q
    rcases o with v | E
    · rcases hO v rfl with rfl | ⟨x, rfl⟩
      · exact ⟨(hv rfl).1, (hv rfl).2.1⟩
      · exact ⟨(hI x rfl).1, (hI x rfl).2.1⟩
    · rcases hX E rfl with ⟨n, k, -, h⟩ | ⟨-, h⟩
      · exact ⟨h.1, h.2.1⟩
      · rw [h]; exact ⟨xq_St.rf _, hEx⟩
  refine ⟨hSt1.tr hfin.1, hfin.2, fun p e R s m args below meth c X0 hF hSt hc hs H locs ls hJ hS hl => ?_⟩
  obtain ⟨a, hrun⟩ := row hfin.1 p e R s m args below meth c X0 hF hSt hc hs H locs ls hJ hS hl
  refine xq_after hrun hJ hS hSt1 hSt (fun hq H1 locs1 hJ1 hS1 => ?_) (fun x hq H1 locs1 hJ1 hS1 => ?_) (fun E hq H1 locs1 ce q9 hJ1 hS1 h1 h2 h3 => ?_)
  · exact (hv hq).2.2 p e R s m args below meth c X0 hF (hSt.tr hSt1) hc hs H1 locs1 ls hJ1 hS1 hl
  · exact (hI x hq).2.2 p e R s m args below meth c X0 hF (hSt.tr hSt1) hc hs H1 locs1 ls hJ1 hS1 hl
  · rcases hX E hq with ⟨n, k, hf, h⟩ | ⟨hf, h⟩
    · exact xq_catch_W hF hi hl hL (hEx E hq) hf h1 h2 h3 (fun ls' hl' => h.2.2 p e R s m args below meth c X0 hF (hSt.tr hSt1) hc hs H1 locs1 ls' hJ1 hS1 hl')
    · subst h
      refine xq_out_W hF hi (hEx E hq) hf h1 h2 h3 (fun t ht _ => ⟨(), trivial, ⟨rfl, ?_⟩, ?_⟩) (fun z hz => hS1.2.2 z hz) (Nat.le_refl _) (Nat.le_refl _)
      · exact ⟨by rw [ht]; exact hJ1.1, fun b e2 hb hr => by rw [ht]; exact (hJ1.2 b e2 hb).2.1 hr⟩
      · exact ⟨by rw [ht]; exact hS1.1, fun b g1 g2 => by rw [ht]; exact hS1.2.1 b g1 g2⟩
end
