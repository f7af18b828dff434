/-! SOUNDNESS, 6: handlers -/
def xq_IA : String := "java/lang/IllegalArgumentException"
def xq_NS : String := "java/util/NoSuchElementException"
def xq_row (i h n k ct : Nat) (t : String) : Bool := ((Nat.beq ct 13 && decide (t = xq_IA)) || (Nat.beq ct 30 && decide (t = xq_NS))) && (Nat.blt k (xq_loc i) && ((Nat.beq n (h + 2) && decide (decode (xq_by i) h = .ok (.astore k, 2))) || (Nat.beq n (h + 1) && (Nat.blt k 4 && decide (decode (xq_by i) h = .ok (.astore_n (Fin.ofNat 4 k), 1))))))
def xq_hz (i : Nat) : List (Nat × Nat × Nat × Nat × String) → List (Nat × Nat × Nat × Nat) → Bool
  | [], [] => true
  | (a, b, n, k, t) :: r, (a', b', h, ct) :: r' => (Nat.beq a a' && Nat.beq b b') && (xq_row i h n k ct t && xq_hz i r r')
  | _, _ => false
theorem xq_hzs : ((List.range 311).all fun i => xq_hz i (xq_ht i) (xq_hh i) && cond (xq_hh i).isEmpty true (Nat.beq (xq_mo i) 12)) = true := by decide +kernel
/-- what a row of the table says -/
def xq_hrow (i h n k ct : Nat) (t : String) : Prop := ((ct = 13 ∧ t = xq_IA) ∨ (ct = 30 ∧ t = xq_NS)) ∧ k < xq_loc i ∧ ((n = h + 2 ∧ decode (xq_by i) h = .ok (.astore k, 2)) ∨ (n = h + 1 ∧ ∃ j : Fin 4, (j : Nat) = k ∧ decode (xq_by i) h = .ok (.astore_n j, 1)))
theorem xq_row_of {i h n k ct : Nat} {t : String} (hr : xq_row i h n k ct t = true) : xq_hrow i h n k ct t := by
  obtain ⟨h1, h2⟩ := xq_and hr
  obtain ⟨h2, h3⟩ := xq_and h2
  refine ⟨?_, Nat.le_of_ble_eq_true h2, ?_⟩
  · rcases Bool.or_eq_true_iff.mp h1 with h | h
    · obtain ⟨a, b⟩ := xq_and h
      exact Or.inl ⟨xq_beq a, of_decide_eq_true b⟩
    · obtain ⟨a, b⟩ := xq_and h
      exact Or.inr ⟨xq_beq a, of_decide_eq_true b⟩
  · rcases Bool.or_eq_true_iff.mp h3 with h | h
    · obtain ⟨a, b⟩ := xq_and h
      exact Or.inl ⟨xq_beq a, of_decide_eq_true b⟩
    · obtain ⟨a, b⟩ := xq_and h
      obtain ⟨b, g⟩ := xq_and b
      have hk : k < 4 := Nat.le_of_ble_eq_true b
      exact Or.inr ⟨xq_beq a, Fin.ofNat 4 k, Nat.mod_eq_of_lt hk, of_decide_eq_true g⟩
/-- a row that doesn't take an exception of class s at pc -/
def xq_past (pc : Nat) (s : String) (z : ExceptionTableEntry) : Prop := covers z pc = false ∨ (z.catchType = 13 ∧ s ≠ xq_IA) ∨ (z.catchType = 30 ∧ s ≠ xq_NS)
theorem xq_cov {a b h ct pc : Nat} : covers ⟨a, b, h, ct⟩ pc = (Nat.ble a pc && Nat.blt pc b) := by
  unfold covers
  rw [Bool.eq_iff_iff]
  simp [Nat.ble_eq, Nat.blt_eq]
theorem xq_find_s {i pc : Nat} {s : String} {n k : Nat} : ∀ (T : List (Nat × Nat × Nat × Nat × String)) (L : List (Nat × Nat × Nat × Nat)), xq_hz i T L = true → xq_find pc s T = some (n, k) → ∃ (pre : List ExceptionTableEntry) (x : ExceptionTableEntry) (suf : List ExceptionTableEntry), tableOf L = pre ++ x :: suf ∧ (∀ z ∈ pre, xq_past pc s z) ∧ covers x pc = true ∧ xq_hrow i x.handlerPc n k x.catchType s
  | [], [], _, h => by cases h
  | [], _ :: _, h, _ => by cases h
  | (a, b, m, j, t) :: r, [], h, _ => by cases h
  | (a, b, m, j, t) :: r, (a', b', h', ct) :: r', h, hf => by
    obtain ⟨h1, h2⟩ := xq_and h
    obtain ⟨h2, h3⟩ := xq_and h2
    obtain ⟨e1, e2⟩ := xq_and h1
    cases xq_beq e1
    cases xq_beq e2
    have hrow := xq_row_of h2
    rw [xq_find] at hf
    have hcov : covers ⟨a, b, h', ct⟩ pc = (Nat.ble a pc && Nat.blt pc b) := xq_cov
    have hrec : xq_find pc s r = some (n, k) → xq_past pc s ⟨a, b, h', ct⟩ → ∃ (pre : List ExceptionTableEntry) (x : ExceptionTableEntry) (suf : List ExceptionTableEntry), tableOf ((a, b, h', ct) :: r') = pre ++ x :: suf ∧ (∀ z ∈ pre, xq_past pc s z) ∧ covers x pc = true ∧ xq_hrow i x.handlerPc n k x.catchType s := fun hf2 hp => by
      obtain ⟨pre, x, suf, g1, g2, g3, g4⟩ := xq_find_s r r' h3 hf2
      refine ⟨⟨a, b, h', ct⟩ :: pre, x, suf, ?_, fun z hz => ?_, g3, g4⟩
      · show (⟨a, b, h', ct⟩ : ExceptionTableEntry) :: tableOf r' = _
        rw [g1]; rfl
      · rcases List.mem_cons.mp hz with rfl | hz
        · exact hp
        · exact g2 z hz
    cases hc : (Nat.ble a pc && Nat.blt pc b) with
    | false =>
      rw [hc] at hf
      exact hrec hf (Or.inl (hcov.trans hc))
    | true =>
      rw [hc] at hf
      by_cases ht : t = s
      · subst ht
        simp only [cond_true, if_true] at hf
        cases hf
        exact ⟨[], ⟨a, b, h', ct⟩, tableOf r', rfl, (fun _ h => nomatch h), hcov.trans hc, hrow⟩
      · simp only [cond_true, ht, if_false] at hf
        refine hrec hf (Or.inr ?_)
        rcases hrow.1 with ⟨g1, g2⟩ | ⟨g1, g2⟩
        · exact Or.inl ⟨g1, fun h9 => ht (g2.trans h9.symm)⟩
        · exact Or.inr ⟨g1, fun h9 => ht (g2.trans h9.symm)⟩
theorem xq_find_n {i pc : Nat} {s : String} : ∀ (T : List (Nat × Nat × Nat × Nat × String)) (L : List (Nat × Nat × Nat × Nat)), xq_hz i T L = true → xq_find pc s T = none → ∀ z ∈ tableOf L, xq_past pc s z
  | [], [], _, _ => fun _ h => nomatch h
  | [], _ :: _, h, _ => by cases h
  | (a, b, m, j, t) :: r, [], h, _ => by cases h
  | (a, b, m, j, t) :: r, (a', b', h', ct) :: r', h, hf => by
    obtain ⟨h1, h2⟩ := xq_and h
    obtain ⟨h2, h3⟩ := xq_and h2
    obtain ⟨e1, e2⟩ := xq_and h1
    cases xq_beq e1
    cases xq_beq e2
    have hrow := xq_row_of h2
    rw [xq_find] at hf
    have hcov : covers ⟨a, b, h', ct⟩ pc = (Nat.ble a pc && Nat.blt pc b) := xq_cov
    intro z hz
    have hz : z ∈ (⟨a, b, h', ct⟩ : ExceptionTableEntry) :: tableOf r' := hz
    cases hc : (Nat.ble a pc && Nat.blt pc b) with
    | false =>
      rw [hc] at hf
      rcases List.mem_cons.mp hz with rfl | hz
      · exact Or.inl (hcov.trans hc)
      · exact xq_find_n r r' h3 hf z hz
    | true =>
      rw [hc] at hf
      by_cases ht : t = s
      · subst ht
        simp only [cond_true, if_true] at hf
        cases hf
      · simp only [cond_true, ht, if_false] at hf
        rcases List.mem_cons.mp hz with rfl | hz
        · refine Or.inr ?_
          rcases hrow.1 with ⟨g1, g2⟩ | ⟨g1, g2⟩
          · exact Or.inl ⟨g1, fun h9 => ht (g2.trans h9.symm)⟩
          · exact Or.inr ⟨g1, fun h9 => ht (g2.trans h9.symm)⟩
        · exact xq_find_n r r' h3 hf z hz
section
variable {B : Nat} {dC : Nat → ClassId} {dI : Nat → Nat → Nat} {ac : Nat → ClassId}
variable {p : Program} {l : Launch} {e : Env} {R : Room} {s : State} {m : MethodId} {args : Array Value} {below : List Frame} {meth : Method} {c : Code} {H : Heap} {locs : List Loc} {cells slots : Nat} {Q : State → Prop} {i d pc : Nat} {X0 X : xq_X} {ls : Array Slot} {rest : List Value}
/-- the rows past which an exception goes -/
theorem xq_past_of (hF : xq_Fr B dC dI ac p l R s m args meth c i d X0) (ho : xq_mo i = 12) {E : String} (hE : E = xq_IA ∨ E = xq_NS) {z : ExceptionTableEntry} (h : xq_past pc E z) : covers z pc = false ∨ (z.catchType ≠ 0 ∧ ∃ nm : String, (Cond.classLink RL z.catchType nm).before args s = true ∧ va_Nc E nm s) := by
  obtain ⟨-, ⟨hts, -⟩, -, ⟨-, hG, -⟩⟩ := hF
  rcases h with h | ⟨h1, h2⟩ | ⟨h1, h2⟩
  · exact Or.inl h
  · rcases hE with rfl | rfl
    · exact absurd rfl h2
    · exact Or.inr ⟨by rw [h1]; decide, xq_IA, by rw [h1]; exact hts _ xq_o_iaL, hG.2.2.2.2.2.2.1⟩
  · rcases hE with rfl | rfl
    · exact Or.inr ⟨by rw [h1]; decide, xq_NS, by rw [h1]; exact hts _ xq_o_nsL, hG.2.2.2.2.2.1⟩
    · exact absurd rfl h2
theorem xq_catch_W (hF : xq_Fr B dC dI ac p l R s m args meth c i d X0) (hi : i < 311) {L : List Value} (hl : xq_lv ls L) (hL : L.length = xq_loc i) {E : String} (hE : E = xq_IA ∨ E = xq_NS) {n k : Nat} (hf : xq_find pc E (xq_ht i) = some (n, k)) {ce : Cell} {q : Addr} (hcell : H[q]? = some ce) (hv : ce.vm = .none) (hcl : s.vm.findClass E = some ce.cls)
    (kk : ∀ ls' : Array Slot, xq_lv ls' (L.set k (.retAddr 0)) → W p l e R s m args below meth c H locs cells slots Q (F0 m n ls' [])) : vx_W p l e R s m args below meth c H locs cells slots Q (F0 m pc ls rest) q := by
  have hz := List.all_eq_true.mp xq_hzs i (List.mem_range.mpr hi)
  obtain ⟨hz, ho⟩ := xq_and hz
  obtain ⟨pre, x, suf, g1, g2, g3, g4, g5, g6⟩ := xq_find_s _ _ hz hf
  have ho : xq_mo i = 12 := by
    cases hh : (xq_hh i).isEmpty with
    | false => rw [hh] at ho; exact xq_beq ho
    | true =>
      rw [List.isEmpty_iff.mp hh] at g1
      exact absurd g1 (by cases pre <;> intro h <;> cases h)
  have hF' := hF
  obtain ⟨⟨hx, hb, hml, hr⟩, ⟨hts, hown, hlocks, hname⟩, ⟨htab, -⟩, ⟨hK, hG, hB, hN⟩⟩ := hF
  rw [ho] at hown
  have hc9 : (Cond.castable E E).before args s = true := by
    rcases hE with rfl | rfl
    · exact va_any rfl (hG.2.2.2.2.2.2.2 _ (by simp [xq_xw, xq_IA]))
    · exact va_any rfl (hG.2.2.2.2.2.2.2 _ (by simp [xq_xw, xq_NS]))
  have hlk : (Cond.classLink RL x.catchType E).before args s = true := by
    rcases g4 with ⟨h1, rfl⟩ | ⟨h1, rfl⟩
    · rw [h1]; exact hts _ xq_o_iaL
    · rw [h1]; exact hts _ xq_o_nsL
  have hc0 : x.catchType ≠ 0 := by rcases g4 with ⟨h1, -⟩ | ⟨h1, -⟩ <;> rw [h1] <;> decide
  refine vx_catch (E := E) (name := E) hown pre x suf (htab.trans g1) (fun z hz => xq_past_of hF' ho hE (g2 z hz)) g3 hc0 hlk hc9 hcell hv hcl ?_
  have hk : k < L.length := by rw [hL]; exact g5
  have fin : ∀ ls' : Array Slot, xq_lv ls' (L.set k (.ref q)) → xq_lv ls' (L.set k (.retAddr 0)) := fun ls' h => by
    have h9 := h.drop k
    rw [List.set_set] at h9
    exact h9
  rcases g6 with ⟨rfl, hd⟩ | ⟨rfl, j, hj, hd⟩
  · exact lv_astore hx hb hd hl.has hk rfl (fun ls' h' => kk ls' (fin ls' (xq_lv.of h')))
  · exact lv_astore_n hx hb hd hj hl.has hk rfl (fun ls' h' => kk ls' (fin ls' (xq_lv.of h')))
theorem xq_out_W (hF : xq_Fr B dC dI ac p l R s m args meth c i d X0) (hi : i < 311) {E : String} (hE : E = xq_IA ∨ E = xq_NS) (hf : xq_find pc E (xq_ht i) = none) {ce : Cell} {q : Addr} (hcell : H[q]? = some ce) (hv : ce.vm = .none) (hcl : s.vm.findClass E = some ce.cls) {Qc : Array Value → State → Outcome → State → Prop} {XC : String → State → State → Prop} {mc ms : Nat} {free : Addr → Prop}
    (hx : ∀ t : State, t.heap = H → s.vm.Alike t.vm → XC E s t) (hfr : ∀ z ∈ locs, free z.base) (hc : cells ≤ mc) (hs : slots ≤ ms) : vx_W p l e R s m args below meth c H locs cells slots (vx_MQ below Qc XC args s mc ms free) (F0 m pc ls rest) q := by
  have hz := List.all_eq_true.mp xq_hzs i (List.mem_range.mpr hi)
  obtain ⟨hz, ho⟩ := xq_and hz
  have h9 := xq_find_n _ _ hz hf
  have hF' := hF
  obtain ⟨⟨-, hb, hml, hr⟩, ⟨hts, hown, hlocks, hname⟩, ⟨htab, -⟩, ⟨hK, hG, hB, hN⟩⟩ := hF
  cases hh : (xq_hh i).isEmpty with
  | true =>
    refine vx_out (E := E) (fun x hx9 => ?_) hlocks hcell hv hcl hx hfr hc hs
    rw [htab, List.isEmpty_iff.mp hh] at hx9
    cases hx9
  | false =>
    rw [hh] at ho
    have ho := xq_beq ho
    rw [ho] at hown
    exact vx_outP (E := E) hown hlocks (fun z hz9 => xq_past_of hF' ho hE (h9 z (by rw [htab] at hz9; exact hz9))) hcell hv hcl hx hfr hc hs
end
