/-! SOUNDNESS, 5: new int[n][m], arraycopy, static fields -/
section
variable {B : Nat} {dC : Nat → ClassId} {dI : Nat → Nat → Nat} {ac : Nat → ClassId}
variable {p : Program} {l : Launch} {e : Env} {R : Room} {s : State} {m : MethodId} {args : Array Value} {below : List Frame} {meth : Method} {c : Code} {H : Heap} {locs : List Loc} {cells slots : Nat} {Q : State → Prop} {i d pc : Nat} {X0 X : xq_X} {ls : Array Slot} {rest : List Value}
theorem xq_J.grid {n m : Nat} {H0 H1 : Heap} (hJ : xq_J B dC dI ac X s H0 H) (hB : B ≤ H.size) (hz : H1.size = H.size + 1 + n) (ho : ∀ q : Nat, q < H.size → H1[q]? = H[q]?)
    (h0 : H1[H.size]? = some (vp_cell (ac 2) (n, .inr (.inr (.inr (.inr (fun j => if j < n then some (H.size + 1 + j) else none))))))) (hr : ∀ j : Nat, j < n → H1[H.size + 1 + j]? = some (vp_cell (ac 0) (m, .inl (fun _ => 0)))) : xq_J B dC dI ac (xq_grid X n m) s H0 H1 := by
  have hX := hJ.1
  refine ⟨by rw [hz, hX]; rfl, fun b e2 h => ?_⟩
  unfold xq_h xq_grid at h
  dsimp only at h
  split at h
  · rename_i hb
    cases h
    subst hb
    refine ⟨by show X.1 < X.1 + 1 + n; omega, fun _ => ⟨by omega, ?_⟩, fun h9 => by cases h9⟩
    rw [← hX]
    exact h0
  · split at h
    · rename_i hb hb2
      cases h
      refine ⟨by show b < X.1 + 1 + n; omega, fun _ => ⟨by omega, ?_⟩, fun h9 => by cases h9⟩
      have h9 := hr (b - (H.size + 1)) (by omega)
      rw [show H.size + 1 + (b - (H.size + 1)) = b by omega] at h9
      exact h9
    · obtain ⟨h1, h2, h3⟩ := hJ.2 b e2 h
      exact ⟨by show b < X.1 + 1 + n; omega, fun h9 => ⟨(h2 h9).1, (h2 h9).2.kept (ho b (by omega))⟩, h3⟩
theorem xq_mna_W (hF : xq_Fr B dC dI ac p l R s m args meth c i d X0) (hJ : xq_J B dC dI ac X s s.heap H) (hS : va_S (xq_A B) s.heap H locs) (hd : decode (xq_by i) pc = .ok (.multianewarray 38 2, 4)) (ho : xq_mo i = 11) {n k : Int32} (hn : ¬ ((n < 0 ∨ 1000000 < n.toNatClampNeg) ∨ (k < 0 ∨ 1000000 < k.toNatClampNeg))) (hc : cells + (1 + n.toNatClampNeg) ≤ R.cells) (hs : slots + (n.toNatClampNeg + n.toNatClampNeg * k.toNatClampNeg) ≤ R.slots)
    (kk : ∀ H1 : Heap, xq_J B dC dI ac (xq_grid X n.toNatClampNeg k.toNatClampNeg) s s.heap H1 → va_S (xq_A B) s.heap H1 locs → W p l e R s m args below meth c H1 locs (cells + 1 + n.toNatClampNeg) (slots + n.toNatClampNeg + n.toNatClampNeg * k.toNatClampNeg) Q (F0 m (pc + 4) ls (.ref X.1 :: rest))) : W p l e R s m args below meth c H locs cells slots Q (F0 m pc ls (.int k :: .int n :: rest)) := by
  obtain ⟨⟨hx, hb, hml, hr⟩, ⟨hts, hown, hlocks, hname⟩, -, ⟨hK, hG, hB, hN⟩⟩ := hF
  have hn0 : ¬ n < 0 := fun h => hn (Or.inl (Or.inl h))
  have hn1 : n.toNatClampNeg ≤ 1000000 := Nat.not_lt.mp fun h => hn (Or.inl (Or.inr h))
  have hk0 : ¬ k < 0 := fun h => hn (Or.inr (Or.inl h))
  have hk1 : k.toNatClampNeg ≤ 1000000 := Nat.not_lt.mp fun h => hn (Or.inr (Or.inr h))
  rw [ho] at hown
  intro T hT Xs
  obtain ⟨vm₁, cA, comp, -, fA, fC, hO, -, X', step⟩ := Xs.multianewarray2F hx hown (hts _ xq_o_grid) (va_AOA.use (hG.2.2.2.2.2.2.2 _ (by simp [xq_xw]))) (hts _ xq_o_aI) (g := F0 m pc ls (.int k :: .int n :: rest)) rfl (by rw [hb]; exact hd) rfl hn0 hk0 (by omega) (by show k.toNatClampNeg * 4 ≤ _; omega) (by omega) rfl rfl hc hs
  have ec : comp = ac 0 := Option.some.inj (fC.symm.trans (hK.2 0 (ac 0, .int) rfl).2)
  have eA : cA = ac 2 := Option.some.inj (fA.symm.trans (hK.2 2 (ac 2, .array .int) rfl).2)
  subst ec
  subst eA
  generalize hF : Jvm.Free.Multi.fill (T.setVm vm₁) (ac 2) (ac 0) n.toNatClampNeg k.toNatClampNeg (defaultValue .int) n.toNatClampNeg = F at X' step
  have hTh : (T.setVm vm₁).heap = H := hT
  obtain ⟨f1, f2, -, -⟩ := Jvm.Free.Multi.fill_facts (T.setVm vm₁) (ac 2) (ac 0) n.toNatClampNeg k.toNatClampNeg (defaultValue .int) n.toNatClampNeg
  rw [hF, hTh] at f1 f2
  have hold : ∀ x : Nat, x < H.size → F.heap[x]? = H[x]? := fun x hx => by
    have := Jvm.Free.Multi.fill_old (T.setVm vm₁) (ac 2) (ac 0) n.toNatClampNeg k.toNatClampNeg (defaultValue .int) (a := x) (by rw [hTh]; exact hx) n.toNatClampNeg
    rw [hF, hTh] at this
    exact this
  have hrow : ∀ j : Nat, j < n.toNatClampNeg → F.heap[H.size + 1 + j]? = some (vp_cell (ac 0) (k.toNatClampNeg, .inl (fun _ => 0))) := fun j hj => by
    have := Jvm.Free.Multi.fill_inner (T.setVm vm₁) (ac 2) (ac 0) n.toNatClampNeg k.toNatClampNeg (defaultValue .int) n.toNatClampNeg j hj
    rw [hF, hTh] at this
    rw [this, vp_cell_i]
    exact congrArg some (arrV_new _ _ _)
  rw [vr_outer, ← vp_cell_q] at f2
  obtain ⟨t, a1, b1⟩ := kk F.heap (hJ.grid (Nat.le_trans hB hS.1) f1 hold f2 hrow) (xq_S_grow hS (by omega) hold) F rfl X'
  refine ⟨t, step t ?_, b1⟩
  have e9 : T.heap.size = X.1 := by rw [hT]; exact hJ.1
  rw [e9]
  exact a1
theorem xq_cpy_W (hF : xq_Fr B dC dI ac p l R s m args meth c i d X0) (hJ : xq_J B dC dI ac X s s.heap H) (hS : va_S (xq_A B) s.heap H locs) {L : List Value} (hl : xq_lv ls L) (hL : L.length = xq_loc i) {k : Nat} (hd : decode (xq_by i) pc = .ok (.invokestatic k, 3)) (hlk : xq_in2 xq_L_al (xq_mo i) k = true) (hrm : xq_room rest = true) {a b n0 n1 : Nat} {f g : Nat → Int32} {sp dp n : Int32}
    (h0 : xq_h X a = some (.inl (0, n0, .inl f))) (h1 : xq_h X b = some (.inl (0, n1, .inl g))) (hab : a ≠ b) (hneg : ¬ (sp < 0 ∨ dp < 0 ∨ n < 0)) (h4 : sp.toNatClampNeg + n.toNatClampNeg ≤ n0) (h5 : dp.toNatClampNeg + n.toNatClampNeg ≤ n1)
    (kk : ∀ (H1 : Heap) (locs1 : List Loc), xq_J B dC dI ac (xq_set X b (.inl (0, n1, .inl (va_cpy f g sp.toNatClampNeg dp.toNatClampNeg n.toNatClampNeg)))) s s.heap H1 → va_S (xq_A B) s.heap H1 locs1 → W p l e R s m args below meth c H1 locs1 cells slots Q (F0 m (pc + 3) ls rest)) : W p l e R s m args below meth c H locs cells slots Q (F0 m pc ls (.int n :: .int dp :: .ref b :: .int sp :: .ref a :: rest)) := by
  obtain ⟨⟨hx, hb, hml, hr⟩, ⟨hts, hown, hlocks, hname⟩, ⟨-, -, hR1, hR2⟩, ⟨hK, hG, hB, hN⟩⟩ := hF
  have nn : ∀ z : Int32, ¬ z < 0 → z.toInt = (z.toNatClampNeg : Int) := fun z hz => by
    have hz0 : (0 : Int) ≤ z.toInt := by simpa using Int32.le_iff_toInt_le.mp (Int32.not_lt.mp hz)
    show z.toInt = ((z.toInt.toNat : Nat) : Int)
    omega
  have g1 : ¬ sp < 0 := fun h => hneg (Or.inl h)
  have g2 : ¬ dp < 0 := fun h => hneg (Or.inr (Or.inl h))
  have g3 : ¬ n < 0 := fun h => hneg (Or.inr (Or.inr h))
  have hc0 : H[a]? = some (vp_cell (ac 0) (n0, .inl f)) := ((hJ.2 _ _ h0).2.1 rfl).2
  obtain ⟨hBb, hc1⟩ := (hJ.2 _ _ h1).2.1 rfl
  have hc1 : H[b]? = some (vp_cell (ac 0) (n1, .inl g)) := hc1
  obtain ⟨-, k0, hk0, cm0, hkk0⟩ := (hK.2 0 (ac 0, .int) rfl).1 n0 (fun j => .int (f j))
  have hrm : (rest.map fun v => v.category).sum ≤ 8 := Nat.le_of_ble_eq_true hrm
  have hnf : nativeFrameWords "java/lang/System" "arraycopy" 5 ≤ 400 := by decide +kernel
  intro T hT Xs
  obtain ⟨vm', X', step⟩ := Xs.arraycopy hx hown (hts _ (xq_W_al _ (xq_in2_m hlk))) (hts _ xq_o_cpN) (hts _ xq_o_cpS) (hts _ xq_o_sys) (src := a) (dst := b) (cs := vp_cell (ac 0) (n0, .inl f)) (cd := vp_cell (ac 0) (n1, .inl g)) (srcPos := sp) (destPos := dp) (n := n) (by rw [hT]; exact hc0) (by rw [hT]; exact hc1)
    (fun _ h => by cases h) (fun _ h => by cases h) (fun h => by cases h) (fun h => by cases h) hk0 hk0 hkk0 hkk0 rfl g1 g2 g3
    (by rw [nn sp g1, nn n g3]; show ¬ _ > ((arrV (ac 0) n0 (fun j => .int (f j))).slots.size : Int); rw [arrV_size]; omega)
    (by rw [nn dp g2, nn n g3]; show ¬ _ > ((arrV (ac 0) n1 (fun j => .int (g j))).slots.size : Int); rw [arrV_size]; omega)
    (fun vm₁ _ i hi => by
      have e : (vp_cell (ac 0) (n0, .inl f)).slots.getD (sp.toNatClampNeg + i) .null = .int (f (sp.toNatClampNeg + i)) := by
        show (arrV (ac 0) n0 (fun j => .int (f j))).slots.getD _ _ = _
        rw [Array.getD_eq_getD_getElem?, arrV_read _ _ (by omega)]
        rfl
      exact ⟨by rw [e]; rfl, by rw [e]; exact trivial⟩)
    (g := F0 m pc ls (.int n :: .int dp :: .ref b :: .int sp :: .ref a :: rest)) rfl (by rw [hml, ← hL]; exact hl.1) (rest := rest) rfl (by rw [hb]; exact hd) (by omega) (by show 2 * 0 + _ + (nativeFrameWords "java/lang/System" "arraycopy" 5 + 11) ≤ _; omega)
  have e1 : copied (vp_cell (ac 0) (n0, .inl f)) (vp_cell (ac 0) (n1, .inl g)) sp dp n = vp_cell (ac 0) (n1, .inl (va_cpy f g sp.toNatClampNeg dp.toNatClampNeg n.toNatClampNeg)) := va_copied (fun z => .int z) (ac 0) (ac 0) f g h4
  rw [e1] at X' step
  have hlt : b < H.size := (Array.getElem?_eq_some_iff.mp hc1).1
  have hheap : ((T.setVm vm').setCell b (vp_cell (ac 0) (n1, .inl (va_cpy f g sp.toNatClampNeg dp.toNatClampNeg n.toNatClampNeg)))).heap = H.setIfInBounds b (vp_cell (ac 0) (n1, .inl (va_cpy f g sp.toNatClampNeg dp.toNatClampNeg n.toNatClampNeg))) := by rw [← hT]; rfl
  have oq : ∀ q : Nat, q ≠ b → (H.setIfInBounds b (vp_cell (ac 0) (n1, .inl (va_cpy f g sp.toNatClampNeg dp.toNatClampNeg n.toNatClampNeg))))[q]? = H[q]? := fun q hq => by simp [Array.getElem?_setIfInBounds, Ne.symm hq]
  obtain ⟨t, a1, b1⟩ := kk _ _ (hJ.set h1 rfl rfl (show (H.setIfInBounds b _)[b]? = some _ by simp [Array.getElem?_setIfInBounds, hlt]) (by simp) oq) ⟨by simp; exact hS.1, fun q u1 u2 => by
      rw [oq q (fun e => u2 (by rw [e]; exact hBb))]
      exact hS.2.1 q u1 u2, fun q hq => by
      rcases List.mem_append.mp hq with h | h
      · exact hS.2.2 q h
      · obtain ⟨z, -, hz⟩ := List.mem_map.mp h
        rw [← hz]
        exact hBb⟩ _ hheap X'
  exact ⟨t, step t a1, b1⟩
theorem xq_gets_W (hF : xq_Fr B dC dI ac p l R s m args meth c i d X0) (hS : va_S (xq_A B) s.heap H locs) (ho : xq_mo i = 14) {k : Nat} (hd : decode (xq_by i) pc = .ok (.getstatic k, 3)) {v : Value} (hv : (k = 38 ∧ v = .int 1) ∨ (k = 1053 ∧ v = va_rf X0.2.2.2.2))
    (kk : W p l e R s m args below meth c H locs cells slots Q (F0 m (pc + 3) ls (v :: rest))) : W p l e R s m args below meth c H locs cells slots Q (F0 m pc ls rest) := by
  obtain ⟨⟨hx, hb, hml, hr⟩, ⟨hts, hown, hlocks, hname⟩, -, ⟨hK, hG, hB, hN⟩⟩ := hF
  rw [ho] at hown
  rcases hv with ⟨rfl, rfl⟩ | ⟨rfl, rfl⟩
  · exact va_gets hx hb hG.1 hS hown (hts _ xq_o_cs) (fun _ h => h) hd kk
  · exact va_gets hx hb hG.2.1 hS hown (hts _ xq_o_sf) (fun _ h => h) hd kk
end
