/-! SOUNDNESS, 9: branches; a call's run; a throw -/
def xq_tk (c : ClassFile.Cond) (x y : Int32) : Bool := match c with
  | .eq => decide (x = y)
  | .ne => !decide (x = y)
  | .lt => decide (x < y)
  | .ge => !decide (x < y)
  | .gt => decide (y < x)
  | .le => !decide (y < x)
theorem xq_br_eq (c : ClassFile.Cond) (x y : Int32) (t f : xq_R) : xq_br c x y t f = cond (xq_tk c x y) t f := by
  cases c <;> unfold xq_br xq_tk <;> dsimp only
  · by_cases h : x = y <;> simp [h]
  · by_cases h : x = y <;> simp [h]
  · by_cases h : x < y <;> simp [h]
  · by_cases h : x < y <;> simp [h]
  · by_cases h : y < x <;> simp [h]
  · by_cases h : y < x <;> simp [h]
section
variable {B : Nat} {dC : Nat → ClassId} {dI : Nat → Nat → Nat} {ac : Nat → ClassId} {l : Launch}
variable {p : Program} {e : Env} {R : Room} {s : State} {m : MethodId} {args : Array Value} {below : List Frame} {meth : Method} {c : Code} {H : Heap} {locs : List Loc} {cells slots : Nat} {Q : State → Prop} {i d pc : Nat} {X0 X : xq_X} {ls : Array Slot} {rest : List Value}
theorem xq_if_W (hF : xq_Fr B dC dI ac p l R s m args meth c i d X0) {cd : ClassFile.Cond} {o : Int} {tgt : Nat} (hd : decode (xq_by i) pc = .ok (.ifCond cd o, 3)) (ht : (pc : Int) + o = (tgt : Int)) {x : Int32}
    (kt : xq_tk cd x 0 = true → W p l e R s m args below meth c H locs cells slots Q (F0 m tgt ls rest)) (kf : xq_tk cd x 0 = false → W p l e R s m args below meth c H locs cells slots Q (F0 m (pc + 3) ls rest)) : W p l e R s m args below meth c H locs cells slots Q (F0 m pc ls (.int x :: rest)) := by
  obtain ⟨⟨hx, hb, hml, hr⟩, -⟩ := hF
  cases cd
  · exact lv_if_eq hx hb hd ht (fun h => kt (by simp [xq_tk, h])) (fun h => kf (by simp [xq_tk, h]))
  · exact lv_if_ne hx hb hd ht (fun h => kt (by simp [xq_tk, h])) (fun h => kf (by simp [xq_tk, h]))
  · exact lv_if_lt hx hb hd ht (fun h => kt (by simp [xq_tk, h])) (fun h => kf (by simp [xq_tk, h]))
  · exact lv_if_ge hx hb hd ht (fun h => kt (by simp [xq_tk, Int32.not_lt.mpr h])) (fun h => kf (by simp [xq_tk, Int32.not_le.mp h]))
  · exact lv_if_gt hx hb hd ht (fun h => kt (by simp [xq_tk, h])) (fun h => kf (by simp [xq_tk, h]))
  · exact lv_if_le hx hb hd ht (fun h => kt (by simp [xq_tk, Int32.not_lt.mpr h])) (fun h => kf (by simp [xq_tk, Int32.not_le.mp h]))
theorem xq_icmp_W (hF : xq_Fr B dC dI ac p l R s m args meth c i d X0) {cd : ClassFile.Cond} {o : Int} {tgt : Nat} (hd : decode (xq_by i) pc = .ok (.if_icmp cd o, 3)) (ht : (pc : Int) + o = (tgt : Int)) {x y : Int32}
    (kt : xq_tk cd x y = true → W p l e R s m args below meth c H locs cells slots Q (F0 m tgt ls rest)) (kf : xq_tk cd x y = false → W p l e R s m args below meth c H locs cells slots Q (F0 m (pc + 3) ls rest)) : W p l e R s m args below meth c H locs cells slots Q (F0 m pc ls (.int y :: .int x :: rest)) := by
  obtain ⟨⟨hx, hb, hml, hr⟩, -⟩ := hF
  cases cd
  · exact lv_icmp_eq hx hb hd ht (fun h => kt (by simp [xq_tk, h])) (fun h => kf (by simp [xq_tk, h]))
  · exact lv_icmp_ne hx hb hd ht (fun h => kt (by simp [xq_tk, h])) (fun h => kf (by simp [xq_tk, h]))
  · exact lv_icmp_lt hx hb hd ht (fun h => kt (by simp [xq_tk, h])) (fun h => kf (by simp [xq_tk, h]))
  · exact lv_icmp_ge hx hb hd ht (fun h => kt (by simp [xq_tk, Int32.not_lt.mpr h])) (fun h => kf (by simp [xq_tk, Int32.not_le.mp h]))
  · exact lv_icmp_gt hx hb hd ht (fun h => kt (by simp [xq_tk, h])) (fun h => kf (by simp [xq_tk, h]))
  · exact lv_icmp_le hx hb hd ht (fun h => kt (by simp [xq_tk, Int32.not_lt.mpr h])) (fun h => kf (by simp [xq_tk, Int32.not_le.mp h]))
/-- behind a call -/
theorem xq_after {q : xq_O × xq_X} {a : Array Value} {st0 : List Value} (hr : vx_Run p l e R s m args below meth c H locs (X.1 - X0.1) (X.2.1 - X0.2.1) (q.2.1 - X.1) (q.2.2.1 - X.2.1) (F0 m pc ls st0) rest (xq_Qc B dC dI ac q a) (xq_XC B dC dI ac q) (xq_A B)) (hJ : xq_J B dC dI ac X s s.heap H) (hS : va_S (xq_A B) s.heap H locs) (hSt : xq_St X q.2) (hX0 : xq_St X0 X)
    (kv : q.1 = .inl none → ∀ (H1 : Heap) (locs1 : List Loc), xq_J B dC dI ac q.2 s s.heap H1 → va_S (xq_A B) s.heap H1 locs1 → W p l e R s m args below meth c H1 locs1 (q.2.1 - X0.1) (q.2.2.1 - X0.2.1) Q (F0 m (pc + 3) ls rest))
    (ki : ∀ x, q.1 = .inl (some (.int x)) → ∀ (H1 : Heap) (locs1 : List Loc), xq_J B dC dI ac q.2 s s.heap H1 → va_S (xq_A B) s.heap H1 locs1 → W p l e R s m args below meth c H1 locs1 (q.2.1 - X0.1) (q.2.2.1 - X0.2.1) Q (F0 m (pc + 3) ls (.int x :: rest)))
    (kx : ∀ E, q.1 = .inr E → ∀ (H1 : Heap) (locs1 : List Loc) (ce : Cell) (q9 : Addr), xq_J B dC dI ac q.2 s s.heap H1 → va_S (xq_A B) s.heap H1 locs1 → H1[q9]? = some ce → ce.vm = .none → s.vm.findClass E = some ce.cls → vx_W p l e R s m args below meth c H1 locs1 (q.2.1 - X0.1) (q.2.2.1 - X0.2.1) Q (F0 m pc ls rest) q9) :
    W p l e R s m args below meth c H locs (X.1 - X0.1) (X.2.1 - X0.2.1) Q (F0 m pc ls st0) := by
  have e1 : X.1 - X0.1 + (q.2.1 - X.1) = q.2.1 - X0.1 := by have := hSt.1; have := hX0.1; omega
  have e2 : X.2.1 - X0.2.1 + (q.2.2.1 - X.2.1) = q.2.2.1 - X0.2.1 := by have := hSt.2.1; have := hX0.2.1; omega
  unfold vx_Run at hr
  rw [e1, e2] at hr
  intro T hT Xs
  rcases hr T hT Xs with ⟨v, st₀, t, T', L, h0, X', hL, g1, g2, hq, st⟩ | ⟨q9, st₀, t, T', L, E, ce, h0, X', hL, g1, g2, ⟨u, -, ⟨hE, hP⟩, hF⟩, hce, hcv, hcl, st⟩
  · obtain ⟨o, Y⟩ := q
    dsimp only at hSt kv ki
    rcases o with v0 | E
    · cases v0 with
      | none =>
        obtain ⟨⟨u, hv, -, hP⟩, hF⟩ := hq
        cases hv
        obtain ⟨-, -, k3⟩ := vx_keep h0 g1 hS (fun _ _ h => h) (fun _ h => h) hL hF
        obtain ⟨t2, a1, b1⟩ := kv rfl T'.heap (locs ++ L) (xq_J_back hJ hSt g1.symm hP) k3 T' rfl X'
        exact ⟨t2, st t2 a1, b1⟩
      | some v0 =>
        cases v0 with
        | int x =>
          obtain ⟨⟨r, u, hv, hr, hP⟩, hF⟩ := hq
          cases hv
          subst hr
          obtain ⟨-, -, k3⟩ := vx_keep h0 g1 hS (fun _ _ h => h) (fun _ h => h) hL hF
          obtain ⟨t2, a1, b1⟩ := ki r rfl T'.heap (locs ++ L) (xq_J_back hJ hSt g1.symm hP) k3 T' rfl X'
          exact ⟨t2, st t2 a1, b1⟩
        | _ => exact hq.elim
    · exact hq.elim
  · obtain ⟨-, -, k3⟩ := vx_keep h0 g1 hS (fun _ _ h => h) (fun _ h => h) hL hF
    obtain ⟨t2, a1, b1⟩ := kx E hE T'.heap (locs ++ L) ce q9 (xq_J_back hJ hSt g1.symm hP) k3 (by rw [g1]; exact hce) hcv hcl T' rfl X'
    exact ⟨t2, st.trans a1, b1⟩
set_option maxRecDepth 100000 in
theorem xq_callB {j k : Nat} {q : xq_O × xq_X} {d' : Nat} (hF : xq_Fr B dC dI ac p l R s m args meth c i (d' + 1) X0) (hj : j < 310) (hh : (xq_hh j).isEmpty = true) (hlk : xq_in3 xq_L_ml (xq_mo i) k j = true) : CallB R s args (xq_on (xq_mo i)) k (xq_m j).1 (xq_by j) (xq_loc j) (xq_ret j) (xq_ws j) (xq_rm d' X q.2) (q.2.1 - X.1) (q.2.2.1 - X.2.1) (xq_na j) := by
  obtain ⟨-, ⟨hts, -⟩, ⟨-, -, hR1, hR2⟩, -⟩ := hF
  have h22 := (xq_mokd hj).1
  have hw : xq_ws j = Cond.code (xq_m j).1 (xq_by j) (xq_loc j) (xq_ret j) :: xq_g := by unfold xq_ws xq_cw; rw [hh]; rfl
  have hl9 : (Cond.methodLink (xq_on (xq_mo i)) k (xq_m j).1).before args s = true := hts (Cond.methodLink (xq_on (xq_mo i)) k (xq_m j).1) (xq_W_ml (xq_mo i, k, j) (xq_in3_m hlk))
  exact callB_of (ws' := xq_g) (xq_na j) hts (xq_good_ws hj) hw rfl rfl (hts _ (xq_mokd hj).2.1) hl9 ⟨(xq_plain (by omega)).2.1, (xq_plain (by omega)).2.2, xq_pd hj⟩ ⟨by show d' + 10 + 1 ≤ R.frames; omega, by show 8 + (xq_loc j + 11) + (41 * d' + 500) ≤ R.locals; omega⟩
theorem xq_recv_W (hF : xq_Fr B dC dI ac p l R s m args meth c i d X0) (hJ : xq_J B dC dI ac X s s.heap H) (hS : va_S (xq_A B) s.heap H locs) {j b ci : Nat} {fs : List Value} (hj : j < 310) (hh : xq_h X b = some (.inr (ci, fs))) (hci : (ci = 20 ∧ xq_mo j = 14) ∨ (ci < 12 ∧ xq_mo j = ci)) : ∃ cellB : Cell, H[b]? = some cellB ∧ cellB.vm.isStatics = false ∧ s.vm.findClass (xq_m j).1.cls = some cellB.cls := by
  obtain ⟨-, -, -, ⟨hK, hG, hB, hN⟩⟩ := hF
  obtain ⟨h1, h2, h3⟩ := hJ.2 _ _ hh
  rw [xq_cls_on (show j < 311 by omega)]
  rcases hci with ⟨rfl, hm⟩ | ⟨hc, hm⟩
  · obtain ⟨-, v, -, ⟨cell, g1, g2, g3, g4⟩, -⟩ := h3 rfl
    rw [hm]
    exact ⟨cell, by rw [hS.2.1 b (Array.getElem?_eq_some_iff.mp g1).1 g4]; exact g1, g2, g3⟩
  · have hro : xq_ro (.inr (ci, fs)) = false := by
      show Nat.ble 12 ci = false
      cases h9 : Nat.ble 12 ci with
      | false => rfl
      | true => have := Nat.le_of_ble_eq_true h9; omega
    obtain ⟨-, r, g1, cell, q1, q2, q3, -⟩ := h2 hro
    rw [hm, xq_on_C ci hc]
    exact ⟨cell, q1, by rw [q3]; rfl, by rw [q2]; exact (hK.1 ci _ (xq_cl ci hc)).2.1⟩
end
section
variable {B : Nat} {dC : Nat → ClassId} {dI : Nat → Nat → Nat} {ac : Nat → ClassId} {l : Launch}
variable {p : Program} {e : Env} {R : Room} {s : State} {m : MethodId} {args : Array Value} {below : List Frame} {meth : Method} {c : Code} {H : Heap} {locs : List Loc} {cells slots : Nat} {Q : State → Prop} {i d pc : Nat} {X0 X : xq_X} {ls : Array Slot} {rest : List Value}
theorem xq_hat {L : List Cond} (hF : xq_Fr B dC dI ac p l R s m args meth c i d X0) (h : (L.all (fun w => (decide (w ∈ lw_tbl) && goodWord w) || decide (w ∈ xq_xw.drop 2))) = true) (h2 : ∀ w ∈ L, vx_ot w = true) : ∀ w ∈ L, w.before args s = true := by
  obtain ⟨-, ⟨hts, -⟩, -, ⟨-, hG, -⟩⟩ := hF
  intro w hw
  rcases Bool.or_eq_true_iff.mp (List.all_eq_true.mp h w hw) with h1 | h1
  · obtain ⟨a, b⟩ := xq_and h1
    exact hts w (List.mem_filter.mpr ⟨of_decide_eq_true a, b⟩)
  · have h3 := hG.2.2.2.2.2.2.2 w (List.mem_of_mem_drop (of_decide_eq_true h1))
    have h4 : w.onTables = true := by
      have h5 := of_decide_eq_true h1
      simp only [xq_xw, List.drop_succ_cons, List.drop_zero, List.mem_cons, List.not_mem_nil, or_false] at h5
      rcases h5 with rfl | rfl | rfl | rfl | rfl <;> rfl
    exact va_any h4 h3
set_option maxHeartbeats 2000000 in
theorem xq_throw_W (hF : xq_Fr B dC dI ac p l R s m args meth c i d X0) (hX0 : xq_St X0 X) (hJ : xq_J B dC dI ac X s s.heap H) (hS : va_S (xq_A B) s.heap H locs) {L : List Value} (hl : xq_lv ls L) (hL : L.length = xq_loc i) {E : String} (hE : (i = 140 ∧ pc = 19 ∧ E = xq_NS) ∨ (i = 141 ∧ pc = 20 ∧ E = xq_IA)) (hrm : xq_room rest = true)
    (hc : X.1 + 1 - X0.1 ≤ R.cells) (hs : X.2.1 + 6 - X0.2.1 ≤ R.slots) : W p l e R s m args below meth c H locs (X.1 - X0.1) (X.2.1 - X0.2.1) (vx_MQ below (xq_Qc B dC dI ac (.inr E, (X.1 + 1, X.2.1 + 6, X.2.2))) (xq_XC B dC dI ac (.inr E, (X.1 + 1, X.2.1 + 6, X.2.2))) args s (X.1 + 1 - X0.1) (X.2.1 + 6 - X0.2.1) (xq_A B)) (F0 m pc ls rest) := by
  have hF' := hF
  obtain ⟨⟨hx, hb, hml, hr⟩, ⟨hts, hown, hlocks, hname⟩, ⟨htab, hst, hR1, hR2⟩, ⟨hK, hG, hB, hN⟩⟩ := hF
  have hrm : (rest.map fun v => v.category).sum ≤ 8 := Nat.le_of_ble_eq_true hrm
  have a1 := hX0.1
  have a2 := hX0.2.1
  have hsize : ls.size = c.maxLocals := by rw [hml, ← hL]; exact hl.1
  have hxx : ∀ t : State, s.vm.Alike t.vm → t.heap.size = H.size + 1 → (∀ q : Nat, q < H.size → t.heap[q]? = H[q]?) → xq_XC B dC dI ac (.inr E, (X.1 + 1, X.2.1 + 6, X.2.2)) E s t := fun t _ hz hq => by
    refine ⟨(), trivial, ⟨rfl, by rw [hz, hJ.1], fun a e2 h hr9 => ?_⟩, ?_⟩
    · obtain ⟨h1, h2, -⟩ := hJ.2 a e2 h
      exact ⟨(h2 hr9).1, (h2 hr9).2.kept (hq a (by rw [hJ.1]; exact h1))⟩
    · exact ⟨by rw [hz]; exact Nat.le_trans hS.1 (Nat.le_succ _), fun q h1 h2 => (hq q (Nat.lt_of_lt_of_le h1 hS.1)).trans (hS.2.1 q h1 h2)⟩
  rcases hE with ⟨rfl, rfl, rfl⟩ | ⟨rfl, rfl, rfl⟩
  · exact xq_throwSW (A := xq_A B) (own := RX10) (cls := xq_NS) (text := "no such person, pot, half or place") (names := ["java/lang/RuntimeException", "java/lang/Exception"]) (ik := 359) (is := 361) (ic := 363) (ix := 13) (rx := prog_29_method_4_code) (sa := X0.2.2.2.1 21) hx hb hst (by decide +kernel) (by decide +kernel) (by decide +kernel) (by decide +kernel) hown (by decide +kernel) (by decide +kernel) (hts _ xq_o_nsP) (hts _ xq_o_nsI) (hG.2.2.2.2.1 21 _ rfl) (xq_hat hF' xq_throw1 (fun w h => xq_throw3 w (List.mem_cons_of_mem _ (List.mem_cons_of_mem _ h)))) xq_throw3 hG.2.2.1 hG.2.2.2.1 hS hsize
      (by decide +kernel) (by decide +kernel) (by decide +kernel) (by decide +kernel) (by decide +kernel) (fun x hx9 => by rw [htab] at hx9; cases hx9) (by show 2 + 3 < R.frames; omega) (by show _ + (13 * (2 + 1) + 43) ≤ R.locals; omega) (by omega) (by omega) hlocks hxx (fun z hz => hS.2.2 z hz) (by omega) (by omega)
  · exact xq_throwSW (A := xq_A B) (own := RX10) (cls := xq_IA) (text := "none such") (names := ["java/lang/RuntimeException", "java/lang/Exception"]) (ik := 366) (is := 368) (ic := 370) (ix := 7) (rx := Bundle.six) (sa := X0.2.2.2.1 0) hx hb hst (by decide +kernel) (by decide +kernel) (by decide +kernel) (by decide +kernel) hown (by decide +kernel) (by decide +kernel) (hts _ xq_o_iaP) (hts _ xq_o_iaI) (hG.2.2.2.2.1 0 _ rfl) (xq_hat hF' xq_throw2 (fun w h => xq_throw4 w (List.mem_cons_of_mem _ (List.mem_cons_of_mem _ h)))) xq_throw4 hG.2.2.1 hG.2.2.2.1 hS hsize
      (by decide +kernel) (by decide +kernel) (by decide +kernel) (by decide +kernel) (by decide +kernel) (fun x hx9 => by rw [htab] at hx9; cases hx9) (by show 2 + 3 < R.frames; omega) (by show _ + (13 * (2 + 1) + 43) ≤ R.locals; omega) (by omega) (by omega) hlocks hxx (fun z hz => hS.2.2 z hz) (by omega) (by omega)
end
