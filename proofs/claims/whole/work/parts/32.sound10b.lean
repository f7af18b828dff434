/-! SOUNDNESS, 10b: calls in a step -/
section
variable {B : Nat} {dC : Nat → ClassId} {dI : Nat → Nat → Nat} {ac : Nat → ClassId} {l : Launch}
variable {p : Program} {e : Env} {R : Room} {s : State} {m : MethodId} {args : Array Value} {below : List Frame} {meth : Method} {c : Code} {H : Heap} {locs : List Loc} {cells slots : Nat} {Q : State → Prop} {i d pc : Nat} {X0 X : xq_X} {ls : Array Slot} {rest : List Value}
theorem xq_hhe {j : Nat} (hj : j < 310) (hkd : xq_kd j ≠ 0) : (xq_hh j).isEmpty = true := by
  cases h : (xq_hh j).isEmpty with
  | true => rfl
  | false => exact absurd ((xq_mokd hj).2.2.2.1 h) hkd
theorem xq_rowV {d' j k b ci : Nat} {fs As L : List Value} {q : xq_O × xq_X} (hF : xq_Fr B dC dI ac p l R s m args meth c i (d' + 1) X0) (hSt : xq_St X0 X) (hJ : xq_J B dC dI ac X s s.heap H) (hS : va_S (xq_A B) s.heap H locs) (hl : xq_lv ls L) (hL : L.length = xq_loc i)
    (hd : decode (xq_by i) pc = .ok (.invokevirtual k, 3)) (hj : j < 310) (hlk : xq_in3 xq_L_ml (xq_mo i) k j = true) (hkd : xq_kd j = 1) (hna : As.length = xq_na j) (hrm : xq_room rest = true) (hh : xq_h X b = some (.inr (ci, fs))) (hci : (ci = 20 ∧ xq_mo j = 14) ∨ (ci < 12 ∧ xq_mo j = ci))
    (hM : xq_Mt B dC dI ac l d' j (.ref b :: As) X q) (hq : xq_St X q.2) (hc : q.2.1 - X0.1 ≤ R.cells) (hs : q.2.2.1 - X0.2.1 ≤ R.slots) :
    vx_Run p l e R s m args below meth c H locs (X.1 - X0.1) (X.2.1 - X0.2.1) (q.2.1 - X.1) (q.2.2.1 - X.2.1) (F0 m pc ls (As.reverse ++ .ref b :: rest)) rest (xq_Qc B dC dI ac q (Value.ref b :: As).toArray) (xq_XC B dC dI ac q) (xq_A B) := by
  have hcb := xq_callB (X := X) (q := q) hF hj (xq_hhe hj (by omega)) hlk
  have hF' := hF
  obtain ⟨⟨hx, hb, hml, hr⟩, ⟨hts, hown, hlocks, hname⟩, ⟨htab, hst, hR1, hR2⟩, ⟨hK, hG, hB, hN⟩⟩ := hF
  have a1 := hSt.1
  have a2 := hSt.2.1
  have a3 := hq.1
  have a4 := hq.2.1
  exact vx_runV (C := (xq_m j).1.cls) (Ts := xq_g) (cc := xq_by i) (nL := xq_loc i) ⟨hx, hb, hml, hown, hts⟩ hM ⟨hcb, hts _ ((xq_mokd hj).2.2.2.2.2.1 (by omega)), hts _ ((xq_mokd hj).2.2.2.2.2.2.1 hkd)⟩ ⟨xq_blind, xq_recv_W hF' hJ hS hj hh hci, fun U hU hW => ⟨rfl, xq_Wd_of hF' hSt.2.2.1 hJ hS hU hW⟩⟩ rfl hna (hl.1.trans hL) rfl (by show 2 * 0 + _ ≤ 8; have := xq_room_sum hrm; omega) hd ⟨by omega, by omega⟩
set_option maxRecDepth 100000 in
theorem xq_rowS {d' j k : Nat} {As L : List Value} {q : xq_O × xq_X} (hF : xq_Fr B dC dI ac p l R s m args meth c i (d' + 1) X0) (hSt : xq_St X0 X) (hJ : xq_J B dC dI ac X s s.heap H) (hS : va_S (xq_A B) s.heap H locs) (hl : xq_lv ls L) (hL : L.length = xq_loc i)
    (hd : decode (xq_by i) pc = .ok (.invokestatic k, 3)) (hj : j < 310) (hlk : xq_in3 xq_L_ml (xq_mo i) k j = true) (hkd : xq_kd j = 0) (hna : As.length = xq_na j) (hrm : xq_room rest = true)
    (hM : xq_Mt B dC dI ac l d' j As X q) (hq : xq_St X q.2) (hc : q.2.1 - X0.1 ≤ R.cells) (hs : q.2.2.1 - X0.2.1 ≤ R.slots) :
    vx_Run p l e R s m args below meth c H locs (X.1 - X0.1) (X.2.1 - X0.2.1) (q.2.1 - X.1) (q.2.2.1 - X.2.1) (F0 m pc ls (As.reverse ++ rest)) rest (xq_Qc B dC dI ac q As.toArray) (xq_XC B dC dI ac q) (xq_A B) := by
  have hF' := hF
  obtain ⟨⟨hx, hb, hml, hr⟩, ⟨hts, hown, hlocks, hname⟩, ⟨htab, hst, hR1, hR2⟩, ⟨hK, hG, hB, hN⟩⟩ := hF
  have a1 := hSt.1
  have a2 := hSt.2.1
  have a3 := hq.1
  have a4 := hq.2.1
  have h22 := (xq_mokd hj).1
  have hstt : Cond.static (xq_m j).1 ∈ xq_g := (xq_mokd hj).2.2.2.2.1 hkd
  have hpre : PreS s H (va_Pc As (fun U => xq_Wd B dC dI ac X U)) As := ⟨xq_blind, fun U hU hW => ⟨rfl, xq_Wd_of hF' hSt.2.2.1 hJ hS hU hW⟩⟩
  cases hhe : (xq_hh j).isEmpty with
  | true =>
    have hcb := xq_callB (X := X) (q := q) hF' hj hhe hlk
    exact vx_runS (Ts := xq_g) (cc := xq_by i) (nL := xq_loc i) ⟨hx, hb, hml, hown, hts⟩ hM ⟨hcb, hts _ hstt⟩ hpre rfl hna (hl.1.trans hL) rfl (by show 2 * 0 + _ ≤ 8; have := xq_room_sum hrm; omega) hd ⟨by omega, by omega⟩
  | false =>
    have hw : xq_ws j = Cond.codeWith (xq_m j).1 (xq_by j) (xq_loc j) (xq_ret j) (xq_hh j) :: xq_g := by unfold xq_ws xq_cw; rw [hhe]; rfl
    have hgood : GoodIn xq_g (va_wsS (xq_on (xq_mo i)) k (xq_m j).1 (xq_ws j)) := fun w hw9 => by
      unfold va_wsS at hw9
      rcases List.mem_append.mp hw9 with h | h
      · refine xq_good_g w ?_
        simp only [List.mem_cons, List.not_mem_nil, or_false] at h
        rcases h with rfl | rfl | rfl
        all_goals first
          | exact hstt
          | exact (xq_mokd hj).2.1
          | exact xq_W_ml (xq_mo i, k, j) (xq_in3_m hlk)
      · exact xq_good_ws hj w h
    have hcw := vx_cwSW (R := R) (own := xq_on (xq_mo i)) (index := k) (y := (xq_m j).1) (rm := xq_rm d' X q.2) (mc := q.2.1 - X.1) (ms := q.2.2.1 - X.2.1) (xq_na j) hts hgood hw rfl rfl ⟨(xq_plain (by omega)).2.1, (xq_plain (by omega)).2.2, xq_pd hj⟩ ⟨by show d' + 10 + 1 ≤ R.frames; omega, by show 8 + (xq_loc j + 11) + (41 * d' + 500) ≤ R.locals; omega⟩
    exact vx_runSX (Ts := xq_g) (cc := xq_by i) (nL := xq_loc i) ⟨hx, hb, hml, hown, hts⟩ hM hcw hpre rfl hna (hl.1.trans hL) rfl (by show 2 * 0 + _ ≤ 8; have := xq_room_sum hrm; omega) hd ⟨by omega, by omega⟩
theorem xq_rowI {d' j k b : Nat} {As L : List Value} {q : xq_O × xq_X} (hF : xq_Fr B dC dI ac p l R s m args meth c i (d' + 1) X0) (hSt : xq_St X0 X) (hJ : xq_J B dC dI ac X s s.heap H) (hS : va_S (xq_A B) s.heap H locs) (hl : xq_lv ls L) (hL : L.length = xq_loc i)
    (hd : decode (xq_by i) pc = .ok (.invokespecial k, 3)) (hj : j < 310) (hlk : xq_in3 xq_L_ml (xq_mo i) k j = true) (hkd : xq_kd j = 2) (hre : xq_ret j = none) (hna : As.length = xq_na j) (hrm : xq_room rest = true)
    (hM : xq_Mt B dC dI ac l d' j (.ref b :: As) X q) (hq1 : q.1 = .inl none) (hq : xq_St X q.2) (hc : q.2.1 - X0.1 ≤ R.cells) (hs : q.2.2.1 - X0.2.1 ≤ R.slots) :
    vx_Run p l e R s m args below meth c H locs (X.1 - X0.1) (X.2.1 - X0.2.1) (q.2.1 - X.1) (q.2.2.1 - X.2.1) (F0 m pc ls (As.reverse ++ .ref b :: rest)) rest (xq_Qc B dC dI ac q (Value.ref b :: As).toArray) (xq_XC B dC dI ac q) (xq_A B) := by
  have hcb := xq_callB (X := X) (q := q) hF hj (xq_hhe hj (by omega)) hlk
  have hF' := hF
  obtain ⟨⟨hx, hb, hml, hr⟩, ⟨hts, hown, hlocks, hname⟩, ⟨htab, hst, hR1, hR2⟩, ⟨hK, hG, hB, hN⟩⟩ := hF
  have a1 := hSt.1
  have a2 := hSt.2.1
  have a3 := hq.1
  have a4 := hq.2.1
  have hn2 := xq_map_at xq_nm_all j (List.mem_range.mpr (by omega))
  rw [hkd] at hn2
  rw [hre] at hcb
  have hM2 : Met l (xq_m j).1 (xq_ws j) (xq_rm d' X q.2) (va_Pc (.ref b :: As) (fun U => xq_Wd B dC dI ac X U)) (xq_Qc B dC dI ac q) (q.2.1 - X.1) (q.2.2.1 - X.2.1) (xq_A B) := MetFree.mono hM (fun _ _ h => h) (fun _ _ _ _ _ h => h) (fun a st o t _ h => by
    rcases h with h | ⟨q9, -, E, ce, L9, ⟨u, -, ⟨hE, -⟩, -⟩, -⟩
    · exact h
    · rw [hq1] at hE; cases hE)
  have h9 := va_runI (p := p) (e := e) (R := R) (below := below) (meth := meth) (H := H) (locs := locs) (cells := X.1 - X0.1) (slots := X.2.1 - X0.2.1) (g := F0 m pc ls (As.reverse ++ .ref b :: rest)) (rest := rest) (b := b) (As := As) (Ts := xq_g) (cc := xq_by i) (nL := xq_loc i) ⟨hx, hb, hml, hown, hts⟩ hM2 ⟨hcb, hn2, hts _ ((xq_mokd hj).2.2.2.2.2.1 (by omega))⟩ ⟨xq_blind, fun U hU hW => ⟨rfl, xq_Wd_of hF' hSt.2.2.1 hJ hS hU hW⟩⟩ rfl hna (hl.1.trans hL) rfl (by show 2 * 0 + _ ≤ 8; have := xq_room_sum hrm; omega) hd ⟨by omega, by omega⟩
  intro T hT Xs
  exact Or.inl (h9 T hT Xs)
end
section
variable {B : Nat} {dC : Nat → ClassId} {dI : Nat → Nat → Nat} {ac : Nat → ClassId} {l : Launch} {K : xq_KT} {C : xq_CT} {d i pc : Nat} {I : xq_I} {L st : List Value} {X : xq_X} {r : xq_O × xq_X}
/-- a call's result, whatever it is -/
theorem xq_call (hi : i < 311) (hL : L.length = xq_loc i) (hK : ∀ (pc' : Nat) (L' st' : List Value) (X' : xq_X), L'.length = xq_loc i → K pc' L' st' X' = some r → xq_Ok B dC dI ac l d i pc' L' st' X' r) {res : xq_R} {rest : List Value}
    (h : xq_cV res (fun X1 => K (pc + 3) L rest X1) (xq_exc i pc L K) = some r ∨ xq_cI res (fun x X1 => K (pc + 3) L (.int x :: rest) X1) (xq_exc i pc L K) = some r)
    (hq : ∀ q, res = some q → xq_St X q.2 ∧ xq_Ex q.1 ∧ (xq_St q.2 r.2 → ∀ (p : Program) (e : Env) (R : Room) (s : State) (m : MethodId) (args : Array Value) (below : List Frame) (meth : Method) (c : Code) (X0 : xq_X), xq_Fr B dC dI ac p l R s m args meth c i d X0 → xq_St X0 X → r.2.1 - X0.1 ≤ R.cells → r.2.2.1 - X0.2.1 ≤ R.slots → ∀ (H : Heap) (locs : List Loc) (ls : Array Slot), xq_J B dC dI ac X s s.heap H → va_S (xq_A B) s.heap H locs → xq_lv ls L →
      ∃ a : Array Value, vx_Run p l e R s m args below meth c H locs (X.1 - X0.1) (X.2.1 - X0.2.1) (q.2.1 - X.1) (q.2.2.1 - X.2.1) (F0 m pc ls st) rest (xq_Qc B dC dI ac q a) (xq_XC B dC dI ac q) (xq_A B))) : xq_Ok B dC dI ac l d i pc L st X r := by
  cases res with
  | none => rcases h with h | h <;> cases h
  | some q =>
    obtain ⟨h1, h2, h3⟩ := hq q rfl
    obtain ⟨o, Y⟩ := q
    refine xq_back hi hL h1 h2 (fun ho => ?_) (fun x ho => ?_) (fun E ho => ?_) (fun v ho => ?_) h3
    · dsimp only at ho
      subst ho
      rcases h with h | h
      · exact hK _ _ _ _ hL h
      · cases h
    · dsimp only at ho
      subst ho
      rcases h with h | h
      · cases h
      · exact hK _ _ _ _ hL h
    · dsimp only at ho
      subst ho
      have h9 : xq_exc i pc L K E Y = some r := by rcases h with h | h <;> exact h
      unfold xq_exc at h9
      split at h9
      · rename_i n k hf
        exact Or.inl ⟨n, k, hf, hK _ _ _ _ (by rw [List.length_set]; exact hL) h9⟩
      · rename_i hf
        cases h9
        exact Or.inr ⟨hf, rfl⟩
    · dsimp only at ho
      subst ho
      cases v with
      | none => exact Or.inl rfl
      | some v =>
        rcases h with h | h
        · cases h
        · cases v with
          | int x => exact Or.inr ⟨x, rfl⟩
          | _ => cases h
theorem xq_take {n b : Nat} {r0 : List Value} (h : st.drop n = .ref b :: r0) : st = (st.take n).reverse.reverse ++ .ref b :: r0 ∧ (st.take n).reverse.length = n := by
  refine ⟨by rw [List.reverse_reverse, ← h, List.take_append_drop], ?_⟩
  have h1 : n < st.length := by
    apply Nat.lt_of_not_le
    intro h2
    rw [List.drop_eq_nil_of_le h2] at h
    cases h
  rw [List.length_reverse, List.length_take]
  omega
end
