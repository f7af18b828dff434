/-! FROM THE NAMED CELLS TO xq, 7: a step, and all -/
section
variable {adr : xr_A → Nat} {m : xr_N} {S : xr_S} {X : xq_X} {r : xr_O × xr_N × xr_S}
theorem xr_br_eq (c : ClassFile.Cond) (x y : Int32) (t f : xr_R) : xr_br c x y t f = cond (xq_tk c x y) t f := by
  cases c <;> unfold xr_br xq_tk <;> dsimp only
  · by_cases h : x = y <;> simp [h]
  · by_cases h : x = y <;> simp [h]
  · by_cases h : x < y <;> simp [h]
  · by_cases h : x < y <;> simp [h]
  · by_cases h : y < x <;> simp [h]
  · by_cases h : y < x <;> simp [h]
theorem xr_exc_ht {i pc : Nat} {L : List Value} {K : xq_KT} {E : String} {X : xq_X} (h : (xq_ht i).isEmpty = true) : xq_exc i pc L K E X = some (.inr E, X) := by
  unfold xq_exc
  rw [List.isEmpty_iff.mp h]
  rfl
/-- behind a call -/
theorem xr_cI_sim {m0 : xr_N} {res : xr_R} {res' : xq_R} {f : Int32 → xr_S → xr_R} {g : Int32 → xq_X → xq_R} {e : String → xq_X → xq_R} (h : xr_cI m0 res f = some r) (hres : ∀ q, res = some q → xr_Gd res' q adr S X) (he : ∀ E Y, e E Y = some (.inr E, Y))
    (hf : ∀ x S1 adr1 X1, f x S1 = some r → xr_Rep adr1 m0 S1 X1 → xr_Ext adr S X adr1 S1 → xr_Fm adr S X X1 → xr_Gd (g x X1) r adr1 S1 X1) : xr_Gd (xq_cI res' g e) r adr S X := by
  unfold xr_cI at h
  split at h
  · rename_i x m' S1
    obtain ⟨adr1, X1, g1, g2, g3, g4⟩ := hres _ rfl
    rw [g1]
    split at h
    · rename_i hm
      have g2 : xr_Rep adr1 m' S1 X1 := g2
      rw [hm] at g2
      exact xr_tr g3 g4 (hf x S1 adr1 X1 h g2 g3 g4)
    · cases h
  · rename_i E m' S1
    obtain ⟨adr1, X1, g1, g2, g3, g4⟩ := hres _ rfl
    rw [g1]
    split at h
    · rename_i hm
      cases h
      have g2 : xr_Rep adr1 m' S1 X1 := g2
      rw [hm] at g2
      exact ⟨adr1, X1, he E X1, g2, g3, g4⟩
    · cases h
  · cases h
theorem xr_cV_sim {m0 : xr_N} {res : xr_R} {res' : xq_R} {f : xr_S → xr_R} {g : xq_X → xq_R} {e : String → xq_X → xq_R} (h : xr_cV m0 res f = some r) (hres : ∀ q, res = some q → xr_Gd res' q adr S X) (he : ∀ E Y, e E Y = some (.inr E, Y))
    (hf : ∀ S1 adr1 X1, f S1 = some r → xr_Rep adr1 m0 S1 X1 → xr_Ext adr S X adr1 S1 → xr_Fm adr S X X1 → xr_Gd (g X1) r adr1 S1 X1) : xr_Gd (xq_cV res' g e) r adr S X := by
  unfold xr_cV at h
  split at h
  · rename_i m' S1
    obtain ⟨adr1, X1, g1, g2, g3, g4⟩ := hres _ rfl
    rw [g1]
    split at h
    · rename_i hm
      have g2 : xr_Rep adr1 m' S1 X1 := g2
      rw [hm] at g2
      exact xr_tr g3 g4 (hf S1 adr1 X1 h g2 g3 g4)
    · cases h
  · rename_i E m' S1
    obtain ⟨adr1, X1, g1, g2, g3, g4⟩ := hres _ rfl
    rw [g1]
    split at h
    · rename_i hm
      cases h
      have g2 : xr_Rep adr1 m' S1 X1 := g2
      rw [hm] at g2
      exact ⟨adr1, X1, he E X1, g2, g3, g4⟩
    · cases h
  · cases h
theorem xr_cC_sim {m0 : xr_N} {ci : Nat} {res : xr_R} {res' : xq_R} {f : xr_S → xr_R} {g : xq_X → xq_R} {e : String → xq_X → xq_R} (h : xr_cC m0 ci res f = some r) (hres : ∀ q, res = some q → xr_Gd res' q adr S X)
    (hf : ∀ S1 adr1 X1, f S1 = some r → xr_Rep adr1 m0 S1 X1 → xr_Ext adr S X adr1 S1 → xr_Fm adr S X X1 → xr_Gd (g X1) r adr1 S1 X1) : xr_Gd (xq_cV res' g e) r adr S X := by
  unfold xr_cC at h
  split at h
  · rename_i m' S1
    obtain ⟨adr1, X1, g1, g2, g3, g4⟩ := hres _ rfl
    rw [g1]
    split at h
    · rename_i hm
      have g2 : xr_Rep adr1 m' S1 X1 := g2
      rw [hm] at g2
      cases h6 : Nat.beq ci 6 with
      | false =>
        rw [h6] at h
        exact xr_tr g3 g4 (hf S1 adr1 X1 h g2 g3 g4)
      | true =>
        rw [h6] at h
        dsimp only [cond_true] at h
        cases hc : (Nat.blt 0 S1.2.2.1.1 && Nat.beq S1.2.2.1.2 10) with
        | false => rw [hc] at h; cases h
        | true =>
          rw [hc] at h
          dsimp only [cond_true] at h
          have c1 : 0 < S1.2.2.1.1 := Nat.le_of_ble_eq_true (xq_and hc).1
          have c2 := xq_beq (xq_and hc).2
          have hdom : ∀ z, xr_dom (xr_nx S1) z ↔ xr_dom (S1.2.2.1.1 + 1, 0) z := fun z => by
            have e1 : xr_nx S1 = (S1.2.2.1.1 - 1 + 1, 10) := Prod.ext (by show S1.2.2.1.1 = _; omega) c2
            rw [e1, xr_dom_close, show S1.2.2.1.1 - 1 + 2 = S1.2.2.1.1 + 1 by omega]
          have g5 := xr_Rep_dom g2 hdom
          have g6 : xr_Ext adr S X adr1 (S1.1, S1.2.1, (S1.2.2.1.1 + 1, 0), S1.2.2.2) := ⟨fun z hz => ⟨(hdom z).mp (g3.1 z hz).1, (g3.1 z hz).2⟩, fun z hz => g3.2 z ((hdom z).mpr hz)⟩
          exact xr_tr g6 g4 (hf _ adr1 X1 h g5 g6 g4)
    · cases h
  · cases h
set_option maxRecDepth 100000 in
theorem xr_narc : ∀ k, k < 256 → narrow .char (.int (Int32.ofNat k)) = .int (Int32.ofNat k) := by decide +kernel
theorem xr_nar {p : Nat} {x : Int32} (h : xr_ok p x = true) : p = 0 ∨ narrow (xq_nar p) (.int x) = .int x := by
  unfold xr_ok at h
  split at h
  · exact Or.inl rfl
  · refine Or.inr ?_
    rcases Bool.or_eq_true_iff.mp h with h | h
    · rw [of_decide_eq_true h]; decide
    · rw [of_decide_eq_true h]; decide
  · refine Or.inr ?_
    rw [of_decide_eq_true h]; decide
  · rename_i h0 h1 h2
    refine Or.inr ?_
    have h := of_decide_eq_true h
    have e : xq_nar p = .char := by unfold xq_nar; split <;> first | rfl | exact (h0 rfl).elim | exact (h1 rfl).elim | exact (h2 rfl).elim
    have e2 : x = Int32.ofNat (xk x) := by
      apply Int32.toInt_inj.mp
      rw [Int32.toInt_ofNat_of_lt (by unfold xk; omega)]
      unfold xk; omega
    rw [e, e2]
    exact xr_narc _ (by unfold xk; omega)
theorem xr_in_n {n : Int32} {N : Nat} (h : xr_in n N = true) (hN : N ≤ 1000000) : ¬ (n < 0 ∨ 1000000 < n.toNatClampNeg) := by
  obtain ⟨h1, h2, h3⟩ := xr_in_iff h
  intro h9
  rcases h9 with h9 | h9
  · exact h1 (Or.inl h9)
  · omega
theorem xr_cok_iff {sp dp n : Int32} {n0 n1 : Nat} (h : xr_cok sp dp n n0 n1 = true) : ¬ (sp < 0 ∨ dp < 0 ∨ n < 0) ∧ sp.toNatClampNeg + n.toNatClampNeg ≤ n0 ∧ dp.toNatClampNeg + n.toNatClampNeg ≤ n1 := by
  have h := of_decide_eq_true h
  have e : ∀ i : Int32, i.toNatClampNeg = i.toInt.toNat := fun _ => rfl
  refine ⟨fun h9 => ?_, ?_, ?_⟩
  · simp only [Int32.lt_iff_toInt_lt] at h9
    have : (0 : Int32).toInt = 0 := rfl
    omega
  · rw [e, e]; omega
  · rw [e, e]; omega
theorem xr_cond {c : Bool} {a : xr_R} (h : cond c a none = some r) : c = true ∧ a = some r := by
  cases c
  · cases h
  · exact ⟨rfl, h⟩
theorem xr_Rep_ex (hR : xr_Rep adr m S X) : xr_Rep adr m (xr_ex S) (X.1 + 1, X.2.1 + 6, X.2.2) := by
  obtain ⟨⟨a1, a2⟩, a3, a4, a5, a6, a7, a8⟩ := hR
  refine ⟨⟨by show X.1 + 1 = S.1 + 1; omega, by show X.2.1 + 6 = S.2.1 + 6; omega⟩, fun z hz => ?_, a4, a5, a6, a7, a8⟩
  obtain ⟨c1, e, c2, c3⟩ := a3 z hz
  exact ⟨Nat.lt_succ_of_lt c1, e, c2, xr_crel_to c3 hz a6 (fun z hz => ⟨hz, rfl⟩) (fun k => rfl) (fun _ => ⟨rfl, rfl⟩) (fun _ _ => rfl) (fun _ _ => rfl) (fun _ h => h)⟩
theorem xr_Fm.ex : xr_Fm adr S X (X.1 + 1, X.2.1 + 6, X.2.2) := ⟨fun _ _ _ => rfl, Nat.le_succ _, rfl⟩
set_option maxHeartbeats 8000000 in
theorem xr_step_sim {K : xr_KT} {C : xr_CT} {K' : xq_KT} {C' : xq_CT} {i pc : Nat} {I : xq_I} {L st : List xr_V} {L' st' : List Value}
    (hK : ∀ pc L st m S, K pc L st m S = some r → ∀ adr X L' st', xr_Rep adr m S X → xr_vs adr (xr_nx S) L L' → xr_vs adr (xr_nx S) st st' → xr_Gd (K' pc L' st' X) r adr S X)
    (hC : ∀ j As m S q, C j As m S = some q → ∀ adr X As', xr_Rep adr m S X → xr_vs adr (xr_nx S) As As' → xr_Gd (C' j As' X) q adr S X)
    (h : xr_step i pc I L st m S K C = some r) (hR : xr_Rep adr m S X) (hL : xr_vs adr (xr_nx S) L L') (hst : xr_vs adr (xr_nx S) st st') : xr_Gd (xq_step i pc I L' st' X K' C') r adr S X := by
  unfold xr_step at h
  split at h
  · rename_i rp hp
    obtain ⟨L1', st1', g1, g2, g3⟩ := xr_pure_sim (L1 := rp.1) (st1 := rp.2) hR.2.2.2.1 hp hL hst
    unfold xq_step
    rw [g1]
    exact hK _ _ _ _ _ h _ _ _ _ hR g2 g3
  · rename_i hp
    clear hp
    obtain ⟨ins, len, v, p0, p1, p2, p3⟩ := I
    dsimp only [xq_p0, xq_p1, xq_p2, xq_v] at h
    split at h
    · -- goto
      exact hK _ _ _ _ _ h _ _ _ _ hR hL hst
    · -- if
      rename_i cd o
      split at h
      · rename_i x r0
        obtain ⟨r', rfl, hr⟩ := xr_vs_int hst
        rw [xr_br_eq] at h
        show xr_Gd (xq_br cd x 0 _ _) r adr S X
        rw [xq_br_eq]
        cases ht : xq_tk cd x 0 with
        | true => rw [ht] at h; exact hK _ _ _ _ _ h _ _ _ _ hR hL hr
        | false => rw [ht] at h; exact hK _ _ _ _ _ h _ _ _ _ hR hL hr
      · cases h
    · -- if_icmp
      rename_i cd o
      split at h
      · rename_i y x r0
        obtain ⟨r1, rfl, hr1⟩ := xr_vs_int hst
        obtain ⟨r', rfl, hr⟩ := xr_vs_int hr1
        rw [xr_br_eq] at h
        show xr_Gd (xq_br cd x y _ _) r adr S X
        rw [xq_br_eq]
        cases ht : xq_tk cd x y with
        | true => rw [ht] at h; exact hK _ _ _ _ _ h _ _ _ _ hR hL hr
        | false => rw [ht] at h; exact hK _ _ _ _ _ h _ _ _ _ hR hL hr
      · cases h
    · -- ifnonnull
      rename_i o
      split at h
      · rename_i z r0
        cases h50 : Nat.beq z.2 5000 with
        | true => rw [h50] at h; cases h
        | false =>
          rw [h50] at h
          obtain ⟨r', rfl, hd, hr⟩ := xr_vs_ref (fun h9 => by rw [h9] at h50; cases h50) hst
          exact hK _ _ _ _ _ h _ _ _ _ hR hL hr
      · rename_i r0
        obtain ⟨r', rfl, hr⟩ := xr_vs_null hst
        exact hK _ _ _ _ _ h _ _ _ _ hR hL hr
      · cases h
    · -- tableswitch
      rename_i dd lo hi2 offs
      split at h
      · rename_i x r0
        obtain ⟨r', rfl, hr⟩ := xr_vs_int hst
        show xr_Gd (if x.toInt < lo ∨ hi2 < x.toInt then _ else _) r adr S X
        by_cases hx : x.toInt < lo ∨ hi2 < x.toInt
        · rw [if_pos hx] at h ⊢
          exact hK _ _ _ _ _ h _ _ _ _ hR hL hr
        · rw [if_neg hx] at h ⊢
          split at h
          · rename_i o ho
            rw [ho]
            exact hK _ _ _ _ _ h _ _ _ _ hR hL hr
          · cases h
      · cases h
    · -- idiv
      split at h
      · rename_i y x r0
        obtain ⟨r1, rfl, hr1⟩ := xr_vs_int hst
        obtain ⟨r', rfl, hr⟩ := xr_vs_int hr1
        show xr_Gd (if y = 0 then _ else _) r adr S X
        by_cases hy : y = 0
        · rw [if_pos hy] at h; cases h
        · rw [if_neg hy] at h ⊢
          exact hK _ _ _ _ _ h _ _ _ _ hR hL ⟨rfl, hr⟩
      · cases h
    · -- irem
      split at h
      · rename_i y x r0
        obtain ⟨r1, rfl, hr1⟩ := xr_vs_int hst
        obtain ⟨r', rfl, hr⟩ := xr_vs_int hr1
        show xr_Gd (if y = 0 then _ else _) r adr S X
        by_cases hy : y = 0
        · rw [if_pos hy] at h; cases h
        · rw [if_neg hy] at h ⊢
          exact hK _ _ _ _ _ h _ _ _ _ hR hL ⟨rfl, hr⟩
      · cases h
    · -- getfield
      rename_i kf
      split at h
      · rename_i b c r0
        have hk := xq_beq (xr_cond h).1
        obtain ⟨r', rfl, hd, hr⟩ := xr_vs_ref (xr_c5 hk (by omega)) hst
        exact xr_get_sim hR hd (F := fun w => K' (pc + 3) L' (w :: r') X) h (fun v w hv hw => hK _ _ _ _ _ hv _ _ _ _ hR hL ⟨hw, hr⟩)
      · cases h
    · -- putfield
      rename_i kf
      split at h
      · rename_i v0 b c r0
        have hk := xq_beq (xq_and (xr_cond h).1).2
        obtain ⟨w, r1, rfl, hvw, hr1⟩ := xr_vs_cons hst
        obtain ⟨r', rfl, hd, hr⟩ := xr_vs_ref (xr_c5 hk (by omega)) hr1
        obtain ⟨m1, S1, fl, g1, g2, g3, g4, g5, g6⟩ := xr_put_sim hR hd hvw h
        have fin : xr_Gd (xq_put X (adr (b, c)) p0 p1 w (fun X1 => K' (pc + 3) L' r' X1)) r adr S X := by
          rw [g4]
          exact xr_tr (xr_Ext.nx g2) (xr_Fm.set hd g5) (hK _ _ _ _ _ g1 _ _ _ _ g3 (by rw [g2]; exact hL) (by rw [g2]; exact hr))
        rcases g6 with ⟨x, rfl, ht⟩ | ⟨⟨x, rfl⟩, ht⟩ | ⟨rfl, ht⟩
        · show xr_Gd (cond (Nat.beq p2 0) _ none) r adr S X
          rw [ht]; exact fin
        · show xr_Gd (cond (Nat.beq p2 0) none _) r adr S X
          rw [ht]; exact fin
        · show xr_Gd (cond (Nat.beq p2 2) _ none) r adr S X
          rw [ht]; exact fin
      · cases h
    · -- getstatic
      rename_i kf
      cases h0 : Nat.beq p0 0 with
      | true =>
        rw [h0] at h
        show xr_Gd (cond (Nat.beq p0 0) _ _) r adr S X
        rw [h0]
        exact hK _ _ _ _ _ h _ _ _ _ hR hL ⟨rfl, hst⟩
      | false =>
        rw [h0] at h
        show xr_Gd (cond (Nat.beq p0 0) _ _) r adr S X
        rw [h0]
        dsimp only [cond_false]
        split
        · exact hK _ _ _ _ _ h _ _ _ _ hR hL ⟨Or.inl ⟨rfl, Or.inr ⟨_, rfl⟩⟩, hst⟩
        · exact hK _ _ _ _ _ h _ _ _ _ hR hL ⟨Or.inl ⟨rfl, Or.inl rfl⟩, hst⟩
    · -- iaload
      split at h
      · rename_i j b c r0
        obtain ⟨hk, h⟩ := xr_cond h
        obtain ⟨hin, h⟩ := xr_cond h
        have hk := xq_beq hk
        obtain ⟨r1, rfl, hr1⟩ := xr_vs_int hst
        obtain ⟨r', rfl, hd, hr⟩ := xr_vs_ref (xr_c5 hk (by omega)) hr1
        obtain ⟨i1, i2, i3⟩ := xr_in_iff hin
        have e : xq_iald X (adr (b, c)) j (fun x => K' (pc + 1) L' (.int x :: r') X) = K' (pc + 1) L' (.int (xm S b c (xk j)) :: r') X := by
          unfold xq_iald
          rw [xr_Rep_arr hR hd hk]
          dsimp only
          rw [if_pos ⟨Or.inl rfl, i1⟩, i2]
        show xr_Gd (xq_iald X (adr (b, c)) j (fun x => K' (pc + 1) L' (.int x :: r') X)) r adr S X
        rw [e]
        exact hK _ _ _ _ _ h _ _ _ _ hR hL ⟨rfl, hr⟩
      · cases h
    · -- baload
      split at h
      · rename_i j b c r0
        obtain ⟨hk, h⟩ := xr_cond h
        obtain ⟨hin, h⟩ := xr_cond h
        have hk := xq_beq hk
        obtain ⟨r1, rfl, hr1⟩ := xr_vs_int hst
        obtain ⟨r', rfl, hd, hr⟩ := xr_vs_ref (xr_c5 hk (by omega)) hr1
        obtain ⟨i1, i2, i3⟩ := xr_in_iff hin
        obtain ⟨-, e0, q1, q2⟩ := hR.2.1 _ hd
        obtain ⟨g, q3, q4⟩ := q2.2.2.2.1 hk
        have e : xq_bald X (adr (b, c)) j (fun x => K' (pc + 1) L' (.int x :: r') X) = K' (pc + 1) L' (.int (Int32.ofNat ((xr_by b).getD (xk j) 0)) :: r') X := by
          unfold xq_bald
          rw [q1, q3]
          dsimp only
          rw [if_pos ⟨rfl, i1⟩, i2, q4 _ i3]
        show xr_Gd (xq_bald X (adr (b, c)) j (fun x => K' (pc + 1) L' (.int x :: r') X)) r adr S X
        rw [e]
        exact hK _ _ _ _ _ h _ _ _ _ hR hL ⟨rfl, hr⟩
      · cases h
    · -- aaload
      split at h
      · rename_i j b c r0
        obtain ⟨hin, h⟩ := xr_cond h
        obtain ⟨r1, rfl, hr1⟩ := xr_vs_int hst
        obtain ⟨i1, i2, i3⟩ := xr_in_iff hin
        cases h2 : (Nat.beq (xr_sh b c).1 2 && (Nat.beq b 0 && Nat.blt c 1000)) with
        | true =>
          rw [h2] at h
          dsimp only [cond_true] at h
          have hk := xq_beq (xq_and h2).1
          have hb0 := xq_beq (xq_and (xq_and h2).2).1
          have hc1 : c < 1000 := Nat.le_of_ble_eq_true (xq_and (xq_and h2).2).2
          obtain ⟨r', rfl, hd, hr⟩ := xr_vs_ref (xr_c5 hk (by omega)) hr1
          obtain ⟨-, e0, q1, q2⟩ := hR.2.1 _ hd
          obtain ⟨g, q3, q4⟩ := q2.2.1 hk hb0 hc1
          have hrow : xr_dom (xr_nx S) (xk j, 1000 + c) := xr_dom_row (by rw [← hb0]; exact hd) hc1 (by rw [← hb0]; exact hk) (by rw [← hb0]; exact i3)
          have e : xq_aald X (adr (b, c)) j (fun q => K' (pc + 1) L' (.ref q :: r') X) (K' (pc + 1) L' (.null :: r') X) = K' (pc + 1) L' (.ref (adr (xk j, 1000 + c)) :: r') X := by
            unfold xq_aald
            rw [q1, q3]
            dsimp only
            rw [if_pos ⟨Or.inl rfl, i1⟩, i2, q4 _ i3]
          show xr_Gd (xq_aald X (adr (b, c)) j (fun q => K' (pc + 1) L' (.ref q :: r') X) (K' (pc + 1) L' (.null :: r') X)) r adr S X
          rw [e]
          exact hK _ _ _ _ _ h _ _ _ _ hR hL ⟨xr_vof hrow, hr⟩
        | false =>
          rw [h2] at h
          dsimp only [cond_false] at h
          obtain ⟨h3, h⟩ := xr_cond h
          have hk := xq_beq (xq_and h3).1
          have hb0 := xq_beq (xq_and (xq_and h3).2).1
          have hc0 := xq_beq (xq_and (xq_and h3).2).2
          obtain ⟨r', rfl, hd, hr⟩ := xr_vs_ref (xr_c5 hk (by omega)) hr1
          obtain ⟨-, e0, q1, q2⟩ := hR.2.1 _ hd
          obtain ⟨g, q3, q4⟩ := q2.2.2.1 hk hb0 hc0
          have e : xq_aald X (adr (b, c)) j (fun q => K' (pc + 1) L' (.ref q :: r') X) (K' (pc + 1) L' (.null :: r') X) = K' (pc + 1) L' (xr_rf adr (xr_d S 0 (xk j)) :: r') X := by
            unfold xq_aald
            rw [q1, q3]
            dsimp only
            rw [if_pos ⟨Or.inr rfl, i1⟩, i2, q4 _ i3]
            cases xr_d S 0 (xk j) <;> rfl
          show xr_Gd (xq_aald X (adr (b, c)) j (fun q => K' (pc + 1) L' (.ref q :: r') X) (K' (pc + 1) L' (.null :: r') X)) r adr S X
          rw [e]
          split at h
          · rename_i q hq
            rw [hq]
            exact hK _ _ _ _ _ h _ _ _ _ hR hL ⟨xr_vof (hR.2.2.2.2.1.2.1 0 _ q hq).2, hr⟩
          · rename_i hq
            rw [hq]
            exact hK _ _ _ _ _ h _ _ _ _ hR hL ⟨rfl, hr⟩
      · cases h
    · -- iastore
      split at h
      · rename_i x j b c r0
        obtain ⟨hk, h⟩ := xr_cond h
        obtain ⟨hin, h⟩ := xr_cond h
        have hk := xq_beq hk
        obtain ⟨r2, rfl, hr2⟩ := xr_vs_int hst
        obtain ⟨r1, rfl, hr1⟩ := xr_vs_int hr2
        obtain ⟨r', rfl, hd, hr⟩ := xr_vs_ref (xr_c5 hk (by omega)) hr1
        obtain ⟨i1, i2, i3⟩ := xr_in_iff hin
        have h2 := xr_sh_lt (S := S) hd hk
        have e : xq_iast X (adr (b, c)) j x (fun X1 => K' (pc + 1) L' r' X1) = K' (pc + 1) L' r' (xq_set X (adr (b, c)) (.inl (0, (xr_sh b c).2.1, .inl (upd (xm S b c) (xk j) x)))) := by
          unfold xq_iast
          rw [xr_Rep_arr hR hd hk]
          dsimp only
          rw [if_pos ⟨rfl, i1⟩, i2]
        show xr_Gd (xq_iast X (adr (b, c)) j x (fun X1 => K' (pc + 1) L' r' X1)) r adr S X
        rw [e]
        exact xr_tr (xr_Ext.nx rfl) (xr_Fm.set hd h2) (hK _ _ _ _ _ h _ _ _ _ (xr_Rep_iast hR hd h2 hk _ _) hL hr)
      · cases h
    · -- aastore
      split at h
      · rename_i v0 j b c r0
        obtain ⟨hk0, h1⟩ := xr_cond h
        clear h
        obtain ⟨hin, h⟩ := xr_cond h1
        clear h1
        have hk := xq_beq (xq_and hk0).1
        have hb0 := xq_beq (xq_and (xq_and hk0).2).1
        have hc0 := xq_beq (xq_and (xq_and hk0).2).2
        obtain ⟨w, r2, rfl, hvw, hr2⟩ := xr_vs_cons hst
        obtain ⟨r1, rfl, hr1⟩ := xr_vs_int hr2
        obtain ⟨r', rfl, hd, hr⟩ := xr_vs_ref (xr_c5 hk (by omega)) hr1
        obtain ⟨i1, i2, i3⟩ := xr_in_iff hin
        obtain ⟨-, e0, q1, q2⟩ := hR.2.1 _ hd
        obtain ⟨g, q3, q4⟩ := q2.2.2.1 hk hb0 hc0
        rw [hb0, hc0] at hd q1 q3 q4 i3
        have q3 : e0 = .inl (3, 3, .inr (.inr (.inr (.inr g)))) := q3
        have fin : ∀ (o : Option Nat), (∀ x, o = some x → 0 < x ∧ xr_dom (xr_nx S) (x, 0)) → xq_isS X (o.map (fun q => adr (q, 0))) = true → xq_aast X (adr (0, 34)) j (o.map (fun q => adr (q, 0))) (fun X1 => K' (pc + 1) L' r' X1) = K' (pc + 1) L' r' (xq_set X (adr (0, 34)) (.inl (3, 3, .inr (.inr (.inr (.inr (va_up g (xk j) (o.map (fun q => adr (q, 0)))))))))) := fun o ho hs => by
          unfold xq_aast
          rw [q1, q3]
          dsimp only
          rw [if_pos ⟨⟨rfl, hs⟩, by have e9 : (xr_sh b c).2.1 = 3 := by rw [hb0, hc0]; rfl
                                    rw [e9] at i1; exact i1⟩, i2]
        rw [hb0, hc0]
        split at h
        · rename_i q
          obtain ⟨c1, c2⟩ := xr_vref hvw (fun h9 => by cases h9)
          rw [c2]
          obtain ⟨fl, hc, -, -⟩ := xr_Rep_obj (ci := 6) hR c1 rfl
          have ho : ∀ x, some (q + 1) = some x → 0 < x ∧ xr_dom (xr_nx S) (x, 0) := fun x hx => by cases hx; exact ⟨Nat.succ_pos _, c1⟩
          have e := fin (some (q + 1)) ho (by show (match xq_h X (adr (q + 1, 0)) with | some (.inr (c, _)) => Nat.beq c 6 | _ => false) = true; rw [hc]; rfl)
          show xr_Gd (xq_aast X (adr (0, 34)) j (some (adr (q + 1, 0))) (fun X1 => K' (pc + 1) L' r' X1)) r adr S X
          rw [show (some (adr (q + 1, 0))) = Option.map (fun q => adr (q, 0)) (some (q + 1)) from rfl, e]
          exact xr_tr (xr_Ext.nx rfl) (xr_Fm.set hd (by decide)) (hK _ _ _ _ _ h _ _ _ _ (xr_Rep_aast hR hd i3 (some (q + 1)) ho q4) hL hr)
        · have hw : w = .null := hvw
          rw [hw]
          have ho : ∀ x, none = some x → 0 < x ∧ xr_dom (xr_nx S) (x, 0) := fun x hx => by cases hx
          have e := fin none ho rfl
          show xr_Gd (xq_aast X (adr (0, 34)) j none (fun X1 => K' (pc + 1) L' r' X1)) r adr S X
          rw [show (none : Option Nat) = Option.map (fun q => adr (q, 0)) none from rfl, e]
          exact xr_tr (xr_Ext.nx rfl) (xr_Fm.set hd (by decide)) (hK _ _ _ _ _ h _ _ _ _ (xr_Rep_aast hR hd i3 none ho q4) hL hr)
        · cases h
      · cases h
    · -- arraylength
      split at h
      · rename_i b c r0
        obtain ⟨hk0, h⟩ := xr_cond h
        have hkk : (xr_sh b c).1 = 0 ∨ (xr_sh b c).1 = 8 ∨ ((xr_sh b c).1 = 3 ∧ b = 0 ∧ c = 34) := by
          rcases Bool.or_eq_true_iff.mp hk0 with h9 | h9
          · exact Or.inl (xq_beq h9)
          · rcases Bool.or_eq_true_iff.mp h9 with h9 | h9
            · exact Or.inr (Or.inl (xq_beq h9))
            · exact Or.inr (Or.inr ⟨xq_beq (xq_and h9).1, xq_beq (xq_and (xq_and h9).2).1, xq_beq (xq_and (xq_and h9).2).2⟩)
        have hne : (b, c) ≠ ((0, 5000) : xr_A) := by
          rcases hkk with hk | hk | ⟨hk, -⟩
          · exact xr_c5 hk (by omega)
          · exact xr_c5 hk (by omega)
          · exact xr_c5 hk (by omega)
        obtain ⟨r', rfl, hd, hr⟩ := xr_vs_ref hne hst
        obtain ⟨-, e0, q1, q2⟩ := hR.2.1 _ hd
        have e : xq_alen X (adr (b, c)) (fun n => K' (pc + 1) L' (.int n :: r') X) = K' (pc + 1) L' (.int (Int32.ofNat (xr_sh b c).2.1) :: r') X := by
          unfold xq_alen
          rw [q1]
          rcases hkk with hk | hk | ⟨hk, hb, hc⟩
          · rw [q2.1 hk]
          · obtain ⟨g, q3, -⟩ := q2.2.2.2.1 hk
            rw [q3]
          · obtain ⟨g, q3, -⟩ := q2.2.2.1 hk hb hc
            rw [q3]
        show xr_Gd (xq_alen X (adr (b, c)) (fun n => K' (pc + 1) L' (.int n :: r') X)) r adr S X
        rw [e]
        exact hK _ _ _ _ _ h _ _ _ _ hR hL ⟨rfl, hr⟩
      · cases h
    · -- newarray
      rename_i t
      split at h
      · rename_i n r0
        obtain ⟨hp0, h1⟩ := xr_cond h
        clear h
        obtain ⟨hq, h⟩ := xr_cond h1
        clear h1
        have hp0 := xq_beq hp0
        obtain ⟨q1, hq⟩ := xq_and hq
        obtain ⟨q2, hq⟩ := xq_and hq
        obtain ⟨q3, q4⟩ := xq_and hq
        have q1 : S.2.2.1.2 < 1000 := Nat.le_of_ble_eq_true q1
        have q2 := xq_beq q2
        have q3 := xq_beq q3
        obtain ⟨r', rfl, hr⟩ := xr_vs_int hst
        obtain ⟨-, i2, -⟩ := xr_in_iff q4
        have e : xq_newa X 0 n (fun X1 => K' (pc + 2) L' (.ref X.1 :: r') X1) = K' (pc + 2) L' (.ref X.1 :: r') (xq_push X (xk n) (.inl (0, xk n, xq_zero 0))) := by
          unfold xq_newa
          rw [if_neg (xr_in_n q4 (by decide)), i2]
        show xr_Gd (xq_newa X p0 n (fun X1 => K' (pc + 2) L' (.ref X.1 :: r') X1)) r adr S X
        rw [hp0, e]
        have hE := xr_ad_Ext (adr := adr) (S := S) (X := X) (b := S.2.2.1.1) (c := S.2.2.1.2) (n := xk n) rfl q1 (by rw [q2]; decide)
        refine xr_tr hE xr_Fm.push (hK _ _ _ _ _ h _ _ _ _ (xr_Rep_newa hR rfl q1 q2 q3) (xr_vs_mono hE.1 hL) ⟨?_, xr_vs_mono hE.1 hr⟩)
        have h9 := xr_vof (adr := xr_ad adr (S.2.2.1.1, S.2.2.1.2) X.1) (xr_dom_new (b := S.2.2.1.1) q1)
        rw [show xr_ad adr (S.2.2.1.1, S.2.2.1.2) X.1 (S.2.2.1.1, S.2.2.1.2) = X.1 by unfold xr_ad; rw [if_pos rfl]] at h9
        exact h9
      · cases h
    · -- anewarray
      rename_i kf
      split at h
      · rename_i n r0
        obtain ⟨hq, h1⟩ := xr_cond h
        clear h
        obtain ⟨q1, hq⟩ := xq_and hq
        obtain ⟨q2, hq⟩ := xq_and hq
        obtain ⟨q3, q4⟩ := xq_and hq
        have q1 : S.2.2.1.2 < 1000 := Nat.le_of_ble_eq_true q1
        have q2 := xq_beq q2
        have q3 := xq_beq q3
        obtain ⟨r', rfl, hr⟩ := xr_vs_int hst
        obtain ⟨-, i2, -⟩ := xr_in_iff q4
        have e : xq_newa X 3 n (fun X1 => K' (pc + 3) L' (.ref X.1 :: r') X1) = K' (pc + 3) L' (.ref X.1 :: r') (xq_push X (xk n) (.inl (3, xk n, xq_zero 3))) := by
          unfold xq_newa
          rw [if_neg (xr_in_n q4 (by decide)), i2]
        show xr_Gd (xq_newa X 3 n (fun X1 => K' (pc + 3) L' (.ref X.1 :: r') X1)) r adr S X
        rw [e]
        have hE := xr_ad_Ext (adr := adr) (S := S) (X := X) (b := S.2.2.1.1) (c := S.2.2.1.2) (n := xk n) rfl q1 (by rw [q2]; decide)
        refine xr_tr hE xr_Fm.push (hK _ _ _ _ _ h1 _ _ _ _ (xr_Rep_newS hR rfl q1 q2 q3) (xr_vs_mono hE.1 hL) ⟨?_, xr_vs_mono hE.1 hr⟩)
        have h9 := xr_vof (adr := xr_ad adr (S.2.2.1.1, S.2.2.1.2) X.1) (xr_dom_new (b := S.2.2.1.1) q1)
        rw [show xr_ad adr (S.2.2.1.1, S.2.2.1.2) X.1 (S.2.2.1.1, S.2.2.1.2) = X.1 by unfold xr_ad; rw [if_pos rfl]] at h9
        exact h9
      · cases h
    · -- multianewarray
      rename_i kf nd
      split at h
      · rename_i k n r0
        obtain ⟨hq, h1⟩ := xr_cond h
        clear h
        obtain ⟨q1, hq⟩ := xq_and hq
        obtain ⟨hq, hq2⟩ := xq_and hq
        obtain ⟨q2, hq⟩ := xq_and hq
        obtain ⟨q3, hq⟩ := xq_and hq
        obtain ⟨q4, q5⟩ := xq_and hq
        obtain ⟨q6, hq2⟩ := xq_and hq2
        obtain ⟨q7, q8⟩ := xq_and hq2
        have q1 : S.2.2.1.2 < 1000 := Nat.le_of_ble_eq_true q1
        have q2 := xq_beq q2
        have q3 := xq_beq q3
        have q6 := xq_beq q6
        have q7 := xq_beq q7
        have q8 := xq_beq q8
        obtain ⟨r1, rfl, hr1⟩ := xr_vs_int hst
        obtain ⟨r', rfl, hr⟩ := xr_vs_int hr1
        obtain ⟨-, i2, -⟩ := xr_in_iff q4
        obtain ⟨-, i3, -⟩ := xr_in_iff q5
        have e : xq_mna X n k (fun X1 => K' (pc + 4) L' (.ref X.1 :: r') X1) = K' (pc + 4) L' (.ref X.1 :: r') (xq_grid X (xk n) (xk k)) := by
          unfold xq_mna
          rw [if_neg (fun h9 => by rcases h9 with h9 | h9; exact xr_in_n q4 (by decide) h9; exact xr_in_n q5 (by decide) h9), i2, i3]
        show xr_Gd (xq_mna X n k (fun X1 => K' (pc + 4) L' (.ref X.1 :: r') X1)) r adr S X
        rw [e]
        have hnx : xr_nx S = (0, S.2.2.1.2) := Prod.ext q6 rfl
        rw [q6] at q2 q3
        obtain ⟨hRg, hEg⟩ := xr_Rep_mna hR hnx q1 q2 q3 q7 q8
        have hE := xr_ag_Ext (adr := adr) (S := S) (X := X) (n := xk n) hnx q1 hEg
        refine xr_tr hE xr_Fm.grid (hK _ _ _ _ _ h1 _ _ _ _ hRg (xr_vs_mono hE.1 hL) ⟨?_, xr_vs_mono hE.1 hr⟩)
        have h9 := xr_vof (adr := xr_ag adr S.2.2.1.2 X.1) (xr_dom_new (b := 0) q1)
        rw [show xr_ag adr S.2.2.1.2 X.1 (0, S.2.2.1.2) = X.1 by unfold xr_ag; rw [if_pos rfl]] at h9
        rw [q6]
        show xr_vrel _ (S.2.2.1.1, S.2.2.1.2 + 1) _ _
        rw [q6]
        exact h9
      · cases h
    · -- new
      rename_i kf
      cases h100 : Nat.beq p0 100 with
      | true =>
        rw [h100] at h
        dsimp only [cond_true] at h
        have e := xq_beq h100
        split at h
        · cases h
          rw [xr_vs_nil hst, e]
          exact ⟨adr, _, rfl, xr_Rep_ex hR, xr_Ext.nx rfl, xr_Fm.ex⟩
        · cases h
      | false =>
        rw [h100] at h
        dsimp only [cond_false] at h
        cases h101 : Nat.beq p0 101 with
        | true =>
          rw [h101] at h
          dsimp only [cond_true] at h
          have e := xq_beq h101
          split at h
          · cases h
            rw [xr_vs_nil hst, e]
            exact ⟨adr, _, rfl, xr_Rep_ex hR, xr_Ext.nx rfl, xr_Fm.ex⟩
          · cases h
        | false =>
          rw [h101] at h
          dsimp only [cond_false] at h
          obtain ⟨hq, h1⟩ := xr_cond h
          clear h
          obtain ⟨q1, hq⟩ := xq_and hq
          obtain ⟨q2, hq⟩ := xq_and hq
          obtain ⟨q3, hq⟩ := xq_and hq
          obtain ⟨q4, hq⟩ := xq_and hq
          obtain ⟨q5, q6⟩ := xq_and hq
          have q1 : S.2.2.1.2 < 1000 := Nat.le_of_ble_eq_true q1
          have q2 := xq_beq q2
          have q3 : p0 < 10 := Nat.le_of_ble_eq_true q3
          have q4 := xq_beq q4
          have q5 := xq_beq q5
          have e : xq_step i pc (.new kf, len, v, p0, p1, p2, p3) L' st' X K' C' = K' (pc + 3) L' (.ref X.1 :: st') (xq_push X p1 (.inr (p0, xq_dflt p0 p1))) := by
            show (match p0 with | 100 => _ | 101 => _ | ci => _) = _
            split
            · omega
            · omega
            · rfl
          rw [e]
          have hE := xr_ad_Ext (adr := adr) (S := S) (X := X) (b := S.2.2.1.1) (c := S.2.2.1.2) (n := p1) rfl q1 (by rw [q2]; omega)
          refine xr_tr hE xr_Fm.push (hK _ _ _ _ _ h1 _ _ _ _ (xr_Rep_new hR rfl q1 q3 q2 q4 q5 q6) (xr_vs_mono hE.1 hL) ⟨?_, xr_vs_mono hE.1 hst⟩)
          have h9 := xr_vof (adr := xr_ad adr (S.2.2.1.1, S.2.2.1.2) X.1) (xr_dom_new (b := S.2.2.1.1) q1)
          rw [show xr_ad adr (S.2.2.1.1, S.2.2.1.2) X.1 (S.2.2.1.1, S.2.2.1.2) = X.1 by unfold xr_ad; rw [if_pos rfl]] at h9
          exact h9
    · -- invokevirtual
      rename_i kf
      split at h
      · rename_i b c r0 hdr
        obtain ⟨hq, h1⟩ := xr_cond h
        clear h
        obtain ⟨hq1, hq2⟩ := xq_and hq
        obtain ⟨hk, hht⟩ := xq_and hq1
        obtain ⟨hlen, hall⟩ := xq_and hq2
        have hk := xq_beq hk
        have hd' := xr_vs_drop p1 hst
        rw [hdr] at hd'
        obtain ⟨r', hr', hdom, hr⟩ := xr_vs_ref (xr_c5 hk (by omega)) hd'
        obtain ⟨fl, hc, -, -⟩ := xr_Rep_obj hR hdom hk
        have hroom := xr_vs_room hr hlen
        have hall' := xr_vs_isl (xr_vs_take p1 hst) hall
        have hargs : xr_vs adr (xr_nx S) (xP b c :: (st.take p1).reverse) (.ref (adr (b, c)) :: (st'.take p1).reverse) := ⟨xr_vof hdom, xr_vs_rev (xr_vs_take p1 hst)⟩
        have e : xq_step i pc (.invokevirtual kf, len, v, p0, p1, p2, p3) L' st' X K' C' = (match (generalizing := false) v with
          | 0 => xq_cV (C' p0 (.ref (adr (b, c)) :: (st'.take p1).reverse) X) (fun X1 => K' (pc + 3) L' r' X1) (xq_exc i pc L' K')
          | _ => xq_cI (C' p0 (.ref (adr (b, c)) :: (st'.take p1).reverse) X) (fun x X1 => K' (pc + 3) L' (.int x :: r') X1) (xq_exc i pc L' K')) := by
          show (match st'.drop p1 with | .ref b :: r => _ | _ => none) = _
          rw [hr']
          show xq_is X (adr (b, c)) p2 (cond (xq_room r' && (st'.take p1).all xq_isl) _ none) = _
          unfold xq_is
          rw [hc, hroom, hall']
          dsimp only
          rw [if_pos rfl]
          rfl
        rw [e]
        split at h1
        · exact xr_cV_sim h1 (fun q hq => hC _ _ _ _ q hq _ _ _ hR hargs) (fun E Y => xr_exc_ht hht) (fun S1 adr1 X1 g1 g2 g3 g4 => hK _ _ _ _ _ g1 _ _ _ _ g2 (xr_vs_mono g3.1 hL) (xr_vs_mono g3.1 hr))
        · rename_i hv
          split
          · exact absurd rfl hv
          · exact xr_cI_sim h1 (fun q hq => hC _ _ _ _ q hq _ _ _ hR hargs) (fun E Y => xr_exc_ht hht) (fun x S1 adr1 X1 g1 g2 g3 g4 => hK _ _ _ _ _ g1 _ _ _ _ g2 (xr_vs_mono g3.1 hL) ⟨rfl, xr_vs_mono g3.1 hr⟩)
      · cases h
    · -- invokespecial
      rename_i kf
      split at h
      · rename_i b c r0 hdr
        have hd' := xr_vs_drop p1 hst
        rw [hdr] at hd'
        cases h900 : Nat.beq p0 900 with
        | true =>
          rw [h900] at h
          dsimp only [cond_true] at h
          obtain ⟨hq, h1⟩ := xr_cond h
          clear h
          obtain ⟨hlen, h50⟩ := xq_and hq
          obtain ⟨r', hr', hdom, hr⟩ := xr_vs_ref (fun h9 => by cases h9; cases h50) hd'
          have hroom := xr_vs_room hr hlen
          have e : xq_step i pc (.invokespecial kf, len, v, p0, p1, p2, p3) L' st' X K' C' = K' (pc + 3) L' r' X := by
            show (match st'.drop p1 with | .ref b :: r => _ | _ => none) = _
            rw [hr']
            show cond (Nat.beq p0 900) (cond (xq_room r') _ none) _ = _
            rw [h900, hroom]; rfl
          rw [e]
          exact hK _ _ _ _ _ h1 _ _ _ _ hR hL hr
        | false =>
          rw [h900] at h
          dsimp only [cond_false] at h
          obtain ⟨hq, h1⟩ := xr_cond h
          clear h
          obtain ⟨hk, hq2⟩ := xq_and hq
          obtain ⟨hlen, hall⟩ := xq_and hq2
          have hk := xq_beq hk
          obtain ⟨r', hr', hdom, hr⟩ := xr_vs_ref (xr_c5 hk (by omega)) hd'
          obtain ⟨fl, hc, -, -⟩ := xr_Rep_obj hR hdom hk
          have hroom := xr_vs_room hr hlen
          have hall' := xr_vs_isl (xr_vs_take p1 hst) hall
          have hargs : xr_vs adr (xr_nx S) (xP b c :: (st.take p1).reverse) (.ref (adr (b, c)) :: (st'.take p1).reverse) := ⟨xr_vof hdom, xr_vs_rev (xr_vs_take p1 hst)⟩
          have e : xq_step i pc (.invokespecial kf, len, v, p0, p1, p2, p3) L' st' X K' C' = xq_cV (C' p0 (.ref (adr (b, c)) :: (st'.take p1).reverse) X) (fun X1 => K' (pc + 3) L' r' X1) (fun _ _ => none) := by
            show (match st'.drop p1 with | .ref b :: r => _ | _ => none) = _
            rw [hr']
            show cond (Nat.beq p0 900) _ (xq_is X (adr (b, c)) p2 (cond (xq_room r' && (st'.take p1).all xq_isl) _ none)) = _
            unfold xq_is
            rw [h900, hc, hroom, hall']
            simp
          rw [e]
          exact xr_cC_sim h1 (fun q hq => hC _ _ _ _ q hq _ _ _ hR hargs) (fun S1 adr1 X1 g1 g2 g3 g4 => hK _ _ _ _ _ g1 _ _ _ _ g2 (xr_vs_mono g3.1 hL) (xr_vs_mono g3.1 hr))
      · cases h
    · -- invokestatic
      rename_i kf
      cases h901 : Nat.beq p0 901 with
      | true =>
        rw [h901] at h
        dsimp only [cond_true] at h
        split at h
        · rename_i n dp b1 c1 sp b c r0
          obtain ⟨hlen, h1⟩ := xr_cond h
          clear h
          obtain ⟨hq, h2⟩ := xr_cond h1
          clear h1
          obtain ⟨hok, h⟩ := xr_cond h2
          clear h2
          obtain ⟨hk, hne⟩ := xq_and hq
          obtain ⟨hk0, hk1⟩ := xq_and hk
          have hk0 := xq_beq hk0
          have hk1 := xq_beq hk1
          obtain ⟨r1, rfl, hr1⟩ := xr_vs_int hst
          obtain ⟨r2, rfl, hr2⟩ := xr_vs_int hr1
          obtain ⟨r3, rfl, hd1, hr3⟩ := xr_vs_ref (xr_c5 hk1 (by omega)) hr2
          obtain ⟨r4, rfl, hr4⟩ := xr_vs_int hr3
          obtain ⟨r', rfl, hd0, hr⟩ := xr_vs_ref (xr_c5 hk0 (by omega)) hr4
          have hroom := xr_vs_room hr hlen
          have hlt := xr_sh_lt (S := S) hd1 hk1
          have hlt0 := xr_sh_lt (S := S) hd0 hk0
          have hzz : (b, c) ≠ (b1, c1) := fun h9 => by
            cases h9
            rw [Nat.beq_refl, Nat.beq_refl] at hne
            cases hne
          have hadr : adr (b, c) ≠ adr (b1, c1) := fun h9 => hzz (hR.2.2.1 _ _ hd0 hd1 hlt0 h9)
          obtain ⟨o1, o2, o3⟩ := xr_cok_iff hok
          have e : xq_step i pc (.invokestatic kf, len, v, p0, p1, p2, p3) L' (.int n :: .int dp :: .ref (adr (b1, c1)) :: .int sp :: .ref (adr (b, c)) :: r') X K' C' = K' (pc + 3) L' r' (xq_set X (adr (b1, c1)) (.inl (0, (xr_sh b1 c1).2.1, .inl (va_cpy (xm S b c) (xm S b1 c1) sp.toNatClampNeg dp.toNatClampNeg n.toNatClampNeg)))) := by
            show cond (Nat.beq p0 901) (cond (xq_room r') (xq_cpy X (adr (b, c)) sp (adr (b1, c1)) dp n (fun X1 => K' (pc + 3) L' r' X1)) none) _ = _
            rw [h901, hroom]
            unfold xq_cpy
            rw [xr_Rep_arr hR hd0 hk0, xr_Rep_arr hR hd1 hk1]
            dsimp only [cond_true]
            rw [if_pos ⟨⟨rfl, rfl, hadr⟩, o1, o2, o3⟩]
          rw [e]
          refine xr_tr (xr_Ext.nx rfl) (xr_Fm.set hd1 hlt) (hK _ _ _ _ _ h _ _ _ _ (xr_Rep_ints hR hd1 hlt (fun b' c' k' h9 => ?_) ?_) hL hr)
          · unfold xcp
            rw [if_neg]
            rintro ⟨rfl, rfl, -⟩
            exact h9 rfl
          · have e2 : va_cpy (xm S b c) (xm S b1 c1) sp.toNatClampNeg dp.toNatClampNeg n.toNatClampNeg = xm (xs S (xcp (xm S) b c (xk sp) b1 c1 (xk dp) (xk n))) b1 c1 := by
              funext j
              show _ = (if b1 = b1 ∧ c1 = c1 ∧ xk dp ≤ j ∧ j < xk dp + xk n then xm S b c (xk sp + (j - xk dp)) else xm S b1 c1 j)
              unfold va_cpy
              have e3 : ∀ i : Int32, i.toNatClampNeg = xk i := fun _ => rfl
              simp only [e3, true_and]
            rw [e2]
            exact xr_crel_arr hk1
        · cases h
      | false =>
        rw [h901] at h
        dsimp only [cond_false] at h
        cases h902 : Nat.beq p0 902 with
        | true =>
          rw [h902] at h
          dsimp only [cond_true] at h
          split at h
          · rename_i y x r0
            obtain ⟨hlen, h1⟩ := xr_cond h
            clear h
            obtain ⟨r1, rfl, hr1⟩ := xr_vs_int hst
            obtain ⟨r', rfl, hr⟩ := xr_vs_int hr1
            have hroom := xr_vs_room hr hlen
            have e : xq_step i pc (.invokestatic kf, len, v, p0, p1, p2, p3) L' (.int y :: .int x :: r') X K' C' = K' (pc + 3) L' (.int (if x < y then y else x) :: r') X := by
              show cond (Nat.beq p0 901) _ (cond (Nat.beq p0 902) (cond (xq_room r') _ none) _) = _
              rw [h901, h902, hroom]; rfl
            rw [e]
            exact hK _ _ _ _ _ h1 _ _ _ _ hR hL ⟨rfl, hr⟩
          · cases h
        | false =>
          rw [h902] at h
          dsimp only [cond_false] at h
          cases h903 : Nat.beq p0 903 with
          | true =>
            rw [h903] at h
            dsimp only [cond_true] at h
            split at h
            · rename_i y x r0
              obtain ⟨hlen, h1⟩ := xr_cond h
              clear h
              obtain ⟨r1, rfl, hr1⟩ := xr_vs_int hst
              obtain ⟨r', rfl, hr⟩ := xr_vs_int hr1
              have hroom := xr_vs_room hr hlen
              have e : xq_step i pc (.invokestatic kf, len, v, p0, p1, p2, p3) L' (.int y :: .int x :: r') X K' C' = K' (pc + 3) L' (.int (if y < x then y else x) :: r') X := by
                show cond (Nat.beq p0 901) _ (cond (Nat.beq p0 902) _ (cond (Nat.beq p0 903) (cond (xq_room r') _ none) _)) = _
                rw [h901, h902, h903, hroom]; rfl
              rw [e]
              exact hK _ _ _ _ _ h1 _ _ _ _ hR hL ⟨rfl, hr⟩
            · cases h
          | false =>
            rw [h903] at h
            dsimp only [cond_false] at h
            cases h904 : Nat.beq p0 904 with
            | true =>
              rw [h904] at h
              dsimp only [cond_true] at h
              split at h
              · rename_i x r0
                obtain ⟨hlen, h1⟩ := xr_cond h
                clear h
                obtain ⟨r', rfl, hr⟩ := xr_vs_int hst
                have hroom := xr_vs_room hr hlen
                have e : xq_step i pc (.invokestatic kf, len, v, p0, p1, p2, p3) L' (.int x :: r') X K' C' = K' (pc + 3) L' (.int (if 0 ≤ x then x else 0 - x) :: r') X := by
                  show cond (Nat.beq p0 901) _ (cond (Nat.beq p0 902) _ (cond (Nat.beq p0 903) _ (cond (Nat.beq p0 904) (cond (xq_room r') _ none) _))) = _
                  rw [h901, h902, h903, h904, hroom]; rfl
                rw [e]
                exact hK _ _ _ _ _ h1 _ _ _ _ hR hL ⟨rfl, hr⟩
              · cases h
            | false =>
              rw [h904] at h
              dsimp only [cond_false] at h
              obtain ⟨hq, h1⟩ := xr_cond h
              clear h
              obtain ⟨hq1, hq2⟩ := xq_and hq
              obtain ⟨hlen, hht⟩ := xq_and hq1
              obtain ⟨hple, hall⟩ := xq_and hq2
              have hr := xr_vs_drop p1 hst
              have hroom := xr_vs_room hr hlen
              have hall' := xr_vs_isl (xr_vs_take p1 hst) hall
              have hple' : Nat.ble p1 st'.length = true := by rw [xr_vs_len hst]; exact hple
              have hargs : xr_vs adr (xr_nx S) (st.take p1).reverse (st'.take p1).reverse := xr_vs_rev (xr_vs_take p1 hst)
              have e : xq_step i pc (.invokestatic kf, len, v, p0, p1, p2, p3) L' st' X K' C' = (match (generalizing := false) v with
                | 0 => xq_cV (C' p0 (st'.take p1).reverse X) (fun X1 => K' (pc + 3) L' (st'.drop p1) X1) (xq_exc i pc L' K')
                | _ => xq_cI (C' p0 (st'.take p1).reverse X) (fun x X1 => K' (pc + 3) L' (.int x :: st'.drop p1) X1) (xq_exc i pc L' K')) := by
                show cond (Nat.beq p0 901) _ (cond (Nat.beq p0 902) _ (cond (Nat.beq p0 903) _ (cond (Nat.beq p0 904) _ (cond (xq_room (st'.drop p1) && (Nat.ble p1 st'.length && (st'.take p1).all xq_isl)) _ none)))) = _
                rw [h901, h902, h903, h904, hroom, hple', hall']
                rfl
              rw [e]
              split at h1
              · exact xr_cV_sim h1 (fun q hq => hC _ _ _ _ q hq _ _ _ hR hargs) (fun E Y => xr_exc_ht hht) (fun S1 adr1 X1 g1 g2 g3 g4 => hK _ _ _ _ _ g1 _ _ _ _ g2 (xr_vs_mono g3.1 hL) (xr_vs_mono g3.1 hr))
              · rename_i hv
                split
                · exact absurd rfl hv
                · exact xr_cI_sim h1 (fun q hq => hC _ _ _ _ q hq _ _ _ hR hargs) (fun E Y => xr_exc_ht hht) (fun x S1 adr1 X1 g1 g2 g3 g4 => hK _ _ _ _ _ g1 _ _ _ _ g2 (xr_vs_mono g3.1 hL) ⟨rfl, xr_vs_mono g3.1 hr⟩)
    · -- ireturn
      split at h
      · rename_i x
        obtain ⟨hq, h1⟩ := xr_cond h
        clear h
        cases h1
        obtain ⟨r', rfl, hr⟩ := xr_vs_int hst
        rw [xr_vs_nil hr]
        refine ⟨adr, X, ?_, hR, xr_Ext.rf, xr_Fm.rf⟩
        show cond (Nat.beq p0 0) (some ((Sum.inl (some (Value.int x)) : xq_O), X)) (if narrow (xq_nar p0) (.int x) = .int x then some ((Sum.inl (some (Value.int x)) : xq_O), X) else none) = some ((Sum.inl (some (Value.int x)) : xq_O), X)
        rcases xr_nar hq with h9 | h9
        · rw [h9]; rfl
        · rw [if_pos h9]; cases Nat.beq p0 0 <;> rfl
      · cases h
    · -- return
      split at h
      · cases h
        rw [xr_vs_nil hst]
        exact ⟨adr, X, rfl, hR, xr_Ext.rf, xr_Fm.rf⟩
      · cases h
    · cases h
end
/-- THE SIMULATION -/
theorem xr_sim : ∀ (n d i pc : Nat) (L st : List xr_V) (m : xr_N) (S : xr_S) (r : xr_O × xr_N × xr_S), xr_run n d i pc L st m S = some r → ∀ (adr : xr_A → Nat) (X : xq_X) (L' st' : List Value), xr_Rep adr m S X → xr_vs adr (xr_nx S) L L' → xr_vs adr (xr_nx S) st st' → xr_Gd (xq_run n d i pc L' st' X) r adr S X
  | 0, _, _, _, _, _, _, _, _, h => by cases h
  | n + 1, d, i, pc, L, st, m, S, r, h => by
    intro adr X L' st' hR hL hst
    rw [xr_run] at h
    rw [xq_run]
    cases hc : xq_code i pc with
    | none => rw [hc] at h; cases h
    | some I =>
      rw [hc] at h
      refine xr_step_sim (fun pc L st m S h adr X L' st' h1 h2 h3 => xr_sim n d i pc L st m S r h adr X L' st' h1 h2 h3) (fun j As m S q hq adr X As' h1 h2 => ?_) h hR hL hst
      cases d with
      | zero => cases hq
      | succ d' =>
        refine xr_sim n d' j 0 (xr_entry j As) [] m S q hq adr X (xq_entry j As') [] h1 ?_ trivial
        unfold xr_entry xq_entry
        rw [xr_vs_len h2]
        exact xr_vs_app h2 (xr_vs_rep _)
theorem xr_Sim {d i pc : Nat} {L st : List xr_V} {m : xr_N} {S : xr_S} {r : xr_O × xr_N × xr_S} (h : xr_Run d i pc L st m S = some r) {adr : xr_A → Nat} {X : xq_X} {L' st' : List Value} (hR : xr_Rep adr m S X) (hL : xr_vs adr (xr_nx S) L L') (hst : xr_vs adr (xr_nx S) st st') : xr_Gd (xq_Run d i pc L' st' X) r adr S X := by
  obtain ⟨n, hn⟩ := xr_Run_iff.mp h
  obtain ⟨adr', X', g1, g2⟩ := xr_sim n d i pc L st m S r hn adr X L' st' hR hL hst
  exact ⟨adr', X', xq_Run_iff.mpr ⟨n, g1⟩, g2⟩
theorem xr_SimC {d j : Nat} {As : List xr_V} {m : xr_N} {S : xr_S} {r : xr_O × xr_N × xr_S} (h : xr_Call d j As m S = some r) {adr : xr_A → Nat} {X : xq_X} {As' : List Value} (hR : xr_Rep adr m S X) (hA : xr_vs adr (xr_nx S) As As') : xr_Gd (xq_Call d j As' X) r adr S X := by
  cases d with
  | zero => cases h
  | succ d' =>
    refine xr_Sim (pc := 0) (L := xr_entry j As) (st := []) h hR ?_ trivial
    unfold xr_entry xq_entry
    rw [xr_vs_len hA]
    exact xr_vs_app hA (xr_vs_rep _)
