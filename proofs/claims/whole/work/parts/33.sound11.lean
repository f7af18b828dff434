section
variable {B : Nat} {dC : Nat → ClassId} {dI : Nat → Nat → Nat} {ac : Nat → ClassId} {l : Launch} {K : xq_KT} {C : xq_CT} {d i pc : Nat} {I : xq_I} {L st : List Value} {X : xq_X} {r : xq_O × xq_X}
set_option maxHeartbeats 8000000 in
theorem xq_step_ok (hK : ∀ (pc' : Nat) (L' st' : List Value) (X' : xq_X), L'.length = xq_loc i → K pc' L' st' X' = some r → xq_Ok B dC dI ac l d i pc' L' st' X' r)
    (hC : ∀ (j : Nat) (As : List Value) (X1 : xq_X) (q : xq_O × xq_X), C j As X1 = some q → j < 310 → xq_mo j ≠ 13 → (∀ v ∈ As, xq_isl v = true) → As.length = xq_na j + cond (Nat.beq (xq_kd j) 0) 0 1 → xq_St X1 q.2 ∧ xq_Ex q.1 ∧ ∃ d', d = d' + 1 ∧ xq_Mt B dC dI ac l d' j As X1 q)
    (hcode : xq_code i pc = some I) (hL : L.length = xq_loc i) (h : xq_step i pc I L st X K C = some r) : xq_Ok B dC dI ac l d i pc L st X r := by
  obtain ⟨hi, hck⟩ := xq_code_ok hcode
  obtain ⟨hd0, ha⟩ := xq_and hck
  have hd := of_decide_eq_true hd0
  clear hd0 hck hcode
  unfold xq_step at h
  split at h
  · rename_i rp hp
    have hlen := xq_pure_len (L' := rp.1) (st' := rp.2) hp
    exact xq_go (hK _ _ _ _ (hlen.trans hL) h) (fun p e R s m args below meth c X0 hF hSt H locs ls hJ hS hl cells slots Q k => xq_pure_W hF hSt.2.2.1 hd ha (L' := rp.1) (st' := rp.2) hp hl k)
  · rename_i hp
    clear hp
    obtain ⟨ins, len, v, p0, p1, p2, p3⟩ := I
    dsimp only [xq_p0, xq_p1, xq_p2, xq_v] at h hd
    split at h
    · -- goto
      rename_i o
      obtain ⟨h1, h2⟩ := xq_and ha
      cases xq_beq h2
      exact xq_go (hK _ _ _ _ hL h) (fun p e R s m args below meth c X0 hF hSt H locs ls hJ hS hl cells slots Q k => lv_goto hF.1.1 hF.1.2.1 hd (of_decide_eq_true h1) (k ls hl))
    · -- if
      rename_i cd o
      obtain ⟨h1, h2⟩ := xq_and ha
      cases xq_beq h2
      have h1 := of_decide_eq_true h1
      split at h
      · rename_i x r0
        rw [xq_br_eq] at h
        cases ht : xq_tk cd x 0 with
        | true =>
          rw [ht] at h
          exact xq_go (hK _ _ _ _ hL h) (fun p e R s m args below meth c X0 hF hSt H locs ls hJ hS hl cells slots Q k => xq_if_W hF hd h1 (fun _ => k ls hl) (fun h9 => by rw [ht] at h9; cases h9))
        | false =>
          rw [ht] at h
          exact xq_go (hK _ _ _ _ hL h) (fun p e R s m args below meth c X0 hF hSt H locs ls hJ hS hl cells slots Q k => xq_if_W hF hd h1 (fun h9 => by rw [ht] at h9; cases h9) (fun _ => k ls hl))
      · cases h
    · -- if_icmp
      rename_i cd o
      obtain ⟨h1, h2⟩ := xq_and ha
      cases xq_beq h2
      have h1 := of_decide_eq_true h1
      split at h
      · rename_i y x r0
        rw [xq_br_eq] at h
        cases ht : xq_tk cd x y with
        | true =>
          rw [ht] at h
          exact xq_go (hK _ _ _ _ hL h) (fun p e R s m args below meth c X0 hF hSt H locs ls hJ hS hl cells slots Q k => xq_icmp_W hF hd h1 (fun _ => k ls hl) (fun h9 => by rw [ht] at h9; cases h9))
        | false =>
          rw [ht] at h
          exact xq_go (hK _ _ _ _ hL h) (fun p e R s m args below meth c X0 hF hSt H locs ls hJ hS hl cells slots Q k => xq_icmp_W hF hd h1 (fun h9 => by rw [ht] at h9; cases h9) (fun _ => k ls hl))
      · cases h
    · -- ifnonnull
      rename_i o
      obtain ⟨h1, h2⟩ := xq_and ha
      cases xq_beq h2
      have h1 := of_decide_eq_true h1
      split at h
      · exact xq_go (hK _ _ _ _ hL h) (fun p e R s m args below meth c X0 hF hSt H locs ls hJ hS hl cells slots Q k => lv_ifnonnull hF.1.1 hF.1.2.1 hd h1 (k ls hl))
      · exact xq_go (hK _ _ _ _ hL h) (fun p e R s m args below meth c X0 hF hSt H locs ls hJ hS hl cells slots Q k => lv_ifnonnullN hF.1.1 hF.1.2.1 hd (k ls hl))
      · cases h
    · -- tableswitch
      rename_i dd lo hi2 offs
      obtain ⟨h1, h2⟩ := xq_and ha
      have h1 := of_decide_eq_true h1
      split at h
      · rename_i x r0
        by_cases hr : x.toInt < lo ∨ hi2 < x.toInt
        · rw [if_pos hr] at h
          exact xq_go (hK _ _ _ _ hL h) (fun p e R s m args below meth c X0 hF hSt H locs ls hJ hS hl cells slots Q k => lv_tableOut hF.1.1 hF.1.2.1 hd hr (Int.toNat_of_nonneg h1).symm (k ls hl))
        · rw [if_neg hr] at h
          split at h
          · rename_i o ho
            have h3 := of_decide_eq_true (List.all_eq_true.mp h2 o (by
              have := Array.mem_of_getElem? ho
              exact Array.mem_toList_iff.mpr this))
            exact xq_go (hK _ _ _ _ hL h) (fun p e R s m args below meth c X0 hF hSt H locs ls hJ hS hl cells slots Q k => lv_tableIn hF.1.1 hF.1.2.1 hd (fun h9 => hr (Or.inl h9)) (fun h9 => hr (Or.inr h9)) ho (Int.toNat_of_nonneg h3).symm (k ls hl))
          · cases h
      · cases h
    · -- idiv
      cases xq_beq ha
      split at h
      · rename_i y x r0
        by_cases hy : y = 0
        · rw [if_pos hy] at h; cases h
        · rw [if_neg hy] at h
          exact xq_go (hK _ _ _ _ hL h) (fun p e R s m args below meth c X0 hF hSt H locs ls hJ hS hl cells slots Q k => lv_idiv hF.1.1 hF.1.2.1 hd hy (k ls hl))
      · cases h
    · -- irem
      cases xq_beq ha
      split at h
      · rename_i y x r0
        by_cases hy : y = 0
        · rw [if_pos hy] at h; cases h
        · rw [if_neg hy] at h
          exact xq_go (hK _ _ _ _ hL h) (fun p e R s m args below meth c X0 hF hSt H locs ls hJ hS hl cells slots Q k => lv_irem hF.1.1 hF.1.2.1 hd hy (k ls hl))
      · cases h
    · -- getfield
      rename_i kf
      have hl3 : len = 3 := xq_beq (xq_and ha).1
      subst hl3
      split at h
      · rename_i a r0
        split at h
        · unfold xq_getI at h
          split at h
          · rename_i ci fs hh
            by_cases hci : ci = p0
            · subst hci
              rw [if_pos rfl] at h
              split at h
              · rename_i x hx
                exact xq_go (hK _ _ _ _ hL h) (fun p e R s m args below meth c X0 hF hSt H locs ls hJ hS hl cells slots Q k => xq_get_W hF hJ hS hd ha hh hx (k ls hl))
              · cases h
            · rw [if_neg hci] at h; cases h
          · cases h
        · unfold xq_getR at h
          split at h
          · rename_i ci fs hh
            by_cases hci : ci = p0
            · subst hci
              rw [if_pos rfl] at h
              split at h
              · rename_i x hx
                exact xq_go (hK _ _ _ _ hL h) (fun p e R s m args below meth c X0 hF hSt H locs ls hJ hS hl cells slots Q k => xq_get_W hF hJ hS hd ha hh hx (k ls hl))
              · cases h
            · rw [if_neg hci] at h; cases h
          · cases h
        · unfold xq_getQ at h
          split at h
          · rename_i ci fs hh
            by_cases hci : ci = p0
            · subst hci
              rw [if_pos rfl] at h
              split at h
              · rename_i x hx
                exact xq_go (hK _ _ _ _ hL h) (fun p e R s m args below meth c X0 hF hSt H locs ls hJ hS hl cells slots Q k => xq_get_W hF hJ hS hd ha hh hx (k ls hl))
              · rename_i hx
                exact xq_go (hK _ _ _ _ hL h) (fun p e R s m args below meth c X0 hF hSt H locs ls hJ hS hl cells slots Q k => xq_get_W hF hJ hS hd ha hh hx (k ls hl))
              · cases h
            · rw [if_neg hci] at h; cases h
          · cases h
      · cases h
    · -- putfield
      rename_i kf
      have hl3 : len = 3 := xq_beq (xq_and ha).1
      subst hl3
      have hc12 : ∀ fs : List Value, xq_ro (.inr (p0, fs)) = false := fun fs => by
        have h9 : (Nat.blt p0 12 && (Nat.blt p1 (xq_C p0).2.2 && (xq_in4 xq_L_fl (xq_mo i) kf p0 p1 && (cond (Nat.beq p2 0) (decide (xq_tys p0 p1 = .int)) ((xq_tys p0 p1).isReference) && cond ((xq_C p0).2.1 p1).2.2.2 (Nat.beq (xq_kd i) 2 && Nat.beq p0 (xq_mo i)) true)))) = true := ha
        have h9 : p0 < 12 := Nat.le_of_ble_eq_true (xq_and h9).1
        show Nat.ble 12 p0 = false
        cases h8 : Nat.ble 12 p0 with
        | false => rfl
        | true => have := Nat.le_of_ble_eq_true h8; omega
      have fin : ∀ (w : Value) (a : Nat) (r0 : List Value), st = w :: .ref a :: r0 → ((p2 = 0 ∧ ∃ x, w = .int x) ∨ (Nat.beq p2 0 = false ∧ (w = .null ∨ ∃ x, w = .ref x))) → xq_put X a p0 p1 w (fun X1 => K (pc + 3) L r0 X1) = some r → xq_Ok B dC dI ac l d i pc L st X r := fun w a r0 hst hw hput => by
        subst hst
        unfold xq_put at hput
        split at hput
        · rename_i ci fs hh
          by_cases hci : ci = p0 ∧ p1 < fs.length
          · rw [if_pos hci] at hput
            obtain ⟨rfl, hlt⟩ := hci
            exact xq_wr (xq_St.set (hc12 _)) rfl rfl (hK _ _ _ _ hL hput) (fun p e R s m args below meth c X0 hF hSt H locs ls hJ hS hl cells slots Q k => xq_put_W hF hJ hS hd ha hh hlt hw k)
          · rw [if_neg hci] at hput; cases hput
        · cases hput
      split at h
      · rename_i x a r0
        cases h2 : Nat.beq p2 0 with
        | true => rw [h2] at h; exact fin _ _ _ rfl (Or.inl ⟨xq_beq h2, _, rfl⟩) h
        | false => rw [h2] at h; cases h
      · rename_i x a r0
        cases h2 : Nat.beq p2 0 with
        | true => rw [h2] at h; cases h
        | false => rw [h2] at h; exact fin _ _ _ rfl (Or.inr ⟨h2, Or.inr ⟨_, rfl⟩⟩) h
      · rename_i a r0
        cases h2 : Nat.beq p2 2 with
        | true =>
          rw [h2] at h
          exact fin _ _ _ rfl (Or.inr ⟨by rw [xq_beq h2]; rfl, Or.inl rfl⟩) h
        | false => rw [h2] at h; cases h
      · cases h
    · -- getstatic
      rename_i kf
      obtain ⟨hl3, h1⟩ := xq_and ha
      have hl3 : len = 3 := xq_beq hl3
      subst hl3
      obtain ⟨ho, h1⟩ := xq_and h1
      have ho := xq_beq ho
      cases h2 : Nat.beq p0 0 with
      | true =>
        rw [h2] at h
        have h1 : cond (Nat.beq p0 0) (Nat.beq kf 38) (Nat.beq kf 1053) = true := h1
        rw [h2] at h1
        exact xq_go (hK _ _ _ _ hL h) (fun p e R s m args below meth c X0 hF hSt H locs ls hJ hS hl cells slots Q k => xq_gets_W hF hS ho hd (Or.inl ⟨xq_beq h1, rfl⟩) (k ls hl))
      | false =>
        rw [h2] at h
        have h1 : cond (Nat.beq p0 0) (Nat.beq kf 38) (Nat.beq kf 1053) = true := h1
        rw [h2] at h1
        dsimp only [cond_false] at h
        split at h
        · rename_i a ha9
          exact xq_go (hK _ _ _ _ hL h) (fun p e R s m args below meth c X0 hF hSt H locs ls hJ hS hl cells slots Q k => xq_gets_W hF hS ho hd (Or.inr ⟨xq_beq h1, by rw [← hSt.2.2.1, ha9]; rfl⟩) (k ls hl))
        · rename_i ha9
          exact xq_go (hK _ _ _ _ hL h) (fun p e R s m args below meth c X0 hF hSt H locs ls hJ hS hl cells slots Q k => xq_gets_W hF hS ho hd (Or.inr ⟨xq_beq h1, by rw [← hSt.2.2.1, ha9]; rfl⟩) (k ls hl))
    · -- iaload
      cases xq_beq ha
      split at h
      · unfold xq_iald at h
        split at h
        · rename_i k n g hh
          split at h
          · rename_i hc
            exact xq_go (hK _ _ _ _ hL h) (fun p e R s m args below meth c X0 hF hSt H locs ls hJ hS hl cells slots Q k => xq_iald_W hF hJ hS hd hh hc.1 hc.2 (k ls hl))
          · cases h
        · cases h
      · cases h
    · -- baload
      cases xq_beq ha
      split at h
      · unfold xq_bald at h
        split at h
        · rename_i k n g hh
          split at h
          · rename_i hc
            obtain ⟨rfl, hin⟩ := hc
            exact xq_go (hK _ _ _ _ hL h) (fun p e R s m args below meth c X0 hF hSt H locs ls hJ hS hl cells slots Q k => xq_bald_W hF hJ hS hd hh hin (k ls hl))
          · cases h
        · cases h
      · cases h
    · -- laload
      cases xq_beq ha
      split at h
      · unfold xq_lald at h
        split at h
        · rename_i k n g hh
          split at h
          · rename_i hc
            obtain ⟨rfl, hin⟩ := hc
            exact xq_go (hK _ _ _ _ hL h) (fun p e R s m args below meth c X0 hF hSt H locs ls hJ hS hl cells slots Q k => xq_lald_W hF hJ hd hh hin (k ls hl))
          · cases h
        · cases h
      · cases h
    · -- aaload
      cases xq_beq ha
      split at h
      · unfold xq_aald at h
        split at h
        · rename_i k n g hh
          split at h
          · rename_i hc
            split at h
            · rename_i q hq
              exact xq_go (hK _ _ _ _ hL h) (fun p e R s m args below meth c X0 hF hSt H locs ls hJ hS hl cells slots Q k => xq_aald_W hF hJ hd hh hc.1 hc.2 (by rw [hq]; exact k ls hl))
            · rename_i hq
              exact xq_go (hK _ _ _ _ hL h) (fun p e R s m args below meth c X0 hF hSt H locs ls hJ hS hl cells slots Q k => xq_aald_W hF hJ hd hh hc.1 hc.2 (by rw [hq]; exact k ls hl))
          · cases h
        · cases h
      · cases h
    · -- iastore
      cases xq_beq ha
      split at h
      · unfold xq_iast at h
        split at h
        · rename_i k n g hh
          split at h
          · rename_i hc
            obtain ⟨rfl, hin⟩ := hc
            exact xq_wr (xq_St.set rfl) rfl rfl (hK _ _ _ _ hL h) (fun p e R s m args below meth c X0 hF hSt H locs ls hJ hS hl cells slots Q k => xq_iast_W hF hJ hS hd hh hin k)
          · cases h
        · cases h
      · cases h
    · -- lastore
      cases xq_beq ha
      split at h
      · unfold xq_last at h
        split at h
        · rename_i k n g hh
          split at h
          · rename_i hc
            obtain ⟨rfl, hin⟩ := hc
            exact xq_wr (xq_St.set rfl) rfl rfl (hK _ _ _ _ hL h) (fun p e R s m args below meth c X0 hF hSt H locs ls hJ hS hl cells slots Q k => xq_last_W hF hJ hS hd hh hin k)
          · cases h
        · cases h
      · cases h
    · -- aastore
      cases xq_beq ha
      split at h
      · unfold xq_aast at h
        split at h
        · rename_i k n g hh
          split at h
          · rename_i hc
            obtain ⟨⟨rfl, hs⟩, hin⟩ := hc
            exact xq_wr (xq_St.set rfl) rfl rfl (hK _ _ _ _ hL h) (fun p e R s m args below meth c X0 hF hSt H locs ls hJ hS hl cells slots Q k => xq_aast_W hF hJ hS hd hh hs hin k)
          · cases h
        · cases h
      · unfold xq_aast at h
        split at h
        · rename_i k n g hh
          split at h
          · rename_i hc
            obtain ⟨⟨rfl, hs⟩, hin⟩ := hc
            exact xq_wr (xq_St.set rfl) rfl rfl (hK _ _ _ _ hL h) (fun p e R s m args below meth c X0 hF hSt H locs ls hJ hS hl cells slots Q k => xq_aast_W hF hJ hS hd hh hs hin k)
          · cases h
        · cases h
      · cases h
    · -- arraylength
      cases xq_beq ha
      split at h
      · unfold xq_alen at h
        split at h
        · rename_i k n g hh
          exact xq_go (hK _ _ _ _ hL h) (fun p e R s m args below meth c X0 hF hSt H locs ls hJ hS hl cells slots Q k => xq_alen_W hF hJ hS hd hh (k ls hl))
        · cases h
      · cases h
    · -- newarray
      rename_i t
      obtain ⟨hl3, h1⟩ := xq_and ha
      have hl3 : len = 2 := xq_beq hl3
      subst hl3
      have hk : (p0 = 0 ∧ t = .int) ∨ (p0 = 1 ∧ t = .long) := by
        rcases Bool.or_eq_true_iff.mp h1 with h2 | h2
        · exact Or.inl ⟨xq_beq (xq_and h2).1, of_decide_eq_true (xq_and h2).2⟩
        · exact Or.inr ⟨xq_beq (xq_and h2).1, of_decide_eq_true (xq_and h2).2⟩
      split at h
      · rename_i n r0
        unfold xq_newa at h
        split at h
        · cases h
        · rename_i hn
          exact xq_mk (nc := 1) (ns := n.toNatClampNeg) (xq_St.push (by rcases hk with ⟨rfl, -⟩ | ⟨rfl, -⟩ <;> rfl)) rfl rfl (hK _ _ _ _ hL h) (fun p e R s m args below meth c X0 hF hSt H locs ls hJ hS hl cells slots Q hc hs k => xq_newa_W hF hJ hS hd hk hn hc hs k)
      · cases h
    · -- anewarray
      rename_i kf
      obtain ⟨hl3, h1⟩ := xq_and ha
      have hl3 : len = 3 := xq_beq hl3
      subst hl3
      obtain ⟨ho, hk⟩ := xq_and h1
      have ho := xq_beq ho
      have hk := xq_beq hk
      subst hk
      split at h
      · rename_i n r0
        unfold xq_newa at h
        split at h
        · cases h
        · rename_i hn
          exact xq_mk (nc := 1) (ns := n.toNatClampNeg) (xq_St.push rfl) rfl rfl (hK _ _ _ _ hL h) (fun p e R s m args below meth c X0 hF hSt H locs ls hJ hS hl cells slots Q hc hs k => xq_anew_W hF hJ hS hd ho hn hc hs k)
      · cases h
    · -- multianewarray
      rename_i kf nd
      obtain ⟨hl3, h1⟩ := xq_and ha
      have hl3 : len = 4 := xq_beq hl3
      subst hl3
      obtain ⟨hnd, h3⟩ := xq_and h1
      clear h1
      have hnd := xq_beq hnd
      subst hnd
      obtain ⟨ho, hk⟩ := xq_and h3
      have ho := xq_beq ho
      have hk := xq_beq hk
      subst hk
      split at h
      · rename_i k n r0
        unfold xq_mna at h
        split at h
        · cases h
        · rename_i hn
          refine xq_mk (nc := 1 + n.toNatClampNeg) (ns := n.toNatClampNeg + n.toNatClampNeg * k.toNatClampNeg) xq_St.grid (by show X.1 + 1 + _ = _; omega) (by show X.2.1 + _ + _ = _; omega) (hK _ _ _ _ hL h) (fun p e R s m args below meth c X0 hF hSt H locs ls hJ hS hl cells slots Q hc hs k9 => xq_mna_W hF hJ hS hd ho hn hc hs (fun H1 hJ1 hS1 => ?_))
          have h9 := k9 H1 hJ1 hS1
          rw [← Nat.add_assoc, ← Nat.add_assoc] at h9
          exact h9
      · cases h
    · -- new
      rename_i kf
      have hl3 : len = 3 := xq_beq (xq_and ha).1
      subst hl3
      have ha : cond (Nat.blt p0 12) (Nat.beq (xq_C p0).2.2 p1 && xq_in3 xq_L_ck (xq_mo i) kf p0) ((Nat.beq i 140 && (Nat.beq pc 19 && Nat.beq p0 101)) || (Nat.beq i 141 && (Nat.beq pc 20 && Nat.beq p0 100))) = true := ha
      split at h
      · split at h
        · cases h
          have h1 : i = 141 ∧ pc = 20 := by
            rcases Bool.or_eq_true_iff.mp ha with h9 | h9
            · exact absurd (xq_and (xq_and h9).2).2 (by decide)
            · exact ⟨xq_beq (xq_and h9).1, xq_beq (xq_and (xq_and h9).2).1⟩
          exact ⟨⟨Nat.le_succ _, Nat.le_add_right _ _, rfl, fun _ _ _ h => h⟩, fun E hE => by cases hE; exact Or.inl rfl, fun p e R s m args below meth c X0 hF hSt hc hs H locs ls hJ hS hl => xq_throw_W hF hSt hJ hS hl hL (Or.inr ⟨h1.1, h1.2, rfl⟩) rfl hc hs⟩
        · cases h
      · split at h
        · cases h
          have h1 : i = 140 ∧ pc = 19 := by
            rcases Bool.or_eq_true_iff.mp ha with h9 | h9
            · exact ⟨xq_beq (xq_and h9).1, xq_beq (xq_and (xq_and h9).2).1⟩
            · exact absurd (xq_and (xq_and h9).2).2 (by decide)
          exact ⟨⟨Nat.le_succ _, Nat.le_add_right _ _, rfl, fun _ _ _ h => h⟩, fun E hE => by cases hE; exact Or.inr rfl, fun p e R s m args below meth c X0 hF hSt hc hs H locs ls hJ hS hl => xq_throw_W hF hSt hJ hS hl hL (Or.inl ⟨h1.1, h1.2, rfl⟩) rfl hc hs⟩
        · cases h
      · rename_i hn1 hn2
        cases h12 : Nat.blt p0 12 with
        | false =>
          rw [h12] at ha
          rcases Bool.or_eq_true_iff.mp ha with h9 | h9
          · exact absurd (xq_beq (xq_and (xq_and h9).2).2) hn2
          · exact absurd (xq_beq (xq_and (xq_and h9).2).2) hn1
        | true =>
          rw [h12] at ha
          obtain ⟨g1, g2⟩ := xq_and ha
          have g1 := xq_beq g1
          subst g1
          have hlt : p0 < 12 := Nat.le_of_ble_eq_true h12
          refine xq_mk (nc := 1) (ns := (xq_C p0).2.2) (xq_St.push ?_) rfl rfl (hK _ _ _ _ hL h) (fun p e R s m args below meth c X0 hF hSt H locs ls hJ hS hl cells slots Q hc hs k => xq_new_W hF hJ hS hd hlt g2 hc hs k)
          show Nat.ble 12 p0 = false
          cases h8 : Nat.ble 12 p0 with
          | false => rfl
          | true => have := Nat.le_of_ble_eq_true h8; omega
    · -- invokevirtual
      rename_i kf
      have hl3 : len = 3 := xq_beq (xq_and ha).1
      subst hl3
      have ha : (Nat.blt p0 310 && (xq_in3 xq_L_ml (xq_mo i) kf p0 && (Nat.beq (xq_kd p0) 1 && (Nat.beq (xq_na p0) p1 && (decide ((xq_ret p0).isNone = decide (v = 0)) && cond (Nat.beq p2 20) (Nat.beq (xq_mo p0) 14) (Nat.blt p2 12 && Nat.beq (xq_mo p0) p2)))))) = true := ha
      obtain ⟨hj, ha⟩ := xq_and ha
      have hj : p0 < 310 := Nat.le_of_ble_eq_true hj
      obtain ⟨hlk, ha⟩ := xq_and ha
      obtain ⟨hkd, ha⟩ := xq_and ha
      have hkd := xq_beq hkd
      obtain ⟨hna, ha⟩ := xq_and ha
      have hna := xq_beq hna
      have hmo := (xq_and ha).2
      clear ha
      split at h
      · rename_i b r0 hdr
        obtain ⟨hst, hlen⟩ := xq_take hdr
        unfold xq_is at h
        split at h
        · rename_i ci fs hh
          by_cases hci : ci = p2
          · rw [if_pos hci] at h
            have hci : (ci = 20 ∧ xq_mo p0 = 14) ∨ (ci < 12 ∧ xq_mo p0 = ci) := by
              rw [hci]
              cases h20 : Nat.beq p2 20 with
              | true => rw [h20] at hmo; exact Or.inl ⟨xq_beq h20, xq_beq hmo⟩
              | false => rw [h20] at hmo; exact Or.inr ⟨Nat.le_of_ble_eq_true (xq_and hmo).1, xq_beq (xq_and hmo).2⟩
            cases hrm : (xq_room r0 && (st.take p1).all xq_isl) with
            | false => rw [hrm] at h; cases h
            | true =>
              rw [hrm] at h
              dsimp only [cond_true] at h
              obtain ⟨hrm, hisl⟩ := xq_and hrm
              have hh2 : xq_cV (C p0 (.ref b :: (st.take p1).reverse) X) (fun X1 => K (pc + 3) L r0 X1) (xq_exc i pc L K) = some r ∨ xq_cI (C p0 (.ref b :: (st.take p1).reverse) X) (fun x X1 => K (pc + 3) L (.int x :: r0) X1) (xq_exc i pc L K) = some r := by
                split at h
                · exact Or.inl h
                · exact Or.inr h
              refine xq_call hi hL hK hh2 (fun q hq => ?_)
              obtain ⟨g1, g2, d', rfl, hM⟩ := hC _ _ _ _ hq hj (by rcases hci with ⟨-, h9⟩ | ⟨h8, h9⟩ <;> omega) (fun w hw => by
                rcases List.mem_cons.mp hw with rfl | hw
                · rfl
                · exact List.all_eq_true.mp hisl w (List.mem_reverse.mp hw)) (by rw [hkd]; show _ = _ + 1; rw [List.length_cons, hlen, hna])
              refine ⟨g1, g2, fun hqr p e R s m args below meth c X0 hF hSt hc hs H locs ls hJ hS hl => ⟨(Value.ref b :: (st.take p1).reverse).toArray, ?_⟩⟩
              have b1 := hqr.1
              have b2 := hqr.2.1
              have h9 := xq_rowV (e := e) (below := below) hF hSt hJ hS hl hL hd hj hlk hkd (hlen.trans hna.symm) hrm hh hci hM g1 (by omega) (by omega)
              rw [← hst] at h9
              exact h9
          · rw [if_neg hci] at h; cases h
        · cases h
      · cases h
    · -- invokespecial
      rename_i kf
      have hl3 : len = 3 := xq_beq (xq_and ha).1
      subst hl3
      have ha : cond (Nat.beq p0 900) (Nat.beq p1 0 && xq_in2 xq_L_ol (xq_mo i) kf) (Nat.blt p0 310 && (xq_in3 xq_L_ml (xq_mo i) kf p0 && (Nat.beq (xq_kd p0) 2 && (Nat.beq (xq_na p0) p1 && (decide (xq_ret p0 = none) && (Nat.blt p2 12 && Nat.beq (xq_mo p0) p2)))))) = true := ha
      split at h
      · rename_i b r0 hdr
        cases h900 : Nat.beq p0 900 with
        | true =>
          rw [h900] at h ha
          dsimp only [cond_true] at h ha
          obtain ⟨hp1, hlk⟩ := xq_and ha
          have hp1 := xq_beq hp1
          subst hp1
          have hdr : st = .ref b :: r0 := hdr
          subst hdr
          cases hrm : xq_room r0 with
          | false => rw [hrm] at h; cases h
          | true =>
            rw [hrm] at h
            refine xq_go (hK _ _ _ _ hL h) (fun p e R s m args below meth c X0 hF hSt H locs ls hJ hS hl cells slots Q k => ?_)
            obtain ⟨⟨hx, hb, hml, hr⟩, ⟨hts, hown, hlocks, hname⟩, ⟨htab, hst, hR1, hR2⟩, -⟩ := hF
            exact W.objInit hx hb hown (hts _ (xq_W_ol (xq_mo i, kf) (xq_in2_m hlk))) (hts _ xq_o_obI) (hts _ xq_o_obC) rfl (by rw [hml, ← hL]; exact hl.1) rfl hd (by omega) (by show 2 * 0 + _ + 12 ≤ _; have := xq_room_sum hrm; omega) (k ls hl)
        | false =>
          rw [h900] at h ha
          dsimp only [cond_false] at h ha
          obtain ⟨hj, ha⟩ := xq_and ha
          have hj : p0 < 310 := Nat.le_of_ble_eq_true hj
          obtain ⟨hlk, ha⟩ := xq_and ha
          obtain ⟨hkd, ha⟩ := xq_and ha
          have hkd := xq_beq hkd
          obtain ⟨hna, ha⟩ := xq_and ha
          have hna := xq_beq hna
          obtain ⟨hre, ha⟩ := xq_and ha
          have hre := of_decide_eq_true hre
          obtain ⟨hp2, hmo⟩ := xq_and ha
          have hp2 : p2 < 12 := Nat.le_of_ble_eq_true hp2
          have hmo := xq_beq hmo
          obtain ⟨hst, hlen⟩ := xq_take hdr
          unfold xq_is at h
          split at h
          · rename_i ci fs hh
            by_cases hci : ci = p2
            · rw [if_pos hci] at h
              cases hrm : (xq_room r0 && (st.take p1).all xq_isl) with
              | false => rw [hrm] at h; cases h
              | true =>
                rw [hrm] at h
                dsimp only [cond_true] at h
                obtain ⟨hrm, hisl⟩ := xq_and hrm
                cases hq : C p0 (.ref b :: (st.take p1).reverse) X with
                | none => rw [hq] at h; cases h
                | some q =>
                  rw [hq] at h
                  obtain ⟨o, Y⟩ := q
                  rcases o with o | E
                  · cases o with
                    | some w => cases h
                    | none =>
                      obtain ⟨g1, g2, d', rfl, hM⟩ := hC _ _ _ _ hq hj (by omega) (fun w hw => by
                        rcases List.mem_cons.mp hw with rfl | hw
                        · rfl
                        · exact List.all_eq_true.mp hisl w (List.mem_reverse.mp hw)) (by rw [hkd]; show _ = _ + 1; rw [List.length_cons, hlen, hna])
                      have hk9 := hK _ _ _ _ hL h
                      refine xq_back hi hL g1 g2 (fun _ => hk9) (fun x hx => by cases hx) (fun E hE => by cases hE) (fun v9 hv => by cases hv; exact Or.inl rfl) (fun hqr p e R s m args below meth c X0 hF hSt hc hs H locs ls hJ hS hl => ⟨(Value.ref b :: (st.take p1).reverse).toArray, ?_⟩)
                      have b1 := hqr.1
                      have b2 := hqr.2.1
                      have h9 := xq_rowI (e := e) (below := below) hF hSt hJ hS hl hL hd hj hlk hkd hre (hlen.trans hna.symm) hrm hM rfl g1 (by dsimp only at b1 ⊢; omega) (by dsimp only at b2 ⊢; omega)
                      rw [← hst] at h9
                      exact h9
                  · cases h
            · rw [if_neg hci] at h; cases h
          · cases h
      · cases h
    · -- invokestatic
      rename_i kf
      have hl3 : len = 3 := xq_beq (xq_and ha).1
      subst hl3
      have ha : cond (Nat.beq p0 901) (xq_in2 xq_L_al (xq_mo i) kf) (cond (Nat.beq p0 902) (xq_in2 xq_L_mx (xq_mo i) kf) (cond (Nat.beq p0 903) (xq_in2 xq_L_mn (xq_mo i) kf) (cond (Nat.beq p0 904) (xq_in2 xq_L_mb (xq_mo i) kf) (!(Nat.beq (xq_mo p0) 13) && (Nat.blt p0 310 && (xq_in3 xq_L_ml (xq_mo i) kf p0 && (Nat.beq (xq_kd p0) 0 && (Nat.beq (xq_na p0) p1 && decide ((xq_ret p0).isNone = decide (v = 0)))))))))) = true := ha
      cases h901 : Nat.beq p0 901 with
      | true =>
        rw [h901] at h ha
        dsimp only [cond_true] at h ha
        split at h
        · rename_i n dp b sp a r0
          cases hrm : xq_room r0 with
          | false => rw [hrm] at h; cases h
          | true =>
            rw [hrm] at h
            dsimp only [cond_true] at h
            unfold xq_cpy at h
            split at h
            · rename_i k0 n0 f0 k1 n1 f1 hh0 hh1
              split at h
              · rename_i hc
                obtain ⟨⟨rfl, rfl, hab⟩, hneg, h4, h5⟩ := hc
                exact xq_wr (xq_St.set rfl) rfl rfl (hK _ _ _ _ hL h) (fun p e R s m args below meth c X0 hF hSt H locs ls hJ hS hl cells slots Q k => xq_cpy_W hF hJ hS hl hL hd ha hrm hh0 hh1 hab hneg h4 h5 k)
              · cases h
            · cases h
        · cases h
      | false =>
        rw [h901] at h ha
        dsimp only [cond_false] at h ha
        cases h902 : Nat.beq p0 902 with
        | true =>
          rw [h902] at h ha
          dsimp only [cond_true] at h ha
          split at h
          · rename_i y x r0
            cases hrm : xq_room r0 with
            | false => rw [hrm] at h; cases h
            | true =>
              rw [hrm] at h
              exact xq_gm (hK _ _ _ _ hL h) (fun p e R s m args below meth c X0 hF hSt H locs ls hJ hS hl cells slots Q hcc hss k => by
                obtain ⟨⟨hx, hb, hml, hr⟩, ⟨hts, hown, hlocks, hname⟩, ⟨htab, hst, hR1, hR2⟩, -⟩ := hF
                exact va_mmax hx hb (by rw [hml, ← hL]; exact hl.1.symm) hown (hts _ (xq_W_mx (xq_mo i, kf) (xq_in2_m ha))) (hts _ xq_o_ms_max) (hts _ xq_o_mat) (hts _ xq_o_mc_max) (by omega) (by have := xq_room_sum hrm; omega) hcc hss hd (k ls hl))
          · cases h
        | false =>
          rw [h902] at h ha
          dsimp only [cond_false] at h ha
          cases h903 : Nat.beq p0 903 with
          | true =>
            rw [h903] at h ha
            dsimp only [cond_true] at h ha
            split at h
            · rename_i y x r0
              cases hrm : xq_room r0 with
              | false => rw [hrm] at h; cases h
              | true =>
                rw [hrm] at h
                exact xq_gm (hK _ _ _ _ hL h) (fun p e R s m args below meth c X0 hF hSt H locs ls hJ hS hl cells slots Q hcc hss k => by
                  obtain ⟨⟨hx, hb, hml, hr⟩, ⟨hts, hown, hlocks, hname⟩, ⟨htab, hst, hR1, hR2⟩, -⟩ := hF
                  exact va_mmin hx hb (by rw [hml, ← hL]; exact hl.1.symm) hown (hts _ (xq_W_mn (xq_mo i, kf) (xq_in2_m ha))) (hts _ xq_o_ms_min) (hts _ xq_o_mat) (hts _ xq_o_mc_min) (by omega) (by have := xq_room_sum hrm; omega) hcc hss hd (k ls hl))
            · cases h
          | false =>
            rw [h903] at h ha
            dsimp only [cond_false] at h ha
            cases h904 : Nat.beq p0 904 with
            | true =>
              rw [h904] at h ha
              dsimp only [cond_true] at h ha
              split at h
              · rename_i x r0
                cases hrm : xq_room r0 with
                | false => rw [hrm] at h; cases h
                | true =>
                  rw [hrm] at h
                  exact xq_gm (hK _ _ _ _ hL h) (fun p e R s m args below meth c X0 hF hSt H locs ls hJ hS hl cells slots Q hcc hss k => by
                    obtain ⟨⟨hx, hb, hml, hr⟩, ⟨hts, hown, hlocks, hname⟩, ⟨htab, hst, hR1, hR2⟩, -⟩ := hF
                    exact va_mabs hx hb (by rw [hml, ← hL]; exact hl.1.symm) hown (hts _ (xq_W_mb (xq_mo i, kf) (xq_in2_m ha))) (hts _ xq_o_ms_abs) (hts _ xq_o_mat) (hts _ xq_o_mc_abs) (by omega) (by have := xq_room_sum hrm; omega) hcc hss hd (k ls hl))
              · cases h
            | false =>
              rw [h904] at h ha
              dsimp only [cond_false] at h ha
              obtain ⟨h13, ha⟩ := xq_and ha
              have h13 : xq_mo p0 ≠ 13 := fun h9 => by rw [h9] at h13; cases h13
              obtain ⟨hj, ha⟩ := xq_and ha
              have hj : p0 < 310 := Nat.le_of_ble_eq_true hj
              obtain ⟨hlk, ha⟩ := xq_and ha
              obtain ⟨hkd, ha⟩ := xq_and ha
              have hkd := xq_beq hkd
              obtain ⟨hna, ha⟩ := xq_and ha
              have hna := xq_beq hna
              clear ha
              cases hrm : (xq_room (st.drop p1) && (Nat.ble p1 st.length && (st.take p1).all xq_isl)) with
              | false => rw [hrm] at h; cases h
              | true =>
                rw [hrm] at h
                dsimp only [cond_true] at h
                obtain ⟨hrm, hisl⟩ := xq_and hrm
                obtain ⟨hple, hisl⟩ := xq_and hisl
                have hple := Nat.le_of_ble_eq_true hple
                have hlen : (st.take p1).reverse.length = p1 := by rw [List.length_reverse, List.length_take]; omega
                have hst : st = (st.take p1).reverse.reverse ++ st.drop p1 := by rw [List.reverse_reverse, List.take_append_drop]
                have hh2 : xq_cV (C p0 (st.take p1).reverse X) (fun X1 => K (pc + 3) L (st.drop p1) X1) (xq_exc i pc L K) = some r ∨ xq_cI (C p0 (st.take p1).reverse X) (fun x X1 => K (pc + 3) L (.int x :: st.drop p1) X1) (xq_exc i pc L K) = some r := by
                  split at h
                  · exact Or.inl h
                  · exact Or.inr h
                refine xq_call hi hL hK hh2 (fun q hq => ?_)
                obtain ⟨g1, g2, d', rfl, hM⟩ := hC _ _ _ _ hq hj h13 (fun w hw => List.all_eq_true.mp hisl w (List.mem_reverse.mp hw)) (by rw [hkd]; show _ = _ + 0; rw [hlen, hna]; rfl)
                refine ⟨g1, g2, fun hqr p e R s m args below meth c X0 hF hSt hc hs H locs ls hJ hS hl => ⟨(st.take p1).reverse.toArray, ?_⟩⟩
                have b1 := hqr.1
                have b2 := hqr.2.1
                have h9 := xq_rowS (e := e) (below := below) hF hSt hJ hS hl hL hd hj hlk hkd (hlen.trans hna.symm) hrm hM g1 (by omega) (by omega)
                rw [← hst] at h9
                exact h9
    · -- ireturn
      obtain ⟨hl3, hre⟩ := xq_and ha
      have hl3 : len = 1 := xq_beq hl3
      subst hl3
      have hre : xq_ret i = some (xq_nar p0) := of_decide_eq_true hre
      split at h
      · rename_i x
        have fin : narrow (xq_nar p0) (.int x) = .int x → r = (.inl (some (.int x)), X) → xq_Ok B dC dI ac l d i pc L [.int x] X r := fun hn hr9 => by
          subst hr9
          refine ⟨xq_St.rf _, fun E hE => (nomatch hE), fun p e R s m args below meth c X0 hF hSt hc hs H locs ls hJ hS hl => vx_ret ?_⟩
          obtain ⟨⟨hx, hb, hml, hr⟩, ⟨hts, hown, hlocks, hname⟩, -⟩ := hF
          exact W.zret hx hb (hr.trans hre) hn (fun t ht hW => ⟨⟨x, (), rfl, rfl, by rw [ht]; exact hJ.1, fun a e2 h9 h8 => by rw [ht]; exact (hJ.2 a e2 h9).2.1 h8⟩, hS.F ht⟩) hS.2.2 hd hlocks
        cases h0 : Nat.beq p0 0 with
        | true =>
          rw [h0] at h
          have h0 := xq_beq h0
          subst h0
          cases h
          exact fin rfl rfl
        | false =>
          rw [h0] at h
          dsimp only [cond_false] at h
          split at h
          · rename_i hn
            cases h
            exact fin hn rfl
          · cases h
      · cases h
    · -- return
      obtain ⟨hl3, hre⟩ := xq_and ha
      have hl3 : len = 1 := xq_beq hl3
      subst hl3
      have hre : xq_ret i = none := of_decide_eq_true hre
      split at h
      · cases h
        refine ⟨xq_St.rf _, fun E hE => (nomatch hE), fun p e R s m args below meth c X0 hF hSt hc hs H locs ls hJ hS hl => vx_ret ?_⟩
        obtain ⟨⟨hx, hb, hml, hr⟩, ⟨hts, hown, hlocks, hname⟩, -⟩ := hF
        exact W.vret hx hb (hr.trans hre) (fun t ht hW => ⟨⟨(), rfl, trivial, by rw [ht]; exact hJ.1, fun a e2 h9 h8 => by rw [ht]; exact (hJ.2 a e2 h9).2.1 h8⟩, hS.F ht⟩) hS.2.2 hd hlocks
      · cases h
    · cases h
end
