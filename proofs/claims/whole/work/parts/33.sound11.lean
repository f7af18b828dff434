section
variable {B : Nat} {dC : Nat → ClassId} {dI : Nat → Nat → Nat} {ac : Nat → ClassId} {l : Launch} {K : xq_KT} {C : xq_CT} {d i pc : Nat} {I : xq_I} {L st : List Value} {X : xq_X} {r : xq_O × xq_X}
set_option maxHeartbeats 8000000 in
theorem xq_step_ok (hK : ∀ (pc' : Nat) (L' st' : List Value) (X' : xq_X), L'.length = xq_loc i → K pc' L' st' X' = some r → xq_Ok B dC dI ac l d i pc' L' st' X' r)
    (hC : ∀ (j : Nat) (As : List Value) (X1 : xq_X) (q : xq_O × xq_X), C j As X1 = some q → j < 310 → xq_mo j ≠ 13 → (∀ v ∈ As, xq_isl v = true) → As.length = xq_na j + cond (Nat.beq (xq_kd j) 0) 0 1 → xq_St X1 q.2 ∧ xq_Ex q.1 ∧ ∃ d', d = d' + 1 ∧ xq_Mt B dC dI ac l d' j As X1 q)
    (hcode : xq_code i pc = some I) (hL : L.length = xq_loc i) (h : xq_step i pc I L st X K C = some r) : xq_Ok B dC dI ac l d i pc L st X r := by
  obtain ⟨hi, hck⟩ := xq_code_ok hcode
  obtain ⟨hd, ha⟩ := xq_and hck
  have hd := of_decide_eq_true hd
  clear hck hcode
  unfold xq_step at h
  split at h
  · rename_i rp hp
    have hlen := xq_pure_len (L' := rp.1) (st' := rp.2) hp
    exact xq_go (hK _ _ _ _ (hlen.trans hL) h) (fun p e R s m args below meth c X0 hF hSt H locs ls hJ hS hl cells slots Q k => xq_pure_W hF hSt.2.2.1 hd ha (L' := rp.1) (st' := rp.2) hp hl k)
  · rename_i hp
    clear hp
    obtain ⟨ins, len, v, p0, p1, p2, p3⟩ := I
    dsimp only [xq_p0, xq_p1, xq_p2, xq_v] at h hd
    split at h
    · -- goto
      rename_i o
      obtain ⟨h1, h2⟩ := xq_and ha
      cases xq_beq h2
      exact xq_go (hK _ _ _ _ hL h) (fun p e R s m args below meth c X0 hF hSt H locs ls hJ hS hl cells slots Q k => lv_goto hF.1.1 hF.1.2.1 hd (of_decide_eq_true h1) (k ls hl))
    · -- if
      rename_i cd o
      obtain ⟨h1, h2⟩ := xq_and ha
      cases xq_beq h2
      have h1 := of_decide_eq_true h1
      split at h
      · rename_i x r0
        rw [xq_br_eq] at h
        cases ht : xq_tk cd x 0 with
        | true =>
          rw [ht] at h
          exact xq_go (hK _ _ _ _ hL h) (fun p e R s m args below meth c X0 hF hSt H locs ls hJ hS hl cells slots Q k => xq_if_W hF hd h1 (fun _ => k ls hl) (fun h9 => by rw [ht] at h9; cases h9))
        | false =>
          rw [ht] at h
          exact xq_go (hK _ _ _ _ hL h) (fun p e R s m args below meth c X0 hF hSt H locs ls hJ hS hl cells slots Q k => xq_if_W hF hd h1 (fun h9 => by rw [ht] at h9; cases h9) (fun _ => k ls hl))
      · cases h
    · -- if_icmp
      rename_i cd o
      obtain ⟨h1, h2⟩ := xq_and ha
      cases xq_beq h2
      have h1 := of_decide_eq_true h1
      split at h
      · rename_i y x r0
        rw [xq_br_eq] at h
        cases ht : xq_tk cd x y with
        | true =>
          rw [ht] at h
          exact xq_go (hK _ _ _ _ hL h) (fun p e R s m args below meth c X0 hF hSt H locs ls hJ hS hl cells slots Q k => xq_icmp_W hF hd h1 (fun _ => k ls hl) (fun h9 => by rw [ht] at h9; cases h9))
        | false =>
          rw [ht] at h
          exact xq_go (hK _ _ _ _ hL h) (fun p e R s m args below meth c X0 hF hSt H locs ls hJ hS hl cells slots Q k => xq_icmp_W hF hd h1 (fun h9 => by rw [ht] at h9; cases h9) (fun _ => k ls hl))
      · cases h
    · -- ifnonnull
      rename_i o
      obtain ⟨h1, h2⟩ := xq_and ha
      cases xq_beq h2
      have h1 := of_decide_eq_true h1
      split at h
      · exact xq_go (hK _ _ _ _ hL h) (fun p e R s m args below meth c X0 hF hSt H locs ls hJ hS hl cells slots Q k => lv_ifnonnull hF.1.1 hF.1.2.1 hd h1 (k ls hl))
      · exact xq_go (hK _ _ _ _ hL h) (fun p e R s m args below meth c X0 hF hSt H locs ls hJ hS hl cells slots Q k => lv_ifnonnullN hF.1.1 hF.1.2.1 hd (k ls hl))
      · cases h
    · -- tableswitch
      rename_i dd lo hi2 offs
      obtain ⟨h1, h2⟩ := xq_and ha
      have h1 := of_decide_eq_true h1
      split at h
      · rename_i x r0
        by_cases hr : x.toInt < lo ∨ hi2 < x.toInt
        · rw [if_pos hr] at h
          exact xq_go (hK _ _ _ _ hL h) (fun p e R s m args below meth c X0 hF hSt H locs ls hJ hS hl cells slots Q k => lv_tableOut hF.1.1 hF.1.2.1 hd hr (Int.toNat_of_nonneg h1).symm (k ls hl))
        · rw [if_neg hr] at h
          split at h
          · rename_i o ho
            have h3 := of_decide_eq_true (List.all_eq_true.mp h2 o (by
              have := Array.mem_of_getElem? ho
              exact Array.mem_toList_iff.mpr this))
            exact xq_go (hK _ _ _ _ hL h) (fun p e R s m args below meth c X0 hF hSt H locs ls hJ hS hl cells slots Q k => lv_tableIn hF.1.1 hF.1.2.1 hd (fun h9 => hr (Or.inl h9)) (fun h9 => hr (Or.inr h9)) ho (Int.toNat_of_nonneg h3).symm (k ls hl))
          · cases h
      · cases h
    · -- idiv
      cases xq_beq ha
      split at h
      · rename_i y x r0
        by_cases hy : y = 0
        · rw [if_pos hy] at h; cases h
        · rw [if_neg hy] at h
          exact xq_go (hK _ _ _ _ hL h) (fun p e R s m args below meth c X0 hF hSt H locs ls hJ hS hl cells slots Q k => lv_idiv hF.1.1 hF.1.2.1 hd hy (k ls hl))
      · cases h
    · -- irem
      cases xq_beq ha
      split at h
      · rename_i y x r0
        by_cases hy : y = 0
        · rw [if_pos hy] at h; cases h
        · rw [if_neg hy] at h
          exact xq_go (hK _ _ _ _ hL h) (fun p e R s m args below meth c X0 hF hSt H locs ls hJ hS hl cells slots Q k => lv_irem hF.1.1 hF.1.2.1 hd hy (k ls hl))
      · cases h
    · -- getfield
      rename_i kf
      have hl3 : len = 3 := xq_beq (xq_and ha).1
      subst hl3
      split at h
      · rename_i a r0
        split at h
        · unfold xq_getI at h
          split at h
          · rename_i ci fs hh
            by_cases hci : ci = p0
            · subst hci
              rw [if_pos rfl] at h
              split at h
              · rename_i x hx
                exact xq_go (hK _ _ _ _ hL h) (fun p e R s m args below meth c X0 hF hSt H locs ls hJ hS hl cells slots Q k => xq_get_W hF hJ hS hd ha hh hx (k ls hl))
              · cases h
            · rw [if_neg hci] at h; cases h
          · cases h
        · unfold xq_getR at h
          split at h
          · rename_i ci fs hh
            by_cases hci : ci = p0
            · subst hci
              rw [if_pos rfl] at h
              split at h
              · rename_i x hx
                exact xq_go (hK _ _ _ _ hL h) (fun p e R s m args below meth c X0 hF hSt H locs ls hJ hS hl cells slots Q k => xq_get_W hF hJ hS hd ha hh hx (k ls hl))
              · cases h
            · rw [if_neg hci] at h; cases h
          · cases h
        · unfold xq_getQ at h
          split at h
          · rename_i ci fs hh
            by_cases hci : ci = p0
            · subst hci
              rw [if_pos rfl] at h
              split at h
              · rename_i x hx
                exact xq_go (hK _ _ _ _ hL h) (fun p e R s m args below meth c X0 hF hSt H locs ls hJ hS hl cells slots Q k => xq_get_W hF hJ hS hd ha hh hx (k ls hl))
              · rename_i hx
                exact xq_go (hK _ _ _ _ hL h) (fun p e R s m args below meth c X0 hF hSt H locs ls hJ hS hl cells slots Q k => xq_get_W hF hJ hS hd ha hh hx (k ls hl))
              · cases h
            · rw [if_neg hci] at h; cases h
          · cases h
      · cases h
    · -- putfield
      rename_i kf
      have hl3 : len = 3 := xq_beq (xq_and ha).1
      subst hl3
      have hc12 : ∀ fs : List Value, xq_ro (.inr (p0, fs)) = false := fun fs => by
        have h9 : (Nat.blt p0 12 && (Nat.blt p1 (xq_C p0).2.2 && (xq_in4 xq_L_fl (xq_mo i) kf p0 p1 && (cond (Nat.beq p2 0) (decide (xq_tys p0 p1 = .int)) ((xq_tys p0 p1).isReference) && cond ((xq_C p0).2.1 p1).2.2.2 (Nat.beq (xq_kd i) 2 && Nat.beq p0 (xq_mo i)) true)))) = true := ha
        have h9 : p0 < 12 := Nat.le_of_ble_eq_true (xq_and h9).1
        show Nat.ble 12 p0 = false
        cases h8 : Nat.ble 12 p0 with
        | false => rfl
        | true => have := Nat.le_of_ble_eq_true h8; omega
      have fin : ∀ (w : Value) (a : Nat) (r0 : List Value), st = w :: .ref a :: r0 → ((p2 = 0 ∧ ∃ x, w = .int x) ∨ (Nat.beq p2 0 = false ∧ (w = .null ∨ ∃ x, w = .ref x))) → xq_put X a p0 p1 w (fun X1 => K (pc + 3) L r0 X1) = some r → xq_Ok B dC dI ac l d i pc L st X r := fun w a r0 hst hw hput => by
        subst hst
        unfold xq_put at hput
        split at hput
        · rename_i ci fs hh
          by_cases hci : ci = p0 ∧ p1 < fs.length
          · rw [if_pos hci] at hput
            obtain ⟨rfl, hlt⟩ := hci
            exact xq_wr (xq_St.set (hc12 _)) rfl rfl (hK _ _ _ _ hL hput) (fun p e R s m args below meth c X0 hF hSt H locs ls hJ hS hl cells slots Q k => xq_put_W hF hJ hS hd ha hh hlt hw k)
          · rw [if_neg hci] at hput; cases hput
        · cases hput
      split at h
      · rename_i x a r0
        cases h2 : Nat.beq p2 0 with
        | true => rw [h2] at h; exact fin _ _ _ rfl (Or.inl ⟨xq_beq h2, _, rfl⟩) h
        | false => rw [h2] at h; cases h
      · rename_i x a r0
        cases h2 : Nat.beq p2 0 with
        | true => rw [h2] at h; cases h
        | false => rw [h2] at h; exact fin _ _ _ rfl (Or.inr ⟨h2, Or.inr ⟨_, rfl⟩⟩) h
      · rename_i a r0
        cases h2 : Nat.beq p2 2 with
        | true =>
          rw [h2] at h
          exact fin _ _ _ rfl (Or.inr ⟨by rw [xq_beq h2]; rfl, Or.inl rfl⟩) h
        | false => rw [h2] at h; cases h
      · cases h
    · -- getstatic
      rename_i kf
      obtain ⟨hl3, h1⟩ := xq_and ha
      have hl3 : len = 3 := xq_beq hl3
      subst hl3
      obtain ⟨ho, h1⟩ := xq_and h1
      have ho := xq_beq ho
      cases h2 : Nat.beq p0 0 with
      | true =>
        rw [h2] at h
        have h1 : cond (Nat.beq p0 0) (Nat.beq kf 38) (Nat.beq kf 1053) = true := h1
        rw [h2] at h1
        exact xq_go (hK _ _ _ _ hL h) (fun p e R s m args below meth c X0 hF hSt H locs ls hJ hS hl cells slots Q k => xq_gets_W hF hS ho hd (Or.inl ⟨xq_beq h1, rfl⟩) (k ls hl))
      | false =>
        rw [h2] at h
        have h1 : cond (Nat.beq p0 0) (Nat.beq kf 38) (Nat.beq kf 1053) = true := h1
        rw [h2] at h1
        dsimp only [cond_false] at h
        split at h
        · rename_i a ha9
          exact xq_go (hK _ _ _ _ hL h) (fun p e R s m args below meth c X0 hF hSt H locs ls hJ hS hl cells slots Q k => xq_gets_W hF hS ho hd (Or.inr ⟨xq_beq h1, by rw [← hSt.2.2.1, ha9]; rfl⟩) (k ls hl))
        · rename_i ha9
          exact xq_go (hK _ _ _ _ hL h) (fun p e R s m args below meth c X0 hF hSt H locs ls hJ hS hl cells slots Q k => xq_gets_W hF hS ho hd (Or.inr ⟨xq_beq h1, by rw [← hSt.2.2.1, ha9]; rfl⟩) (k ls hl))
    · -- iaload
      cases xq_beq ha
      split at h
      · unfold xq_iald at h
        split at h
        · rename_i k n g hh
          split at h
          · rename_i hc
            exact xq_go (hK _ _ _ _ hL h) (fun p e R s m args below meth c X0 hF hSt H locs ls hJ hS hl cells slots Q k => xq_iald_W hF hJ hS hd hh hc.1 hc.2 (k ls hl))
          · cases h
        · cases h
      · cases h
    · -- baload
      cases xq_beq ha
      split at h
      · unfold xq_bald at h
        split at h
        · rename_i k n g hh
          split at h
          · rename_i hc
            obtain ⟨rfl, hin⟩ := hc
            exact xq_go (hK _ _ _ _ hL h) (fun p e R s m args below meth c X0 hF hSt H locs ls hJ hS hl cells slots Q k => xq_bald_W hF hJ hS hd hh hin (k ls hl))
          · cases h
        · cases h
      · cases h
    · -- laload
      cases xq_beq ha
      split at h
      · unfold xq_lald at h
        split at h
        · rename_i k n g hh
          split at h
          · rename_i hc
            obtain ⟨rfl, hin⟩ := hc
            exact xq_go (hK _ _ _ _ hL h) (fun p e R s m args below meth c X0 hF hSt H locs ls hJ hS hl cells slots Q k => xq_lald_W hF hJ hd hh hin (k ls hl))
          · cases h
        · cases h
      · cases h
    · -- aaload
      cases xq_beq ha
      split at h
      · unfold xq_aald at h
        split at h
        · rename_i k n g hh
          split at h
          · rename_i hc
            split at h
            · rename_i q hq
              exact xq_go (hK _ _ _ _ hL h) (fun p e R s m args below meth c X0 hF hSt H locs ls hJ hS hl cells slots Q k => xq_aald_W hF hJ hd hh hc.1 hc.2 (by rw [hq]; exact k ls hl))
            · rename_i hq
              exact xq_go (hK _ _ _ _ hL h) (fun p e R s m args below meth c X0 hF hSt H locs ls hJ hS hl cells slots Q k => xq_aald_W hF hJ hd hh hc.1 hc.2 (by rw [hq]; exact k ls hl))
          · cases h
        · cases h
      · cases h
    · -- iastore
      cases xq_beq ha
      split at h
      · unfold xq_iast at h
        split at h
        · rename_i k n g hh
          split at h
          · rename_i hc
            obtain ⟨rfl, hin⟩ := hc
            exact xq_wr (xq_St.set rfl) rfl rfl (hK _ _ _ _ hL h) (fun p e R s m args below meth c X0 hF hSt H locs ls hJ hS hl cells slots Q k => xq_iast_W hF hJ hS hd hh hin k)
          · cases h
        · cases h
      · cases h
    · -- lastore
      cases xq_beq ha
      split at h
      · unfold xq_last at h
        split at h
        · rename_i k n g hh
          split at h
          · rename_i hc
            obtain ⟨rfl, hin⟩ := hc
            exact xq_wr (xq_St.set rfl) rfl rfl (hK _ _ _ _ hL h) (fun p e R s m args below meth c X0 hF hSt H locs ls hJ hS hl cells slots Q k => xq_last_W hF hJ hS hd hh hin k)
          · cases h
        · cases h
      · cases h
    · -- aastore
      cases xq_beq ha
      split at h
      · unfold xq_aast at h
        split at h
        · rename_i k n g hh
          split at h
          · rename_i hc
            obtain ⟨⟨rfl, hs⟩, hin⟩ := hc
            exact xq_wr (xq_St.set rfl) rfl rfl (hK _ _ _ _ hL h) (fun p e R s m args below meth c X0 hF hSt H locs ls hJ hS hl cells slots Q k => xq_aast_W hF hJ hS hd hh hs hin k)
          · cases h
        · cases h
      · unfold xq_aast at h
        split at h
        · rename_i k n g hh
          split at h
          · rename_i hc
            obtain ⟨⟨rfl, hs⟩, hin⟩ := hc
            exact xq_wr (xq_St.set rfl) rfl rfl (hK _ _ _ _ hL h) (fun p e R s m args below meth c X0 hF hSt H locs ls hJ hS hl cells slots Q k => xq_aast_W hF hJ hS hd hh hs hin k)
          · cases h
        · cases h
      · cases h
    · -- arraylength
      cases xq_beq ha
      split at h
      · unfold xq_alen at h
        split at h
        · rename_i k n g hh
          exact xq_go (hK _ _ _ _ hL h) (fun p e R s m args below meth c X0 hF hSt H locs ls hJ hS hl cells slots Q k => xq_alen_W hF hJ hS hd hh (k ls hl))
        · cases h
      · cases h
    · -- newarray
      rename_i t
      obtain ⟨hl3, h1⟩ := xq_and ha
      have hl3 : len = 2 := xq_beq hl3
      subst hl3
      have hk : (p0 = 0 ∧ t = .int) ∨ (p0 = 1 ∧ t = .long) := by
        rcases Bool.or_eq_true_iff.mp h1 with h2 | h2
        · exact Or.inl ⟨xq_beq (xq_and h2).1, of_decide_eq_true (xq_and h2).2⟩
        · exact Or.inr ⟨xq_beq (xq_and h2).1, of_decide_eq_true (xq_and h2).2⟩
      split at h
      · rename_i n r0
        unfold xq_newa at h
        split at h
        · cases h
        · rename_i hn
          exact xq_mk (nc := 1) (ns := n.toNatClampNeg) (xq_St.push (by rcases hk with ⟨rfl, -⟩ | ⟨rfl, -⟩ <;> rfl)) rfl rfl (hK _ _ _ _ hL h) (fun p e R s m args below meth c X0 hF hSt H locs ls hJ hS hl cells slots Q hc hs k => xq_newa_W hF hJ hS hd hk hn hc hs k)
      · cases h
    · -- anewarray
      rename_i kf
      obtain ⟨hl3, h1⟩ := xq_and ha
      have hl3 : len = 3 := xq_beq hl3
      subst hl3
      obtain ⟨ho, hk⟩ := xq_and h1
      have ho := xq_beq ho
      have hk := xq_beq hk
      subst hk
      split at h
      · rename_i n r0
        unfold xq_newa at h
        split at h
        · cases h
        · rename_i hn
          exact xq_mk (nc := 1) (ns := n.toNatClampNeg) (xq_St.push rfl) rfl rfl (hK _ _ _ _ hL h) (fun p e R s m args below meth c X0 hF hSt H locs ls hJ hS hl cells slots Q hc hs k => xq_anew_W hF hJ hS hd ho hn hc hs k)
      · cases h
    · -- multianewarray
      rename_i kf nd
      obtain ⟨hl3, h1⟩ := xq_and ha
      have hl3 : len = 4 := xq_beq hl3
      subst hl3
      obtain ⟨hnd, h1⟩ := xq_and h1
      have hnd := xq_beq hnd
      subst hnd
      obtain ⟨ho, hk⟩ := xq_and h1
      have ho := xq_beq ho
      have hk := xq_beq hk
      subst hk
      split at h
      · rename_i k n r0
        unfold xq_mna at h
        split at h
        · cases h
        · rename_i hn
          refine xq_mk (nc := 1 + n.toNatClampNeg) (ns := n.toNatClampNeg + n.toNatClampNeg * k.toNatClampNeg) xq_St.grid (by show X.1 + 1 + _ = _; omega) (by show X.2.1 + _ + _ = _; omega) (hK _ _ _ _ hL h) (fun p e R s m args below meth c X0 hF hSt H locs ls hJ hS hl cells slots Q hc hs k9 => xq_mna_W hF hJ hS hd ho hn hc hs (fun H1 hJ1 hS1 => ?_))
          have h9 := k9 H1 hJ1 hS1
          rw [← Nat.add_assoc, ← Nat.add_assoc] at h9
          exact h9
      · cases h
    · -- new
      rename_i kf
      have hl3 : len = 3 := xq_beq (xq_and ha).1
      subst hl3
      have ha : cond (Nat.blt p0 12) (Nat.beq (xq_C p0).2.2 p1 && xq_in3 xq_L_ck (xq_mo i) kf p0) ((Nat.beq i 140 && (Nat.beq pc 19 && Nat.beq p0 101)) || (Nat.beq i 141 && (Nat.beq pc 20 && Nat.beq p0 100))) = true := ha
      sorry
    · -- invokevirtual
      sorry
    · -- invokespecial
      sorry
    · -- invokestatic
      sorry
    · -- ireturn
      sorry
    · -- return
      sorry
    · cases h
end
