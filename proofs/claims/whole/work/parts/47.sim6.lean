/-! FROM THE NAMED CELLS TO xq, 6: what a row does to a cell -/
def xq_gf (ty : Nat) (X : xq_X) (a ci k : Nat) (F : Value → xq_R) : xq_R := match ty with
  | 0 => xq_getI X a ci k (fun x => F (.int x))
  | 1 => xq_getR X a ci k (fun x => F (.ref x))
  | _ => xq_getQ X a ci k (fun x => F (.ref x)) (F .null)
section
variable {adr : xr_A → Nat} {m : xr_N} {S : xr_S} {X : xq_X} {r : xr_O × xr_N × xr_S}
theorem xr_vref {nx : xr_A} {z : xr_A} {w : Value} (h : xr_vrel adr nx (.inr (some (some z))) w) (hz : z ≠ (0, 5000)) : xr_dom nx z ∧ w = .ref (adr z) := by
  rcases h with ⟨h, -⟩ | ⟨-, h1, h2⟩
  · exact absurd h hz
  · exact ⟨h1, h2⟩
theorem xr_vof {nx : xr_A} {z : xr_A} (h : xr_dom nx z) : xr_vrel adr nx (.inr (some (some z))) (.ref (adr z)) := Or.inr ⟨xr_d5 h, h, rfl⟩
theorem xr_get_sim (hR : xr_Rep adr m S X) {b c ci k ty : Nat} (hz : xr_dom (xr_nx S) (b, c)) {f : xr_V → xr_R} {F : Value → xq_R} (h : xr_get m S b c ci k ty f = some r) (hf : ∀ v w, f v = some r → xr_vrel adr (xr_nx S) v w → xr_Gd (F w) r adr S X) :
    xr_Gd (xq_gf ty X (adr (b, c)) ci k F) r adr S X := by
  unfold xr_get at h
  cases hk : Nat.beq (xr_sh b c).1 (100 + ci) with
  | false => rw [hk] at h; cases h
  | true =>
    rw [hk] at h
    have hk := xq_beq hk
    dsimp only [cond_true] at h
    obtain ⟨fl, hc, hlen, hfr⟩ := xr_Rep_obj hR hz hk
    split at h
    · rename_i e he
      obtain ⟨hkl, b1, b2, b3, b4, b5, b6⟩ := hfr k e he
      have gI : ∀ x, fl[k]? = some (.int x) → xq_getI X (adr (b, c)) ci k (fun x => F (.int x)) = F (.int x) := fun x hx => by unfold xq_getI; rw [hc]; simp [hx]
      have gR : ∀ x, fl[k]? = some (.ref x) → xq_getR X (adr (b, c)) ci k (fun x => F (.ref x)) = F (.ref x) := fun x hx => by unfold xq_getR; rw [hc]; simp [hx]
      have gQ : ∀ q, fl[k]? = some (xr_rf adr q) → xq_getQ X (adr (b, c)) ci k (fun x => F (.ref x)) (F .null) = F (xr_rf adr q) := fun q hx => by
        unfold xq_getQ; rw [hc]
        cases q with
        | none => simp [hx, xr_rf]
        | some x => simp [hx, xr_rf]
      unfold xr_fld at h
      cases h10 : Nat.ble 10 e with
      | true =>
        rw [h10] at h
        dsimp only [cond_true] at h
        cases hty : (Nat.beq ty 1 && m.1.all (fun q => !(q == (b, c, k)))) with
        | false => rw [hty] at h; cases h
        | true =>
          rw [hty] at h
          obtain ⟨ht, hu⟩ := xq_and hty
          have ht := xq_beq ht
          rw [ht]
          have hu : (b, c, k) ∉ m.1 := fun h9 => by
            have := List.all_eq_true.mp hu _ h9
            simp at this
          obtain ⟨c1, c2⟩ := b1 (Nat.le_of_ble_eq_true h10) hu
          show xr_Gd (xq_getR X (adr (b, c)) ci k (fun x => F (.ref x))) r adr S X
          rw [gR _ c1]
          exact hf _ _ h (xr_vof c2)
      | false =>
        rw [h10] at h
        dsimp only [cond_false] at h
        cases h0 : Nat.beq e 0 with
        | true =>
          rw [h0] at h
          dsimp only [cond_true] at h
          cases hty : Nat.beq ty 0 with
          | false => rw [hty] at h; cases h
          | true =>
            rw [hty] at h
            have ht := xq_beq hty
            rw [ht]
            show xr_Gd (xq_getI X (adr (b, c)) ci k (fun x => F (.int x))) r adr S X
            rw [gI _ (b2 (xq_beq h0))]
            exact hf _ _ h rfl
        | false =>
          rw [h0] at h
          dsimp only [cond_false] at h
          cases h9 : Nat.beq e 9 with
          | true =>
            rw [h9] at h
            dsimp only [cond_true] at h
            cases hty : Nat.beq ty 0 with
            | false => rw [hty] at h; cases h
            | true =>
              rw [hty] at h
              have ht := xq_beq hty
              rw [ht]
              show xr_Gd (xq_getI X (adr (b, c)) ci k (fun x => F (.int x))) r adr S X
              rw [gI _ (b3 (xq_beq h9))]
              exact hf _ _ h rfl
          | false =>
            rw [h9] at h
            dsimp only [cond_false] at h
            cases h1 : Nat.beq e 1 with
            | true =>
              rw [h1] at h
              dsimp only [cond_true] at h
              cases hty : (Nat.beq ty 2 && (Nat.beq b 0 && Nat.beq c 0)) with
              | false => rw [hty] at h; cases h
              | true =>
                rw [hty] at h
                dsimp only [cond_true] at h
                obtain ⟨ht, hbc⟩ := xq_and hty
                have ht := xq_beq ht
                rw [ht]
                show xr_Gd (xq_getQ X (adr (b, c)) ci k (fun x => F (.ref x)) (F .null)) r adr S X
                rw [gQ _ (b4 (xq_beq h1) (xq_beq (xq_and hbc).1) (xq_beq (xq_and hbc).2))]
                split at h
                · rename_i q hq
                  rw [hq]
                  exact hf _ _ h (xr_vof (hR.2.2.2.2.1.1 q hq).2)
                · rename_i hq
                  rw [hq]
                  exact hf _ _ h rfl
            | false =>
              rw [h1] at h
              dsimp only [cond_false] at h
              cases h2 : Nat.beq e 2 with
              | true =>
                rw [h2] at h
                dsimp only [cond_true] at h
                cases hty : (Nat.beq ty 2 && (Nat.beq c 0 && Nat.blt 0 b)) with
                | false => rw [hty] at h; cases h
                | true =>
                  rw [hty] at h
                  dsimp only [cond_true] at h
                  obtain ⟨ht, hbc⟩ := xq_and hty
                  have ht := xq_beq ht
                  rw [ht]
                  show xr_Gd (xq_getQ X (adr (b, c)) ci k (fun x => F (.ref x)) (F .null)) r adr S X
                  rw [gQ _ (b5 (xq_beq h2) (xq_beq (xq_and hbc).1) (Nat.le_of_ble_eq_true (xq_and hbc).2))]
                  split at h
                  · rename_i q hq
                    rw [hq]
                    exact hf _ _ h (xr_vof (hR.2.2.2.2.1.2.1 b 0 q hq).2)
                  · rename_i hq
                    rw [hq]
                    exact hf _ _ h rfl
              | false =>
                rw [h2] at h
                dsimp only [cond_false] at h
                split at h
                · rename_i q hq
                  cases hty : (Nat.beq q 0 || !(Nat.beq ty 1 && (Nat.beq b 0 && Nat.beq c 0))) with
                  | true => rw [hty] at h; cases h
                  | false =>
                    rw [hty] at h
                    obtain ⟨hq0, hty⟩ := Bool.or_eq_false_iff.mp hty
                    have hty : (Nat.beq ty 1 && (Nat.beq b 0 && Nat.beq c 0)) = true := by
                      cases h8 : (Nat.beq ty 1 && (Nat.beq b 0 && Nat.beq c 0)) with
                      | true => rfl
                      | false => rw [h8] at hty; cases hty
                    obtain ⟨ht, hbc⟩ := xq_and hty
                    have ht := xq_beq ht
                    rw [ht]
                    have hq0 : q ≠ 0 := fun h8 => by rw [h8] at hq0; cases hq0
                    have e10 : ¬ 10 ≤ e := fun h8 => by rw [Nat.ble_eq_true_of_le h8] at h10; cases h10
                    have e0 : e ≠ 0 := fun h8 => by rw [h8] at h0; cases h0
                    have e1 : e ≠ 1 := fun h8 => by rw [h8] at h1; cases h1
                    have e2 : e ≠ 2 := fun h8 => by rw [h8] at h2; cases h2
                    have e9 : e ≠ 9 := fun h8 => by rw [h8] at h9; cases h9
                    show xr_Gd (xq_getR X (adr (b, c)) ci k (fun x => F (.ref x))) r adr S X
                    rw [gR _ (b6 (by omega) (by omega) (xq_beq (xq_and hbc).1) (xq_beq (xq_and hbc).2) q hq hq0)]
                    exact hf _ _ h (xr_vof (hR.2.2.2.2.1.2.2 _ q hq hq0))
                · cases h
    · cases h
theorem xr_put_sim (hR : xr_Rep adr m S X) {b c ci k ty : Nat} (hz : xr_dom (xr_nx S) (b, c)) {v : xr_V} {w : Value} (hvw : xr_vrel adr (xr_nx S) v w) {f : xr_N → xr_S → xr_R} (h : xr_put m S b c ci k ty v f = some r) :
    ∃ (m1 : xr_N) (S1 : xr_S) (fl : List Value), f m1 S1 = some r ∧ xr_nx S1 = xr_nx S ∧ xr_Rep adr m1 S1 (xq_set X (adr (b, c)) (.inr (ci, fl.set k w))) ∧ (∀ g, xq_put X (adr (b, c)) ci k w g = g (xq_set X (adr (b, c)) (.inr (ci, fl.set k w)))) ∧ c < 2000 ∧ ((∃ x, w = .int x ∧ ty = 0) ∨ ((∃ x, w = .ref x) ∧ Nat.beq ty 0 = false) ∨ (w = .null ∧ ty = 2)) := by
  unfold xr_put at h
  cases hk0 : (Nat.blt ci 12 && Nat.beq (xr_sh b c).1 (100 + ci)) with
  | false => rw [hk0] at h; cases h
  | true =>
    rw [hk0] at h
    have hk := xq_beq (xq_and hk0).2
    have hci : ci < 12 := Nat.le_of_ble_eq_true (xq_and hk0).1
    have h2000 : c < 2000 := xr_c2000 hz hk (by omega)
    dsimp only [cond_true] at h
    obtain ⟨fl, hc, hlen, hfr⟩ := xr_Rep_obj hR hz hk
    split at h
    · rename_i e he
      obtain ⟨hkl, -⟩ := hfr k e he
      have gP : ∀ g, xq_put X (adr (b, c)) ci k w g = g (xq_set X (adr (b, c)) (.inr (ci, fl.set k w))) := fun g => by unfold xq_put; rw [hc]; simp [hkl]
      cases h10 : Nat.ble 10 e with
      | true =>
        rw [h10] at h
        dsimp only [cond_true] at h
        split at h
        · rename_i z
          split at h
          · rename_i q u hu
            split at h
            · rename_i hqz
              cases hty : (Nat.beq ty 1 && Nat.blt z.2 1000) with
              | false => rw [hty] at h; cases h
              | true =>
                rw [hty] at h
                have ht := xq_beq (xq_and hty).1
                have hz1 : z.2 < 1000 := Nat.le_of_ble_eq_true (xq_and hty).2
                obtain ⟨c1, c2⟩ := xr_vref hvw (fun h9 => by rw [h9] at hz1; exact absurd hz1 (by decide))
                rw [hqz.1] at hu
                rw [hqz.2] at c1 c2
                refine ⟨_, _, fl, h, rfl, ?_, gP, h2000, Or.inr (Or.inl ⟨⟨_, c2⟩, by rw [ht]; rfl⟩)⟩
                rw [c2]
                exact xr_Rep_putF hR hz h2000 hk he (Nat.le_of_ble_eq_true h10) hu c1 hlen hfr
            · cases h
          · cases h
        · cases h
      | false =>
        rw [h10] at h
        dsimp only [cond_false] at h
        cases h0 : Nat.beq e 0 with
        | true =>
          rw [h0] at h
          dsimp only [cond_true] at h
          have h0 := xq_beq h0
          rw [h0] at he
          split at h
          · rename_i x
            cases hty : Nat.beq ty 0 with
            | false => rw [hty] at h; cases h
            | true =>
              rw [hty] at h
              have hw : w = .int x := hvw
              refine ⟨_, _, fl, h, rfl, ?_, gP, h2000, Or.inl ⟨x, hw, xq_beq hty⟩⟩
              rw [hw]
              exact xr_Rep_putI hR hz h2000 hk he x hlen hfr
          · cases h
        | false =>
          rw [h0] at h
          dsimp only [cond_false] at h
          cases h1 : Nat.beq e 1 with
          | true =>
            rw [h1] at h
            dsimp only [cond_true] at h
            have h1 := xq_beq h1
            rw [h1] at he
            split at h
            · rename_i q
              cases hty : (Nat.beq ty 2 && (Nat.beq b 0 && Nat.beq c 0)) with
              | false => rw [hty] at h; cases h
              | true =>
                rw [hty] at h
                have ht := xq_beq (xq_and hty).1
                have hb0 := xq_beq (xq_and (xq_and hty).2).1
                have hc0 := xq_beq (xq_and (xq_and hty).2).2
                obtain ⟨c1, c2⟩ := xr_vref hvw (fun h9 => by cases h9)
                have hci10 : ci = 10 := by
                  rw [hb0, hc0] at hk
                  have h9 : (110 : Nat) = 100 + ci := hk
                  omega
                refine ⟨_, _, fl, h, rfl, ?_, gP, h2000, Or.inr (Or.inl ⟨⟨_, c2⟩, by rw [ht]; rfl⟩)⟩
                rw [c2, hci10]
                rw [hb0, hc0] at hz he hlen hfr ⊢
                exact xr_Rep_putP hR hz he (some (q + 1)) (fun x hx => by cases hx; exact ⟨Nat.succ_pos _, c1⟩) hlen hfr
            · cases hty : (Nat.beq ty 2 && (Nat.beq b 0 && Nat.beq c 0)) with
              | false => rw [hty] at h; cases h
              | true =>
                rw [hty] at h
                have ht := xq_beq (xq_and hty).1
                have hb0 := xq_beq (xq_and (xq_and hty).2).1
                have hc0 := xq_beq (xq_and (xq_and hty).2).2
                have hw : w = .null := hvw
                have hci10 : ci = 10 := by
                  rw [hb0, hc0] at hk
                  have h9 : (110 : Nat) = 100 + ci := hk
                  omega
                refine ⟨_, _, fl, h, rfl, ?_, gP, h2000, Or.inr (Or.inr ⟨hw, ht⟩)⟩
                rw [hw, hci10]
                rw [hb0, hc0] at hz he hlen hfr ⊢
                exact xr_Rep_putP hR hz he none (fun x hx => by cases hx) hlen hfr
            · cases h
          | false =>
            rw [h1] at h
            dsimp only [cond_false] at h
            cases h2 : Nat.beq e 2 with
            | true =>
              rw [h2] at h
              dsimp only [cond_true] at h
              have h2 := xq_beq h2
              rw [h2] at he
              split at h
              · rename_i q
                cases hty : (Nat.beq ty 2 && (Nat.beq c 0 && Nat.blt 0 b)) with
                | false => rw [hty] at h; cases h
                | true =>
                  rw [hty] at h
                  have ht := xq_beq (xq_and hty).1
                  have hc0 := xq_beq (xq_and (xq_and hty).2).1
                  have hb0 : 0 < b := Nat.le_of_ble_eq_true (xq_and (xq_and hty).2).2
                  obtain ⟨c1, c2⟩ := xr_vref hvw (fun h9 => by cases h9)
                  refine ⟨_, _, fl, h, rfl, ?_, gP, h2000, Or.inr (Or.inl ⟨⟨_, c2⟩, by rw [ht]; rfl⟩)⟩
                  rw [c2]
                  rw [hc0] at hz hk he hlen hfr ⊢
                  exact xr_Rep_putE hR hb0 hz hk he (some (q + 1)) (fun x hx => by cases hx; exact ⟨Nat.succ_pos _, c1⟩) hlen hfr
              · cases hty : (Nat.beq ty 2 && (Nat.beq c 0 && Nat.blt 0 b)) with
                | false => rw [hty] at h; cases h
                | true =>
                  rw [hty] at h
                  have ht := xq_beq (xq_and hty).1
                  have hc0 := xq_beq (xq_and (xq_and hty).2).1
                  have hb0 : 0 < b := Nat.le_of_ble_eq_true (xq_and (xq_and hty).2).2
                  have hw : w = .null := hvw
                  refine ⟨_, _, fl, h, rfl, ?_, gP, h2000, Or.inr (Or.inr ⟨hw, ht⟩)⟩
                  rw [hw]
                  rw [hc0] at hz hk he hlen hfr ⊢
                  exact xr_Rep_putE hR hb0 hz hk he none (fun x hx => by cases hx) hlen hfr
              · cases h
            | false =>
              rw [h2] at h
              dsimp only [cond_false] at h
              cases h3 : (Nat.blt 2 e && Nat.blt e 9) with
              | false => rw [h3] at h; cases h
              | true =>
                rw [h3] at h
                dsimp only [cond_true] at h
                have e3 : 2 < e := Nat.le_of_ble_eq_true (xq_and h3).1
                have e9 : e < 9 := Nat.le_of_ble_eq_true (xq_and h3).2
                split at h
                · rename_i q
                  cases hty : (Nat.beq ty 1 && ((Nat.beq b 0 && Nat.beq c 0) && Nat.blt q 999)) with
                  | false => rw [hty] at h; cases h
                  | true =>
                    rw [hty] at h
                    have ht := xq_beq (xq_and hty).1
                    have hbc := (xq_and (xq_and hty).2).1
                    have hq9 : q < 999 := Nat.le_of_ble_eq_true (xq_and (xq_and hty).2).2
                    have hb0 := xq_beq (xq_and hbc).1
                    have hc0 := xq_beq (xq_and hbc).2
                    obtain ⟨c1, c2⟩ := xr_vref hvw (fun h9 => by cases h9; omega)
                    have hci10 : ci = 10 := by
                      rw [hb0, hc0] at hk
                      have h9 : (110 : Nat) = 100 + ci := hk
                      omega
                    refine ⟨_, _, fl, h, rfl, ?_, gP, h2000, Or.inr (Or.inl ⟨⟨_, c2⟩, by rw [ht]; rfl⟩)⟩
                    rw [c2, hci10]
                    rw [hb0, hc0] at hz he hlen hfr ⊢
                    exact xr_Rep_putM hR hz he e3 e9 (q + 1) c1 hlen hfr
                · cases h
    · cases h
end
