/-! FROM THE NAMED CELLS TO xq, 4: new cells -/
theorem xr_dom_fresh {b c : Nat} (hc : c < 1000) : ¬ xr_dom (b, c) (b, c) := by
  rintro (⟨-, ⟨-, h⟩ | ⟨h, -⟩⟩ | ⟨⟨h, -⟩, -⟩ | ⟨h | h, -⟩)
  · exact Nat.lt_irrefl _ h
  · exact Nat.lt_irrefl _ h
  · have : 1000 ≤ c := h
    omega
  · have : c = 3000 := h
    omega
  · have : c = 4000 := h
    omega
theorem xr_dom_al {b c : Nat} (hc : c < 1000) {z : xr_A} (h : xr_dom (b, c + 1) z) : xr_dom (b, c) z ∨ z = (b, c) ∨ (b = 0 ∧ z.2 = 1000 + c ∧ (xr_sh 0 c).1 = 2 ∧ z.1 < (xr_sh 0 c).2.1) := by
  rcases h with ⟨h1, ⟨h2, h3⟩ | h2⟩ | ⟨⟨h1, h2⟩, h3, h4⟩ | h
  · have h2 : z.1 = b := h2
    have h3 : z.2 < c + 1 := h3
    rcases Nat.lt_or_ge z.2 c with h4 | h4
    · exact Or.inl (Or.inl ⟨h1, Or.inl ⟨h2, h4⟩⟩)
    · exact Or.inr (Or.inl (Prod.ext h2 (by show z.2 = c; omega)))
  · exact Or.inl (Or.inl ⟨h1, Or.inr h2⟩)
  · rcases h4 with ⟨h4, h5⟩ | h4
    · have h4 : 0 = b := h4
      have h5 : z.2 - 1000 < c + 1 := h5
      rcases Nat.lt_or_ge (z.2 - 1000) c with h6 | h6
      · exact Or.inl (Or.inr (Or.inl ⟨⟨h1, h2⟩, h3, Or.inl ⟨h4, h6⟩⟩))
      · have e : z.2 - 1000 = c := by omega
        rw [e] at h3
        exact Or.inr (Or.inr ⟨h4.symm, by omega, h3.1, h3.2⟩)
    · exact Or.inl (Or.inr (Or.inl ⟨⟨h1, h2⟩, h3, Or.inr h4⟩))
  · exact Or.inl (Or.inr (Or.inr h))
theorem xr_dom_up {b c : Nat} {z : xr_A} (h : xr_dom (b, c) z) : xr_dom (b, c + 1) z := by
  rcases h with ⟨h1, ⟨h2, h3⟩ | h2⟩ | ⟨⟨h1, h2⟩, h3, ⟨h4, h5⟩ | h4⟩ | h
  · exact Or.inl ⟨h1, Or.inl ⟨h2, Nat.lt_succ_of_lt h3⟩⟩
  · exact Or.inl ⟨h1, Or.inr h2⟩
  · exact Or.inr (Or.inl ⟨⟨h1, h2⟩, h3, Or.inl ⟨h4, Nat.lt_succ_of_lt h5⟩⟩)
  · exact Or.inr (Or.inl ⟨⟨h1, h2⟩, h3, Or.inr h4⟩)
  · exact Or.inr (Or.inr h)
theorem xr_dom_new {b c : Nat} (hc : c < 1000) : xr_dom (b, c + 1) (b, c) := Or.inl ⟨hc, Or.inl ⟨rfl, Nat.lt_succ_self c⟩⟩
section
variable {adr : xr_A → Nat} {m : xr_N} {S : xr_S} {X : xq_X}
def xr_ad (adr : xr_A → Nat) (z0 : xr_A) (a : Nat) : xr_A → Nat := fun z => if z = z0 then a else adr z
theorem xr_ad_ext {b c a : Nat} (hc : c < 1000) : ∀ z, xr_dom (b, c) z → xr_dom (b, c + 1) z ∧ xr_ad adr (b, c) a z = adr z := fun z hz => by
  refine ⟨xr_dom_up hz, ?_⟩
  unfold xr_ad
  rw [if_neg]
  rintro rfl
  exact xr_dom_fresh hc hz
/-- one new cell -/
theorem xr_Rep_push (hR : xr_Rep adr m S X) {b c n : Nat} (hnx : xr_nx S = (b, c)) (hc : c < 1000) (hk2 : (xr_sh b c).1 ≠ 2) {e1 : xq_E} {u1 : List (Nat × Nat × Nat)} (hu : ∀ q ∈ m.1, q ∈ u1) (hnew : xr_crel (xr_ad adr (b, c) X.1) (u1, m.2) (xr_al S 1 n) (b, c) e1) :
    xr_Rep (xr_ad adr (b, c) X.1) (u1, m.2) (xr_al S 1 n) (xq_push X n e1) := by
  obtain ⟨⟨a1, a2⟩, a3, a4, a5, a6, a7, a8⟩ := hR
  have hnx1 : xr_nx (xr_al S 1 n) = (b, c + 1) := by
    show (S.2.2.1.1, S.2.2.1.2 + 1) = (b, c + 1)
    have h1 : S.2.2.1.1 = b := congrArg Prod.fst hnx
    have h2 : S.2.2.1.2 = c := congrArg Prod.snd hnx
    rw [h1, h2]
  have he : ∀ z, xr_dom (xr_nx S) z → xr_dom (xr_nx (xr_al S 1 n)) z ∧ xr_ad adr (b, c) X.1 z = adr z := by rw [hnx, hnx1]; exact xr_ad_ext hc
  have hcase : ∀ z, xr_dom (xr_nx (xr_al S 1 n)) z → xr_dom (xr_nx S) z ∨ z = (b, c) := fun z hz => by
    rw [hnx1] at hz; rw [hnx]
    rcases xr_dom_al hc hz with h | h | ⟨h1, h2, h3, h4⟩
    · exact Or.inl h
    · exact Or.inr h
    · rw [h1] at hk2; exact absurd h3 hk2
  have hself : xr_ad adr (b, c) X.1 (b, c) = X.1 := by unfold xr_ad; rw [if_pos rfl]
  refine ⟨⟨by show X.1 + 1 = S.1 + 1; omega, by show X.2.1 + n = S.2.1 + n; omega⟩, fun z hz => ?_, fun z z' hz hz' h2 hzz => ?_, fun k hk => ?_, ⟨fun q hq => ?_, fun x y q hq => ?_, fun j q hj hq => ?_⟩, fun x y k h2 hx => ?_, fun x k hx => ?_⟩
  · rcases hcase z hz with h | rfl
    · obtain ⟨c1, e, c2, c3⟩ := a3 z h
      rw [(he z h).2]
      refine ⟨by show adr z < X.1 + 1; omega, e, ?_, xr_crel_to c3 h a6 he (fun k => rfl) (fun _ => ⟨rfl, rfl⟩) (fun _ _ => rfl) (fun _ _ => rfl) (fun k hk => hu _ hk)⟩
      unfold xq_h xq_push
      dsimp only
      rw [if_neg (by omega)]; exact c2
    · rw [hself]
      exact ⟨Nat.lt_succ_self _, e1, by unfold xq_h xq_push; simp, hnew⟩
  · rcases hcase z hz with h | rfl
    · rcases hcase z' hz' with h' | rfl
      · rw [(he z h).2, (he z' h').2] at hzz
        exact a4 z z' h h' h2 hzz
      · rw [(he z h).2, hself] at hzz
        have := (a3 z h).1
        omega
    · rcases hcase z' hz' with h' | rfl
      · rw [(he z' h').2, hself] at hzz
        have := (a3 z' h').1
        omega
      · rfl
  · show X.2.2.2.1 k = _
    rw [(he _ (xr_dom_str hk)).2]; exact a5 k hk
  · exact ⟨(a6.1 q hq).1, (he _ (a6.1 q hq).2).1⟩
  · exact ⟨(a6.2.1 x y q hq).1, (he _ (a6.2.1 x y q hq).2).1⟩
  · exact (he _ (a6.2.2 j q hj hq)).1
  · exact a7 x y k h2 (fun h9 => hx (he _ h9).1)
  · exact a8 x k (fun h9 => hx (he _ h9).1)
theorem xr_Rep_newa (hR : xr_Rep adr m S X) {b c n : Nat} (hnx : xr_nx S = (b, c)) (hc : c < 1000) (hk : (xr_sh b c).1 = 0) (hn : (xr_sh b c).2.1 = n) : xr_Rep (xr_ad adr (b, c) X.1) m (xr_al S 1 n) (xq_push X n (.inl (0, n, xq_zero 0))) := by
  have h := xr_Rep_push (e1 := .inl (0, n, xq_zero 0)) (n := n) hR hnx hc (by rw [hk]; decide) (fun _ h => h) (by
    have e : (fun _ : Nat => (0 : Int32)) = xm (xr_al S 1 n) b c := by
      funext k
      exact (hR.2.2.2.2.2.1 b c k (by omega) (by rw [hnx]; exact xr_dom_fresh hc)).symm
    have h9 := xr_crel_arr (adr := xr_ad adr (b, c) X.1) (m := (m.1, m.2)) (S := xr_al S 1 n) hk
    rw [hn, ← e] at h9
    exact h9)
  exact h
theorem xr_Rep_newS (hR : xr_Rep adr m S X) {b c n : Nat} (hnx : xr_nx S = (b, c)) (hc : c < 1000) (hk : (xr_sh b c).1 = 3) (hn : (xr_sh b c).2.1 = n) : xr_Rep (xr_ad adr (b, c) X.1) m (xr_al S 1 n) (xq_push X n (.inl (3, n, xq_zero 3))) := by
  have e0 : (xr_sh (b, c).1 (b, c).2).1 = 3 := hk
  have h := xr_Rep_push (e1 := .inl (3, n, xq_zero 3)) (n := n) hR hnx hc (by rw [hk]; decide) (fun _ h => h) ⟨fun h => by omega, fun h => by omega, fun _ g1 g2 => ⟨fun _ => none, by rw [show (xr_sh (b, c).1 (b, c).2).2.1 = n from hn]; rfl, fun j hj => by
    have g1 : b = 0 := g1
    have g2 : c = 34 := g2
    subst g1; subst g2
    show none = Option.map _ (xr_d S 0 j)
    rw [hR.2.2.2.2.2.2 0 j (by rw [hnx]; exact xr_dom_fresh hc)]
    rfl⟩, fun h => by omega, fun h => by omega⟩
  exact h
theorem xr_sf_mem {b c k : Nat} {fs : List Nat} {e : Nat} (h : fs[k]? = some e) (he : 10 ≤ e) : (b, c, k) ∈ xr_sf b c fs := by
  refine List.mem_map.mpr ⟨k, List.mem_filter.mpr ⟨List.mem_range.mpr (List.getElem?_eq_some_iff.mp h).1, ?_⟩, rfl⟩
  rw [List.getD_eq_getElem?_getD, h]
  exact Nat.ble_eq_true_of_le he
theorem xr_Rep_new (hR : xr_Rep adr m S X) {b c ci n : Nat} (hnx : xr_nx S = (b, c)) (hc : c < 1000) (hci : ci < 10) (hk : (xr_sh b c).1 = 100 + ci) (hn : (xr_sh b c).2.1 = n) (hl : (xr_sh b c).2.2.length = n) (ht : (List.range n).all (fun k => xr_tok ci k ((xr_sh b c).2.2.getD k 0)) = true) :
    xr_Rep (xr_ad adr (b, c) X.1) (xr_sf b c (xr_sh b c).2.2 ++ m.1, m.2) (xr_al S 1 n) (xq_push X n (.inr (ci, xq_dflt ci n))) := by
  have hlen : (xq_dflt ci n).length = n := by unfold xq_dflt; simp
  refine xr_Rep_push hR hnx hc (by omega) (fun q h => List.mem_append_right _ h) (xr_crel_obj hk (hlen.trans hn.symm) (fun k e hke => ?_))
  have hkn : k < n := by rw [← hl]; exact (List.getElem?_eq_some_iff.mp hke).1
  have ht1 := List.all_eq_true.mp ht k (List.mem_range.mpr hkn)
  rw [List.getD_eq_getElem?_getD, hke] at ht1
  have hd : (xq_dflt ci n)[k]? = some (defaultValue (xq_tys ci k)) := by
    unfold xq_dflt
    rw [List.getElem?_map, List.getElem?_range hkn]; rfl
  have hfr : ¬ xr_dom (xr_nx S) (b, c) := by rw [hnx]; exact xr_dom_fresh hc
  have htk : xr_tok ci k e = true := ht1
  clear ht1 ht
  unfold xr_tok at htk
  refine ⟨by rw [hlen]; exact hkn, fun g g2 => ?_, fun g => ?_, fun g => ?_, fun g g1 g2 => ?_, fun g g1 g2 => ?_, fun g1 g2 g3 g4 => ?_⟩
  · exact absurd (List.mem_append_left _ (xr_sf_mem hke g)) g2
  · subst g
    rw [hd]
    have hz : xm (xr_al S 1 n) b c k = 0 := hR.2.2.2.2.2.1 b c k (by omega) hfr
    rw [hz]
    cases hty : xq_tys ci k <;> rw [hty] at htk <;> first | rfl | cases htk
  · subst g; cases htk
  · subst g1; subst g2
    have h1 : (110 : Nat) = 100 + ci := hk
    omega
  · subst g
    rw [hd]
    subst g1
    have hz : xr_d (xr_al S 1 n) b 0 = none := hR.2.2.2.2.2.2 b 0 (by
      have : Nat.beq b 0 = false := by
        cases h9 : Nat.beq b 0 with
        | false => rfl
        | true => have := xq_beq h9; omega
      rw [this]; exact hfr)
    rw [hz]
    cases hty : xq_tys ci k <;> rw [hty] at htk <;> first | rfl | cases htk
  · subst g3; subst g4
    have h1 : (110 : Nat) = 100 + ci := hk
    omega
/-- a block is full -/
theorem xr_dom_close {q : Nat} {z : xr_A} : xr_dom (q + 1, 10) z ↔ xr_dom (q + 2, 0) z := by
  constructor
  · rintro (⟨h1, ⟨h2, h3⟩ | ⟨h2, h3⟩⟩ | ⟨⟨h1, h2⟩, h3, ⟨h4, h5⟩ | ⟨h4, h5⟩⟩ | h)
    · have h2 : z.1 = q + 1 := h2
      exact Or.inl ⟨h1, Or.inr ⟨by show z.1 < q + 2; omega, by rw [h2]; exact h3⟩⟩
    · have h2 : z.1 < q + 1 := h2
      exact Or.inl ⟨h1, Or.inr ⟨by show z.1 < q + 2; omega, h3⟩⟩
    · have h4 : 0 = q + 1 := h4
      omega
    · exact Or.inr (Or.inl ⟨⟨h1, h2⟩, h3, Or.inr ⟨by show 0 < q + 2; omega, h5⟩⟩)
    · exact Or.inr (Or.inr h)
  · rintro (⟨h1, ⟨h2, h3⟩ | ⟨h2, h3⟩⟩ | ⟨⟨h1, h2⟩, h3, ⟨h4, h5⟩ | ⟨h4, h5⟩⟩ | h)
    · have h3 : z.2 < 0 := h3
      omega
    · have h2 : z.1 < q + 2 := h2
      rcases Nat.lt_or_ge z.1 (q + 1) with h4 | h4
      · exact Or.inl ⟨h1, Or.inr ⟨h4, h3⟩⟩
      · have e : z.1 = q + 1 := by omega
        rw [e] at h3
        exact Or.inl ⟨h1, Or.inl ⟨e, h3⟩⟩
    · have h4 : 0 = q + 2 := h4
      omega
    · exact Or.inr (Or.inl ⟨⟨h1, h2⟩, h3, Or.inr ⟨by show 0 < q + 1; omega, h5⟩⟩)
    · exact Or.inr (Or.inr h)
theorem xr_Rep_dom (hR : xr_Rep adr m S X) {nx : xr_A} (h : ∀ z, xr_dom (xr_nx S) z ↔ xr_dom nx z) : xr_Rep adr m (S.1, S.2.1, nx, S.2.2.2) X := by
  obtain ⟨⟨a1, a2⟩, a3, a4, a5, a6, a7, a8⟩ := hR
  refine ⟨⟨a1, a2⟩, fun z hz => ?_, fun z z' hz hz' => a4 z z' ((h z).mpr hz) ((h z').mpr hz'), a5, ⟨fun q hq => ⟨(a6.1 q hq).1, (h _).mp (a6.1 q hq).2⟩, fun x y q hq => ⟨(a6.2.1 x y q hq).1, (h _).mp (a6.2.1 x y q hq).2⟩, fun j q hj hq => (h _).mp (a6.2.2 j q hj hq)⟩, fun x y k h2 hx => a7 x y k h2 (fun h9 => hx ((h _).mp h9)), fun x k hx => a8 x k (fun h9 => hx ((h _).mp h9))⟩
  obtain ⟨c1, e, c2, c3⟩ := a3 z ((h z).mpr hz)
  exact ⟨c1, e, c2, xr_crel_to c3 ((h z).mpr hz) a6 (fun z hz => ⟨(h z).mp hz, rfl⟩) (fun k => rfl) (fun _ => ⟨rfl, rfl⟩) (fun _ _ => rfl) (fun _ _ => rfl) (fun _ h => h)⟩
/-- new int[n][k] -/
def xr_ag (adr : xr_A → Nat) (c a : Nat) : xr_A → Nat := fun z => if z = (0, c) then a else if z.2 = 1000 + c then a + 1 + z.1 else adr z
theorem xr_Rep_mna (hR : xr_Rep adr m S X) {c n k : Nat} (hnx : xr_nx S = (0, c)) (hc : c < 1000) (hk : (xr_sh 0 c).1 = 2) (hn : (xr_sh 0 c).2.1 = n) (hr : (xr_sh 0 (1000 + c)).1 = 0) (hrk : (xr_sh 0 (1000 + c)).2.1 = k) :
    xr_Rep (xr_ag adr c X.1) m (xr_al S (1 + n) (n + n * k)) (xq_grid X n k) ∧ ∀ z, xr_dom (xr_nx S) z → xr_dom (xr_nx (xr_al S (1 + n) (n + n * k))) z ∧ xr_ag adr c X.1 z = adr z := by
  obtain ⟨⟨a1, a2⟩, a3, a4, a5, a6, a7, a8⟩ := hR
  have hnx1 : xr_nx (xr_al S (1 + n) (n + n * k)) = (0, c + 1) := by
    show (S.2.2.1.1, S.2.2.1.2 + 1) = (0, c + 1)
    have h1 : S.2.2.1.1 = 0 := congrArg Prod.fst hnx
    have h2 : S.2.2.1.2 = c := congrArg Prod.snd hnx
    rw [h1, h2]
  have hrow : ∀ z, xr_dom (xr_nx S) z → z.2 ≠ 1000 + c := fun z hz h9 => by
    rw [hnx] at hz
    rcases hz with ⟨h1, -⟩ | ⟨-, -, ⟨-, h1⟩ | ⟨h1, -⟩⟩ | ⟨h1 | h1, -⟩
    · omega
    · have h1 : z.2 - 1000 < c := h1
      omega
    · have h1 : 0 < 0 := h1
      omega
    · omega
    · omega
  have he : ∀ z, xr_dom (xr_nx S) z → xr_dom (xr_nx (xr_al S (1 + n) (n + n * k))) z ∧ xr_ag adr c X.1 z = adr z := fun z hz => by
    have h9 := hrow z hz
    refine ⟨by rw [hnx1]; rw [hnx] at hz; exact xr_dom_up hz, ?_⟩
    unfold xr_ag
    rw [if_neg (by rintro rfl; rw [hnx] at hz; exact xr_dom_fresh hc hz), if_neg h9]
  have hcase : ∀ z, xr_dom (xr_nx (xr_al S (1 + n) (n + n * k))) z → xr_dom (xr_nx S) z ∨ z = (0, c) ∨ (z.2 = 1000 + c ∧ z.1 < n) := fun z hz => by
    rw [hnx1] at hz; rw [hnx]
    rcases xr_dom_al hc hz with h | h | ⟨h1, h2, h3, h4⟩
    · exact Or.inl h
    · exact Or.inr (Or.inl h)
    · rw [hn] at h4; exact Or.inr (Or.inr ⟨h2, h4⟩)
  have hself : xr_ag adr c X.1 (0, c) = X.1 := by unfold xr_ag; rw [if_pos rfl]
  have hrw : ∀ z : xr_A, z.2 = 1000 + c → xr_ag adr c X.1 z = X.1 + 1 + z.1 := fun z h => by
    unfold xr_ag
    rw [if_neg (by rintro rfl; have : c = 1000 + c := h; omega), if_pos h]
  have hsh : ∀ b, xr_sh b (1000 + c) = xr_sh 0 (1000 + c) := fun b => by
    unfold xr_sh
    have h1 : Nat.blt (1000 + c) 1000 = false := by
      cases h9 : Nat.blt (1000 + c) 1000 with
      | false => rfl
      | true => have : 1000 + c + 1 ≤ 1000 := Nat.le_of_ble_eq_true h9; omega
    have h2 : Nat.blt (1000 + c) 2000 = true := Nat.ble_eq_true_of_le (by omega)
    rw [h1, h2]; rfl
  refine ⟨⟨⟨by show X.1 + 1 + n = S.1 + (1 + n); omega, by show X.2.1 + n + n * k = S.2.1 + (n + n * k); omega⟩, fun z hz => ?_, fun z z' hz hz' h2 hzz => ?_, fun j hj => ?_, ⟨fun q hq => ?_, fun x y q hq => ?_, fun j q hj hq => ?_⟩, fun x y j h2 hx => ?_, fun x j hx => ?_⟩, he⟩
  · rcases hcase z hz with h | rfl | ⟨h1, h2⟩
    · obtain ⟨c1, e, c2, c3⟩ := a3 z h
      rw [(he z h).2]
      refine ⟨by show adr z < X.1 + 1 + n; omega, e, ?_, xr_crel_to c3 h a6 he (fun k => rfl) (fun _ => ⟨rfl, rfl⟩) (fun _ _ => rfl) (fun _ _ => rfl) (fun k hk => hk)⟩
      unfold xq_h xq_grid
      dsimp only
      rw [if_neg (by omega), if_neg (by omega)]; exact c2
    · rw [hself]
      refine ⟨by show X.1 < X.1 + 1 + n; omega, _, by unfold xq_h xq_grid; simp; rfl, ?_⟩
      have e0 : (xr_sh ((0, c) : xr_A).1 ((0, c) : xr_A).2).1 = 2 := hk
      refine ⟨fun h => by omega, fun _ _ _ => ⟨_, by rw [show (xr_sh ((0, c) : xr_A).1 ((0, c) : xr_A).2).2.1 = n from hn], fun j hj => ?_⟩, fun h => by omega, fun h => by omega, fun h => by omega⟩
      have hj : j < n := by rw [← hn]; exact hj
      dsimp only
      rw [if_pos hj, hrw (j, 1000 + c) rfl]
    · rw [hrw z h1]
      refine ⟨by show X.1 + 1 + z.1 < X.1 + 1 + n; omega, .inl (0, k, .inl (fun _ => 0)), ?_, ?_⟩
      · unfold xq_h xq_grid
        dsimp only
        rw [if_neg (by omega), if_pos (by omega)]
      · have ez : (z.1, 1000 + c) = z := Prod.ext rfl h1.symm
        have h9 := xr_crel_arr (adr := xr_ag adr c X.1) (m := m) (S := xr_al S (1 + n) (n + n * k)) (b := z.1) (c := 1000 + c) (by rw [hsh]; exact hr)
        have e : xm (xr_al S (1 + n) (n + n * k)) z.1 (1000 + c) = (fun _ : Nat => (0 : Int32)) := by
          funext j
          exact a7 z.1 (1000 + c) j (by omega) (fun h8 => hrow _ h8 rfl)
        rw [hsh, hrk, e, ez] at h9
        exact h9
  · rcases hcase z hz with h | rfl | ⟨g1, g2⟩
    · have hz1 := (a3 z h).1
      rcases hcase z' hz' with h' | rfl | ⟨g1', g2'⟩
      · rw [(he z h).2, (he z' h').2] at hzz
        exact a4 z z' h h' h2 hzz
      · rw [(he z h).2, hself] at hzz
        omega
      · rw [(he z h).2, hrw z' g1'] at hzz
        omega
    · rcases hcase z' hz' with h' | rfl | ⟨g1', g2'⟩
      · rw [(he z' h').2, hself] at hzz
        have := (a3 z' h').1
        omega
      · rfl
      · rw [hself, hrw z' g1'] at hzz
        omega
    · rcases hcase z' hz' with h' | rfl | ⟨g1', g2'⟩
      · rw [hrw z g1, (he z' h').2] at hzz
        have := (a3 z' h').1
        omega
      · rw [hself, hrw z g1] at hzz
        omega
      · rw [hrw z g1, hrw z' g1'] at hzz
        exact Prod.ext (by omega) (by omega)
  · show X.2.2.2.1 j = _
    rw [(he _ (xr_dom_str hj)).2]; exact a5 j hj
  · exact ⟨(a6.1 q hq).1, (he _ (a6.1 q hq).2).1⟩
  · exact ⟨(a6.2.1 x y q hq).1, (he _ (a6.2.1 x y q hq).2).1⟩
  · exact (he _ (a6.2.2 j q hj hq)).1
  · exact a7 x y j h2 (fun h9 => hx (he _ h9).1)
  · exact a8 x j (fun h9 => hx (he _ h9).1)
end
