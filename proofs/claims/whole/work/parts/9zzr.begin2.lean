/-! THE START, 3: the real state before the loop -/
section
variable {adr : xr_A → Nat} {m : xr_N} {S : xr_S} {X : xq_X}
theorem xr_Rep_new11 (hR : xr_Rep adr m S X) {b c ci n : Nat} (hnx : xr_nx S = (b, c)) (hc : c < 1000) (hci : ci ≠ 10) (hk : (xr_sh b c).1 = 100 + ci) (hn : (xr_sh b c).2.1 = n) (hl : (xr_sh b c).2.2.length = n) (ht : (List.range n).all (fun k => xr_tok ci k ((xr_sh b c).2.2.getD k 0)) = true) :
    xr_Rep (xr_ad adr (b, c) X.1) (xr_sf b c (xr_sh b c).2.2 ++ m.1, m.2) (xr_al S 1 n) (xq_push X n (.inr (ci, xq_dflt ci n))) := by
  have hlen : (xq_dflt ci n).length = n := by unfold xq_dflt; simp
  refine xr_Rep_push hR hnx hc (by omega) (fun q h => List.mem_append_right _ h) (xr_crel_obj hk (hlen.trans hn.symm) (fun k e hke => ?_))
  have hkn : k < n := by rw [← hl]; exact (List.getElem?_eq_some_iff.mp hke).1
  have ht1 := List.all_eq_true.mp ht k (List.mem_range.mpr hkn)
  rw [List.getD_eq_getElem?_getD, hke] at ht1
  have hd : (xq_dflt ci n)[k]? = some (defaultValue (xq_tys ci k)) := by
    unfold xq_dflt
    rw [List.getElem?_map, List.getElem?_range hkn]; rfl
  have hfr : ¬ xr_dom (xr_nx S) (b, c) := by rw [hnx]; exact xr_dom_fresh hc
  have htk : xr_tok ci k e = true := ht1
  clear ht1 ht
  unfold xr_tok at htk
  refine ⟨by rw [hlen]; exact hkn, fun g g2 => ?_, fun g => ?_, fun g => ?_, fun g g1 g2 => ?_, fun g g1 g2 => ?_, fun g1 g2 g3 g4 => ?_⟩
  · exact absurd (List.mem_append_left _ (xr_sf_mem hke g)) g2
  · subst g
    rw [hd]
    have hz : xm (xr_al S 1 n) b c k = 0 := hR.2.2.2.2.2.1 b c k (by omega) hfr
    rw [hz]
    cases hty : xq_tys ci k <;> rw [hty] at htk <;> first | rfl | cases htk
  · subst g; cases htk
  · subst g1; subst g2
    have h1 : (110 : Nat) = 100 + ci := hk
    omega
  · subst g
    rw [hd]
    subst g1
    have hz : xr_d (xr_al S 1 n) b 0 = none := hR.2.2.2.2.2.2 b 0 (by
      have : Nat.beq b 0 = false := by
        cases h9 : Nat.beq b 0 with
        | false => rfl
        | true => have := xq_beq h9; omega
      rw [this]; exact hfr)
    rw [hz]
    cases hty : xq_tys ci k <;> rw [hty] at htk <;> first | rfl | cases htk
  · subst g3; subst g4
    have h1 : (110 : Nat) = 100 + ci := hk
    omega
/-- PotHill itself -/
theorem xr_Rep_new10 {a k : Nat} {D : xr_D} (hR : xr_Rep adr ([], [0, 0, 0, 0, 0, 0]) (a, k, (0, 0), none, (fun _ _ _ => 0), D) X) :
    xr_Rep (xr_ad adr (0, 0) X.1) (xr_sf 0 0 (xr_sh 0 0).2.2 ++ [], [0, 0, 0, 0, 0, 0]) (a + 1, k + 19, (0, 1), none, (fun _ _ _ => 0), D) (xq_push X 19 (.inr (10, xq_dflt 10 19))) := by
  have hlen : (xq_dflt 10 19).length = 19 := by unfold xq_dflt; simp
  refine xr_Rep_push (m := ([], [0, 0, 0, 0, 0, 0])) hR (n := 19) rfl (by omega) (by decide) (fun q h => List.mem_append_right _ h) (xr_crel_obj (ci := 10) rfl (hlen.trans rfl) (fun j e hke => ?_))
  have hkn : j < 19 := (List.getElem?_eq_some_iff.mp hke).1
  refine ⟨by rw [hlen]; exact hkn, fun g g2 => ?_, fun g => ?_, fun g => ?_, fun g g1 g2 => ?_, fun g g1 g2 => ?_, fun g1 g2 g3 g4 q hq hq0 => ?_⟩
  · exact absurd (List.mem_append_left _ (xr_sf_mem hke g)) g2
  · subst g
    have : ∀ j, j < 19 → (xr_sh 0 0).2.2[j]? = some 0 → (xq_dflt 10 19)[j]? = some (.int 0) := by decide
    exact this j hkn hke
  · subst g
    have : ∀ j, j < 19 → (xr_sh 0 0).2.2[j]? ≠ some 9 := by decide
    exact absurd hke (this j hkn)
  · subst g
    have : ∀ j, j < 19 → (xr_sh 0 0).2.2[j]? = some 1 → (xq_dflt 10 19)[j]? = some .null := by decide
    exact this j hkn hke
  · exact absurd g2 (by omega)
  · exfalso
    have hq : ([0, 0, 0, 0, 0, 0] : List Nat)[e - 3]? = some q := hq
    have := List.mem_of_getElem? hq
    simp at this
    exact hq0 this
end
set_option maxRecDepth 200000 in
theorem l310_0 (d b : Nat) (X : xq_X) : xq_Run d 310 0 [.ref b, .retAddr 0, .retAddr 0, .retAddr 0, .retAddr 0, .retAddr 0, .retAddr 0] [] X = xq_is (xq_push X 19 (.inr (10, xq_dflt 10 19))) X.1 10 (xq_cV (xq_Call d 99 [.ref X.1] (xq_push X 19 (.inr (10, xq_dflt 10 19)))) (fun X2 => xq_is (xq_push X2 47 (.inr (11, xq_dflt 11 47))) X2.1 11 (xq_cV (xq_Call d 148 [.ref X2.1] (xq_push X2 47 (.inr (11, xq_dflt 11 47)))) (fun X4 => xq_newa X4 1 (nI 1) (fun X5 => xq_Run d 310 23 [.ref b, .ref X.1, .ref X2.1, .ref X4.1, .int (nI 0), .retAddr 0, .retAddr 0] [] X5)) (fun _ _ => none))) (fun _ _ => none)) := (xq_exec_eq (fun x => Nat.beq x 23) d 310 100 0 _ _ X).symm
theorem dom95 (z : xr_A) : xr_dom (0, 95) z ↔ xr_dom (1, 0) z := by
  unfold xr_dom
  dsimp only
  constructor
  · rintro (⟨h1, ⟨h2, h3⟩ | ⟨h2, h3⟩⟩ | ⟨h1, h3, ⟨h4, h5⟩ | ⟨h4, h5⟩⟩ | h)
    · exact Or.inl ⟨h1, Or.inr ⟨by omega, by rw [h2]; exact h3⟩⟩
    · exact absurd h2 (by omega)
    · exact Or.inr (Or.inl ⟨h1, h3, Or.inr ⟨by omega, h5⟩⟩)
    · exact absurd h4 (by omega)
    · exact Or.inr (Or.inr h)
  · rintro (⟨h1, ⟨h2, h3⟩ | ⟨h2, h3⟩⟩ | ⟨h1, h3, ⟨h4, h5⟩ | ⟨h4, h5⟩⟩ | h)
    · exact absurd h3 (by omega)
    · have h0 : z.1 = 0 := by omega
      exact Or.inl ⟨h1, Or.inl ⟨h0, by rw [h0] at h3; exact h3⟩⟩
    · exact absurd h5 (by omega)
    · exact Or.inr (Or.inl ⟨h1, h3, Or.inl ⟨rfl, h5⟩⟩)
    · exact Or.inr (Or.inr h)
theorem law_all {adr : xr_A → Nat} {X : xq_X} {b L : Nat} {sc : Nat → Int32} (hL : L ≤ 3584) (hR : xr_Rep adr ([], [0, 0, 0, 0, 0, 0]) (X.1, X.2.1, (0, 0), none, (fun _ _ _ => 0), (fun _ _ => none)) X) (hb : b < X.1) (hB : xq_h X b = some (.inl (9, L, .inl sc))) :
    ∃ X', xq_Run 100 310 0 [.ref b, .retAddr 0, .retAddr 0, .retAddr 0, .retAddr 0, .retAddr 0, .retAddr 0] [] X = some (.inl (some (.int 1)), X') ∧ X'.1 ≤ X.1 + 6000 ∧ X'.2.1 ≤ X.2.1 + 500000 := by
  have R1 := xr_Rep_new10 hR
  obtain ⟨M, a', k', e1, ha, hk, Z⟩ := start99 (d := 97) (a := X.1 + 1) (k := X.2.1 + 19) (D := fun _ _ => none)
  -- PotHill
  have v1 : xr_vs (xr_ad adr (0, 0) X.1) (0, 1) [xP 0 0] [.ref X.1] := ⟨Or.inr ⟨(by intro h; cases h), Or.inl ⟨(by show 0 < 1000; omega), Or.inl ⟨rfl, (by show 0 < 1; omega)⟩⟩, (by unfold xr_ad; rw [if_pos rfl])⟩, trivial⟩
  obtain ⟨adr2, X2, g1, R2, E2, F2⟩ := xr_SimC e1 R1 (As' := [.ref X.1]) v1
  have R2 : xr_Rep adr2 xMd (a', k', (0, 69), none, M, (fun _ _ => none)) X2 := R2
  have R3 := xr_Rep_new11 R2 (b := 0) (c := 69) (ci := 11) (n := 47) rfl (by omega) (by omega) rfl rfl rfl (by decide)
  obtain ⟨M', a4, k4, e3, ha4, hk4, G⟩ := start148 (d := 97) (a := a' + 1) (k := k' + 47) (D := fun _ _ => none) Z
  have v3 : xr_vs (xr_ad adr2 (0, 69) X2.1) (0, 70) [xP 0 69] [.ref X2.1] := ⟨Or.inr ⟨(by intro h; cases h), Or.inl ⟨(by show 69 < 1000; omega), Or.inl ⟨rfl, (by show 69 < 70; omega)⟩⟩, (by unfold xr_ad; rw [if_pos rfl])⟩, trivial⟩
  obtain ⟨adr4, X4, g3, R4, E4, F4⟩ := xr_SimC e3 R3 (As' := [.ref X2.1]) v3
  have R4 : xr_Rep adr4 xMd (a4, k4, (0, 95), none, M', (fun _ _ => none)) X4 := R4
  have R5 := xr_Rep_dom R4 (nx := (1, 0)) dom95
  have R5 : xr_Rep adr4 xMd (a4, k4, (1, 0), none, M', (fun _ _ => none)) X4 := R5
  have x1 : (xq_push X 19 (.inr (10, xq_dflt 10 19))).1 = X.1 + 1 := rfl
  have x3 : (xq_push X2 47 (.inr (11, xq_dflt 11 47))).1 = X2.1 + 1 := rfl
  have x2 : X.1 + 1 ≤ X2.1 := F2.2.1
  have x4 : X2.1 + 1 ≤ X4.1 := F4.2.1
  -- where PotHill and the model lie
  have d00 : xr_dom (0, 1) (0, 0) := Or.inl ⟨by show 0 < 1000; omega, Or.inl ⟨rfl, by show 0 < 1; omega⟩⟩
  have p2 : xr_dom (0, 69) (0, 0) ∧ adr2 (0, 0) = X.1 := ⟨(E2.1 _ d00).1, ((E2.1 _ d00).2).trans (by unfold xr_ad; rw [if_pos rfl])⟩
  have p3 : xr_dom (0, 70) (0, 0) ∧ xr_ad adr2 (0, 69) X2.1 (0, 0) = X.1 := ⟨xr_dom_up p2.1, by unfold xr_ad; rw [if_neg (by intro h; cases h)]; exact p2.2⟩
  have p4 : adr4 (0, 0) = X.1 := ((E4.1 _ p3.1).2).trans p3.2
  have q3 : xr_dom (0, 70) (0, 69) := Or.inl ⟨by show 69 < 1000; omega, Or.inl ⟨rfl, by show 69 < 70; omega⟩⟩
  have q4 : adr4 (0, 69) = X2.1 := ((E4.1 _ q3).2).trans (by unfold xr_ad; rw [if_pos rfl])
  -- the script stays
  have n0 : ∀ z, xr_dom (0, 0) z → ¬ z.2 < 2000 := by
    rintro z (⟨h1, ⟨h2, h3⟩ | ⟨h2, h3⟩⟩ | ⟨h1, h3, ⟨h4, h5⟩ | ⟨h4, h5⟩⟩ | ⟨h1, h2⟩) h9
    · exact absurd h3 (Nat.not_lt_zero _)
    · exact absurd h2 (Nat.not_lt_zero _)
    · exact absurd h5 (Nat.not_lt_zero _)
    · exact absurd h4 (Nat.not_lt_zero _)
    · omega
  have n1 : ∀ z, xr_dom (0, 1) z → z.2 < 2000 → xr_ad adr (0, 0) X.1 z ≠ b := by
    intro z hz h9
    unfold xr_ad
    by_cases h0 : z = (0, 0)
    · rw [if_pos h0]; omega
    · exfalso
      rcases hz with ⟨h1, ⟨h2, h3⟩ | ⟨h2, h3⟩⟩ | ⟨h1, h3, ⟨h4, h5⟩ | ⟨h4, h5⟩⟩ | ⟨h1, h2⟩
      · have h2 : z.1 = 0 := h2
        have h3 : z.2 < 1 := h3
        exact h0 (Prod.ext h2 (by show z.2 = 0; omega))
      · exact absurd h2 (Nat.not_lt_zero _)
      · have h5 : z.2 - 1000 < 1 := h5
        have h6 : z.2 - 1000 = 0 := by omega
        rw [h6] at h3
        exact absurd h3.1 (by decide)
      · exact absurd h4 (Nat.not_lt_zero _)
      · omega
  have b1 : xq_h (xq_push X 19 (.inr (10, xq_dflt 10 19))) b = some (.inl (9, L, .inl sc)) := (if_neg (by omega)).trans hB
  have b2 : xq_h X2 b = some (.inl (9, L, .inl sc)) := (F2.1 b (by omega) n1).trans b1
  have n2 : ∀ z, xr_dom (0, 69) z → z.2 < 2000 → adr2 z ≠ b := by
    intro z hz h9
    rcases E2.2 z hz with h | h
    · have := n1 z h h9
      rw [(E2.1 z h).2]; exact this
    · omega
  have b3 : xq_h (xq_push X2 47 (.inr (11, xq_dflt 11 47))) b = some (.inl (9, L, .inl sc)) := (if_neg (by omega)).trans b2
  have n3 : ∀ z, xr_dom (0, 70) z → z.2 < 2000 → xr_ad adr2 (0, 69) X2.1 z ≠ b := by
    intro z hz h9
    unfold xr_ad
    by_cases h0 : z = (0, 69)
    · rw [if_pos h0]; omega
    · rw [if_neg h0]
      refine n2 z ?_ h9
      rcases hz with ⟨h1, ⟨h2, h3⟩ | ⟨h2, h3⟩⟩ | ⟨h1, h3, ⟨h4, h5⟩ | ⟨h4, h5⟩⟩ | ⟨h1, h2⟩
      · refine Or.inl ⟨h1, Or.inl ⟨h2, ?_⟩⟩
        have h3 : z.2 < 70 := h3
        have : z.2 ≠ 69 := fun h6 => h0 (Prod.ext h2 h6)
        show z.2 < 69
        omega
      · exact absurd h2 (Nat.not_lt_zero _)
      · refine Or.inr (Or.inl ⟨h1, h3, Or.inl ⟨h4, ?_⟩⟩)
        have h5 : z.2 - 1000 < 70 := h5
        have : z.2 - 1000 ≠ 69 := by
          intro h6
          rw [h6] at h3
          exact absurd h3.1 (by decide)
        show z.2 - 1000 < 69
        omega
      · exact absurd h4 (Nat.not_lt_zero _)
      · omega
  have b4 : xq_h X4 b = some (.inl (9, L, .inl sc)) := (F4.1 b (by omega) n3).trans b3
  have n4 : ∀ z, xr_dom (0, 95) z → z.2 < 2000 → adr4 z ≠ b := by
    intro z hz h9
    rcases E4.2 z hz with h | h
    · have := n3 z h h9
      rw [(E4.1 z h).2]; exact this
    · omega
  -- new long[1]
  obtain ⟨⟨r1, r2⟩, r3, r4, r5, r6⟩ := R5
  have R6 : xr_Rep adr4 xMd (a4 + 1, k4 + 1, (1, 0), none, M', (fun _ _ => none)) (xq_push X4 1 (.inl (1, 1, xq_zero 1))) := by
    refine ⟨⟨?_, ?_⟩, fun z hz => ?_, r4, r5, r6⟩
    · show X4.1 + 1 = a4 + 1; rw [r1]
    · show X4.2.1 + 1 = k4 + 1; rw [r2]
    · obtain ⟨c1, e, c2, c3⟩ := r3 z hz
      exact ⟨Nat.lt_succ_of_lt c1, e, (if_neg (Nat.ne_of_lt c1)).trans c2, c3⟩
  have hd : ∀ c, c < 95 → xr_dom (1, 0) (0, c) := fun c hc => Or.inl ⟨(by show c < 1000; omega), Or.inr ⟨Nat.succ_pos _, hc⟩⟩
  have I : lI b X.1 X2.1 X4.1 L sc xMd (a4 + 1, k4 + 1, (1, 0), none, M', (fun _ _ => none)) (fun _ => 0) (xq_push X4 1 (.inl (1, 1, xq_zero 1))) := by
    refine ⟨adr4, R6, ⟨⟨p4, hd 0 (by omega)⟩, q4, hd 69 (by omega)⟩, fun z hz => ⟨n4 z ((dom95 z).mpr hz), ?_⟩, ⟨?_, ?_, ?_⟩, (if_neg (by omega)).trans b4, if_pos rfl⟩
    · exact Nat.ne_of_lt (r3 z hz).1
    · show b < X4.1 + 1; omega
    · show X4.1 < X4.1 + 1; omega
    · omega
  obtain ⟨X', e, c1, c2⟩ := law_loop (d := 39) hL 512 0 0 _ _ _ (.retAddr 0) (.retAddr 0) (by omega) (by omega) I (G _ _)
  have y1 : X4.1 = a4 := r1
  have y2 : X4.2.1 = k4 := r2
  have z1 : (xq_push X4 1 (.inl (1, 1, xq_zero 1))).1 = X4.1 + 1 := rfl
  have z2 : (xq_push X4 1 (.inl (1, 1, xq_zero 1))).2.1 = X4.2.1 + 1 := rfl
  refine ⟨X', ?_, by omega, by omega⟩
  have i1 : ∃ fs, xq_h (xq_push X 19 (.inr (10, xq_dflt 10 19))) X.1 = some (.inr (10, fs)) := ⟨_, if_pos rfl⟩
  have i3 : ∃ fs, xq_h (xq_push X2 47 (.inr (11, xq_dflt 11 47))) X2.1 = some (.inr (11, fs)) := ⟨_, if_pos rfl⟩
  rw [l310_0, xq_is_y i1, show xq_Call 100 99 [.ref X.1] (xq_push X 19 (.inr (10, xq_dflt 10 19))) = _ from g1]
  show xq_is (xq_push X2 47 (.inr (11, xq_dflt 11 47))) X2.1 11 _ = _
  rw [xq_is_y i3, show xq_Call 100 148 [.ref X2.1] (xq_push X2 47 (.inr (11, xq_dflt 11 47))) = _ from g3]
  show xq_newa X4 1 (nI 1) _ = _
  exact e
