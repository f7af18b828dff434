/-! UNDO, IMAGE, RESTORE -/
section
variable {d : Nat} {S : xr_S}
theorem o_undo {N : Nat} (H : gInv N S) : oRt d 106 214 [] S := by
  have H' := H
  obtain ⟨e, np, nq, ch, st, du, pl, dy, dp, sz, kd, gv, g, h, s, ln, ti, fl, tb, L, w, im, I, B, Sc, Hs⟩ := H
  obtain ⟨n1, n2, n3, _, _⟩ := xIq_n I
  obtain ⟨⟨hw, him⟩, ⟨h1, h2, h3⟩, C, J⟩ := Hs
  obtain ⟨a, k, nx, pa, M, D⟩ := S
  have h1 : M 0 69 36 = nI w := h1
  have h2 : M 0 69 38 = nI im := h2
  have h3 : M 0 0 14 = nI im := h3
  have J : ∀ j, j < im → ∃ p w', D 0 j = some (p + 1) ∧ p < N ∧ w' ≤ 16 ∧ M j 1092 0 = nI w' ∧ svd M np nq pl (p + 1) (fun k => M j 1092 (1 + k)) ∧ chn N M D np nq pl w' (D (p + 1) 0) (fun r k => M j 1092 (794 + 793 * r + k)) := J
  cases w with
  | zero =>
    have C : pa = none := C
    subst C
    refine oRt_q (r := -1) H' (qOk_of xv106_0N ?_)
    rw [xe214, show xw (xm (a, k, nx, none, M, D)) 0 69 0 (nI 0) 0 69 36 = nI 0 from by rw [xw_n (by omega)]; exact h1, if_pos rfl]
  | succ n =>
    obtain ⟨p, ep, hp, hwk, V, C⟩ := C
    have ep : pa = some (p + 1) := ep
    subst ep
    have V : svd M np nq pl (p + 1) (M n 1091) := V
    have C : chn N M D np nq pl n (D (p + 1) 0) (fun r => M r 1091) := C
    obtain ⟨M1, e1, C1, F1⟩ := gc6b (d := d + 57) (w := [35, 44, 53, 58, 63, 66]) (q := p) (S := (a, k, nx, some (p + 1), M, D))
    have F1 : ∀ b e, ¬ (b = 0 ∧ 3 ≤ e ∧ e ≤ 11) → M1 b e = M b e := F1
    obtain ⟨M1', hM1⟩ : ∃ M1', M1' = xw M1 0 0 16 (nI 0) := ⟨_, rfl⟩
    have F2 : ∀ b e, ¬ (b = 0 ∧ (e = 0 ∨ (3 ≤ e ∧ e ≤ 11))) → M1' b e = M b e := fun b e h => by rw [hM1, xw_r (by omega), F1 b e (by omega)]
    have Cn : chn N M1' D np nq pl n (D (p + 1) 0) (fun r => M1' r 1091) := chn_fr n1 n2 n3 (Nat.le_refl _) (fun b e g1 g2 g3 => F2 b e (by omega)) (fun _ _ _ => rfl) n _ (fun r k _ _ => by rw [F2 r 1091 (by omega)]) C
    have cl : xr_Call (d + 60) 106 [xP 0 0] xMd (a, k, nx, some (p + 1), M, D) = some (.inl (some (nI n)), xMd, (a, k, nx, D (p + 1) 0, M1', D)) := by
      refine (xv106_0S (d := d + 59)).trans ?_
      rw [show xr_Call (d + 59) 6 [xP 0 3, xP (p + 1) 1] xMd (a, k, nx, some (p + 1), M, D) = _ from e1, xr_cV_s]
      refine (y106_23 (d := d + 59) (chn_pa C)).trans ?_
      rw [← hM1, show xr_Call (d + 59) 142 [xP 0 0] xMd (a, k, nx, D (p + 1) 0, M1', D) = _ from c142 (d := d + 58) (S := (a, k, nx, D (p + 1) 0, M1', D)) Cn, xr_cI_s]
    obtain ⟨MT, hMT⟩ : ∃ MT, MT = xw (xw M1' 0 69 0 (nI 0)) 0 69 36 (nI n) := ⟨_, rfl⟩
    obtain ⟨M2, e2, C2, F3⟩ := gm177c (d := d + 58) (w := [35, 44, 53, 58, 63, 66]) (q := n) (S := (a, k, nx, D (p + 1) 0, MT, D))
    have C2 : ∀ j, j < 793 → M2 0 89 j = MT n 1091 j := C2
    have F3 : ∀ b e, ¬ (b = 0 ∧ e = 89) → M2 b e = MT b e := F3
    obtain ⟨M3, hM3⟩ : ∃ M3, M3 = xw M2 0 69 37 (nI 0) := ⟨_, rfl⟩
    have FF : ∀ b e, ¬ (b = 0 ∧ (e = 0 ∨ (3 ≤ e ∧ e ≤ 11) ∨ e = 69 ∨ e = 89)) → M3 b e = M b e := fun b e h => by rw [hM3, xw_r (by omega), F3 b e (by omega), hMT, xw_r (by omega), xw_r (by omega), F2 b e (by omega)]
    have F1c : ∀ e, 3 ≤ e → e ≤ 11 → M3 0 e = M1 0 e := fun e g1 g2 => by rw [hM3, xw_r (by omega), F3 0 e (by omega), hMT, xw_r (by omega), xw_r (by omega), hM1, xw_r (by omega)]
    have G0 : ∀ k, ¬ k = 16 → M3 0 0 k = M 0 0 k := fun k hk => by rw [hM3, xw_n (by omega), F3 0 0 (by omega), hMT, xw_n (by omega), xw_n (by omega), hM1, xw_n (by omega), F1 0 0 (by omega)]
    have G69 : ∀ k, ¬ (k = 0 ∨ k = 36 ∨ k = 37) → M3 0 69 k = M 0 69 k := fun k hk => by rw [hM3, xw_n (by omega), F3 0 69 (by omega), hMT, xw_n (by omega), xw_n (by omega), F2 0 69 (by omega)]
    have g36 : M3 0 69 36 = nI n := by rw [hM3, xw_n (by omega), F3 0 69 (by omega), hMT, xw_y (by omega)]
    have e89 : ∀ j, j < 793 → M3 0 89 j = M n 1091 j := fun j hj => by rw [hM3, xw_n (by omega), C2 j hj, hMT, xw_n (by omega), xw_n (by omega), F2 n 1091 (by omega)]
    have mo : xr_Call (d + 60) 214 [xP 0 69] xMd (a, k, nx, D (p + 1) 0, M1', D) = some (.inl (some (nI n)), xMd, (a, k, nx, D (p + 1) 0, M3, D)) := by
      have t1 : xw (xm (a, k, nx, D (p + 1) 0, M1', D)) 0 69 0 (nI 0) 0 69 36 = nI (n + 1) := by rw [xw_n (by omega)]; show M1' 0 69 36 = _; rw [F2 0 69 (by omega)]; exact h1
      have t2 : xw (xw (xm (a, k, nx, D (p + 1) 0, M1', D)) 0 69 0 (nI 0)) 0 69 36 (nI n) = MT := hMT.symm
      have t3 : MT 0 69 36 = nI n := by rw [hMT, xw_y (by omega)]
      rw [xe214, t1, if_neg (by rw [xn_eq (by omega) (by omega)]; omega), xn_sub (by omega), Nat.add_sub_cancel, t2, t3, xi_t (by omega) (by omega), cond_true, xn_k (by omega)]
      rw [show xr_Call (d + 59) 177 [xP n 1091, xP 0 89] xMd (xs (a, k, nx, D (p + 1) 0, M1', D) MT) = _ from e2, xr_cV_s]
      have t4 : xw (xm (xs (a, k, nx, D (p + 1) 0, MT, D) M2)) 0 69 37 (nI 0) = M3 := hM3.symm
      rw [t4, g36]
      rfl
    obtain ⟨hh, ss, V1, V2, V3, V4, V5⟩ := V
    refine ⟨nI n, N, xMd, _, _, _, cl, mo, ?_, Or.inl ⟨rfl, rfl⟩, ⟨e, np, nq, ch, st, du, pl, dy, dp, sz, kd, gv, M3 0 89, hh, ss, ln, ti, fl, tb, L, n, im, ?_, ?_, ?_, ?_⟩, Nat.le_add_right _ _, Nat.le_add_right _ _⟩
    · show M3 0 69 0 = nI 0
      rw [hM3, xw_n (by omega), F3 0 69 (by omega), hMT, xw_n (by omega), xw_y (by omega)]
    · have G' := xGr_cp C1 n1 n2 n3 V1
      have Hc' := xhC_cp C1 (xhB_le (by omega) (hG_B (hI_G V5))) V3
      refine xIq_new (M := M) ⟨fun b e g1 g2 g3 => FF b e (by omega), G69 21 (by omega), G69 35 (by omega)⟩ I (xGr_fr (fun e g1 g2 => F1c e (by omega) (by omega)) G') V2 ?_ V4 V5 e89
      show xhC (M3 0 10) (M3 0 11) hh ss
      rw [F1c 10 (by omega) (by omega), F1c 11 (by omega) (by omega)]
      exact Hc'
    · obtain ⟨B1, ⟨B2, B3⟩, B4, B5⟩ := B
      refine ⟨B1, ⟨?_, ?_⟩, ?_, ?_⟩
      · show M3 0 1 1 = _; rw [FF 0 1 (by omega)]; exact B2
      · intro k hk; show M3 0 2 k = _; rw [FF 0 2 (by omega)]; exact B3 k hk
      · show M3 0 69 1 = _; rw [G69 1 (by omega)]; exact B4
      · intro k hk; show M3 0 70 k = _; rw [FF 0 70 (by omega)]; exact B5 k hk
    · obtain ⟨s1, s2, s3, s4⟩ := Sc
      refine ⟨?_, ?_, ?_, ?_⟩
      · show M3 0 0 15 = M3 0 69 3; rw [G0 15 (by omega), G69 3 (by omega)]; exact s1
      · show M3 0 0 16 = M3 0 69 37
        rw [hM3, xw_n (show ¬ (0 = 0 ∧ 0 = 69 ∧ 16 = 37) by omega), xw_y (by omega), F3 0 0 (by omega), hMT, xw_n (by omega), xw_n (by omega), hM1, xw_y (by omega)]
      · show M3 0 0 17 = M3 0 71 0; rw [G0 17 (by omega), FF 0 71 (by omega)]; exact s3
      · show M3 0 0 18 = M3 0 71 1; rw [G0 18 (by omega), FF 0 71 (by omega)]; exact s4
    · have fr : ∀ b e, 1 ≤ b → b ≤ N → e < 10 → M3 b e = M b e := fun b e g1 _ g2 => FF b e (by omega)
      refine ⟨⟨by omega, him⟩, ⟨g36, ?_, ?_⟩, chn_fr n1 n2 n3 (Nat.le_refl _) fr (fun _ _ _ => rfl) n _ (fun r k _ _ => ?_) C, fun j hj => ?_⟩
      · show M3 0 69 38 = _; rw [G69 38 (by omega)]; exact h2
      · show M3 0 0 14 = _; rw [G0 14 (by omega)]; exact h3
      · exact congrFun (FF r 1091 (by omega)) k
      · obtain ⟨p', w', a1, a2, a3, a4, a5, a6⟩ := J j hj
        have f92 : ∀ r, M3 r 1092 = M r 1092 := fun r => FF r 1092 (by omega)
        refine ⟨p', w', a1, a2, a3, ?_, svd_fr n1 n2 n3 (fun e he => fr _ e (by omega) (by omega) he) (fun k _ => ?_) a5, chn_fr n1 n2 n3 (Nat.le_refl _) fr (fun _ _ _ => rfl) w' _ (fun r k _ _ => ?_) a6⟩
        · show M3 j 1092 0 = _; rw [f92]; exact a4
        · exact congrFun (f92 j) (1 + k)
        · exact congrFun (f92 j) (794 + 793 * r + k)
theorem o_image {N : Nat} (H : gInv N S) : oRt d 136 267 [] S := by
  have H' := H
  obtain ⟨e, np, nq, ch, st, du, pl, dy, dp, sz, kd, gv, g, h, s, ln, ti, fl, tb, L, w, im, I, B, Sc, Hs⟩ := H
  obtain ⟨n1, n2, n3, _, _⟩ := xIq_n I
  obtain ⟨⟨hw, him⟩, ⟨h1, h2, h3⟩, C, J⟩ := Hs
  obtain ⟨a, k, nx, pa, M, D⟩ := S
  have e : nx = (N + 1, 0) := e
  subst e
  have h1 : M 0 69 36 = nI w := h1
  have h2 : M 0 69 38 = nI im := h2
  have h3 : M 0 0 14 = nI im := h3
  have C : chn N M D np nq pl w pa (fun r => M r 1091) := C
  have J : ∀ j, j < im → ∃ p w', D 0 j = some (p + 1) ∧ p < N ∧ w' ≤ 16 ∧ M j 1092 0 = nI w' ∧ svd M np nq pl (p + 1) (fun k => M j 1092 (1 + k)) ∧ chn N M D np nq pl w' (D (p + 1) 0) (fun r k => M j 1092 (794 + 793 * r + k)) := J
  have pre : xr_Call (d + 60) 136 [xP 0 0] xMd (a, k, (N + 1, 0), pa, M, D) = _ := xv136_0 (d := d + 59)
  rw [show xm (a, k, (N + 1, 0), pa, M, D) 0 0 14 = nI im from h3, if_neg (by rw [xn_lt (by omega) (by omega)]; omega)] at pre
  have t0 : xw (xm (a, k, (N + 1, 0), pa, M, D)) 0 69 0 (nI 0) 0 69 38 = nI im := by rw [xw_n (by omega)]; exact h2
  by_cases q3 : im = 3
  · rw [if_neg (by rw [xn_lt (by omega) (by omega)]; omega)] at pre
    refine oRt_q (r := -1) H' (qOk_of pre ?_)
    rw [xe267, t0, q3, if_pos rfl]
  · rw [if_pos (by rw [xn_lt (by omega) (by omega)]; omega), y136_21 (chn_pa C), show xr_Call (d + 59) 142 [xP 0 0] ([(N + 1, 0, 0)], [35, 44, 53, 58, 63, 66]) (a + 1, k + 3, (N + 1, 1), pa, M, D) = _ from c142 (d := d + 58) (S := (a + 1, k + 3, (N + 1, 1), pa, M, D)) C, xr_cI_s] at pre
    obtain ⟨M1, e1, C1, e2, F1⟩ := y73 (d := d + 55) (q := N) (a := a) (k := k) (pa := pa) (M := M) (D := D) (x := nI w) (f := fun S2 => xr_Run (d + 59) 136 48 [xP 0 0] [xP (N + 1) 0, xI (M 0 0 14), xP 0 34] xMd S2) (chn_pa C)
    rw [show xr_cC xMd 6 (xr_Call (d + 59) 73 _ _ _) _ = _ from e1, xv136_48, h3, xi_t (by omega) (by omega), cond_true, xn_k (by omega)] at pre
    have m14 : M1 0 0 14 = nI im := by rw [F1 0 0 (by omega)]; exact h3
    obtain ⟨M1', hM1⟩ : ∃ M1', M1' = xw M1 0 0 14 (nI (im + 1)) := ⟨_, rfl⟩
    obtain ⟨D1, hD1⟩ : ∃ D1, D1 = xr_up (xr_up D (N + 1) 0 pa) 0 im (some (N + 1)) := ⟨_, rfl⟩
    have cl : xr_Call (d + 60) 136 [xP 0 0] xMd (a, k, (N + 1, 0), pa, M, D) = some (.inl (some (nI (im + 1))), xMd, (a + 10, k + 812, (N + 2, 0), pa, M1', D1)) := by
      rw [pre]
      show (some (.inl (some (xw M1 0 0 14 (M1 0 0 14 + nI 1) 0 0 14)), xMd, (a + 10, k + 812, (N + 2, 0), pa, xw M1 0 0 14 (M1 0 0 14 + nI 1), xr_up (xr_up D (N + 1) 0 pa) 0 im (some (N + 1)))) : xr_R) = _
      rw [m14, xn_add, xw_y (by omega), ← hM1, ← hD1]
    have F2 : ∀ b e, ¬ (b = N + 1 ∧ e ≤ 9) → ¬ (b = 0 ∧ e = 0) → M1' b e = M b e := fun b e h h' => by rw [hM1, xw_r h', F1 b e h]
    have F20 : ∀ k, ¬ k = 14 → M1' 0 0 k = M 0 0 k := fun k hk => by rw [hM1, xw_n (by omega), F1 0 0 (by omega)]
    obtain ⟨MT, hMT⟩ : ∃ MT, MT = xw M1' 0 69 0 (nI 0) := ⟨_, rfl⟩
    obtain ⟨M2, e3, P1, P2, P3, P4, P5⟩ := pm266s (d := d + 57) (w := [35, 44, 53, 58, 63, 66]) (S := (a + 10, k + 812, (N + 2, 0), pa, MT, D1)) (j := im) (by omega)
    have P1 : M2 im 1092 0 = MT 0 69 36 := P1
    have P2 : ∀ i, i < 793 → M2 im 1092 (1 + i) = MT 0 89 i := P2
    have P3 : ∀ r' i, i < 793 → (r' < 16 ∨ (r' = 16 ∧ i < 0)) → M2 im 1092 (794 + 793 * r' + i) = MT r' 1091 i := P3
    have P4 : ∀ b e, ¬ (b = im ∧ e = 1092) → ¬ (b = 0 ∧ e = 69) → M2 b e = MT b e := P4
    have P5 : ∀ i, ¬ i = 39 → M2 0 69 i = MT 0 69 i := P5
    obtain ⟨M3, hM3⟩ : ∃ M3, M3 = xw M2 0 69 38 (nI (im + 1)) := ⟨_, rfl⟩
    have FF : ∀ b e, ¬ (b = N + 1 ∧ e ≤ 9) → ¬ (b = 0 ∧ (e = 0 ∨ e = 69)) → ¬ (b = im ∧ e = 1092) → M3 b e = M b e := fun b e g1 g2 g3 => by rw [hM3, xw_r (by omega), P4 b e g3 (by omega), hMT, xw_r (by omega), F2 b e g1 (by omega)]
    have G0 : ∀ k, ¬ k = 14 → M3 0 0 k = M 0 0 k := fun k hk => by rw [hM3, xw_n (by omega), P4 0 0 (by omega) (by omega), hMT, xw_n (by omega), F20 k hk]
    have G69 : ∀ k, ¬ (k = 0 ∨ k = 38 ∨ k = 39) → M3 0 69 k = M 0 69 k := fun k hk => by rw [hM3, xw_n (by omega), P5 k (by omega), hMT, xw_n (by omega), F2 0 69 (by omega) (by omega)]
    have m38 : M2 0 69 38 = nI im := by rw [P5 38 (by omega), hMT, xw_n (by omega), F2 0 69 (by omega) (by omega)]; exact h2
    have mo : xr_Call (d + 60) 267 [xP 0 69] xMd (a + 10, k + 812, (N + 2, 0), pa, M1', D1) = some (.inl (some (nI (im + 1))), xMd, (a + 10, k + 812, (N + 2, 0), pa, M3, D1)) := by
      have t1 : xw (xm (a + 10, k + 812, (N + 2, 0), pa, M1', D1)) 0 69 0 (nI 0) = MT := hMT.symm
      have t2 : MT 0 69 38 = nI im := by rw [hMT, xw_n (by omega), F2 0 69 (by omega) (by omega)]; exact h2
      rw [xe267, t1, t2, if_neg (by rw [xn_eq (by omega) (by omega)]; omega), xi_t (by omega) (by omega), cond_true, xn_k (by omega)]
      rw [show xr_Call (d + 59) 266 [xP 0 69, xP im 1092, xI (nI 0)] xMd (xs (a + 10, k + 812, (N + 2, 0), pa, M1', D1) MT) = _ from e3, xr_cV_s]
      show (some (.inl (some (xw M2 0 69 38 (M2 0 69 38 + nI 1) 0 69 38)), xMd, (a + 10, k + 812, (N + 2, 0), pa, xw M2 0 69 38 (M2 0 69 38 + nI 1), D1)) : xr_R) = _
      rw [m38, xn_add, xw_y (by omega), ← hM3]
    have dD : ∀ b, 1 ≤ b → b ≤ N → D1 b 0 = D b 0 := fun b g1 g2 => by
      rw [hD1]
      unfold xr_up
      rw [if_neg (by omega), if_neg (by omega)]
    have fr : ∀ b e, 1 ≤ b → b ≤ N → e < 10 → M3 b e = M b e := fun b e g1 g2 g3 => FF b e (by omega) (by omega) (by omega)
    refine ⟨nI (im + 1), N + 1, xMd, _, _, _, cl, mo, ?_, Or.inl ⟨rfl, rfl⟩, ⟨rfl, np, nq, ch, st, du, pl, dy, dp, sz, kd, gv, g, h, s, ln, ti, fl, tb, L, w, im + 1, ?_, ?_, ?_, ?_⟩, Nat.le_refl _, Nat.le_refl _⟩
    · show M3 0 69 0 = nI 0
      rw [hM3, xw_n (by omega), P5 0 (by omega), hMT, xw_y (by omega)]
    · refine xIq_fr (M := M) ⟨fun b e g1 g2 g3 => FF b e (by omega) (by omega) (by omega), G69 21 (by omega), G69 35 (by omega)⟩ I
    · obtain ⟨B1, ⟨B2, B3⟩, B4, B5⟩ := B
      refine ⟨B1, ⟨?_, ?_⟩, ?_, ?_⟩
      · show M3 0 1 1 = _; rw [FF 0 1 (by omega) (by omega) (by omega)]; exact B2
      · intro k hk; show M3 0 2 k = _; rw [FF 0 2 (by omega) (by omega) (by omega)]; exact B3 k hk
      · show M3 0 69 1 = _; rw [G69 1 (by omega)]; exact B4
      · intro k hk; show M3 0 70 k = _; rw [FF 0 70 (by omega) (by omega) (by omega)]; exact B5 k hk
    · obtain ⟨s1, s2, s3, s4⟩ := Sc
      refine ⟨?_, ?_, ?_, ?_⟩
      · show M3 0 0 15 = M3 0 69 3; rw [G0 15 (by omega), G69 3 (by omega)]; exact s1
      · show M3 0 0 16 = M3 0 69 37; rw [G0 16 (by omega), G69 37 (by omega)]; exact s2
      · show M3 0 0 17 = M3 0 71 0; rw [G0 17 (by omega), FF 0 71 (by omega) (by omega) (by omega)]; exact s3
      · show M3 0 0 18 = M3 0 71 1; rw [G0 18 (by omega), FF 0 71 (by omega) (by omega) (by omega)]; exact s4
    · have f91 : ∀ r, M3 r 1091 = M r 1091 := fun r => FF r 1091 (by omega) (by omega) (by omega)
      refine ⟨⟨hw, by omega⟩, ⟨?_, ?_, ?_⟩, chn_fr n1 n2 n3 (Nat.le_succ _) fr dD w _ (fun r k _ _ => ?_) C, fun j hj => ?_⟩
      · show M3 0 69 36 = _; rw [G69 36 (by omega)]; exact h1
      · show M3 0 69 38 = _; rw [hM3, xw_y (by omega)]
      · show M3 0 0 14 = _; rw [hM3, xw_n (by omega), P4 0 0 (by omega) (by omega), hMT, xw_n (by omega), hM1, xw_y (by omega)]
      · exact congrFun (f91 r) k
      · by_cases qj : j = im
        · subst qj
          have c92 : ∀ i, M3 j 1092 i = M2 j 1092 i := fun i => by rw [hM3, xw_n (by omega)]
          have mT : ∀ b e, ¬ (b = N + 1 ∧ e ≤ 9) → ¬ (b = 0 ∧ (e = 0 ∨ e = 69)) → MT b e = M b e := fun b e g1 g2 => by rw [hMT, xw_r (by omega), F2 b e g1 (by omega)]
          have r89 : ∀ k, k < 793 → M3 j 1092 (1 + k) = g k := fun k hk => by
            rw [c92, P2 k hk, mT 0 89 (by omega) (by omega)]
            have e89 : M 0 89 = g := I.2.2.1.1
            rw [e89]
          obtain ⟨_, _, ⟨e89, G, W⟩, ⟨Hc, Hm, HI⟩, _⟩ := I
          refine ⟨N, w, ?_, Nat.lt_succ_self _, hw, ?_, ?_, ?_⟩
          · show D1 0 j = _
            rw [hD1]; unfold xr_up; rw [if_pos ⟨rfl, rfl⟩]
          · show M3 j 1092 0 = _
            rw [c92, P1, hMT, xw_n (by omega), F2 0 69 (by omega) (by omega)]; exact h1
          · have V : svd M1 np nq pl (N + 1) g := ⟨h, s, xGr_cp C1 n1 n2 n3 G, W, xhC_cp C1 (xhB_le (by omega) (hG_B (hI_G HI))) Hc, Hm, HI⟩
            refine svd_fr n1 n2 n3 (fun e he => ?_) (fun k hk => r89 k hk) V
            show M3 (N + 1) e = M1 (N + 1) e
            rw [hM3, xw_r (by omega), P4 _ e (by omega) (by omega), hMT, xw_r (by omega), hM1, xw_r (by omega)]
          · have eD : D1 (N + 1) 0 = pa := by rw [hD1]; unfold xr_up; rw [if_neg (by omega), if_pos ⟨rfl, rfl⟩]
            show chn (N + 1) M3 D1 np nq pl w (D1 (N + 1) 0) _
            rw [eD]
            refine chn_fr n1 n2 n3 (Nat.le_succ _) fr dD w _ (fun r k g1 g2 => ?_) C
            show M3 j 1092 (794 + 793 * r + k) = M r 1091 k
            rw [c92, P3 r k g2 (by omega), mT r 1091 (by omega) (by omega)]
        · obtain ⟨p', w', a1, a2, a3, a4, a5, a6⟩ := J j (by omega)
          have f92 : M3 j 1092 = M j 1092 := FF j 1092 (by omega) (by omega) (by omega)
          refine ⟨p', w', ?_, by omega, a3, ?_, svd_fr n1 n2 n3 (fun e he => fr _ e (by omega) (by omega) he) (fun k _ => ?_) a5, ?_⟩
          · show D1 0 j = _
            rw [hD1]; unfold xr_up; rw [if_neg (by omega), if_neg (by omega)]; exact a1
          · show M3 j 1092 0 = _; rw [f92]; exact a4
          · exact congrFun f92 (1 + k)
          · show chn (N + 1) M3 D1 np nq pl w' (D1 (p' + 1) 0) _
            rw [dD (p' + 1) (by omega) (by omega)]
            refine chn_fr n1 n2 n3 (Nat.le_succ _) fr dD w' _ (fun r k _ _ => ?_) a6
            exact congrFun f92 (794 + 793 * r + k)
end
