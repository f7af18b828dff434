/-! RESTORE -/
section
variable {d : Nat} {S : xr_S}
theorem o_restore {N : Nat} (H : gInv N S) : oRt d 137 268 [] S := by
  have H' := H
  obtain ⟨e, np, nq, ch, st, du, pl, dy, dp, sz, kd, gv, g, h, s, ln, ti, fl, tb, L, w, im, I, B, Sc, Hs⟩ := H
  obtain ⟨n1, n2, n3, _, _⟩ := xIq_n I
  obtain ⟨⟨hw, him⟩, ⟨h1, h2, h3⟩, C, J⟩ := Hs
  obtain ⟨a, k, nx, pa, M, D⟩ := S
  have h1 : M 0 69 36 = nI w := h1
  have h2 : M 0 69 38 = nI im := h2
  have h3 : M 0 0 14 = nI im := h3
  have J : ∀ j, j < im → ∃ p w', D 0 j = some (p + 1) ∧ p < N ∧ w' ≤ 16 ∧ M j 1092 0 = nI w' ∧ svd M np nq pl (p + 1) (fun k => M j 1092 (1 + k)) ∧ chn N M D np nq pl w' (D (p + 1) 0) (fun r k => M j 1092 (794 + 793 * r + k)) := J
  have pre : xr_Call (d + 60) 137 [xP 0 0] xMd (a, k, nx, pa, M, D) = _ := xv137_0 (d := d + 59)
  rw [show xm (a, k, nx, pa, M, D) 0 0 14 = nI im from h3] at pre
  have t0 : xw (xm (a, k, nx, pa, M, D)) 0 69 0 (nI 0) 0 69 38 = nI im := by rw [xw_n (by omega)]; exact h2
  cases im with
  | zero =>
    rw [if_neg (by rw [xn_lt (by omega) (by omega)]; omega)] at pre
    refine oRt_q (r := -1) H' (qOk_of pre ?_)
    rw [xe268, t0, if_pos rfl]
  | succ i =>
    obtain ⟨p, w', j1, j2, j3, j4, j5, j6⟩ := J i (by omega)
    have x14 : xm (a, k, nx, pa, M, D) 0 0 14 - nI 1 = nI i := by
      show M 0 0 14 - nI 1 = nI i
      rw [h3, xn_sub (by omega), Nat.add_sub_cancel]
    have dd : xr_d (a, k, nx, pa, M, D) 0 i = some (p + 1) := j1
    obtain ⟨M1, e1, C1, F1⟩ := gc6b (d := d + 57) (w := [35, 44, 53, 58, 63, 66]) (q := p) (S := (a, k, nx, pa, M, D))
    have F1 : ∀ b e, ¬ (b = 0 ∧ 3 ≤ e ∧ e ≤ 11) → M1 b e = M b e := F1
    have m14 : xm (xs (a, k, nx, pa, M, D) M1) 0 0 14 - nI 1 = nI i := by
      show M1 0 0 14 - nI 1 = nI i
      rw [F1 0 0 (by omega), h3, xn_sub (by omega), Nat.add_sub_cancel]
    obtain ⟨M1', hM1⟩ : ∃ M1', M1' = xw (xw M1 0 0 14 (nI i)) 0 0 16 (nI 0) := ⟨_, rfl⟩
    obtain ⟨D1, hD1⟩ : ∃ D1, D1 = xr_up D 0 i none := ⟨_, rfl⟩
    have cl : xr_Call (d + 60) 137 [xP 0 0] xMd (a, k, nx, pa, M, D) = some (.inl (some (nI i)), xMd, (a, k, nx, D (p + 1) 0, M1', D1)) := by
      rw [pre, if_pos (by rw [xn_lt (by omega) (by omega)]; omega), if_neg (by rw [xn_lt (by omega) (by omega)]; omega), xv137_21, x14, xi_t (by omega) (by omega), cond_true, xn_k (by omega), dd]
      dsimp only
      rw [xv137_32, show xr_Call (d + 59) 6 [xP 0 3, xP (p + 1) 1] xMd (a, k, nx, pa, M, D) = _ from e1, xr_cV_s, y137_50 (S := xs (a, k, nx, pa, M, D) M1) (chn_pa j6), m14, xw_y (by omega), xi_t (by omega) (by omega), cond_true, xn_k (by omega), xw_n (show ¬ (0 = 0 ∧ 0 = 0 ∧ 14 = 16) by omega), xw_y (by omega)]
      show (some (.inl (some (nI i)), xMd, (a, k, nx, D (p + 1) 0, xw (xw M1 0 0 14 (nI i)) 0 0 16 (nI 0), xr_up D 0 i none)) : xr_R) = _
      rw [← hM1, ← hD1]
    have F2 : ∀ b e, ¬ (b = 0 ∧ (e = 0 ∨ (3 ≤ e ∧ e ≤ 11))) → M1' b e = M b e := fun b e h => by rw [hM1, xw_r (by omega), xw_r (by omega), F1 b e (by omega)]
    obtain ⟨MT, hMT⟩ : ∃ MT, MT = xw (xw M1' 0 69 0 (nI 0)) 0 69 38 (nI i) := ⟨_, rfl⟩
    obtain ⟨M2, e3, P1, P2, P3, P4, P5⟩ := pm266b (d := d + 57) (w := [35, 44, 53, 58, 63, 66]) (S := (a, k, nx, D (p + 1) 0, MT, D1)) (j := i) (by omega)
    have P1 : M2 0 69 36 = MT i 1092 0 := P1
    have P2 : ∀ j, j < 793 → M2 0 89 j = MT i 1092 (1 + j) := P2
    have P3 : ∀ r' j, j < 793 → (r' < 16 ∨ (r' = 16 ∧ j < 0)) → M2 r' 1091 j = MT i 1092 (794 + 793 * r' + j) := P3
    have P4 : ∀ b e, ¬ (b = 0 ∧ e = 89) → ¬ e = 1091 → ¬ (b = 0 ∧ e = 69) → M2 b e = MT b e := P4
    have P5 : ∀ j, ¬ (j = 36 ∨ j = 39) → M2 0 69 j = MT 0 69 j := P5
    have mT92 : MT i 1092 = M i 1092 := by rw [hMT, xw_r (by omega), xw_r (by omega), F2 i 1092 (by omega)]
    obtain ⟨M3, hM3⟩ : ∃ M3, M3 = xw M2 0 69 37 (nI 0) := ⟨_, rfl⟩
    have FF : ∀ b e, ¬ (b = 0 ∧ (e = 0 ∨ (3 ≤ e ∧ e ≤ 11) ∨ e = 69 ∨ e = 89)) → ¬ e = 1091 → M3 b e = M b e := fun b e g1 g2 => by rw [hM3, xw_r (by omega), P4 b e (by omega) g2 (by omega), hMT, xw_r (by omega), xw_r (by omega), F2 b e (by omega)]
    have F1c : ∀ e, 3 ≤ e → e ≤ 11 → M3 0 e = M1 0 e := fun e g1 g2 => by rw [hM3, xw_r (by omega), P4 0 e (by omega) (by omega) (by omega), hMT, xw_r (by omega), xw_r (by omega), hM1, xw_r (by omega), xw_r (by omega)]
    have G0 : ∀ k, ¬ (k = 14 ∨ k = 16) → M3 0 0 k = M 0 0 k := fun k hk => by rw [hM3, xw_n (by omega), P4 0 0 (by omega) (by omega) (by omega), hMT, xw_n (by omega), xw_n (by omega), hM1, xw_n (by omega), xw_n (by omega), F1 0 0 (by omega)]
    have G00 : ∀ k, M3 0 0 k = M1' 0 0 k := fun k => by rw [hM3, xw_n (by omega), P4 0 0 (by omega) (by omega) (by omega), hMT, xw_n (by omega), xw_n (by omega)]
    have G69 : ∀ k, ¬ (k = 0 ∨ k = 36 ∨ k = 37 ∨ k = 38 ∨ k = 39) → M3 0 69 k = M 0 69 k := fun k hk => by rw [hM3, xw_n (by omega), P5 k (by omega), hMT, xw_n (by omega), xw_n (by omega), F2 0 69 (by omega)]
    have g38 : M3 0 69 38 = nI i := by rw [hM3, xw_n (by omega), P5 38 (by omega), hMT, xw_y (by omega)]
    have mo : xr_Call (d + 60) 268 [xP 0 69] xMd (a, k, nx, D (p + 1) 0, M1', D1) = some (.inl (some (nI i)), xMd, (a, k, nx, D (p + 1) 0, M3, D1)) := by
      have t1 : xw (xm (a, k, nx, D (p + 1) 0, M1', D1)) 0 69 0 (nI 0) 0 69 38 = nI (i + 1) := by rw [xw_n (by omega)]; show M1' 0 69 38 = _; rw [F2 0 69 (by omega)]; exact h2
      have t2 : xw (xw (xm (a, k, nx, D (p + 1) 0, M1', D1)) 0 69 0 (nI 0)) 0 69 38 (nI i) = MT := hMT.symm
      have t3 : MT 0 69 38 = nI i := by rw [hMT, xw_y (by omega)]
      rw [xe268, t1, if_neg (by rw [xn_eq (by omega) (by omega)]; omega), xn_sub (by omega), Nat.add_sub_cancel, t2, t3, xi_t (by omega) (by omega), cond_true, xn_k (by omega)]
      rw [show xr_Call (d + 59) 266 [xP 0 69, xP i 1092, xI (nI 1)] xMd (xs (a, k, nx, D (p + 1) 0, M1', D1) MT) = _ from e3, xr_cV_s]
      have t4 : xw (xm (xs (a, k, nx, D (p + 1) 0, MT, D1) M2)) 0 69 37 (nI 0) = M3 := hM3.symm
      rw [t4, g38]
      rfl
    have dD : ∀ b, 1 ≤ b → b ≤ N → D1 b 0 = D b 0 := fun b g1 g2 => by
      rw [hD1]
      unfold xr_up
      rw [if_neg (by omega)]
    have fr : ∀ b e, 1 ≤ b → b ≤ N → e < 10 → M3 b e = M b e := fun b e g1 g2 g3 => FF b e (by omega) (by omega)
    have e89 : ∀ j, j < 793 → M3 0 89 j = M i 1092 (1 + j) := fun j hj => by rw [hM3, xw_n (by omega), P2 j hj, mT92]
    obtain ⟨hh, ss, V1, V2, V3, V4, V5⟩ := j5
    refine ⟨nI i, N, xMd, _, _, _, cl, mo, ?_, Or.inl ⟨rfl, rfl⟩, ⟨e, np, nq, ch, st, du, pl, dy, dp, sz, kd, gv, M3 0 89, hh, ss, ln, ti, fl, tb, L, w', i, ?_, ?_, ?_, ?_⟩, Nat.le_add_right _ _, Nat.le_add_right _ _⟩
    · show M3 0 69 0 = nI 0
      rw [hM3, xw_n (by omega), P5 0 (by omega), hMT, xw_n (by omega), xw_y (by omega)]
    · have G' := xGr_cp C1 n1 n2 n3 V1
      have Hc' := xhC_cp C1 (xhB_le (by omega) (hG_B (hI_G V5))) V3
      refine xIq_new (M := M) ⟨fun b e g1 g2 g3 => FF b e (by omega) (by omega), G69 21 (by omega), G69 35 (by omega)⟩ I (xGr_fr (fun e g1 g2 => F1c e (by omega) (by omega)) G') V2 ?_ V4 V5 e89
      show xhC (M3 0 10) (M3 0 11) hh ss
      rw [F1c 10 (by omega) (by omega), F1c 11 (by omega) (by omega)]
      exact Hc'
    · obtain ⟨B1, ⟨B2, B3⟩, B4, B5⟩ := B
      refine ⟨B1, ⟨?_, ?_⟩, ?_, ?_⟩
      · show M3 0 1 1 = _; rw [FF 0 1 (by omega) (by omega)]; exact B2
      · intro k hk; show M3 0 2 k = _; rw [FF 0 2 (by omega) (by omega)]; exact B3 k hk
      · show M3 0 69 1 = _; rw [G69 1 (by omega)]; exact B4
      · intro k hk; show M3 0 70 k = _; rw [FF 0 70 (by omega) (by omega)]; exact B5 k hk
    · obtain ⟨s1, s2, s3, s4⟩ := Sc
      refine ⟨?_, ?_, ?_, ?_⟩
      · show M3 0 0 15 = M3 0 69 3; rw [G0 15 (by omega), G69 3 (by omega)]; exact s1
      · show M3 0 0 16 = M3 0 69 37
        rw [G00 16, hM1, xw_y (by omega), hM3, xw_y (by omega)]
      · show M3 0 0 17 = M3 0 71 0; rw [G0 17 (by omega), FF 0 71 (by omega) (by omega)]; exact s3
      · show M3 0 0 18 = M3 0 71 1; rw [G0 18 (by omega), FF 0 71 (by omega) (by omega)]; exact s4
    · refine ⟨⟨j3, by omega⟩, ⟨?_, g38, ?_⟩, chn_fr n1 n2 n3 (Nat.le_refl _) fr dD w' _ (fun r k g1 g2 => ?_) j6, fun j hj => ?_⟩
      · show M3 0 69 36 = _; rw [hM3, xw_n (by omega), P1, mT92]; exact j4
      · show M3 0 0 14 = _; rw [G00 14, hM1, xw_n (by omega), xw_y (by omega)]
      · show M3 r 1091 k = M i 1092 (794 + 793 * r + k)
        rw [hM3, xw_n (by omega), P3 r k g2 (by omega), mT92]
      · obtain ⟨p', w2, a1, a2, a3, a4, a5, a6⟩ := J j (by omega)
        have f92 : M3 j 1092 = M j 1092 := FF j 1092 (by omega) (by omega)
        refine ⟨p', w2, ?_, a2, a3, ?_, svd_fr n1 n2 n3 (fun e he => fr _ e (by omega) (by omega) he) (fun k _ => congrFun f92 (1 + k)) a5, ?_⟩
        · show D1 0 j = _
          rw [hD1]; unfold xr_up; rw [if_neg (by omega)]; exact a1
        · show M3 j 1092 0 = _; rw [f92]; exact a4
        · show chn N M3 D1 np nq pl w2 (D1 (p' + 1) 0) _
          rw [dD (p' + 1) (by omega) (by omega)]
          exact chn_fr n1 n2 n3 (Nat.le_refl _) fr dD w2 _ (fun r k _ _ => congrFun f92 (794 + 793 * r + k)) a6
end
