/-! WORK: both calls -/
theorem gInv_b {N : Nat} {T : xr_S} (e : T.2.2.1 = (N + 1, 0)) {np nq ch st : Nat} {du pl : Nat → Nat} {dy : Nat → Int32} {dp : Nat → Nat → Nat} {sz : Nat} {kd : Nat → Nat} {gv g : Nat → Int32} {h : Nat → Nat} {s : Nat → Nat → Int32} {ln : Nat} {ti : Nat → Nat} {fl : Nat → Option Nat} {w im : Nat} (I : xIq (xm T) np nq ch st du pl dy dp sz kd gv g h s ln ti fl) (t1 : xm T 0 1 1 = nI 0) (t2 : xm T 0 69 1 = nI 0) (Sc : scl (xm T)) (Hs : hst N (xm T) (xr_d T) (xr_past T) np nq pl w im) : gInv N T :=
  ⟨e, np, nq, ch, st, du, pl, dy, dp, sz, kd, gv, g, h, s, ln, ti, fl, (fun _ => 0), 0, w, im, I, ⟨⟨by omega, fun _ => Nat.zero_le _⟩, ⟨t1, fun k hk => by omega⟩, t2, fun k hk => by omega⟩, Sc, Hs⟩
section
variable {d : Nat} {S : xr_S}
theorem o_work {N : Nat} (H : gInv N S) (v : Int32) : oRes d 103 213 [xI v] S 0 1 := by
  have H' := H
  obtain ⟨e, np, nq, ch, st, du, pl, dy, dp, sz, kd, gv, g, h, s, ln, ti, fl, tb, L, w, im, I, B, Sc, Hs⟩ := H
  by_cases qv : xrg v 0 (min L 150)
  rotate_left
  · exact Or.inr (Or.inr ⟨Nat.le_refl _, oNo_q (Or.inr ⟨rfl, rfl⟩) H' (work_no B qv)⟩)
  obtain ⟨n, _, hn, rfl⟩ := qv
  refine Or.inl ?_
  obtain ⟨n1, n2, n3, st1, st9⟩ := xIq_n I
  obtain ⟨a, k, nx, pa, M, D⟩ := S
  have e : nx = (N + 1, 0) := e
  subst e
  have I : xIq M np nq ch st du pl dy dp sz kd gv g h s ln ti fl := I
  have Hs : hst N M D pa np nq pl w im := Hs
  have B : tB M tb L := B
  have Sc : scl M := Sc
  have Hs' := Hs
  obtain ⟨⟨hw, him⟩, ⟨h1, h2, h3⟩, C, J⟩ := Hs
  obtain ⟨s1, s2, s3, s4⟩ := Sc
  have B' := B
  obtain ⟨⟨B1, B2⟩, ⟨B3, B4⟩, B5, B6⟩ := B
  by_cases q16 : w = 16
  · subst q16
    obtain ⟨M1, e1, X1, R1, f1, F1, f0⟩ := tc81 (d := d + 58) (w := [35, 44, 53, 58, 63, 66]) (S := (a, k, (N + 1, 0), pa, M, D)) (tb := tb) (n := 0) (by omega) B2 (fun k hk => by omega)
    have F1 : ∀ b e, ¬ (b = 0 ∧ e = 1) → M1 b e = M b e := F1
    have pre : xr_Call (d + 60) 103 [xP 0 0, xI (nI n)] xMd (a, k, (N + 1, 0), pa, M, D) = _ := xv103_0 (d := d + 59)
    rw [xmn (M := xm (a, k, (N + 1, 0), pa, M, D)) (by omega) (by omega) B3, show xr_Call (d + 59) 141 [xP 0 0, xI (nI n), xI (nI 0), xI (nI (min L 150))] xMd (a, k, (N + 1, 0), pa, M, D) = _ from qc141y (Nat.zero_le n) (by omega) (by omega), xr_cV_s, show xr_Call (d + 59) 142 [xP 0 0] xMd (a, k, (N + 1, 0), pa, M, D) = _ from c142 (d := d + 58) (S := (a, k, (N + 1, 0), pa, M, D)) C, xr_cI_s, if_neg (by rw [xn_lt (by omega) (by omega)]; omega), show xr_Call (d + 59) 81 [xP 0 1, xI (nI 0)] xMd (a, k, (N + 1, 0), pa, M, D) = _ from e1, xr_cV_s] at pre
    obtain ⟨M2, hM2⟩ : ∃ M2, M2 = xw M1 0 0 15 (-1) := ⟨_, rfl⟩
    have cl : xr_Call (d + 60) 103 [xP 0 0, xI (nI n)] xMd (a, k, (N + 1, 0), pa, M, D) = some (.inl (some (-20)), xMd, (a, k, (N + 1, 0), pa, M2, D)) := by rw [pre, hM2]; rfl
    have F2 : ∀ b e, ¬ (b = 0 ∧ (e = 0 ∨ e = 1)) → M2 b e = M b e := fun b e h => by rw [hM2, xw_r (by omega), F1 b e (by omega)]
    obtain ⟨M3, hM3⟩ : ∃ M3, M3 = xw M2 0 69 0 (nI 0) := ⟨_, rfl⟩
    obtain ⟨M4, hM4⟩ : ∃ M4, M4 = xw (xw M3 0 69 1 (nI 0)) 0 69 3 (-1) := ⟨_, rfl⟩
    have FF : ∀ b e, ¬ (b = 0 ∧ (e = 0 ∨ e = 1 ∨ e = 69)) → M4 b e = M b e := fun b e h => by rw [hM4, xw_r (by omega), xw_r (by omega), hM3, xw_r (by omega), F2 b e (by omega)]
    have G0 : ∀ k, ¬ k = 15 → M4 0 0 k = M 0 0 k := fun k hk => by rw [hM4, xw_n (by omega), xw_n (by omega), hM3, xw_n (by omega), hM2, xw_n (by omega), F1 0 0 (by omega)]
    have G69 : ∀ k, ¬ (k = 0 ∨ k = 1 ∨ k = 3) → M4 0 69 k = M 0 69 k := fun k hk => by rw [hM4, xw_n (by omega), xw_n (by omega), hM3, xw_n (by omega), F2 0 69 (by omega)]
    have mo : xr_Call (d + 60) 213 [xP 0 69, xI (nI n)] xMd (a, k, (N + 1, 0), pa, M2, D) = some (.inl (some (-20)), xMd, (a, k, (N + 1, 0), pa, M4, D)) := by
      have t1 : xs (a, k, (N + 1, 0), pa, M2, D) (xw (xm (a, k, (N + 1, 0), pa, M2, D)) 0 69 0 (nI 0)) = (a, k, (N + 1, 0), pa, M3, D) := by rw [hM3]; rfl
      have t2 : xw (xm (a, k, (N + 1, 0), pa, M2, D)) 0 69 0 (nI 0) 0 69 1 = nI L := by rw [xw_n (by omega)]; show M2 0 69 1 = _; rw [F2 0 69 (by omega)]; exact B5
      have t3 : xm (a, k, (N + 1, 0), pa, M3, D) 0 69 0 = nI 0 := by show M3 0 69 0 = _; rw [hM3, xw_y (by omega)]
      have t4 : xm (a, k, (N + 1, 0), pa, M3, D) 0 69 36 = nI 16 := by show M3 0 69 36 = _; rw [hM3, xw_n (by omega), F2 0 69 (by omega)]; exact h1
      rw [xe213, t1, t2, show xr_Call (d + 59) 152 [xI (nI n), xI (nI 0), xI (nI L)] xMd (a, k, (N + 1, 0), pa, M3, D) = _ from qm152y (Nat.zero_le n) (by omega) (by omega), xr_cI_s, if_neg (by decide), if_neg (by rw [xn_lt (by omega) (by omega)]; omega), show xr_Call (d + 59) 151 [xP 0 69, xI (nI 0), xI (nI 1), xI (nI 1)] xMd (a, k, (N + 1, 0), pa, M3, D) = _ from qm151f _ _ t3, xr_cI_s, if_pos rfl, t4, if_pos rfl, hM4]
      rfl
    refine ⟨-20, N, xMd, _, _, _, cl, mo, ?_, Or.inl ⟨rfl, rfl⟩, gInv_b rfl (w := 16) (im := im) (xIq_fr (M := M) ⟨fun b e g1 g2 g3 => FF b e (by omega), G69 21 (by omega), G69 35 (by omega)⟩ I) ?_ ?_ ⟨?_, ?_, ?_, ?_⟩ (hst_fr (M := M) n1 n2 n3 (fun b e g1 _ g2 => FF b e (by omega)) (fun r => FF r 1091 (by omega)) (fun r => FF r 1092 (by omega)) (G69 36 (by omega)) (G69 38 (by omega)) (G0 14 (by omega)) Hs'), Nat.le_add_right _ _, Nat.le_add_right _ _⟩
    · show M4 0 69 0 = nI 0; rw [hM4, xw_n (by omega), xw_n (by omega), hM3, xw_y (by omega)]
    · show M4 0 1 1 = nI 0; rw [hM4, xw_n (by omega), xw_n (by omega), hM3, xw_n (by omega), hM2, xw_n (by omega)]; exact f1
    · show M4 0 69 1 = nI 0; rw [hM4, xw_n (by omega), xw_y (by omega)]
    · show M4 0 0 15 = M4 0 69 3
      have l : M4 0 0 15 = -1 := by rw [hM4, xw_n (by omega), xw_n (by omega), hM3, xw_n (by omega), hM2, xw_y (by omega)]
      have r : M4 0 69 3 = -1 := by rw [hM4, xw_y (by omega)]
      rw [l, r]
    · show M4 0 0 16 = M4 0 69 37; rw [G0 16 (by omega), G69 37 (by omega)]; exact s2
    · show M4 0 0 17 = M4 0 71 0; rw [G0 17 (by omega), FF 0 71 (by omega)]; exact s3
    · show M4 0 0 18 = M4 0 71 1; rw [G0 18 (by omega), FF 0 71 (by omega)]; exact s4
  have I' := I
  obtain ⟨P, ⟨Lc, Lm, Lv⟩, ⟨e89, G, W⟩, ⟨Hc, Hm, HI⟩, To⟩ := I
  have P' := P
  obtain ⟨⟨pp0, pp1, pp2, pp3⟩, ⟨pm0, pm1, pm2, pm3⟩, _, _, _⟩ := P
  obtain ⟨M1, e1, C1, ⟨f11, f15⟩, F1, G1⟩ := tc103p (d := d) (a := a) (k := k) (nx := (N + 1, 0)) (D := D) (n := n) (L := L) (by omega) ⟨n1, n2⟩ (by omega) B' pp0 pp1 (by omega) C
  have t69 : M1 0 69 = M 0 69 := F1 0 69 (by omega)
  generalize hX : wAll tb n np nq = WX at e1 C1 f15
  obtain ⟨r0, X⟩ := WX
  have Wmod : ∀ (T : xr_S), xm T 0 69 1 = nI L → (∀ k, k < L → xm T 0 70 k = nI (tb k)) → xm T 0 73 0 = nI np → xm T 0 73 1 = nI nq → xm T 0 69 36 = nI w → ∃ M, xr_Call (d + 60) 213 [xP 0 69, xI (nI n)] xMd T = xr_Run (d + 59) 213 72 [xP 0 69, xI (nI n)] [] xMd (xs T M) ∧ mWk M n 0 (fun _ => false) (r0, X) ∧ (∀ a, r0 = .inl a → ¬ a < n) ∧ M 0 69 2 = nI n ∧ (M 0 69 0 = nI 0 ∧ M 0 69 1 = nI 0) ∧ (∀ b e, ¬ (b = 0 ∧ e = 69) → ¬ e = 1088 → M b e = xm T b e) ∧ ∀ k, ¬ (k ≤ 2 ∨ (4 ≤ k ∧ k ≤ 8) ∨ k = 30) → M 0 69 k = xm T 0 69 k := fun T g1 g2 g3 g4 g5 => by
    have := tm213p (d := d) (w := [35, 44, 53, 58, 63, 66]) (S := T) (tb := tb) (n := n) (np := np) (nq := nq) (L := L) (wk := w) (by omega) ⟨n1, n2⟩ (by omega) ⟨⟨B1, B2⟩, g1, g2⟩ g3 g4 (by omega) g5
    rw [hX] at this
    exact this
  cases r0 with
  | inr q =>
    have cl : xr_Call (d + 60) 103 [xP 0 0, xI (nI n)] xMd (a, k, (N + 1, 0), pa, M, D) = some (.inl (some (tRes (.inr q))), xMd, (a, k, (N + 1, 0), pa, M1, D)) := e1
    obtain ⟨M2, e2, C2, _, c2, ⟨g0, g1⟩, F2, G2⟩ := Wmod (a, k, (N + 1, 0), pa, M1, D) (by show M1 0 69 1 = _; rw [t69]; exact B5) (fun j hj => by show M1 0 70 j = _; rw [F1 0 70 (by omega)]; exact B6 j hj) (by show M1 0 73 0 = _; rw [F1 0 73 (by omega)]; exact pm0) (by show M1 0 73 1 = _; rw [F1 0 73 (by omega)]; exact pm1) (by show M1 0 69 36 = _; rw [t69]; exact h1)
    have F2 : ∀ b e, ¬ (b = 0 ∧ e = 69) → ¬ e = 1088 → M2 b e = M1 b e := F2
    have G2 : ∀ k, ¬ (k ≤ 2 ∨ (4 ≤ k ∧ k ≤ 8) ∨ k = 30) → M2 0 69 k = M1 0 69 k := G2
    obtain ⟨kk, p⟩ := q
    have R2 : rM M2 n (.inr (kk, p)) := C2.1
    have n5 := rM_5 R2
    obtain ⟨M3, hM3⟩ : ∃ M3, M3 = xw M2 0 69 3 (nI p) := ⟨_, rfl⟩
    have mo : xr_Call (d + 60) 213 [xP 0 69, xI (nI n)] xMd (a, k, (N + 1, 0), pa, M1, D) = some (.inl (some (tRes (.inr (kk, p)))), xMd, (a, k, (N + 1, 0), pa, M3, D)) := by
      rw [e2]
      refine (xg213_72 _ _ _ _).trans ?_
      rw [if_neg (show ¬ xm (xs (a, k, (N + 1, 0), pa, M1, D) M2) 0 69 5 = nI 0 from n5), if_neg (show ¬ xm (xs (a, k, (N + 1, 0), pa, M1, D) M2) 0 69 5 = nI 0 from n5), show xr_Call (d + 59) 171 [xP 0 69] ([], [35, 44, 53, 58, 63, 66]) (xs (a, k, (N + 1, 0), pa, M1, D) M2) = _ from tm171 (S := xs (a, k, (N + 1, 0), pa, M1, D) M2) R2, xr_cI_s, hM3]
      rfl
    have FF : ∀ b e, ¬ (b = 0 ∧ (e = 0 ∨ e = 1 ∨ (21 ≤ e ∧ e ≤ 26) ∨ e = 69)) → ¬ e = 1088 → M3 b e = M b e := fun b e g1 g2 => by rw [hM3, xw_r (by omega), F2 b e (by omega) g2, F1 b e (by omega)]
    have G0 : ∀ k, ¬ k = 15 → M3 0 0 k = M 0 0 k := fun k hk => by rw [hM3, xw_n (by omega), F2 0 0 (by omega) (by omega), G1 k hk]
    have G69 : ∀ k, ¬ (k ≤ 8 ∨ k = 30) → M3 0 69 k = M 0 69 k := fun k hk => by rw [hM3, xw_n (by omega), G2 k (by omega), t69]
    refine ⟨tRes (.inr (kk, p)), N, xMd, _, _, _, cl, mo, ?_, Or.inl ⟨rfl, rfl⟩, gInv_b rfl (w := w) (im := im) (xIq_fr (M := M) ⟨fun b e g1 g2 g3 => FF b e (by omega) (by omega), G69 21 (by omega), G69 35 (by omega)⟩ I') ?_ ?_ ⟨?_, ?_, ?_, ?_⟩ (hst_fr (M := M) n1 n2 n3 (fun b e g1 _ g2 => FF b e (by omega) (by omega)) (fun r => FF r 1091 (by omega) (by omega)) (fun r => FF r 1092 (by omega) (by omega)) (G69 36 (by omega)) (G69 38 (by omega)) (G0 14 (by omega)) Hs'), Nat.le_add_right _ _, Nat.le_add_right _ _⟩
    · show M3 0 69 0 = nI 0; rw [hM3, xw_n (by omega)]; exact g0
    · show M3 0 1 1 = nI 0; rw [hM3, xw_n (by omega), F2 0 1 (by omega) (by omega)]; exact f11
    · show M3 0 69 1 = nI 0; rw [hM3, xw_n (by omega)]; exact g1
    · show M3 0 0 15 = M3 0 69 3; rw [hM3, xw_n (show ¬ (0 = 0 ∧ 0 = 69 ∧ 15 = 3) by omega), xw_y (by omega), F2 0 0 (by omega) (by omega), f15]; rfl
    · show M3 0 0 16 = M3 0 69 37; rw [G0 16 (by omega), G69 37 (by omega)]; exact s2
    · show M3 0 0 17 = M3 0 71 0; rw [G0 17 (by omega), FF 0 71 (by omega) (by omega)]; exact s3
    · show M3 0 0 18 = M3 0 71 1; rw [G0 18 (by omega), FF 0 71 (by omega) (by omega)]; exact s4
  | inl x =>
    obtain ⟨f, hf⟩ : ∃ f, f = 17000 := ⟨_, rfl⟩
    obtain ⟨lv, hS⟩ : ∃ lv, wSeg np nq X lv 0 0 X.1 := by
      have := wAll_add (tb := tb) (n := n) (np := np) (nq := nq) (a' := x) (by rw [hX])
      rw [hX] at this
      exact this
    have hX30 : 5 * X.1 ≤ n := by
      have i0 : wInv n ((.inl 0, 0, (fun _ => (0, 0, 0, 0)), (fun _ => 0)) : wS) := fun c hc => by cases hc; exact ⟨Nat.zero_le _, Nat.le_refl _⟩
      have := wItr_inv (tb := tb) (F := wF tb n np nq 6) (top := true) (wF_inv 6) 150 _ i0
      rw [show wItr tb n (wF tb n np nq 6) true 150 (.inl 0, 0, (fun _ => (0, 0, 0, 0)), (fun _ => 0)) = wAll tb n np nq from rfl, hX] at this
      obtain ⟨i1, i2⟩ := this x rfl
      dsimp only at i2
      omega
    have hRok : ∀ j, j < X.1 → wRok np nq (X.2.1 j) := fun j hj => ((hS j (Nat.zero_le _) hj).1).2.2.2.2
    obtain ⟨DO, hDO⟩ : ∃ DO, DO = aDo f st ch du pl dy nq sz kd gv := ⟨_, rfl⟩
    have HDk : ∀ j G, j < X.1 → (X.2.1 j).1 ≠ 5 → aGk np nq pl G → aGk np nq pl (DO (X.2.1 j) G).2 := fun j G hj h5 hG => by
      rw [hDO]
      exact aDo_ok (by omega) st1 st9 n1 n2 n3 (hRok j hj) hG
    have HCD : CD np nq ch st du pl dy dp sz kd gv X DO := fun d S j G T hj h5 hG g1 g2 => by
      rw [hDO]
      exact tc146 (by omega) (by omega) T.1 T.2.1 Lv (hRok j hj) h5 (by omega) (T.2.2 j hj).1 hG g1 g2
    have HGD : GD [35, 44, 53, 58, 63, 66] np nq ch st du pl dy dp sz kd gv X DO := fun d S j G T hj h5 hG g1 g2 => by
      rw [hDO]
      exact tm211 (by omega) T.1 T.2.1 Lv (hRok j hj) h5 (T.2.2 j hj).1 hG g1 g2
    clear hDO hf
    have e1 : xr_Call (d + 60) 103 [xP 0 0, xI (nI n)] xMd (a, k, (N + 1, 0), pa, M, D) = xr_Run (d + 59) 103 99 [xP 0 0, xI (nI n)] [] xMd (a, k, (N + 1, 0), pa, M1, D) := e1
    have hpa := chn_pa C
    have Cn1 : chn N M1 D np nq pl w pa (fun r => M1 r 1091) := chn_fr n1 n2 n3 (Nat.le_refl _) (fun b e g1 g2 g3 => F1 b e (by omega)) (fun _ _ _ => rfl) w _ (fun r k _ _ => congrFun (F1 r 1091 (by omega)) k) C
    rw [y103_99 hpa, show xr_Call (d + 59) 142 [xP 0 0] ([(N + 1, 0, 0)], [35, 44, 53, 58, 63, 66]) (a + 1, k + 3, (N + 1, 1), pa, M1, D) = _ from c142 (d := d + 58) (S := (a + 1, k + 3, (N + 1, 1), pa, M1, D)) Cn1, xr_cI_s, xn_add] at e1
    obtain ⟨M2, e2, C2, c2, F2⟩ := y73 (d := d + 55) (q := N) (a := a) (k := k) (pa := pa) (M := M1) (D := D) (x := nI (w + 1)) (f := fun S2 => xr_Run (d + 59) 103 121 [xP 0 0, xI (nI n)] [xP (N + 1) 0, xP 0 0] xMd S2) hpa
    rw [show xr_cC xMd 6 (xr_Call (d + 59) 73 _ _ _) _ = _ from e2, xv103_121] at e1
    obtain ⟨D2, hD2⟩ : ∃ D2, D2 = xr_up D (N + 1) 0 pa := ⟨_, rfl⟩
    obtain ⟨M3, hM3⟩ : ∃ M3, M3 = xw (xw (xw M2 0 21 6 (nI 0)) 0 21 7 (nI 0)) 0 21 8 (nI 0) := ⟨_, rfl⟩
    have F3 : ∀ b e, ¬ (b = N + 1 ∧ e ≤ 9) → ¬ (b = 0 ∧ e = 21) → M3 b e = M1 b e := fun b e g1 g2 => by rw [hM3, xw_r g2, xw_r g2, xw_r g2, F2 b e g1]
    have F3M : ∀ b e, ¬ (b = N + 1 ∧ e ≤ 9) → ¬ (b = 0 ∧ (e = 0 ∨ e = 1 ∨ (21 ≤ e ∧ e ≤ 26))) → M3 b e = M b e := fun b e g1 g2 => by rw [F3 b e g1 (by omega), F1 b e g2]
    obtain ⟨cz, cR⟩ := C1.2.2 x rfl
    dsimp only at cz cR
    have m5 : M3 0 21 5 = nI X.1 := by rw [hM3, xw_n (by omega), xw_n (by omega), xw_n (by omega), F2 0 21 (by omega)]; exact cz
    have T3 : sC M3 np nq ch st du pl dy dp sz kd gv X := by
      refine ⟨xPl_fr (fun b e he => F3M b e (by omega) (by omega)) P', xLc_fr (fun e he => F3M 0 e (by omega) (by omega)) Lc, fun j hj => ?_⟩
      unfold cRw
      rw [F3 0 22 (by omega) (by omega), F3 0 23 (by omega) (by omega), F3 0 24 (by omega) (by omega), F3 0 25 (by omega) (by omega), F3 0 26 (by omega) (by omega)]
      exact cR j hj
    have A3 : rcA M3 np nq pl (0, 0, 0, g, h, s) := by
      refine ⟨⟨?_, ?_, ?_⟩, xGr_fr (fun e g1 g2 => F3M 0 e (by omega) (by omega)) G, ?_⟩
      · rw [hM3, xw_n (by omega), xw_n (by omega), xw_y (by omega)]
      · rw [hM3, xw_n (by omega), xw_y (by omega)]
      · rw [hM3, xw_y (by omega)]
      · rw [F3M 0 10 (by omega) (by omega), F3M 0 11 (by omega) (by omega)]; exact Hc
    have O3 : aOk np nq pl (0, 0, 0, g, h, s) := ⟨Nat.zero_le _, W, HI⟩
    have hseg : ∀ j, 0 ≤ j → j < X.1 → 0 ≤ lv j ∧ X.2.2 j ≤ X.1 := fun j _ hj => ⟨Nat.zero_le _, ((hS j (Nat.zero_le _) hj).1).2.1⟩
    obtain ⟨M4, e4, A4, K4⟩ := rc145 (d := d + 46) (by omega) hS HCD HDk X.1 0 0 X.1 0 (nI 0) xU (0, 0, 0, g, h, s) (a + 10, k + 812, (N + 2, 0), some (N + 1), M3, D2) (by omega) (Nat.zero_le _) (by omega) (Nat.le_refl _) (by omega) hseg T3 A3 O3
    have K4 : kR M3 M4 := K4
    have OA := aRun_ok (np := np) (nq := nq) (pl := pl) (DO := DO) (X := X) HDk (fun j hj => ((hS j (Nat.zero_le _) hj).1).2.1) X.1 0 X.1 _ (Nat.le_refl _) O3
    generalize hA : aRun DO X X.1 0 X.1 (0, 0, 0, g, h, s) = A at A4 OA
    obtain ⟨⟨a1, a2, a3⟩, AG, AH⟩ := A4
    obtain ⟨M5, hM5⟩ : ∃ M5, M5 = xw M4 0 0 16 (nI A.2.2.1) := ⟨_, rfl⟩
    have c145 : xr_Call (d + 59) 145 [xP 0 0, xI (nI 0), xI (nI X.1), xI (nI 0)] xMd (a + 10, k + 812, (N + 2, 0), some (N + 1), M3, D2) = some (.inl none, xMd, (a + 10, k + 812, (N + 2, 0), some (N + 1), M4, D2)) := by
      rw [xe145 (d + 58)]
      exact e4
    have cl : xr_Call (d + 60) 103 [xP 0 0, xI (nI n)] xMd (a, k, (N + 1, 0), pa, M, D) = some (.inl (some (nI A.2.1)), xMd, (a + 10, k + 812, (N + 2, 0), some (N + 1), M5, D2)) := by
      rw [e1]
      have t1 : xs (xr_sp (a + 10, k + 812, (N + 2, 0), pa, M2, xr_up D (N + 1) 0 pa) (some (N + 1))) (xw (xw (xw (xm (a + 10, k + 812, (N + 2, 0), pa, M2, xr_up D (N + 1) 0 pa)) 0 21 6 (nI 0)) 0 21 7 (nI 0)) 0 21 8 (nI 0)) = (a + 10, k + 812, (N + 2, 0), some (N + 1), M3, D2) := by rw [hM3, hD2]; rfl
      have t2 : xw (xw (xw (xm (a + 10, k + 812, (N + 2, 0), pa, M2, xr_up D (N + 1) 0 pa)) 0 21 6 (nI 0)) 0 21 7 (nI 0)) 0 21 8 (nI 0) 0 21 5 = nI X.1 := by rw [← m5, hM3]; rfl
      rw [t1, t2, c145, xr_cV_s]
      show (some (.inl (some (xw M4 0 0 16 (M4 0 21 8) 0 21 7)), xMd, (a + 10, k + 812, (N + 2, 0), some (N + 1), xw M4 0 0 16 (M4 0 21 8), D2)) : xr_R) = _
      rw [a3, xw_n (by omega), a2, ← hM5]
    have F5 : ∀ b e, ¬ (b = N + 1 ∧ e ≤ 9) → ¬ (b = 0 ∧ (e ≤ 1 ∨ (3 ≤ e ∧ e ≤ 11) ∨ (21 ≤ e ∧ e ≤ 26) ∨ e = 56 ∨ e = 57)) → M5 b e = M b e := fun b e g1 g2 => by rw [hM5, xw_r (by omega), K4.1 b e (by omega), F3M b e g1 (by omega)]
    have t569 : M5 0 69 = M 0 69 := F5 0 69 (by omega) (by omega)
    obtain ⟨M6, e6, C6, Z6, c6, ⟨g60, g61⟩, F6, G6⟩ := Wmod (a + 10, k + 812, (N + 2, 0), some (N + 1), M5, D2) (by show M5 0 69 1 = _; rw [t569]; exact B5) (fun j hj => by show M5 0 70 j = _; rw [F5 0 70 (by omega) (by omega)]; exact B6 j hj) (by show M5 0 73 0 = _; rw [F5 0 73 (by omega) (by omega)]; exact pm0) (by show M5 0 73 1 = _; rw [F5 0 73 (by omega) (by omega)]; exact pm1) (by show M5 0 69 36 = _; rw [t569]; exact h1)
    have F6 : ∀ b e, ¬ (b = 0 ∧ e = 69) → ¬ e = 1088 → M6 b e = M5 b e := F6
    have G6 : ∀ k, ¬ (k ≤ 2 ∨ (4 ≤ k ∧ k ≤ 8) ∨ k = 30) → M6 0 69 k = M5 0 69 k := G6
    obtain ⟨⟨r5, r6, r4, rn⟩, C6b⟩ := C6
    obtain ⟨_, c30, cRm⟩ := C6b x rfl
    dsimp only at c30 cRm
    obtain ⟨T1, hT1⟩ : ∃ T1, T1 = xw M6 0 69 3 (-1) := ⟨_, rfl⟩
    have m36 : T1 0 69 36 = nI w := by rw [hT1, xw_n (by omega), G6 36 (by omega), t569]; exact h1
    obtain ⟨M7, e7, C7, F7⟩ := gm177b (d := d + 58) (w := [35, 44, 53, 58, 63, 66]) (q := w) (S := (a + 10, k + 812, (N + 2, 0), some (N + 1), T1, D2))
    have C7 : ∀ j, j < 793 → M7 w 1091 j = T1 0 89 j := C7
    have F7 : ∀ b e, ¬ (b = w ∧ e = 1091) → M7 b e = T1 b e := F7
    obtain ⟨M8, hM8⟩ : ∃ M8, M8 = xw (xw (xw (xw M7 0 69 36 (nI (w + 1))) 0 69 40 (nI 0)) 0 69 41 (nI 0)) 0 69 37 (nI 0) := ⟨_, rfl⟩
    have F8 : ∀ b e, ¬ (b = N + 1 ∧ e ≤ 9) → ¬ (b = 0 ∧ (e ≤ 1 ∨ (3 ≤ e ∧ e ≤ 11) ∨ (21 ≤ e ∧ e ≤ 26) ∨ e = 56 ∨ e = 57 ∨ e = 69)) → ¬ e = 1088 → ¬ (b = w ∧ e = 1091) → M8 b e = M b e := fun b e g1 g2 g3 g4 => by
      rw [hM8, xw_r (by omega), xw_r (by omega), xw_r (by omega), xw_r (by omega), F7 b e g4, hT1, xw_r (by omega), F6 b e (by omega) g3, F5 b e g1 (by omega)]
    have G8 : ∀ k, ¬ (k ≤ 8 ∨ k = 30 ∨ k = 36 ∨ k = 37 ∨ k = 40 ∨ k = 41) → M8 0 69 k = M 0 69 k := fun k hk => by
      rw [hM8, xw_n (by omega), xw_n (by omega), xw_n (by omega), xw_n (by omega), F7 0 69 (by omega), hT1, xw_n (by omega), G6 k (by omega), t569]
    have G8b : ∀ k, k ≤ 8 ∨ k = 30 → M8 0 69 k = T1 0 69 k := fun k hk => by
      rw [hM8, xw_n (by omega), xw_n (by omega), xw_n (by omega), xw_n (by omega), F7 0 69 (by omega)]
    have m89 : M8 0 89 = g := by rw [F8 0 89 (by omega) (by omega) (by omega) (by omega)]; exact e89
    have T8 : sM M8 np nq ch st du pl dy dp sz kd gv X := by
      refine ⟨xPl_fr (fun b e he => F8 b e (by omega) (by omega) (by omega) (by omega)) P', xLm_fr (fun j => F8 j 1082 (by omega) (by omega) (by omega) (by omega)) (G8 21 (by omega)) Lm, fun j hj => ?_⟩
      have : M8 j 1088 = M6 j 1088 := by rw [hM8, xw_r (by omega), xw_r (by omega), xw_r (by omega), xw_r (by omega), F7 j 1088 (by omega), hT1, xw_r (by omega)]
      unfold mRw
      rw [this]
      exact cRm j hj
    have A8 : rmA M8 (0, 0, 0, g, h, s) := by
      refine ⟨⟨?_, ?_, ?_⟩, ?_, ?_⟩
      · rw [hM8, xw_n (by omega), xw_n (by omega), xw_y (by omega)]
      · rw [hM8, xw_n (by omega), xw_y (by omega)]
      · rw [hM8, xw_y (by omega)]
      · rw [m89]; exact fun _ _ => rfl
      · rw [m89]; exact Hm
    obtain ⟨M9, e9, A9, K9⟩ := rm212 (d := d + 46) (w := [35, 44, 53, 58, 63, 66]) (by omega) hS HGD HDk X.1 0 0 X.1 (nI 0) xU (0, 0, 0, g, h, s) (a + 10, k + 812, (N + 2, 0), some (N + 1), M8, D2) (by omega) (Nat.zero_le _) (by omega) (Nat.le_refl _) hseg T8 A8 O3
    have K9 : kG M8 M9 := K9
    rw [hA] at A9
    obtain ⟨⟨b1, b2, b3⟩, BE, BH⟩ := A9
    have mo : xr_Call (d + 60) 213 [xP 0 69, xI (nI n)] xMd (a + 10, k + 812, (N + 2, 0), some (N + 1), M5, D2) = some (.inl (some (nI A.2.1)), xMd, (a + 10, k + 812, (N + 2, 0), some (N + 1), M9, D2)) := by
      rw [e6]
      refine (xg213_72 _ _ _ _).trans ?_
      have t5 : xm (xs (a + 10, k + 812, (N + 2, 0), some (N + 1), M5, D2) M6) 0 69 5 = nI 0 := r5
      have t4 : xm (xs (a + 10, k + 812, (N + 2, 0), some (N + 1), M5, D2) M6) 0 69 4 = nI x := r4
      have t2 : xm (xs (a + 10, k + 812, (N + 2, 0), some (N + 1), M5, D2) M6) 0 69 2 = nI n := c6
      have tT : xw (xm (xs (a + 10, k + 812, (N + 2, 0), some (N + 1), M5, D2) M6)) 0 69 3 (-1) = T1 := hT1.symm
      rw [if_pos t5, t4, t2, if_neg (by rw [xn_lt (by omega) (by omega)]; exact Z6 x rfl), if_pos t5, tT, m36, xi_t (by omega) (by omega), cond_true, xn_k (by omega)]
      rw [show xr_Call (d + 59) 177 [xP 0 89, xP w 1091] ([], [35, 44, 53, 58, 63, 66]) (xs (xs (a + 10, k + 812, (N + 2, 0), some (N + 1), M5, D2) M6) T1) = _ from e7, xr_cV_s]
      have u36 : xm (xs (a + 10, k + 812, (N + 2, 0), some (N + 1), T1, D2) M7) 0 69 36 = nI w := by show M7 0 69 36 = _; rw [F7 0 69 (by omega)]; exact m36
      have u8 : xw (xw (xw (xw (xm (xs (a + 10, k + 812, (N + 2, 0), some (N + 1), T1, D2) M7)) 0 69 36 (nI (w + 1))) 0 69 40 (nI 0)) 0 69 41 (nI 0)) 0 69 37 (nI 0) = M8 := hM8.symm
      have u30 : M8 0 69 30 = nI X.1 := by rw [G8b 30 (by omega), hT1, xw_n (by omega)]; exact c30
      rw [u36, xn_add, u8, u30]
      have c212 : xr_Call (d + 59) 212 [xP 0 69, xI (nI 0), xI (nI X.1)] xMd (a + 10, k + 812, (N + 2, 0), some (N + 1), M8, D2) = some (.inl none, xMd, (a + 10, k + 812, (N + 2, 0), some (N + 1), M9, D2)) := by
        rw [xe212 (d + 58)]
        exact e9
      rw [show xr_Call (d + 59) 212 [xP 0 69, xI (nI 0), xI (nI X.1)] ([], [35, 44, 53, 58, 63, 66]) (xs (xs (a + 10, k + 812, (N + 2, 0), some (N + 1), T1, D2) M7) M8) = _ from c212, xr_cV_s]
      show (some (.inl (some (M9 0 69 41)), xMd, (a + 10, k + 812, (N + 2, 0), some (N + 1), M9, D2)) : xr_R) = _
      rw [b2]
    have FF : ∀ b e, ¬ (b = N + 1 ∧ e ≤ 9) → ¬ (b = 0 ∧ (e ≤ 1 ∨ (3 ≤ e ∧ e ≤ 11) ∨ (21 ≤ e ∧ e ≤ 26) ∨ e = 56 ∨ e = 57 ∨ e = 69 ∨ e = 86 ∨ e = 87 ∨ e = 89)) → ¬ e = 1088 → ¬ (b = w ∧ e = 1091) → M9 b e = M b e := fun b e g1 g2 g3 g4 => by rw [K9.1 b e (by omega), F8 b e g1 (by omega) g3 g4]
    have F94 : ∀ e, 3 ≤ e → e ≤ 11 → M9 0 e = M4 0 e := fun e g1 g2 => by rw [K9.1 0 e (by omega), hM8, xw_r (by omega), xw_r (by omega), xw_r (by omega), xw_r (by omega), F7 0 e (by omega), hT1, xw_r (by omega), F6 0 e (by omega) (by omega), hM5, xw_r (by omega)]
    have F95 : ∀ e, e ≤ 1 → M9 0 e = M5 0 e := fun e g1 => by rw [K9.1 0 e (by omega), hM8, xw_r (by omega), xw_r (by omega), xw_r (by omega), xw_r (by omega), F7 0 e (by omega), hT1, xw_r (by omega), F6 0 e (by omega) (by omega)]
    have G0 : ∀ k, ¬ (k = 15 ∨ k = 16) → M9 0 0 k = M 0 0 k := fun k hk => by rw [F95 0 (by omega), hM5, xw_n (by omega), K4.1 0 0 (by omega), F3 0 0 (by omega) (by omega), G1 k (by omega)]
    have G69 : ∀ k, ¬ (k ≤ 8 ∨ k = 30 ∨ k = 36 ∨ k = 37 ∨ k = 40 ∨ k = 41) → M9 0 69 k = M 0 69 k := fun k hk => by rw [K9.2 k (by omega), G8 k hk]
    have FN : ∀ e, e ≤ 9 → M9 (N + 1) e = M2 (N + 1) e := fun e he => by rw [K9.1 _ e (by omega), hM8, xw_r (by omega), xw_r (by omega), xw_r (by omega), xw_r (by omega), F7 _ e (by omega), hT1, xw_r (by omega), F6 _ e (by omega) (by omega), hM5, xw_r (by omega), K4.1 _ e (by omega), hM3, xw_r (by omega), xw_r (by omega), xw_r (by omega)]
    have w1091 : ∀ j, j < 793 → M9 w 1091 j = g j := fun j hj => by
      rw [K9.1 w 1091 (by omega), hM8, xw_n (by omega), xw_n (by omega), xw_n (by omega), xw_n (by omega), C7 j hj, hT1, xw_n (by omega), F6 0 89 (by omega) (by omega), F5 0 89 (by omega) (by omega), e89]
    have dD : ∀ b, 1 ≤ b → b ≤ N → D2 b 0 = D b 0 := fun b g1 g2 => by
      rw [hD2]
      unfold xr_up
      rw [if_neg (by omega)]
    have fr : ∀ b e, 1 ≤ b → b ≤ N → e < 10 → M9 b e = M b e := fun b e g1 g2 g3 => FF b e (by omega) (by omega) (by omega) (by omega)
    obtain ⟨OA1, OW, OI⟩ := OA
    refine ⟨nI A.2.1, N + 1, xMd, _, _, _, cl, mo, ?_, Or.inl ⟨rfl, rfl⟩, gInv_b rfl (w := w + 1) (im := im) (xIq_new (M := M) (r := M9 0 89) (h' := A.2.2.2.2.1) (s' := A.2.2.2.2.2) ⟨fun b e g1 g2 g3 => FF b e (by omega) (by omega) (by omega) (by omega), G69 21 (by omega), G69 35 (by omega)⟩ I' (xGr_c5 BE n1 n2 n3 (xGr_fr (fun e g1 g2 => F94 e (by omega) (by omega)) AG)) (xgW_c5 BE n2 OW) ?_ BH OI (fun _ _ => rfl)) ?_ ?_ ⟨?_, ?_, ?_, ?_⟩ ⟨⟨by omega, him⟩, ⟨?_, ?_, ?_⟩, ⟨N, rfl, Nat.lt_succ_self _, ?_, ?_, ?_⟩, fun j hj => ?_⟩, Nat.le_refl _, Nat.le_refl _⟩
    · show M9 0 69 0 = nI 0; rw [K9.2 0 (by omega), G8b 0 (by omega), hT1, xw_n (by omega)]; exact g60
    · show xhC (M9 0 10) (M9 0 11) _ _
      rw [F94 10 (by omega) (by omega), F94 11 (by omega) (by omega)]; exact AH
    · show M9 0 1 1 = nI 0; rw [F95 1 (by omega), hM5, xw_n (by omega), K4.1 0 1 (by omega), F3 0 1 (by omega) (by omega)]; exact f11
    · show M9 0 69 1 = nI 0; rw [K9.2 1 (by omega), G8b 1 (by omega), hT1, xw_n (by omega)]; exact g61
    · show M9 0 0 15 = M9 0 69 3
      rw [F95 0 (by omega), hM5, xw_n (by omega), K4.1 0 0 (by omega), F3 0 0 (by omega) (by omega), f15, K9.2 3 (by omega), G8b 3 (by omega), hT1, xw_y (by omega)]
      rfl
    · show M9 0 0 16 = M9 0 69 37
      rw [F95 0 (by omega), hM5, xw_y (by omega), b3]
    · show M9 0 0 17 = M9 0 71 0; rw [G0 17 (by omega), FF 0 71 (by omega) (by omega) (by omega) (by omega)]; exact s3
    · show M9 0 0 18 = M9 0 71 1; rw [G0 18 (by omega), FF 0 71 (by omega) (by omega) (by omega) (by omega)]; exact s4
    · show M9 0 69 36 = nI (w + 1); rw [K9.2 36 (by omega), hM8, xw_n (by omega), xw_n (by omega), xw_n (by omega), xw_y (by omega)]
    · show M9 0 69 38 = nI im; rw [G69 38 (by omega)]; exact h2
    · show M9 0 0 14 = nI im; rw [G0 14 (by omega)]; exact h3
    · show M9 (N + 1) 0 2 = nI (w + 1); rw [FN 0 (by omega)]; exact c2
    · have V : svd M2 np nq pl (N + 1) g := ⟨h, s, xGr_cp C2 n1 n2 n3 (xGr_fr (fun e g1 g2 => F1 0 e (by omega)) G), W, xhC_cp C2 (xhB_le (by omega) (hG_B (hI_G HI))) (by rw [F1 0 (3 + 7) (by omega), F1 0 (3 + 8) (by omega)]; exact Hc), Hm, HI⟩
      exact svd_fr n1 n2 n3 (fun e he => FN e (by omega)) w1091 V
    · have eD : D2 (N + 1) 0 = pa := by rw [hD2]; unfold xr_up; rw [if_pos ⟨rfl, rfl⟩]
      show chn (N + 1) M9 D2 np nq pl w (D2 (N + 1) 0) _
      rw [eD]
      exact chn_fr n1 n2 n3 (Nat.le_succ _) fr dD w _ (fun r k g1 g2 => congrFun (FF r 1091 (by omega) (by omega) (by omega) (by omega)) k) C
    · obtain ⟨p', w', j1, j2, j3, j4, j5, j6⟩ := J j hj
      have f92 : M9 j 1092 = M j 1092 := FF j 1092 (by omega) (by omega) (by omega) (by omega)
      refine ⟨p', w', ?_, by omega, j3, ?_, svd_fr n1 n2 n3 (fun e he => fr _ e (by omega) (by omega) he) (fun k _ => congrFun f92 (1 + k)) j5, ?_⟩
      · show D2 0 j = _
        rw [hD2]; unfold xr_up; rw [if_neg (by omega)]; exact j1
      · show M9 j 1092 0 = _; rw [f92]; exact j4
      · show chn (N + 1) M9 D2 np nq pl w' (D2 (p' + 1) 0) _
        rw [dD (p' + 1) (by omega) (by omega)]
        exact chn_fr n1 n2 n3 (Nat.le_succ _) fr dD w' _ (fun r k _ _ => congrFun f92 (794 + 793 * r + k)) j6
end
