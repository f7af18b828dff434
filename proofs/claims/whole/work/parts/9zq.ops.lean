/-! THE CALLS: how they end; count, undo, image, restore -/
abbrev xMh : xr_N := ([], [44, 35, 53, 58, 63, 66])
/-- the plan's cells change places -/
def xSwP (M : xr_M) : xr_M := fun b e => if b = 0 ∧ 35 ≤ e ∧ e ≤ 43 then M 0 (e + 9) else if b = 0 ∧ 44 ≤ e ∧ e ≤ 52 then M 0 (e - 9) else M b e
def swp (m : xr_N) (S T : xr_S) : Prop := (m = xMd ∧ T = S) ∨ (m = xMl ∧ T = xs S (xSwL (xm S))) ∨ (m = xMt ∧ T = xs S (xSwT (xm S))) ∨ (m = xMh ∧ T = xs S (xSwP (xm S)))
/-- both return, and alike -/
def oRt (d i j : Nat) (as : List xr_V) (S : xr_S) : Prop := ∃ r N m S1 S2 S3, xr_Call (d + 60) i (xP 0 0 :: as) xMd S = some (.inl (some r), m, S1) ∧ xr_Call (d + 60) j (xP 0 69 :: as) m S1 = some (.inl (some r), m, S2) ∧ xm S2 0 69 0 = nI 0 ∧ swp m S2 S3 ∧ gInv N S3 ∧ S2.1 ≤ S.1 + 10 ∧ S2.2.1 ≤ S.2.1 + 812
/-- both refuse -/
def oNo (d i j : Nat) (as : List xr_V) (S : xr_S) (E : String) (t : Nat) : Prop := ∃ v N S1 S2, xr_Call (d + 60) i (xP 0 0 :: as) xMd S = some (.inr E, xMd, S1) ∧ xr_Call (d + 60) j (xP 0 69 :: as) xMd S1 = some (.inl (some v), xMd, S2) ∧ xm S2 0 69 0 = nI t ∧ gInv N S2 ∧ S2.1 ≤ S.1 + 10 ∧ S2.2.1 ≤ S.2.1 + 812
def oRes (d i j : Nat) (as : List xr_V) (S : xr_S) (tN tI : Nat) : Prop := oRt d i j as S ∨ (1 ≤ tN ∧ oNo d i j as S xNS tN) ∨ (1 ≤ tI ∧ oNo d i j as S xIA tI)
theorem oRt_q {d i j N : Nat} {as : List xr_V} {S : xr_S} {r : Int32} (H : gInv N S) (q : qOk d i j as S r) : oRt d i j as S := by
  obtain ⟨M1, M2, c, m, t, K⟩ := q
  exact ⟨r, N, xMd, _, _, _, c, m, t, Or.inl ⟨rfl, rfl⟩, gInv_q H K, Nat.le_add_right _ _, Nat.le_add_right _ _⟩
theorem oNo_q {d i j N : Nat} {as : List xr_V} {S : xr_S} {E : String} {t f r : Nat} (hf : (f = 17 ∧ r = 0) ∨ (f = 18 ∧ r = 1)) (H : gInv N S) (q : qNo d i j as S E t f r) : oNo d i j as S E t := by
  obtain ⟨v, c, m⟩ := q
  refine ⟨v, N, _, _, c, m, ?_, gInv_r hf H, ?_, ?_⟩
  · rw [xm_ex, xm_xs, xw_n (by omega), xw_y (by omega)]
  · exact Nat.add_le_add_left (by omega) _
  · exact Nat.add_le_add_left (by omega) _
theorem oRes_q {d i j N : Nat} {as : List xr_V} {S : xr_S} {tN tI : Nat} (H : gInv N S) (q : qRes d i j as S tN tI) : oRes d i j as S tN tI := by
  rcases q with ⟨r, q⟩ | ⟨h, q⟩ | ⟨h, q⟩
  · exact Or.inl (oRt_q H q)
  · exact Or.inr (Or.inl ⟨h, oNo_q (Or.inl ⟨rfl, rfl⟩) H q⟩)
  · exact Or.inr (Or.inr ⟨h, oNo_q (Or.inr ⟨rfl, rfl⟩) H q⟩)
section
variable {d : Nat} {S : xr_S}
theorem x139d {a v1 : Int32} (h : a.toInt < 0 ∨ 2 < a.toInt) : xr_Run d 139 1 [xP 0 0, xI v1] [xI a] xMd S = some (.inl (some (-1)), xMd, S) := by
  refine (xr_Run_eq d 139 1 [xP 0 0, xI v1] [xI a] xMd S).trans ?_
  show (if a.toInt < 0 ∨ 2 < a.toInt then xr_Run d 139 46 [xP 0 0, xI v1] [] xMd S else _) = _
  rw [if_pos h]
  exact (xr_exec_eq (fun _ => false) d 139 400 46 _ _ _ _).symm
theorem q_count {N np nq w im L : Nat} {pl : Nat → Nat} {tb : Nat → Nat} (B : tB (xm S) tb L) (H : hst N (xm S) (xr_d S) (xr_past S) np nq pl w im) (a : Int32) : qRes d 139 270 [xI a] S 0 0 := by
  obtain ⟨_, ⟨h1, h2, h3⟩, C, _⟩ := H
  have e : ∀ k, 1 ≤ k → xw (xm S) 0 69 0 (nI 0) 0 69 k = xm S 0 69 k := fun k hk => xw_n (by omega)
  have n1 : ¬ nI 1 = nI 0 := by decide
  have n2 : ¬ nI 2 = nI 0 := by decide
  have n3 : ¬ nI 2 = nI 1 := by decide
  by_cases q : xrg a 0 2
  · obtain ⟨k, _, hk, rfl⟩ := q
    have : k = 0 ∨ k = 1 ∨ k = 2 := by omega
    rcases this with rfl | rfl | rfl
    · refine Or.inl ⟨nI im, qOk_of ?_ ?_⟩
      · rw [xe139, xg139_1_0, h3]
      · rw [xe270, if_pos rfl, e 38 (by omega), h2]
    · refine Or.inl ⟨nI L, qOk_of ?_ ?_⟩
      · rw [xe139, xg139_1_1, B.2.1.1]
      · rw [xe270, if_neg n1, if_pos rfl, e 1 (by omega), B.2.2.1]
    · refine Or.inl ⟨nI w, qOk_of ?_ ?_⟩
      · rw [xe139, xg139_1_2, show xr_Call (d + 59) 142 [xP 0 0] xMd S = _ from c142 (d := d + 58) C, xr_cI_s]
      · rw [xe270, if_neg n2, if_neg n3, if_pos rfl, e 36 (by omega), h1]
  · have h0 : a.toInt < 0 ∨ 2 < a.toInt := by
      rcases xrg_no (by omega) (by omega) q with h | ⟨_, h⟩
      · rw [Int32.lt_iff_toInt_lt, nI_toInt (by omega)] at h; exact Or.inl h
      · rw [Int32.lt_iff_toInt_lt, nI_toInt (by omega)] at h; exact Or.inr h
    refine Or.inl ⟨-1, qOk_of ?_ ?_⟩
    · rw [xe139]; exact x139d h0
    · rw [xe270, if_neg (fun h => q ⟨0, by omega, by omega, h⟩), if_neg (fun h => q ⟨1, by omega, by omega, h⟩), if_neg (fun h => q ⟨2, by omega, by omega, h⟩)]
end
def xKg (M M' : xr_M) : Prop := (∀ b e, ¬ (b = 0 ∧ (e ≤ 34 ∨ (44 ≤ e ∧ e ≤ 52) ∨ (56 ≤ e ∧ e ≤ 62) ∨ (65 ≤ e ∧ e ≤ 72) ∨ (74 ≤ e ∧ e ≤ 77) ∨ (86 ≤ e ∧ e ≤ 90) ∨ e = 93 ∨ e = 94)) → ¬ (1 ≤ b ∧ e < 10) → ¬ (e = 1078 ∨ e = 1080 ∨ e = 1083 ∨ e = 1085 ∨ e = 1088 ∨ e = 1091 ∨ e = 1092) → M' b e = M b e) ∧ M' 0 69 21 = M 0 69 21 ∧ M' 0 69 35 = M 0 69 35
theorem xIq_new {M M' : xr_M} {np nq ch st : Nat} {du pl : Nat → Nat} {dy : Nat → Int32} {dp : Nat → Nat → Nat} {sz : Nat} {kd : Nat → Nat} {gv g : Nat → Int32} {h : Nat → Nat} {s : Nat → Nat → Int32} {ln : Nat} {ti : Nat → Nat} {fl : Nat → Option Nat} (K : xKg M M') (I : xIq M np nq ch st du pl dy dp sz kd gv g h s ln ti fl) {r : Nat → Int32} {h' : Nat → Nat} {s' : Nat → Nat → Int32} (G : xGr M' 0 3 np nq pl r) (W : xgW np nq pl r) (Hc : xhC (M' 0 10) (M' 0 11) h' s') (Hm : xhM r h' s') (HI : hI h' s') (e : ∀ j, j < 793 → M' 0 89 j = r j) : xIq M' np nq ch st du pl dy dp sz kd gv (M' 0 89) h' s' ln ti fl := by
  obtain ⟨n1, n2, n3, _, _⟩ := xIq_n I
  obtain ⟨P, ⟨Lc, Lm, Lv⟩, _, _, To⟩ := I
  obtain ⟨K1, K2, K3⟩ := K
  exact ⟨xPl_fr (fun b e he => K1 b e (by omega) (by omega) (by omega)) P, ⟨xLc_fr (fun e he => K1 0 e (by omega) (by omega) (by omega)) Lc, xLm_fr (fun k => K1 k 1082 (by omega) (by omega) (by omega)) K2 Lm, Lv⟩, ⟨rfl, xGr_cg n1 n2 n3 e G, xgW_cg n2 e W⟩, ⟨Hc, xhM_cg (xhB_le (by omega) (hG_B (hI_G HI))) e Hm, HI⟩, xTo_fr (K1 0 63 (by omega) (by omega) (by omega)) (K1 0 64 (by omega) (by omega) (by omega)) (fun k => K1 k 1084 (by omega) (by omega) (by omega)) K3 To⟩
theorem chn_pa {N : Nat} {M : xr_M} {D : xr_D} {np nq : Nat} {pl : Nat → Nat} {n : Nat} {pa : Option Nat} {R : Nat → Nat → Int32} (C : chn N M D np nq pl n pa R) : pa = none ∨ ∃ r, pa = some (r + 1) := by
  cases n with
  | zero => exact Or.inl C
  | succ n => obtain ⟨p, e, _⟩ := C; exact Or.inr ⟨p, e⟩
def pvl (pa : Option Nat) : xr_V := match pa with
  | none => xN
  | some b => xP b 0
section
variable {d q a k p : Nat} {nx : xr_A} {pa : Option Nat} {M : xr_M} {D : xr_D}
theorem y106_23 (h : D (p + 1) 0 = none ∨ ∃ r, D (p + 1) 0 = some (r + 1)) : xr_Run d 106 23 [xP 0 0] [] xMd (a, k, nx, some (p + 1), M, D) = xr_cI xMd (xr_Call d 142 [xP 0 0] xMd (a, k, nx, D (p + 1) 0, xw M 0 0 16 (nI 0), D)) (fun x S1 => some (.inl (some x), xMd, S1)) := by
  rw [xv106_23]
  rcases h with h | ⟨r, h⟩
  · rw [h]; exact xv106_31N
  · rw [h]; exact xv106_31S
theorem y136_21 (h : pa = none ∨ ∃ r, pa = some (r + 1)) : xr_Run d 136 21 [xP 0 0] [] xMd (a, k, (q + 1, 0), pa, M, D) = xr_cI ([(q + 1, 0, 0)], [35, 44, 53, 58, 63, 66]) (xr_Call d 142 [xP 0 0] ([(q + 1, 0, 0)], [35, 44, 53, 58, 63, 66]) (a + 1, k + 3, (q + 1, 1), pa, M, D)) (fun x S1 => xr_cC xMd 6 (xr_Call d 73 [xP (q + 1) 0, xP 0 3, pvl pa, xI x] ([(q + 1, 0, 0)], [35, 44, 53, 58, 63, 66]) S1) (fun S2 => xr_Run d 136 48 [xP 0 0] [xP (q + 1) 0, xI (M 0 0 14), xP 0 34] xMd S2)) := by
  rcases h with rfl | ⟨r, rfl⟩
  · exact xv136_21N
  · exact xv136_21S
theorem y103_99 {v1 : Int32} (h : pa = none ∨ ∃ r, pa = some (r + 1)) : xr_Run d 103 99 [xP 0 0, xI v1] [] xMd (a, k, (q + 1, 0), pa, M, D) = xr_cI ([(q + 1, 0, 0)], [35, 44, 53, 58, 63, 66]) (xr_Call d 142 [xP 0 0] ([(q + 1, 0, 0)], [35, 44, 53, 58, 63, 66]) (a + 1, k + 3, (q + 1, 1), pa, M, D)) (fun x S1 => xr_cC xMd 6 (xr_Call d 73 [xP (q + 1) 0, xP 0 3, pvl pa, xI (x + nI 1)] ([(q + 1, 0, 0)], [35, 44, 53, 58, 63, 66]) S1) (fun S2 => xr_Run d 103 121 [xP 0 0, xI v1] [xP (q + 1) 0, xP 0 0] xMd S2)) := by
  rcases h with rfl | ⟨r, rfl⟩
  · exact xv103_99N
  · exact xv103_99S
theorem y73 {x : Int32} {f : xr_S → xr_R} (h : pa = none ∨ ∃ r, pa = some (r + 1)) : ∃ M', xr_cC xMd 6 (xr_Call (d + 4) 73 [xP (q + 1) 0, xP 0 3, pvl pa, xI x] ([(q + 1, 0, 0)], [35, 44, 53, 58, 63, 66]) (a + 1, k + 3, (q + 1, 1), pa, M, D)) f = f (a + 10, k + 812, (q + 2, 0), pa, M', xr_up D (q + 1) 0 pa) ∧ xCp M M' 0 3 (q + 1) 1 ∧ M' (q + 1) 0 2 = x ∧ ∀ b e, ¬ (b = q + 1 ∧ e ≤ 9) → M' b e = M b e := by
  rcases h with rfl | ⟨r, rfl⟩
  · obtain ⟨M', e, r1⟩ := sv73N (d := d) (q := q) (a := a + 1) (k := k + 3) (pa := none) (M := M) (D := D) (w := [35, 44, 53, 58, 63, 66]) (x := x)
    refine ⟨M', ?_, r1⟩
    rw [show xr_Call (d + 4) 73 [xP (q + 1) 0, xP 0 3, pvl none, xI x] ([(q + 1, 0, 0)], [35, 44, 53, 58, 63, 66]) (a + 1, k + 3, (q + 1, 1), none, M, D) = _ from e]
    unfold xr_cC
    dsimp only
    rw [if_pos rfl]
    rfl
  · obtain ⟨M', e, r1⟩ := sv73S (d := d) (q := q) (a := a + 1) (k := k + 3) (pa := some (r + 1)) (M := M) (D := D) (w := [35, 44, 53, 58, 63, 66]) (x := x) (p := r)
    refine ⟨M', ?_, r1⟩
    rw [show xr_Call (d + 4) 73 [xP (q + 1) 0, xP 0 3, pvl (some (r + 1)), xI x] ([(q + 1, 0, 0)], [35, 44, 53, 58, 63, 66]) (a + 1, k + 3, (q + 1, 1), some (r + 1), M, D) = _ from e]
    unfold xr_cC
    dsimp only
    rw [if_pos rfl]
    rfl
theorem y137_50 {S : xr_S} (h : xr_d S (p + 1) 0 = none ∨ ∃ r, xr_d S (p + 1) 0 = some (r + 1)) : xr_Run d 137 50 [xP 0 0, xP (p + 1) 0] [] xMd S = cond (xr_in (xw (xm S) 0 0 14 (xm S 0 0 14 - nI 1) 0 0 14) 3) (some (.inl (some (xw (xw (xm S) 0 0 14 (xm S 0 0 14 - nI 1)) 0 0 16 (nI 0) 0 0 14)), xMd, xs (xr_sd (xr_sp S (xr_d S (p + 1) 0)) (xr_up (xr_d S) 0 (xk (xw (xm S) 0 0 14 (xm S 0 0 14 - nI 1) 0 0 14)) none)) (xw (xw (xm S) 0 0 14 (xm S 0 0 14 - nI 1)) 0 0 16 (nI 0)))) none := by
  rw [xv137_50]
  rcases h with h | ⟨r, h⟩
  · rw [h]; exact xv137_55N
  · rw [h]; exact xv137_55S
end
