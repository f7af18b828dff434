/-! THE HILL: both calls -/
theorem xSwP_o {M : xr_M} {b e : Nat} (h : ¬ (b = 0 ∧ 35 ≤ e ∧ e ≤ 52)) : xSwP M b e = M b e := by
  unfold xSwP
  rw [if_neg (by omega), if_neg (by omega)]
theorem xSwP_y {M : xr_M} {e : Nat} (h : 35 ≤ e ∧ e ≤ 43) : xSwP M 0 e = M 0 (e + 9) := by
  unfold xSwP
  rw [if_pos (by omega)]
section
variable {d : Nat} {w : List Nat}
theorem tm149 {S : xr_S} : ∃ M, xr_Call (d + 1) 149 [xP 0 69] ([], w) S = some (.inl none, ([], w), xs S M) ∧ (M 0 72 0 = nI 0 ∧ M 0 72 1 = nI 0 ∧ M 0 72 2 = nI 2 ∧ M 0 72 3 = nI 2) ∧ (∀ x, x < 8 → M 0 76 x = nI 0) ∧ ∀ b e, ¬ (b = 0 ∧ (e = 72 ∨ e = 76)) → M b e = xm S b e := by
  obtain ⟨M0, hM0⟩ : ∃ M0, M0 = xw (xw (xw (xw (xm S) 0 72 0 (nI 0)) 0 72 1 (nI 0)) 0 72 2 (nI 2)) 0 72 3 (nI 2) := ⟨_, rfl⟩
  have lp : ∀ k, k ≤ 8 → ∃ M, xr_Run d 149 30 [xP 0 69, xI (nI 0)] [] ([], w) (xs S M0) = xr_Run d 149 30 [xP 0 69, xI (nI k)] [] ([], w) (xs S M) ∧ (∀ j, j < k → M 0 76 j = nI 0) ∧ ∀ b e, ¬ (b = 0 ∧ e = 76) → M b e = M0 b e := by
    intro k
    induction k with
    | zero => intro _; exact ⟨M0, rfl, fun j hj => by omega, fun _ _ _ => rfl⟩
    | succ k ih =>
      intro hk
      obtain ⟨M, e1, e2, F⟩ := ih (by omega)
      refine ⟨xw M 0 76 k (nI 0), ?_, fun j hj => ?_, fun b e g => by rw [xw_r g]; exact F b e g⟩
      · rw [e1]
        refine (xg149_30 _ _ _ _).trans ?_
        rw [if_pos (by rw [xn_lt (by omega) (by omega)]; omega), xi_t (by omega) (by omega), cond_true, xn_k (by omega), xm_xs, xn_add, xs_xs]
      · by_cases q : j = k
        · subst q; rw [xw_y (by omega)]
        · rw [xw_n (by omega)]; exact e2 j (by omega)
  obtain ⟨M, e1, e2, F⟩ := lp 8 (Nat.le_refl _)
  refine ⟨M, ?_, ?_, e2, fun b e g => ?_⟩
  · rw [xe149, xi_t (by omega) (by omega), cond_true, xi_t (by omega) (by omega), cond_true, xi_t (by omega) (by omega), cond_true, xi_t (by omega) (by omega), cond_true, xn_k (show 0 < 2147483648 by omega), xn_k (show 1 < 2147483648 by omega), xn_k (show 2 < 2147483648 by omega), xn_k (show 3 < 2147483648 by omega), ← hM0, e1]
    refine (xg149_30 _ _ _ _).trans ?_
    rw [if_neg (by rw [xn_lt (by omega) (by omega)]; omega)]
  · rw [F 0 72 (by omega), hM0]
    refine ⟨?_, ?_, ?_, xw_y (by omega)⟩
    · rw [xw_n (by omega), xw_n (by omega), xw_n (by omega), xw_y (by omega)]
    · rw [xw_n (by omega), xw_n (by omega), xw_y (by omega)]
    · rw [xw_n (by omega), xw_y (by omega)]
  · rw [F b e (by omega), hM0, xw_r (by omega), xw_r (by omega), xw_r (by omega), xw_r (by omega)]
/-- the hill's text read by the model -/
theorem tm175p {S : xr_S} {tb : Nat → Nat} {n L : Nat} (hL : n ≤ L) (B : tBm (xm S) tb L) : ∃ M cl, xr_Call (d + 60) 175 [xP 0 69, xI (nI n)] ([], w) S = xr_Run (d + 59) 175 42 [xP 0 69, xI (nI n)] [] ([], w) (xs S M) ∧ mHl M n cl (hAll tb n) ∧ (∀ a, (hAll tb n).1 = .inl a → ¬ a < n) ∧ M 0 69 2 = nI n ∧ (M 0 69 0 = nI 0 ∧ M 0 69 1 = nI 0) ∧ (∀ b e, ¬ (b = 0 ∧ (e = 69 ∨ e = 72 ∨ e = 74 ∨ e = 76)) → ¬ (e = 1078 ∨ e = 1080) → M b e = xm S b e) ∧ ∀ k, ¬ (k ≤ 8) ∨ k = 3 → M 0 69 k = xm S 0 69 k := by
  obtain ⟨⟨B1, B2⟩, B4, B5⟩ := B
  obtain ⟨T, hT⟩ : ∃ T, T = xs S (xw (xm S) 0 69 0 (nI 0)) := ⟨_, rfl⟩
  have e0 : xm T 0 69 0 = nI 0 := by rw [hT, xm_xs, xw_y (by omega)]
  have hT2 : xm T = xw (xm S) 0 69 0 (nI 0) := by rw [hT, xm_xs]
  have hT3 : ∀ M, xs T M = xs S M := fun M => by rw [hT, xs_xs]
  obtain ⟨M1, q1, Y1, R1, ⟨f1, f7, f8⟩, F1, G1⟩ := tm170 (d := d + 56) (w := w) (S := T) (tb := tb) (n := n) (by omega) B2 (fun k hk => by rw [hT2, xw_n (by omega)]; exact B5 k (by omega))
  rw [hT3] at q1
  obtain ⟨M2, q2, ⟨a0, a1, a2, a3⟩, z2, F2⟩ := tm149 (d := d + 58) (w := w) (S := xs S M1)
  rw [xs_xs] at q2
  rw [xm_xs] at F2
  have m69 : M2 0 69 = M1 0 69 := F2 0 69 (by omega)
  have Y2 : tY (xm (xs S M2)) tb n := ⟨Y1.1, Y1.2.1, by rw [xm_xs, m69]; exact Y1.2.2.1, fun k hk => by rw [xm_xs, F2 0 70 (by omega)]; exact Y1.2.2.2 k hk⟩
  have C2 : mHl (xm (xs S M2)) n 0 (.inl (sk tb n 0), hY0) := ⟨rM_e (by rw [xm_xs, m69]) R1, fun _ _ => ⟨by rw [xm_xs, m69]; exact f7, ⟨a0, a1, a2, a3⟩, (fun p hp => by cases hp), (fun p hp => by cases hp), (fun p i hp => by cases hp), fun x hx => z2 x hx⟩⟩
  obtain ⟨M3, cl, q3, K3, C3, Z3⟩ := tm42L (d := d + 51) (w := w) (tb := tb) (n := n) (v1 := nI n) 61 0 (xs S M2) (.inl (sk tb n 0), hY0) rfl (fun a h => by cases h; exact ⟨by omega, sk_sk _ _ _, hInv_0⟩) Y2 C2
  rw [xs_xs] at q3
  rw [xm_xs] at K3
  rw [show hItr tb n 61 0 (.inl (sk tb n 0), hY0) = hAll tb n from hItr_sk 60] at C3 Z3
  have b1 : xw (xm S) 0 69 0 (nI 0) 0 69 1 = nI L := by rw [xw_n (by omega)]; exact B4
  refine ⟨M3, cl, ?_, C3, Z3, ?_, ⟨?_, ?_⟩, fun b e g1 g2 => ?_, fun k hk => ?_⟩
  · rw [xe175, ← hT, b1, show xr_Call (d + 59) 152 [xI (nI n), xI (nI 0), xI (nI L)] ([], w) T = _ from qm152y (Nat.zero_le n) hL (by omega), xr_cI_s, if_neg (by decide), show xr_Call (d + 59) 151 [xP 0 69, xI (nI 0), xI (nI 1), xI (nI 1)] ([], w) T = _ from qm151f _ _ e0, xr_cI_s, if_pos rfl, show xr_Call (d + 59) 170 [xP 0 69, xI (nI n)] ([], w) T = _ from q1, xr_cV_s, show xr_Call (d + 59) 149 [xP 0 69] ([], w) (xs S M1) = _ from q2, xr_cV_s]
    exact q3
  · rw [K3.2 2 (by omega), m69]; exact Y1.2.2.1
  · rw [K3.2 0 (by omega), m69, G1 0 (by omega)]; exact e0
  · rw [K3.2 1 (by omega), m69]; exact f1
  · rw [K3.1 b e g1 g2, F2 b e (by omega), F1 b e (by omega), hT2, xw_r (by omega)]
  · rw [K3.2 k (by omega), m69, G1 k (by omega), hT2, xw_n (by omega)]
theorem hill_no {S : xr_S} {tb : Nat → Nat} {L : Nat} (B : tB (xm S) tb L) {a : Int32} (h : ¬ xrg a 0 L) : qNo d 101 175 [xI a] S xIA 1 18 1 := by
  obtain ⟨⟨B1, B2⟩, ⟨B3, _⟩, B4, _⟩ := B
  refine qNo_of (nI 0) (by omega) ?_ (fun T hT => ?_)
  · rw [xe101, B3, show xr_Call (d + 59) 141 [xP 0 0, xI a, xI (nI 0), xI (nI L)] xMd S = _ from qc141n (by omega) (by omega) h, xr_cV_e]
  · have e0 : xm (xs T (xw (xm T) 0 69 0 (nI 0))) 0 69 0 = nI 0 := (by rw [xm_xs, xw_y (by omega)])
    have b1 : xw (xm T) 0 69 0 (nI 0) 0 69 1 = nI L := by rw [xw_n (by omega), hT, xw_n (by omega)]; exact B4
    have b2 : ¬ nI 1 = nI 0 := by rw [xn_eq (by omega) (by omega)]; omega
    have b4 := qm151t (d := d + 58) (w := [35, 44, 53, 58, 63, 66]) (t := 1) (r := 1) (by omega) (by omega) (by omega) e0
    rw [xe175, b1, show xr_Call (d + 59) 152 [xI a, xI (nI 0), xI (nI L)] xMd (xs T (xw (xm T) 0 69 0 (nI 0))) = _ from qm152n (by omega) (by omega) h, xr_cI_s, if_pos rfl, show xr_Call (d + 59) 151 [xP 0 69, xI (nI 1), xI (nI 1), xI (nI 1)] xMd (xs T (xw (xm T) 0 69 0 (nI 0))) = _ from b4, xr_cI_s, if_neg b2, xs_xs, xm_xs]
end
/-- the questions' invariant over a new ground -/
theorem xIq_hill {M M0 : xr_M} {Y : hY} (I : hInv Y) (C : cPl M Y) (P0 : mPl M0 Y) (Gc : cGb M Y) (Hc : xhC (M 0 10) (M 0 11) Y.2.2.2.2 (fun _ _ => -2)) (Gm : mGb M0 M Y) (z1 : M 0 53 4 = nI 0 ∧ M 0 63 2 = nI 0 ∧ (∀ i, i < 6 → M 0 64 i = -1)) (z2 : M 0 69 21 = nI 0 ∧ M 0 69 35 = nI 0) : xIq (xSwP M) Y.1.1 Y.1.2.1 Y.1.2.2.1 Y.1.2.2.2 (fun p => (Y.2.2.1 p).2.2.1) (fun p => (Y.2.2.1 p).2.2.2.2) (fun p => nI (Y.2.2.1 p).2.2.2.1) Y.2.2.2.1 0 (fun _ => 0) (fun _ => 0) (M 0 89) Y.2.2.2.2 (fun _ _ => -2) 0 (fun _ => 0) (fun _ => none) := by
  obtain ⟨⟨i1, i2, i3, i4, i5⟩, i6, i7, i8⟩ := I
  obtain ⟨⟨c0, c1, c2, c3⟩, c4, c5, c6, c7, c8⟩ := C
  obtain ⟨⟨p0, p1, p2, p3⟩, p4, p5, p6, p8⟩ := P0
  obtain ⟨g0, g1, g2, g3, g4, g5⟩ := Gc
  obtain ⟨m0, m1, m2, m3, m4, m5, m6, m7, m8⟩ := Gm
  have o73 : xSwP M 0 73 = M 0 73 := xSwP_o (by omega)
  have g16 : ∀ k, k < 2 * Y.1.2.1 → M 0 89 (16 + k) = nI (if k % 2 = 0 then (Y.2.2.1 (k / 2)).1 else (Y.2.2.1 (k / 2)).2.1) := fun k hk => by
    rw [m4 k hk]
    obtain ⟨q0, q1, _⟩ := p5 (k / 2) (by omega)
    by_cases q : k % 2 = 0
    · rw [if_pos q, q]; exact q0
    · rw [if_neg q, show k % 2 = 1 by omega]; exact q1
  have g48 : ∀ k i, k < 2 * Y.1.2.1 → i < 6 → M 0 89 (48 + 6 * k + i) = nI (Y.2.2.2.1 (k / 2) i) := fun k i hk hi => by
    rw [m5 k i hk hi]
    by_cases q : i < (Y.2.2.1 (k / 2)).2.2.2.2
    · rw [if_pos q]; exact p6 (k / 2) i (by omega) q
    · rw [if_neg q, (i7 (k / 2) i (by omega)).2 (by omega)]
  have N16 : ∀ k, k < 2 * Y.1.2.1 → gN (M 0 89) (16 + k) = (if k % 2 = 0 then (Y.2.2.1 (k / 2)).1 else (Y.2.2.1 (k / 2)).2.1) ∧ (if k % 2 = 0 then (Y.2.2.1 (k / 2)).1 else (Y.2.2.1 (k / 2)).2.1) < Y.1.1 := fun k hk => by
    obtain ⟨l1, l2, _⟩ := i6 (k / 2) (by omega)
    have lt : (if k % 2 = 0 then (Y.2.2.1 (k / 2)).1 else (Y.2.2.1 (k / 2)).2.1) < Y.1.1 := by split <;> omega
    exact ⟨by unfold gN; rw [g16 k hk, xn_k (by omega)], lt⟩
  have N48 : ∀ k i, k < 2 * Y.1.2.1 → i < 6 → gN (M 0 89) (48 + 6 * k + i) = Y.2.2.2.1 (k / 2) i := fun k i hk hi => by
    have := (i7 (k / 2) i (by omega)).1
    unfold gN
    rw [g48 k i hk hi, xn_k (by omega)]
  refine ⟨⟨?_, ?_, ⟨i1, i2, i3, i4, i5⟩, fun p hp => ?_, fun p i hp hi => ?_⟩, ⟨⟨?_, (fun k hk => by omega), (fun k hk => by omega)⟩, ⟨?_, (fun k hk => by omega)⟩, ⟨by omega, (fun k hk => by omega)⟩⟩, ⟨xSwP_o (by omega), ⟨?_, fun k hk => ?_, fun k hk => ?_, fun k hk => ?_, fun k hk => ?_, fun k i hk hi => ?_⟩, ⟨fun k hk => ?_, fun k i hk hi => ?_⟩⟩, ⟨?_, ⟨fun x hx => m7 x hx, fun x k hx hk => m8 x k hx hk⟩, ⟨fun x hx => ?_, ?_⟩⟩, ⟨⟨?_, ?_, by omega⟩, fun i hi => ⟨?_, (fun v h => by cases h)⟩, (fun k hk => by omega), (fun i v hi h => by cases h)⟩⟩
  · rw [xSwP_y (by omega)]; exact ⟨c0, c1, c2, c3⟩
  · rw [o73, m0 0 (by omega), m0 1 (by omega), m0 2 (by omega), m0 3 (by omega)]; exact ⟨p0, p1, p2, p3⟩
  · obtain ⟨a0, a1, a2, a3, a4⟩ := c5 p hp
    obtain ⟨q0, q1, q2, q3, q4⟩ := p5 p hp
    obtain ⟨l1, l2, l3, l4, l5⟩ := i6 p hp
    rw [xSwP_y (by omega), xSwP_y (by omega), xSwP_y (by omega), xSwP_o (by omega), m1 p 2 hp (by omega), m1 p 3 hp (by omega), m1 p 4 hp (by omega)]
    exact ⟨a2, a3, a4, q2, q3, q4, l3, l4, l5⟩
  · rw [xSwP_y (by omega), xSwP_o (by omega)]
    refine ⟨c6 p i hp hi, (i7 p i hp).1, (i7 p i hp).2, fun hl => ?_⟩
    rw [m2 p i hp hi]; exact p6 p i hp hl
  · rw [xSwP_o (by omega)]; exact z1.1
  · rw [xSwP_o (by omega)]; exact z2.1
  · rw [xSwP_o (by omega), g0, m6 144 (by omega)]
  · rw [xSwP_o (by omega), g1 k hk, m3 k hk]
  · rw [xSwP_o (by omega), g2 k (by omega), m6 (8 + k) (by omega)]
  · rw [xSwP_o (by omega), g16 k hk]
    obtain ⟨a1, a2⟩ := g3 (k / 2) (by omega)
    by_cases q : k % 2 = 0
    · rw [if_pos q, ← a1, show 2 * (k / 2) = k by omega]
    · rw [if_neg q, ← a2, show 2 * (k / 2) + 1 = k by omega]
  · rw [xSwP_o (by omega), g4 k (by omega), m6 (32 + k) (by omega)]
  · obtain ⟨_, _, _, _, l5⟩ := i6 (k / 2) (by omega)
    have hi : i < (Y.2.2.1 (k / 2)).2.2.2.2 := hi
    rw [xSwP_o (by omega), g48 k i hk (by omega)]
    obtain ⟨a1, a2⟩ := g5 (k / 2) i (by omega) (by omega)
    by_cases q : k % 2 = 0
    · rw [← a1, show 2 * (k / 2) = k by omega]
    · rw [← a2, show 2 * (k / 2) + 1 = k by omega]
  · obtain ⟨e, l⟩ := N16 k hk
    rw [e]
    exact ⟨g16 k hk, l⟩
  · rw [N48 k i hk hi]
    exact ⟨g48 k i hk hi, (i7 (k / 2) i (by omega)).1, fun hl => (i7 (k / 2) i (by omega)).2 hl⟩
  · rw [xSwP_o (by omega), xSwP_o (by omega)]; exact Hc
  · have := i8 x
    have := i8 (x + 1)
    omega
  · have := xsN_le (g := Y.2.2.2.2) (B := 9) 8 (fun k _ => i8 k)
    omega
  · rw [xSwP_o (by omega)]; exact z1.2.1
  · rw [xSwP_o (by omega)]; exact z2.2
  · rw [xSwP_o (by omega)]; exact z1.2.2 i hi
section
variable {d : Nat} {S : xr_S}
theorem o_hill {N : Nat} (H : gInv N S) (v : Int32) : oRes d 101 175 [xI v] S 0 1 := by
  have H' := H
  obtain ⟨e, np, nq, ch, st, du, pl, dy, dp, sz, kd, gv, g, h, s, ln, ti, fl, tb, L, w, im, I, B, Sc, Hs⟩ := H
  by_cases qv : xrg v 0 L
  rotate_left
  · exact Or.inr (Or.inr ⟨Nat.le_refl _, oNo_q (Or.inr ⟨rfl, rfl⟩) H' (hill_no B qv)⟩)
  obtain ⟨n, _, hn, rfl⟩ := qv
  refine Or.inl ?_
  obtain ⟨n1, n2, n3, st1, st9⟩ := xIq_n I
  obtain ⟨a, k, nx, pa, M, D⟩ := S
  have e : nx = (N + 1, 0) := e
  subst e
  have I : xIq M np nq ch st du pl dy dp sz kd gv g h s ln ti fl := I
  have Hs : hst N M D pa np nq pl w im := Hs
  have B : tB M tb L := B
  have Sc : scl M := Sc
  obtain ⟨s1, s2, s3, s4⟩ := Sc
  obtain ⟨⟨B1, B2⟩, ⟨B3, B4⟩, B5, B6⟩ := B
  obtain ⟨_, _, _, ⟨Hc, _, HI⟩, _⟩ := id I
  obtain ⟨M1, q1, X1, R1, f1, F1, f0⟩ := tc81 (d := d + 58) (w := [35, 44, 53, 58, 63, 66]) (S := (a, k, (N + 1, 0), pa, M, D)) (tb := tb) (n := n) (by omega) B2 (fun k hk => B4 k (by omega))
  have F1 : ∀ b e, ¬ (b = 0 ∧ e = 1) → M1 b e = M b e := F1
  obtain ⟨M2, q2, C2, K2⟩ := tc57 (d := d + 47) (w := [35, 44, 53, 58, 63, 66]) (tb := tb) (n := n) (S := (a, k, (N + 1, 0), pa, M1, D)) X1 R1
  have K2 : kH M1 M2 := K2
  obtain ⟨r6, ra, rb⟩ := rC_res C2.1
  obtain ⟨M3, hM3⟩ : ∃ M3, M3 = xw M2 0 0 15 (M2 0 1 6) := ⟨_, rfl⟩
  have E3 : ∀ b e, ¬ (b = 0 ∧ e = 0) → M3 b e = M2 b e := fun b e h => by rw [hM3, xw_r h]
  have F3 : ∀ b e, ¬ (b = 0 ∧ (e = 0 ∨ e = 1 ∨ (44 ≤ e ∧ e ≤ 52))) → M3 b e = M b e := fun b e h => by rw [E3 b e (by omega), K2.1 b e (by omega), F1 b e (by omega)]
  have G3 : ∀ k, ¬ k = 15 → M3 0 0 k = M 0 0 k := fun k hk => by rw [hM3, xw_n (by omega), K2.1 0 0 (by omega), F1 0 0 (by omega)]
  have x11 : M3 0 1 1 = nI 0 := by rw [E3 0 1 (by omega), K2.2 1 (by omega)]; exact f1
  have x15 : M3 0 0 15 = tPlc (hAll tb n).1 := by rw [hM3, xw_y (by omega)]; exact r6
  have e5 : M3 0 1 5 = M2 0 1 5 := by rw [E3 0 1 (by omega)]
  have pre : xr_Call (d + 60) 101 [xP 0 0, xI (nI n)] xMd (a, k, (N + 1, 0), pa, M, D) = _ := xe101 (d + 59) _ _
  rw [show xm (a, k, (N + 1, 0), pa, M, D) 0 1 1 = nI L from B3, show xr_Call (d + 59) 141 [xP 0 0, xI (nI n), xI (nI 0), xI (nI L)] xMd (a, k, (N + 1, 0), pa, M, D) = _ from qc141y (Nat.zero_le n) hn (by omega), xr_cV_s, show xr_Call (d + 59) 81 [xP 0 1, xI (nI n)] xMd (a, k, (N + 1, 0), pa, M, D) = _ from q1, xr_cV_s, show xr_Call (d + 59) 57 [xP 0 44, xP 0 1] xMd (xs (a, k, (N + 1, 0), pa, M, D) M1) = _ from q2, xr_cV_s] at pre
  have t1 : xs (xs (a, k, (N + 1, 0), pa, M1, D) M2) (xw (xm (xs (a, k, (N + 1, 0), pa, M1, D) M2)) 0 0 15 (xm (xs (a, k, (N + 1, 0), pa, M1, D) M2) 0 1 6)) = (a, k, (N + 1, 0), pa, M3, D) := by rw [hM3]; rfl
  rw [t1, xe82] at pre
  have t5 : xm (a, k, (N + 1, 0), pa, M3, D) 0 1 5 = M2 0 1 5 := e5
  obtain ⟨C2r, C2p⟩ := C2
  have hAI := fun a' h => hAll_I (tb := tb) (n := n) (a' := a') h
  have Wmod := fun (T : xr_S) (w : List Nat) (g1 : xm T 0 69 1 = nI L) (g2 : ∀ k, k < L → xm T 0 70 k = nI (tb k)) => tm175p (d := d) (w := w) (S := T) (tb := tb) (n := n) (L := L) hn ⟨⟨B1, B2⟩, g1, g2⟩
  generalize hX : hAll tb n = WX at C2r C2p x15 ra rb hAI Wmod
  obtain ⟨r0, Y⟩ := WX
  cases r0 with
  | inr q =>
    have cl : xr_Call (d + 60) 101 [xP 0 0, xI (nI n)] xMd (a, k, (N + 1, 0), pa, M, D) = some (.inl (some (tRes (.inr q))), xMd, (a, k, (N + 1, 0), pa, M3, D)) := by
      rw [pre, t5, if_neg (rb q rfl).1, xr_cI_s, if_pos rfl, t5, (rb q rfl).2]
    obtain ⟨M4, cl', e4, C4, _, c4, ⟨g0, g1⟩, F4, G4⟩ := Wmod (a, k, (N + 1, 0), pa, M3, D) [35, 44, 53, 58, 63, 66] (by show M3 0 69 1 = _; rw [F3 0 69 (by omega)]; exact B5) (fun j hj => by show M3 0 70 j = _; rw [F3 0 70 (by omega)]; exact B6 j hj)
    have F4 : ∀ b e, ¬ (b = 0 ∧ (e = 69 ∨ e = 72 ∨ e = 74 ∨ e = 76)) → ¬ (e = 1078 ∨ e = 1080) → M4 b e = M3 b e := F4
    have G4 : ∀ k, ¬ (k ≤ 8) ∨ k = 3 → M4 0 69 k = M3 0 69 k := G4
    obtain ⟨kk, p⟩ := q
    have R4 : rM M4 n (.inr (kk, p)) := C4.1
    have n5 := rM_5 R4
    obtain ⟨M5, hM5⟩ : ∃ M5, M5 = xw M4 0 69 3 (nI p) := ⟨_, rfl⟩
    have mo : xr_Call (d + 60) 175 [xP 0 69, xI (nI n)] xMd (a, k, (N + 1, 0), pa, M3, D) = some (.inl (some (tRes (.inr (kk, p)))), xMd, (a, k, (N + 1, 0), pa, M5, D)) := by
      rw [e4]
      refine (xg175_42 _ _ _ _).trans ?_
      rw [if_neg (show ¬ xm (xs (a, k, (N + 1, 0), pa, M3, D) M4) 0 69 5 = nI 0 from n5), if_neg (show ¬ xm (xs (a, k, (N + 1, 0), pa, M3, D) M4) 0 69 5 = nI 0 from n5), show xr_Call (d + 59) 171 [xP 0 69] ([], [35, 44, 53, 58, 63, 66]) (xs (a, k, (N + 1, 0), pa, M3, D) M4) = _ from tm171 (S := xs (a, k, (N + 1, 0), pa, M3, D) M4) R4, xr_cI_s, hM5]
      rfl
    have FF : ∀ b e, ¬ (b = 0 ∧ (e = 0 ∨ e = 1 ∨ (44 ≤ e ∧ e ≤ 52) ∨ e = 69 ∨ e = 72 ∨ e = 74 ∨ e = 76)) → ¬ (e = 1078 ∨ e = 1080) → M5 b e = M b e := fun b e g1 g2 => by rw [hM5, xw_r (by omega), F4 b e (by omega) g2, F3 b e (by omega)]
    have G0 : ∀ k, ¬ k = 15 → M5 0 0 k = M 0 0 k := fun k hk => by rw [hM5, xw_n (by omega), F4 0 0 (by omega) (by omega), G3 k hk]
    have G69 : ∀ k, ¬ (k ≤ 8) → M5 0 69 k = M 0 69 k := fun k hk => by rw [hM5, xw_n (by omega), G4 k (by omega), F3 0 69 (by omega)]
    refine ⟨tRes (.inr (kk, p)), N, xMd, _, _, _, cl, mo, ?_, Or.inl ⟨rfl, rfl⟩, gInv_b rfl (w := w) (im := im) (xIq_fr (M := M) ⟨fun b e g1 g2 g3 => FF b e (by omega) (by omega), G69 21 (by omega), G69 35 (by omega)⟩ I) ?_ ?_ ⟨?_, ?_, ?_, ?_⟩ (hst_fr (M := M) n1 n2 n3 (fun b e g1 _ g2 => FF b e (by omega) (by omega)) (fun r => FF r 1091 (by omega) (by omega)) (fun r => FF r 1092 (by omega) (by omega)) (G69 36 (by omega)) (G69 38 (by omega)) (G0 14 (by omega)) Hs), Nat.le_add_right _ _, Nat.le_add_right _ _⟩
    · show M5 0 69 0 = nI 0; rw [hM5, xw_n (by omega)]; exact g0
    · show M5 0 1 1 = nI 0; rw [hM5, xw_n (by omega), F4 0 1 (by omega) (by omega)]; exact x11
    · show M5 0 69 1 = nI 0; rw [hM5, xw_n (by omega)]; exact g1
    · show M5 0 0 15 = M5 0 69 3; rw [hM5, xw_n (show ¬ (0 = 0 ∧ 0 = 69 ∧ 15 = 3) by omega), xw_y (by omega), F4 0 0 (by omega) (by omega), x15]; rfl
    · show M5 0 0 16 = M5 0 69 37; rw [G0 16 (by omega), G69 37 (by omega)]; exact s2
    · show M5 0 0 17 = M5 0 71 0; rw [G0 17 (by omega), FF 0 71 (by omega) (by omega)]; exact s3
    · show M5 0 0 18 = M5 0 71 1; rw [G0 18 (by omega), FF 0 71 (by omega) (by omega)]; exact s4
  | inl x =>
    have IY : hInv Y := hAI x rfl
    have CY : cPl M3 Y := by
      have C := C2p x rfl
      unfold cPl at C ⊢
      rw [E3 0 44 (by omega), E3 0 45 (by omega), E3 0 46 (by omega), E3 0 47 (by omega), E3 0 48 (by omega), E3 0 49 (by omega), E3 0 50 (by omega), E3 0 51 (by omega), E3 0 52 (by omega)]
      exact C
    obtain ⟨M4, D4, q4, G4c, H4, ⟨z53, z63, z64, z14, z16⟩, F4, G4⟩ := tc143 (d := d + 53) (a := a) (k := k) (nx := (N + 1, 0)) (pa := pa) (M := M3) (D := D) (Y := Y) (h := h) (s := s) IY CY (by rw [F3 0 10 (by omega), F3 0 11 (by omega)]; exact Hc) (xhB_le (by omega) (hG_B (hI_G HI)))
    have C4 : cPl M4 Y := by
      unfold cPl at CY ⊢
      rw [F4 0 44 (by omega), F4 0 45 (by omega), F4 0 46 (by omega), F4 0 47 (by omega), F4 0 48 (by omega), F4 0 49 (by omega), F4 0 50 (by omega), F4 0 51 (by omega), F4 0 52 (by omega)]
      exact CY
    have cl : xr_Call (d + 60) 101 [xP 0 0, xI (nI n)] xMd (a, k, (N + 1, 0), pa, M, D) = some (.inl (some (nI Y.1.2.1)), xMh, (a, k, (N + 1, 0), none, M4, D4)) := by
      rw [pre, t5, if_pos (ra x rfl), xr_cI_s, if_neg (by decide), show xr_Call (d + 59) 143 [xP 0 0] ([], [44, 35, 53, 58, 63, 66]) (a, k, (N + 1, 0), pa, M3, D) = _ from q4, xr_cV_s]
      show (some (.inl (some (M4 0 44 1)), xMh, (a, k, (N + 1, 0), none, M4, D4)) : xr_R) = _
      rw [C4.1.2.1]
    have F04 : ∀ b e, ¬ (b = 0 ∧ (e = 0 ∨ e = 1 ∨ (3 ≤ e ∧ e ≤ 11) ∨ (44 ≤ e ∧ e ≤ 52) ∨ e = 53 ∨ e = 63 ∨ e = 64)) → M4 b e = M b e := fun b e g => by rw [F4 b e (by omega), F3 b e (by omega)]
    obtain ⟨M5, cl', e6, C5, Z5, c5, ⟨g0, g1⟩, F5, G5⟩ := Wmod (a, k, (N + 1, 0), none, M4, D4) [44, 35, 53, 58, 63, 66] (by show M4 0 69 1 = _; rw [F04 0 69 (by omega)]; exact B5) (fun j hj => by show M4 0 70 j = _; rw [F04 0 70 (by omega)]; exact B6 j hj)
    have F5 : ∀ b e, ¬ (b = 0 ∧ (e = 69 ∨ e = 72 ∨ e = 74 ∨ e = 76)) → ¬ (e = 1078 ∨ e = 1080) → M5 b e = M4 b e := F5
    have G5 : ∀ k, ¬ (k ≤ 8) ∨ k = 3 → M5 0 69 k = M4 0 69 k := G5
    obtain ⟨⟨r5, r6, r4, rn⟩, C5b⟩ := C5
    obtain ⟨_, P5⟩ := C5b x rfl
    have P5 : mPl M5 Y := P5
    obtain ⟨M6, hM6⟩ : ∃ M6, M6 = xw M5 0 69 3 (-1) := ⟨_, rfl⟩
    have P6 : mPl M6 Y := by
      obtain ⟨d0, d4, d5, d6, d8⟩ := P5
      exact ⟨by rw [hM6, xw_r (by omega)]; exact d0, by rw [hM6, xw_r (by omega)]; exact d4, fun p hp => by rw [hM6, xw_r (by omega)]; exact d5 p hp, fun p i hp hi => by rw [hM6, xw_r (by omega)]; exact d6 p i hp hi, by rw [hM6, xw_r (by omega)]; exact d8⟩
    obtain ⟨M7, q7, G7m, ⟨y21, y35, y36, y37, y38⟩, F7, G7⟩ := tm178 (d := d + 57) (w := [44, 35, 53, 58, 63, 66]) (S := (a, k, (N + 1, 0), none, M6, D4)) IY P6
    have G7m : mGb M6 M7 Y := G7m
    have F7 : ∀ b e, ¬ (b = 0 ∧ (e = 69 ∨ e = 73 ∨ e = 75 ∨ e = 77 ∨ e = 89)) → ¬ (e = 1079 ∨ e = 1081) → M7 b e = M6 b e := F7
    have G7 : ∀ k, ¬ (k = 21 ∨ (35 ≤ k ∧ k ≤ 38)) → M7 0 69 k = M6 0 69 k := G7
    have F74 : ∀ b e, ¬ (b = 0 ∧ (e = 69 ∨ (72 ≤ e ∧ e ≤ 77) ∨ e = 89)) → ¬ (1078 ≤ e ∧ e ≤ 1081) → M7 b e = M4 b e := fun b e g1 g2 => by rw [F7 b e (by omega) (by omega), hM6, xw_r (by omega), F5 b e (by omega) (by omega)]
    have mo : xr_Call (d + 60) 175 [xP 0 69, xI (nI n)] xMh (a, k, (N + 1, 0), none, M4, D4) = some (.inl (some (nI Y.1.2.1)), xMh, (a, k, (N + 1, 0), none, M7, D4)) := by
      rw [e6]
      refine (xg175_42 _ _ _ _).trans ?_
      have u5 : xm (xs (a, k, (N + 1, 0), none, M4, D4) M5) 0 69 5 = nI 0 := r5
      have u4 : xm (xs (a, k, (N + 1, 0), none, M4, D4) M5) 0 69 4 = nI x := r4
      have u2 : xm (xs (a, k, (N + 1, 0), none, M4, D4) M5) 0 69 2 = nI n := c5
      have uT : xw (xm (xs (a, k, (N + 1, 0), none, M4, D4) M5)) 0 69 3 (-1) = M6 := hM6.symm
      rw [if_pos u5, u4, u2, if_neg (by rw [xn_lt (by omega) (by omega)]; exact Z5 x rfl), if_pos u5, uT]
      rw [show xr_Call (d + 59) 178 [xP 0 69] ([], [44, 35, 53, 58, 63, 66]) (xs (xs (a, k, (N + 1, 0), none, M4, D4) M5) M6) = _ from q7, xr_cV_s, xi_t (by omega) (by omega), cond_true, xn_k (by omega)]
      show (some (.inl (some (M7 0 73 1)), xMh, (a, k, (N + 1, 0), none, M7, D4)) : xr_R) = _
      rw [G7m.1 1 (by omega), P6.1.2.1]
    have C7 : cPl M7 Y := by
      unfold cPl at C4 ⊢
      rw [F74 0 44 (by omega) (by omega), F74 0 45 (by omega) (by omega), F74 0 46 (by omega) (by omega), F74 0 47 (by omega) (by omega), F74 0 48 (by omega) (by omega), F74 0 49 (by omega) (by omega), F74 0 50 (by omega) (by omega), F74 0 51 (by omega) (by omega), F74 0 52 (by omega) (by omega)]
      exact C4
    have Gc7 : cGb M7 Y := by
      unfold cGb at G4c ⊢
      rw [F74 0 3 (by omega) (by omega), F74 0 4 (by omega) (by omega), F74 0 5 (by omega) (by omega), F74 0 6 (by omega) (by omega), F74 0 7 (by omega) (by omega), F74 0 8 (by omega) (by omega)]
      exact G4c
    have G0 : ∀ k, M7 0 0 k = M4 0 0 k := fun k => by rw [F74 0 0 (by omega) (by omega)]
    have sw69 : xSwP M7 0 69 = M7 0 69 := xSwP_o (by omega)
    have sw0 : xSwP M7 0 0 = M7 0 0 := xSwP_o (by omega)
    have sw1 : xSwP M7 0 1 = M7 0 1 := xSwP_o (by omega)
    have sw71 : xSwP M7 0 71 = M7 0 71 := xSwP_o (by omega)
    refine ⟨nI Y.1.2.1, N, xMh, _, _, xs (a, k, (N + 1, 0), none, M7, D4) (xSwP M7), cl, mo, ?_, Or.inr (Or.inr (Or.inr ⟨rfl, rfl⟩)), gInv_b rfl (w := 0) (im := 0) (xIq_hill IY C7 P6 Gc7 (by rw [F74 0 10 (by omega) (by omega), F74 0 11 (by omega) (by omega)]; exact H4) G7m ⟨by rw [F74 0 53 (by omega) (by omega)]; exact z53, by rw [F74 0 63 (by omega) (by omega)]; exact z63, by rw [F74 0 64 (by omega) (by omega)]; exact z64⟩ ⟨y21, y35⟩) ?_ ?_ ⟨?_, ?_, ?_, ?_⟩ ⟨⟨by omega, by omega⟩, ⟨?_, ?_, ?_⟩, rfl, fun j hj => by omega⟩, Nat.le_add_right _ _, Nat.le_add_right _ _⟩
    · show M7 0 69 0 = nI 0; rw [G7 0 (by omega), hM6, xw_n (by omega)]; exact g0
    · show xSwP M7 0 1 1 = nI 0; rw [sw1, F74 0 1 (by omega) (by omega), F4 0 1 (by omega)]; exact x11
    · show xSwP M7 0 69 1 = nI 0; rw [sw69, G7 1 (by omega), hM6, xw_n (by omega)]; exact g1
    · show xSwP M7 0 0 15 = xSwP M7 0 69 3
      rw [sw0, sw69, G0 15, G4 15 (by omega), x15, G7 3 (by omega), hM6, xw_y (by omega)]
      rfl
    · show xSwP M7 0 0 16 = xSwP M7 0 69 37
      rw [sw0, sw69, G0 16, z16]
      exact y37.symm
    · show xSwP M7 0 0 17 = xSwP M7 0 71 0
      rw [sw0, sw71, G0 17, G4 17 (by omega), G3 17 (by omega), F74 0 71 (by omega) (by omega), F04 0 71 (by omega)]; exact s3
    · show xSwP M7 0 0 18 = xSwP M7 0 71 1
      rw [sw0, sw71, G0 18, G4 18 (by omega), G3 18 (by omega), F74 0 71 (by omega) (by omega), F04 0 71 (by omega)]; exact s4
    · show xSwP M7 0 69 36 = nI 0; rw [sw69]; exact y36
    · show xSwP M7 0 69 38 = nI 0; rw [sw69]; exact y38
    · show xSwP M7 0 0 14 = nI 0; rw [sw0, G0 14]; exact z14
end
