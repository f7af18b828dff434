/-! THE THUMB, THE FEED: both calls, and the questions' invariant after them -/
section
variable {d : Nat} {S : xr_S} {tb : Nat → Nat} {n L : Nat} {np nq ch st : Nat} {du pl : Nat → Nat} {dy : Nat → Int32} {dp : Nat → Nat → Nat} {sz : Nat} {kd : Nat → Nat} {gv g : Nat → Int32} {h : Nat → Nat} {s : Nat → Nat → Int32} {ln : Nat} {ti : Nat → Nat} {fl : Nat → Option Nat}
theorem thumb_ok (I : xIq (xm S) np nq ch st du pl dy dp sz kd gv g h s ln ti fl) (hn : n ≤ 60) (hL : n ≤ L) (B : tB (xm S) tb L) : ∃ M1 M2, xr_Call (d + 60) 104 [xP 0 0, xI (nI n)] xMd S = some (.inl (some (uRes (uAll tb n))), tMo (uAll tb n).1 xMt, xs S M1) ∧ xr_Call (d + 60) 190 [xP 0 69, xI (nI n)] (tMo (uAll tb n).1 xMt) (xs S M1) = some (.inl (some (uRes (uAll tb n))), tMo (uAll tb n).1 xMt, xs S M2) ∧ (M2 0 69 0 = nI 0 ∧ M2 0 1 1 = nI 0 ∧ M2 0 69 1 = nI 0 ∧ M2 0 0 15 = tPlc (uAll tb n).1 ∧ M2 0 69 3 = tPlc (uAll tb n).1) ∧ (∀ q, (uAll tb n).1 = .inr q → xIq M2 np nq ch st du pl dy dp sz kd gv g h s ln ti fl) ∧ (∀ a, (uAll tb n).1 = .inl a → xIq (xSwT M2) np nq ch st du pl dy dp sz kd gv g h s (uAll tb n).2.1 (uAll tb n).2.2.1 (uAll tb n).2.2.2) ∧ (∀ b e, ¬ (b = 0 ∧ (e = 0 ∨ e = 1 ∨ e = 66 ∨ e = 67 ∨ e = 69)) → ¬ e = 1084 → ¬ e = 1085 → M2 b e = xm S b e) ∧ (∀ k, ¬ k = 15 → M2 0 0 k = xm S 0 0 k) ∧ ∀ k, ¬ (k ≤ 8 ∨ k = 35) → M2 0 69 k = xm S 0 69 k := by
  obtain ⟨M1, q1, ⟨a1, a2, a3⟩, F1, G1, C1⟩ := tc104y (d := d) (S := S) (tb := tb) hn hL B
  obtain ⟨⟨B1, B2⟩, _, B4, B5⟩ := B
  have Bm : tBm (xm (xs S M1)) tb L := ⟨⟨B1, B2⟩, by rw [xm_xs, F1 0 69 (by omega)]; exact B4, fun k hk => by rw [xm_xs, F1 0 70 (by omega)]; exact B5 k hk⟩
  obtain ⟨w, hw⟩ : ∃ w, tMo (uAll tb n).1 xMt = ([], w) := by
    cases (uAll tb n).1 with
    | inl a => exact ⟨_, rfl⟩
    | inr q => exact ⟨_, rfl⟩
  obtain ⟨M2, q2, ⟨b0, b1, b3⟩, F2, G2, Nq, Ya⟩ := tm190y (d := d) (w := w) (S := xs S M1) (tb := tb) hn hL Bm
  rw [xs_xs] at q2
  rw [xm_xs] at F2 G2 Nq
  have FF : ∀ b e, ¬ (b = 0 ∧ (e = 0 ∨ e = 1 ∨ e = 66 ∨ e = 67 ∨ e = 69)) → ¬ e = 1084 → ¬ e = 1085 → M2 b e = xm S b e := fun b e h1 h2 h3 => by rw [F2 b e (by omega) h3 h2, F1 b e (by omega)]
  have GG : ∀ k, ¬ (k ≤ 8 ∨ k = 35) → M2 0 69 k = xm S 0 69 k := fun k hk => by rw [G2 k hk, F1 0 69 (by omega)]
  refine ⟨M1, M2, q1, by rw [hw]; exact q2, ⟨b0, ?_, b1, ?_, b3⟩, fun q hq => ?_, fun a ha => ?_, FF, fun k hk => ?_, GG⟩
  · rw [F2 0 1 (by omega) (by omega) (by omega)]; exact a1
  · rw [F2 0 0 (by omega) (by omega) (by omega)]; exact a3
  · obtain ⟨n1, n2⟩ := Nq q hq
    refine xIq_fr ⟨fun b e h1 h2 h3 => ?_, GG 21 (by omega), ?_⟩ I
    · by_cases h4 : e = 1084
      · rw [h4, n1 b, F1 b 1084 (by omega)]
      · exact FF b e (by omega) h4 (by omega)
    · rw [n2, F1 0 69 (by omega)]
  · obtain ⟨P, ⟨Lc, Lm, Lv⟩, ⟨e89, G, W⟩, ⟨Hc, Hm, HI⟩, To⟩ := I
    have SS : ∀ b e, ¬ (b = 0 ∧ (e = 0 ∨ e = 1 ∨ (63 ≤ e ∧ e ≤ 69))) → ¬ e = 1084 → ¬ e = 1085 → xSwT M2 b e = xm S b e := fun b e h1 h2 h3 => by rw [xSwT_o (by omega)]; exact FF b e (by omega) h2 h3
    obtain ⟨c1, c3⟩ := C1
    obtain ⟨c4, c5⟩ := c3 a ha
    obtain ⟨y1, y2⟩ := Ya a ha
    obtain ⟨u1, u2, u3⟩ := uAll_I (tb := tb) (n := n)
    have m69 : xSwT M2 0 69 = M2 0 69 := xSwT_o (by omega)
    refine ⟨xPl_fr (fun b e he => SS b e (by omega) (by omega) (by omega)) P, ⟨xLc_fr (fun e he => SS 0 e (by omega) (by omega) (by omega)) Lc, xLm_fr (fun k => SS k 1082 (by omega) (by omega) (by omega)) (by rw [m69]; exact GG 21 (by omega)) Lm, Lv⟩, ⟨?_, xGr_fr (fun e h1 h2 => SS 0 e (by omega) (by omega) (by omega)) G, W⟩, ⟨?_, Hm, HI⟩, ⟨?_, ?_, ?_⟩, fun i hi => ⟨?_, fun v hv => (u2 i v hi hv).1⟩, fun k hk => ?_, fun i v hi hv => (u2 i v hi hv).2⟩
    · rw [SS 0 89 (by omega) (by omega) (by omega)]; exact e89
    · rw [SS 0 10 (by omega) (by omega) (by omega), SS 0 11 (by omega) (by omega) (by omega)]; exact Hc
    · rw [xSwT_y (by omega), F2 0 66 (by omega) (by omega) (by omega)]; exact c4
    · rw [m69]; exact y1
    · rw [← u3]; exact ucnt_le _ 6
    · rw [xSwT_y (by omega), F2 0 67 (by omega) (by omega) (by omega)]; exact c5 i hi
    · obtain ⟨t1, v, t2, t3⟩ := u1 k hk
      obtain ⟨y3, y4⟩ := y2 k hk
      rw [xSwT_o (by omega)]
      refine ⟨y3, t1, v, t2, ?_⟩
      rw [y4, t2]; rfl
  · rw [F2 0 0 (by omega) (by omega) (by omega)]; exact G1 k hk
/-- a feed that fits -/
theorem feed_ok (I : xIq (xm S) np nq ch st du pl dy dp sz kd gv g h s ln ti fl) (a1 a2 a3 a4 a5 : Int32) (hL : L + 20 ≤ 600) (B : tB (xm S) tb L) : ∃ M1 M2, xr_Call (d + 60) 100 [xP 0 0, xI a1, xI a2, xI a3, xI a4, xI a5] xMd S = some (.inl (some (nI (L + 20))), xMd, xs S M1) ∧ xr_Call (d + 60) 156 [xP 0 69, xI a1, xI a2, xI a3, xI a4, xI a5] xMd (xs S M1) = some (.inl (some (nI (L + 20))), xMd, xs S M2) ∧ M2 0 69 0 = nI 0 ∧ tB M2 (fup tb L (fbs a1 a2 a3 a4 a5) 20) (L + 20) ∧ xIq M2 np nq ch st du pl dy dp sz kd gv g h s ln ti fl ∧ (∀ b e, ¬ (b = 0 ∧ (e = 1 ∨ e = 2 ∨ e = 69 ∨ e = 70)) → M2 b e = xm S b e) ∧ ∀ k, 2 ≤ k → M2 0 69 k = xm S 0 69 k := by
  obtain ⟨M1, q1, h1, h2, h3, h4, h5⟩ := tc100y (d := d) (S := S) a1 a2 a3 a4 a5 hL B.2.1.1
  have e69 : M1 0 69 = xm S 0 69 := h2 0 69 (by omega)
  obtain ⟨M2, q2, g1, g2, g3, g4, g5⟩ := tm156y (d := d) (w := [35, 44, 53, 58, 63, 66]) (S := xs S M1) (L := L) a1 a2 a3 a4 a5 hL (by rw [xm_xs, e69]; exact B.2.2.1)
  rw [xs_xs] at q2
  rw [xm_xs] at g2 g3 g5
  have FF : ∀ b e, ¬ (b = 0 ∧ (e = 1 ∨ e = 2 ∨ e = 69 ∨ e = 70)) → M2 b e = xm S b e := fun b e h => by rw [g2 b e (by omega), xw_r (by omega), h2 b e (by omega)]
  have GG : ∀ k, 2 ≤ k → M2 0 69 k = xm S 0 69 k := fun k hk => by rw [g3 k (by omega), xw_n (by omega), e69]
  have E1 : M2 0 1 = M1 0 1 := by rw [g2 0 1 (by omega), xw_r (by omega)]
  have E2 : M2 0 2 = M1 0 2 := by rw [g2 0 2 (by omega), xw_r (by omega)]
  refine ⟨M1, M2, q1, q2, ?_, fup_B hL B ?_ ?_ ?_ g1 g4 ?_, xIq_fr ⟨fun b e h _ _ => FF b e (by omega), GG 21 (by omega), GG 35 (by omega)⟩ I, FF, GG⟩
  · rw [g3 0 (by omega), xw_y (by omega)]
  · rw [E1]; exact h1
  · rw [E2]; exact h4
  · rw [E2]; exact h5
  · intro k hk
    rw [g5 k hk, xw_r (by omega), h2 0 70 (by omega)]
/-- a feed that doesn't fit -/
theorem feed_no (a1 a2 a3 a4 a5 : Int32) (hL : ¬ L + 20 ≤ 600) (B : tB (xm S) tb L) : qOk d 100 156 [xI a1, xI a2, xI a3, xI a4, xI a5] S (-1) :=
  qOk_of (tc100n a1 a2 a3 a4 a5 hL B.1.1 B.2.1.1) (tm156n a1 a2 a3 a4 a5 hL B.1.1 B.2.2.1)
end
