/-! THE HILL'S TEXT: the class, 2: a pot -/
/-- what reading a pot changes -/
def kQ (q : Nat) (M M' : xr_M) : Prop := (∀ b e, ¬ (b = 0 ∧ (e = 1 ∨ e = 44 ∨ (46 ≤ e ∧ e ≤ 51))) → M' b e = M b e) ∧ (∀ k, k < 3 → M' 0 1 k = M 0 1 k) ∧ (∀ k, ¬ k = 1 → M' 0 44 k = M 0 44 k) ∧ (∀ c k, 46 ≤ c → c ≤ 50 → ¬ k = q → M' 0 c k = M 0 c k) ∧ ∀ j, ¬ (q * 6 ≤ j ∧ j < q * 6 + 6) → M' 0 51 j = M 0 51 j
theorem kQ_tr {q : Nat} {M M' M'' : xr_M} (h : kQ q M M') (h' : kQ q M' M'') : kQ q M M'' := ⟨fun b e g => (h'.1 b e g).trans (h.1 b e g), fun k g => (h'.2.1 k g).trans (h.2.1 k g), fun k g => (h'.2.2.1 k g).trans (h.2.2.1 k g), fun c k g1 g2 g3 => (h'.2.2.2.1 c k g1 g2 g3).trans (h.2.2.2.1 c k g1 g2 g3), fun j g => (h'.2.2.2.2 j g).trans (h.2.2.2.2 j g)⟩
theorem kC_Q {q : Nat} {M M' : xr_M} (h : kC M M') : kQ q M M' := ⟨fun b e g => h.1 b e (by omega), h.2, fun k _ => by rw [h.1 0 44 (by omega)], fun c k _ _ _ => by rw [h.1 0 c (by omega)], fun j _ => by rw [h.1 0 51 (by omega)]⟩
theorem kP_Q {q : Nat} {M M' : xr_M} (h : kP q M M') : kQ q M M' := ⟨fun b e g => h.1 b e (by omega), h.2.1, fun k _ => by rw [h.1 0 44 (by omega)], fun c k g1 g2 g3 => by
  by_cases q : c = 50
  · rw [q]; exact h.2.2.1 k g3
  · rw [h.1 0 c (by omega)], h.2.2.2⟩
theorem kQ_w {q : Nat} (M : xr_M) {c : Nat} (hc : 46 ≤ c ∧ c ≤ 50) (v : Int32) : kQ q M (xw M 0 c q v) := ⟨fun b e g => xw_r (by omega), fun k g => xw_n (by omega), fun k g => xw_n (by omega), fun c k g1 g2 g3 => xw_n (by omega), fun j g => xw_n (by omega)⟩
section
variable {d : Nat} {w : List Nat} {tb : Nat → Nat} {n np : Nat}
theorem tX_Q {q : Nat} {M M' : xr_M} (K : kQ q M M') (X : tX M tb n) : tX M' tb n := tX_e (K.2.1 2 (by omega)) (K.1 0 2 (by omega)) X
/-- one number of a pot -/
theorem tcq1 {S : xr_S} {q c lo hn : Nat} {r : tR} {hi : Int32} (hc : 46 ≤ c ∧ c ≤ 49) (hlo : lo ≤ 100000) (hhi : ∀ v, v ≤ 100000 → ((hi < nI v) ↔ hn ≤ v)) (X : tX (xm S) tb n) (R : rC (xm S) n r) (e1 : xm S 0 44 1 = nI q) : ∃ M x, xr_Call (d + 2) 87 [xP 0 1, xI (nI lo), xI hi] ([], w) S = some (.inl (some x), ([], w), xs S M) ∧ kQ q (xm S) (xw M 0 c q x) ∧ kC (xm S) M ∧ rC (xw M 0 c q x) n (pNum tb n lo hn r).2 ∧ xw M 0 c q x 0 44 1 = nI q ∧ xw M 0 c q x 0 c q = x ∧ (∀ c', ¬ c' = c → ¬ c' = 1 → xw M 0 c q x 0 c' = xm S 0 c') ∧ ∀ a0 a1, r = .inl a0 → (pNum tb n lo hn r).2 = .inl a1 → x = nI (pNum tb n lo hn r).1 ∧ xw M 0 c q x 0 1 4 = nI (sk tb n a0) := by
  obtain ⟨M, x, q1, K1, R1, E1⟩ := tc87 (d := d) (w := w) (lo := lo) (hn := hn) (hi := hi) hlo hhi X R
  refine ⟨M, x, q1, kQ_tr (kC_Q K1) (kQ_w _ (by omega) _), K1, rC_e (by rw [xw_r (by omega)]) R1, ?_, xw_y (by omega), fun c' g1 g2 => ?_, fun a0 a1 g1 g2 => ?_⟩
  · rw [xw_n (by omega), K1.1 0 44 (by omega)]; exact e1
  · rw [xw_r (by omega), K1.1 0 c' (by omega)]
  · obtain ⟨h1, h2⟩ := E1 a0 a1 g1 g2
    exact ⟨h1, by rw [xw_n (by omega)]; exact h2⟩
theorem tc64 {S : xr_S} {q a : Nat} (hq : q < 8) (hp : np ≤ 8) (X : tX (xm S) tb n) (R : rC (xm S) n (.inl a)) (e0 : xm S 0 44 0 = nI np) (e1 : xm S 0 44 1 = nI q) (E : ∀ i, i < 6 → xm S 0 51 (q * 6 + i) = nI 0) : ∃ M, xr_Call (d + 7) 64 [xP 0 44, xP 0 1] ([], w) S = some (.inl none, ([], w), xs S M) ∧ rC M n (hPot tb n np a).1 ∧ kQ q (xm S) M ∧ ∀ a', (hPot tb n np a).1 = .inl a' → M 0 44 1 = nI (q + 1) ∧ (M 0 46 q = nI (hPot tb n np a).2.1.1 ∧ M 0 47 q = nI (hPot tb n np a).2.1.2.1 ∧ M 0 48 q = nI (hPot tb n np a).2.1.2.2.1 ∧ M 0 49 q = nI (hPot tb n np a).2.1.2.2.2.1 ∧ M 0 50 q = nI (hPot tb n np a).2.1.2.2.2.2) ∧ ∀ i, i < 6 → M 0 51 (q * 6 + i) = nI ((hPot tb n np a).2.2 i) := by
  have i8 : xr_in (nI q) 8 = true := xi_t hq (by omega)
  have kq : xk (nI q) = q := xn_k (by omega)
  obtain ⟨M1, x1, q1, K1, _, R1, o1, s1, F1, E1⟩ := tcq1 (d := d + 4) (w := w) (S := S) (q := q) (c := 46) (lo := 0) (hn := np) (hi := nI np - nI 1) (by omega) (by omega) (hiM (by omega)) X R e1
  generalize hA1 : xw M1 0 46 q x1 = A1 at K1 R1 o1 s1 F1 E1
  have X1 : tX (xm (xs S A1)) tb n := tX_Q K1 X
  have z1 : A1 0 44 0 = nI np := by rw [K1.2.2.1 0 (by omega)]; exact e0
  obtain ⟨M2, x2, q2, K2, _, R2, o2, s2, F2, E2⟩ := tcq1 (d := d + 4) (w := w) (S := xs S A1) (q := q) (c := 47) (lo := 0) (hn := np) (hi := nI np - nI 1) (by omega) (by omega) (hiM (by omega)) X1 R1 o1
  rw [xs_xs] at q2
  rw [xm_xs] at K2 F2
  generalize hA2 : xw M2 0 47 q x2 = A2 at K2 R2 o2 s2 F2 E2
  have s12 : A2 0 46 q = x1 := by rw [F2 46 (by omega) (by omega)]; exact s1
  have X2 : tX (xm (xs S A2)) tb n := tX_Q K2 X1
  have pre : xr_Call (d + 7) 64 [xP 0 44, xP 0 1] ([], w) S = _ := xh64_0 (d + 6) w S
  rw [e1, if_pos (by rw [xn_lt (by omega) (by omega)]; exact hq), e0, show xr_Call (d + 6) 87 [xP 0 1, xI (nI 0), xI (nI np - nI 1)] ([], w) S = _ from q1, xr_cI_s, i8, cond_true, kq, xm_xs, xs_xs, hA1, z1, o1, i8, kq, q2, xr_cI_s, cond_true, xm_xs, xs_xs, hA2, o2, i8, kq, cond_true, cond_true, s12, s2] at pre
  -- creditor and debtor
  have mid : ∃ A3, (if x1 = x2 then xr_cV ([], w) (xr_Call (d + 6) 83 [xP 0 1, xI (nI 2), xI (A2 0 1 4)] ([], w) (xs S A2)) (fun S5 => xr_Run (d + 6) 64 80 [xP 0 44, xP 0 1] [] ([], w) S5) else xr_Run (d + 6) 64 80 [xP 0 44, xP 0 1] [] ([], w) (xs S A2)) = xr_Run (d + 6) 64 80 [xP 0 44, xP 0 1] [] ([], w) (xs S A3) ∧ kC A2 A3 ∧ rC A3 n (hR2 tb n np a) := by
    cases h2 : (hN2 tb n np a).2 with
    | inr zz =>
      have R2' : rC A2 n (.inr zz) := by rw [← h2]; exact R2
      have eR : hR2 tb n np a = .inr zz := by unfold hR2; rw [h2]; rfl
      rw [eR]
      refine ⟨A2, ?_, kC_rf _, R2'⟩
      by_cases qx : x1 = x2
      · rw [if_pos qx, show xr_Call (d + 6) 83 [xP 0 1, xI (nI 2), xI (A2 0 1 4)] ([], w) (xs S A2) = _ from tc83f (d := d + 5) (S := xs S A2) R2' _ _, xr_cV_s]
      · rw [if_neg qx]
    | inl a2 =>
      have R2' : rC A2 n (.inl a2) := by rw [← h2]; exact R2
      obtain ⟨a1, g1, _⟩ := pNum_a' (show (pNum tb n 0 np (hN1 tb n np a).2).2 = .inl a2 from h2)
      obtain ⟨y1, _⟩ := E1 a a1 rfl g1
      obtain ⟨y2, y3⟩ := E2 a1 a2 g1 h2
      have b1 := (pNum_v (show (pNum tb n 0 np (.inl a)).2 = .inl a1 from g1)).1
      have b2 := (pNum_v (show (pNum tb n 0 np (hN1 tb n np a).2).2 = .inl a2 from h2)).1
      have y1 : x1 = nI (hN1 tb n np a).1 := y1
      have y2 : x2 = nI (hN2 tb n np a).1 := y2
      have b1 : (hN1 tb n np a).1 < np := b1
      have b2 : (hN2 tb n np a).1 < np := b2
      have eR : hR2 tb n np a = if (hN1 tb n np a).1 = (hN2 tb n np a).1 then .inr (2, sk tb n a1) else .inl a2 := by unfold hR2; rw [h2, g1]; rfl
      by_cases qx : (hN1 tb n np a).1 = (hN2 tb n np a).1
      · obtain ⟨A3, q3, K3, R3, _⟩ := tc83 (d := d + 5) (w := w) (S := xs S A2) (k := 2) (p := sk tb n a1) (by omega) (sk_le (by
          obtain ⟨_, l1⟩ := pNum_a (show (pNum tb n 0 np (.inl a)).2 = .inl a1 from g1)
          exact l1)) R2'
        rw [eR, if_pos qx]
        refine ⟨A3, ?_, K3, R3⟩
        rw [if_pos (by rw [y1, y2, qx]), y3, show xr_Call (d + 6) 83 [xP 0 1, xI (nI 2), xI (nI (sk tb n a1))] ([], w) (xs S A2) = _ from q3, xr_cV_s, xs_xs]
      · rw [eR, if_neg qx]
        refine ⟨A2, ?_, kC_rf _, R2'⟩
        rw [if_neg (by rw [y1, y2, xn_eq (by omega) (by omega)]; exact qx)]
  obtain ⟨A3, e3, K3, R3⟩ := mid
  have pre := pre.trans e3
  have K03 := kQ_tr K1 (kQ_tr K2 (kC_Q (q := q) K3))
  have X3 : tX (xm (xs S A3)) tb n := tX_Q K03 X
  have o3 : xm (xs S A3) 0 44 1 = nI q := by rw [xm_xs, K3.1 0 44 (by omega)]; exact o2
  obtain ⟨M4, x4, q4, K4, _, R4, o4, s4, F4, E4⟩ := tcq1 (d := d + 4) (w := w) (S := xs S A3) (q := q) (c := 48) (lo := 1) (hn := 41) (hi := nI 40) (by omega) (by omega) (hi9 (c := 40) (by omega)) X3 R3 o3
  rw [xs_xs] at q4
  rw [xm_xs] at K4 F4
  generalize hA4 : xw M4 0 48 q x4 = A4 at K4 R4 o4 s4 F4 E4
  have K04 := kQ_tr K03 K4
  have X4 : tX (xm (xs S A4)) tb n := tX_Q K04 X
  obtain ⟨M5, x5, q5, K5, _, R5, o5, s5, F5, E5⟩ := tcq1 (d := d + 4) (w := w) (S := xs S A4) (q := q) (c := 49) (lo := 0) (hn := 61) (hi := nI 60) (by omega) (by omega) (hi9 (c := 60) (by omega)) X4 R4 o4
  rw [xs_xs] at q5
  rw [xm_xs] at K5 F5
  generalize hA5 : xw M5 0 49 q x5 = A5 at K5 R5 o5 s5 F5 E5
  have K05 := kQ_tr K04 K5
  have X5 : tX (xm (xs S A5)) tb n := tX_Q K05 X
  have E51 : ∀ i, i < 6 → xm (xs S A5) 0 51 (q * 6 + i) = nI 0 := fun i hi => by
    rw [xm_xs, F5 51 (by omega) (by omega), F4 51 (by omega) (by omega), K3.1 0 51 (by omega), F2 51 (by omega) (by omega), F1 51 (by omega) (by omega)]
    exact E i hi
  obtain ⟨M6, e6, R6, K6, Z6⟩ := tc65 (d := d) (w := w) (S := xs S A5) (r := (hN4 tb n np a).2) hq X5 R5 o5 E51
  rw [xs_xs] at e6
  rw [xm_xs] at K6
  have o6 : M6 0 44 1 = nI q := by rw [K6.1 0 44 (by omega)]; exact o5
  rw [xh64_80, show xr_Call (d + 6) 87 [xP 0 1, xI (nI 1), xI (nI 40)] ([], w) (xs S A3) = _ from q4, xr_cI_s, o3, i8, kq, cond_true, xm_xs, xs_xs, hA4, show xr_Call (d + 6) 87 [xP 0 1, xI (nI 0), xI (nI 60)] ([], w) (xs S A4) = _ from q5, xr_cI_s, o4, i8, kq, cond_true, xm_xs, xs_xs, hA5, show xr_Call (d + 6) 65 [xP 0 44, xP 0 1] ([], w) (xs S A5) = _ from e6, xr_cV_s, xm_xs, xs_xs, o6, xn_add] at pre
  have K7 : kQ q M6 (xw M6 0 44 1 (nI (q + 1))) := ⟨fun b e g => xw_r (by omega), fun k g => xw_n (by omega), fun k g => xw_n (by omega), fun c k g1 g2 g3 => xw_n (by omega), fun j g => xw_n (by omega)⟩
  refine ⟨xw M6 0 44 1 (nI (q + 1)), pre, rC_e (by rw [xw_r (by omega)]) R6, kQ_tr K05 (kQ_tr (kP_Q K6) K7), fun a' ha => ⟨xw_y (by omega), ?_, fun i hi => ?_⟩⟩
  · obtain ⟨_, _, a5, g5⟩ := hPlr_ok ha
    obtain ⟨a4, g4, _⟩ := pNum_a' (show (pNum tb n 0 61 (hN3 tb n np a).2).2 = .inl a5 from g5)
    obtain ⟨a3, g3, _⟩ := pNum_a' (show (pNum tb n 1 41 (hR2 tb n np a)).2 = .inl a4 from g4)
    obtain ⟨g2, a1, g1⟩ := hEq_l g3
    have y1 := (E1 a a1 rfl g1).1
    have y2 := (E2 a1 a3 g1 g2).1
    have y4 := (E4 a3 a4 g3 g4).1
    have y5 := (E5 a4 a5 g4 g5).1
    have z50 := (Z6 a' ha).1
    refine ⟨?_, ?_, ?_, ?_, ?_⟩
    · rw [xw_n (by omega), K6.1 0 46 (by omega), F5 46 (by omega) (by omega), F4 46 (by omega) (by omega), K3.1 0 46 (by omega), s12]; exact y1
    · rw [xw_n (by omega), K6.1 0 47 (by omega), F5 47 (by omega) (by omega), F4 47 (by omega) (by omega), K3.1 0 47 (by omega), s2]; exact y2
    · rw [xw_n (by omega), K6.1 0 48 (by omega), F5 48 (by omega) (by omega), s4]; exact y4
    · rw [xw_n (by omega), K6.1 0 49 (by omega), s5]; exact y5
    · rw [xw_n (by omega)]; exact z50
  · rw [xw_n (by omega)]; exact (Z6 a' ha).2 i hi
end
