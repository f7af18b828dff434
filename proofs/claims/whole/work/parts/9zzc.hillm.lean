/-! THE HILL'S TEXT: the model: a pot -/
/-- what reading a pot changes -/
def kY (q : Nat) (M M' : xr_M) : Prop := (∀ b e, ¬ (b = 0 ∧ e = 69) → ¬ (b = q ∧ (e = 1078 ∨ e = 1080)) → M' b e = M b e) ∧ ∀ k, ¬ (k = 4 ∨ k = 5 ∨ k = 6) → M' 0 69 k = M 0 69 k
theorem kY_rf (q : Nat) (M : xr_M) : kY q M M := ⟨fun _ _ _ _ => rfl, fun _ _ => rfl⟩
theorem kY_tr {q : Nat} {M M' M'' : xr_M} (h : kY q M M') (h' : kY q M' M'') : kY q M M'' := ⟨fun b e g1 g2 => (h'.1 b e g1 g2).trans (h.1 b e g1 g2), fun k g => (h'.2 k g).trans (h.2 k g)⟩
theorem kM_Y {q : Nat} {M M' : xr_M} (h : kM M M') : kY q M M' := ⟨fun b e g _ => h.1 b e g, h.2⟩
theorem kY_w {q : Nat} (M : xr_M) {c : Nat} (hc : c = 1078 ∨ c = 1080) (k : Nat) (v : Int32) : kY q M (xw M q c k v) := ⟨fun b e g1 g2 => xw_r (by omega), fun j hj => xw_n (by omega)⟩
theorem rM_e {M M' : xr_M} {n : Nat} {r : tR} (h : M' 0 69 = M 0 69) (R : rM M n r) : rM M' n r := by
  unfold rM at R ⊢
  rw [h]
  exact R
section
variable {d : Nat} {w : List Nat} {tb : Nat → Nat} {n np : Nat}
theorem tY_Y {q : Nat} {M M' : xr_M} (K : kY q M M') (X : tY M tb n) : tY M' tb n := ⟨X.1, X.2.1, by rw [K.2 2 (by omega)]; exact X.2.2.1, fun k hk => by rw [K.1 0 70 (by omega) (by omega)]; exact X.2.2.2 k hk⟩
theorem pNum_sk {lo hn a : Nat} : pNum tb n lo hn (.inl (sk tb n a)) = pNum tb n lo hn (.inl a) := by
  unfold pNum
  dsimp only
  rw [sk_sk]
theorem tm159f {S : xr_S} {q : Nat × Nat} (R : rM (xm S) n (.inr q)) (x y : Int32) : xr_Call (d + 1) 159 [xP 0 69, xI x, xI y] ([], w) S = some (.inl none, ([], w), S) := by
  rw [xe159, if_neg (rM_5 R)]
/-- a fault stands: nothing more is read of the pot -/
theorem tm174f {S : xr_S} {q : Nat} {z : Nat × Nat} {v1 v3 : Int32} {v4 : xr_V} (R : rM (xm S) n (.inr z)) : xr_Run (d + 5) 174 192 [xP 0 69, xI v1, xP q 1078, xI v3, v4] [] ([], w) S = some (.inl none, ([], w), S) := by
  refine (xh174_192 _ _ _ _ _ _ _).trans ?_
  rw [if_neg (rM_5 R)]
  refine (xh174_215 _ _ _ _ _ _ _).trans ?_
  rw [if_neg (rM_5 R)]
theorem tm174L2 {q : Nat} (hq : q < 8) : ∀ (f m a : Nat) (D : Nat → Nat) (S : xr_S) (v3 : Int32) (v4 : xr_V), f + m = 7 → m ≤ 6 → tY (xm S) tb n → rM (xm S) n (.inl a) → xm S q 1078 4 = nI m → (∀ i, i < m → xm S q 1080 i = nI (D i)) → ∃ M, xr_Run (d + 5) 174 102 [xP 0 69, xI (nI q), xP q 1078, xI v3, v4] [] ([], w) S = some (.inl none, ([], w), xs S M) ∧ rM M n (hPl tb n f a m D).1 ∧ kY q (xm S) M ∧ (∀ k, k < 4 → M q 1078 k = xm S q 1078 k) ∧ ∀ a', (hPl tb n f a m D).1 = .inl a' → M q 1078 4 = nI (hPl tb n f a m D).2.1 ∧ ∀ i, i < (hPl tb n f a m D).2.1 → M q 1080 i = nI ((hPl tb n f a m D).2.2 i)
  | 0, m, a, D, S, v3, v4, hm, h6, Y, R, e4, E => by omega
  | f + 1, m, a, D, S, v3, v4, hm, h6, Y, R, e4, E => by
    have z : ¬ nI 1 = nI 0 := by decide
    have i4 : xr_in (nI 4) 5 = true := xi_t (by omega) (by omega)
    have k4 : xk (nI 4) = 4 := xn_k (by omega)
    have R' := R
    obtain ⟨r5, r6, r4, rn⟩ := R
    have hle : sk tb n a ≤ n := sk_le rn
    have q1 := mw6 (d := d + 1) (w := w) Y R'
    obtain ⟨M1, hM1⟩ : ∃ M1, M1 = xw (xm S) 0 69 4 (nI (sk tb n a)) := ⟨_, rfl⟩
    have K1 : kM (xm S) M1 := by rw [hM1]; exact kM_w _ (by omega) _
    have R1 : rM M1 n (.inl (sk tb n a)) := ⟨by rw [hM1, xw_n (by omega)]; exact r5, by rw [hM1, xw_n (by omega)]; exact r6, by rw [hM1, xw_y (by omega)], hle⟩
    have e41 : M1 q 1078 4 = nI m := by rw [K1.1 q 1078 (by omega)]; exact e4
    rw [← hM1] at q1
    have pre : xr_Run (d + 5) 174 102 [xP 0 69, xI (nI q), xP q 1078, xI v3, v4] [] ([], w) S = _ := xh174_102 _ _ _ _ _ _ _
    rw [if_pos r5, q1, xr_cI_s] at pre
    rw [hPl]
    cases hw : wis (xr_by 6) tb (sk tb n a) (wend tb n (sk tb n a)) with
    | true =>
      rw [if_pos rfl]
      rw [hw, cond_true, if_neg z, xh174_192, if_pos (show xm (xs S M1) 0 69 5 = nI 0 from R1.1), i4, cond_true, k4, xm_xs, e41] at pre
      dsimp only
      by_cases q3 : m < 3
      · obtain ⟨M2, q2, K2, R2, _⟩ := tm159 (d := d + 4) (w := w) (S := xs S M1) (k := 4) (p := sk tb n a) (by omega) hle R1
        rw [xm_xs] at K2
        have R2 : rM M2 n (.inr (4, sk tb n a)) := R2
        rw [if_pos (by rw [xn_lt (by omega) (by omega)]; exact q3), R1.2.2.1, show xr_Call (d + 5) 159 [xP 0 69, xI (nI 4), xI (nI (sk tb n a))] ([], w) (xs S M1) = _ from q2, xr_cV_s, xs_xs, xh174_215, if_neg (show ¬ xm (xs S M2) 0 69 5 = nI 0 from rM_5 R2)] at pre
        rw [if_pos q3]
        exact ⟨M2, pre, R2, kY_tr (kM_Y K1) (kM_Y K2), fun k _ => by rw [K2.1 q 1078 (by omega), K1.1 q 1078 (by omega)], fun a' ha => by cases ha⟩
      · obtain ⟨q2, l1, l2⟩ := tm166 (d := d + 3) (w := w) (S := xs S M1) (tY_k K1 Y) R1
        rw [xs_xs, xm_xs] at q2
        rw [if_neg (by rw [xn_lt (by omega) (by omega)]; exact q3), xh174_215, if_pos (show xm (xs S M1) 0 69 5 = nI 0 from R1.1), show xr_Call (d + 5) 166 [xP 0 69] ([], w) (xs S M1) = _ from q2, xr_cV_s] at pre
        rw [if_neg q3]
        have K2 : kM M1 (xw M1 0 69 4 (nI (wend tb n (sk tb n a)))) := kM_w _ (by omega) _
        refine ⟨_, pre, ⟨by rw [xw_n (by omega)]; exact R1.1, by rw [xw_n (by omega)]; exact R1.2.1, xw_y (by omega), l2⟩, kY_tr (kM_Y K1) (kM_Y K2), fun k _ => by rw [K2.1 q 1078 (by omega), K1.1 q 1078 (by omega)], fun a' _ => ⟨?_, fun i hi => ?_⟩⟩
        · rw [K2.1 q 1078 (by omega)]; exact e41
        · rw [K2.1 q 1080 (by omega), K1.1 q 1080 (by omega)]; exact E i hi
    | false =>
      rw [if_neg (by decide)]
      have q2 := tm158 (d := d + 3) (w := w) (S := xs S M1) (tY_k K1 Y) hle R1.2.2.1
      rw [sk_sk, xm_xs, xs_xs, xw_id R1.2.2.1] at q2
      obtain ⟨M3, q3, K3, R3⟩ := tm162 (d := d + 2) (w := w) (S := xs S M1) (lo := 0) (hn := 10) (hi := nI 9) (by omega) (hi9 (c := 9) (by omega)) (tY_k K1 Y) R1
      rw [xs_xs] at q3
      rw [xm_xs] at K3
      have e43 : M3 q 1078 4 = nI m := by rw [K3.1 q 1078 (by omega)]; exact e41
      rw [hw, cond_false, if_pos rfl, show xr_Call (d + 5) 158 [xP 0 69] ([], w) (xs S M1) = _ from q2, xr_cV_s, show xr_Call (d + 5) 162 [xP 0 69, xI (nI 0), xI (nI 9)] ([], w) (xs S M1) = _ from q3, xr_cI_s, xm_xs, xm_xs] at pre
      cases hp : (pNum tb n 0 10 (.inl (sk tb n a))).2 with
      | inr zz =>
        rw [hp] at R3
        dsimp only
        rw [if_neg (rM_5 R3), xh174_162, if_neg (show ¬ xm (xs S M3) 0 69 5 = nI 0 from rM_5 R3)] at pre
        exact ⟨M3, pre, R3, kY_tr (kM_Y K1) (kM_Y K3), fun k _ => by rw [K3.1 q 1078 (by omega), K1.1 q 1078 (by omega)], fun a' ha => by cases ha⟩
      | inl c =>
        rw [hp] at R3
        dsimp only
        rw [if_pos R3.1, i4, cond_true, k4, e43] at pre
        by_cases qm : m = 6
        · rw [if_pos qm]
          obtain ⟨M4, q4, K4, R4, _⟩ := tm159 (d := d + 4) (w := w) (S := xs S M3) (k := 3) (p := sk tb n a) (by omega) hle R3
          rw [xm_xs] at K4
          have R4 : rM M4 n (.inr (3, sk tb n a)) := R4
          rw [if_pos (by rw [qm]), R1.2.2.1, show xr_Call (d + 5) 159 [xP 0 69, xI (nI 3), xI (nI (sk tb n a))] ([], w) (xs S M3) = _ from q4, xr_cV_s, xs_xs, xh174_162, if_neg (show ¬ xm (xs S M4) 0 69 5 = nI 0 from rM_5 R4)] at pre
          exact ⟨M4, pre, R4, kY_tr (kM_Y K1) (kY_tr (kM_Y K3) (kM_Y K4)), fun k _ => by rw [K4.1 q 1078 (by omega), K3.1 q 1078 (by omega), K1.1 q 1078 (by omega)], fun a' ha => by cases ha⟩
        · rw [if_neg qm]
          obtain ⟨M4, hM4⟩ : ∃ M4, M4 = xw (xw M3 q 1080 m (nI (pNum tb n 0 10 (.inl (sk tb n a))).1)) q 1078 4 (nI (m + 1)) := ⟨_, rfl⟩
          have e44 : xw M3 q 1080 m (nI (pNum tb n 0 10 (.inl (sk tb n a))).1) q 1078 4 = nI m := by rw [xw_n (by omega)]; exact e43
          rw [if_neg (by rw [xn_eq (by omega) (by omega)]; exact qm), xh174_162, if_pos (show xm (xs S M3) 0 69 5 = nI 0 from R3.1), xi_t hq (by omega), i4, cond_true, cond_true, xn_k (show q < 2147483648 by omega), k4, xm_xs, e43, xi_t (by omega) (by omega), cond_true, cond_true, cond_true, xn_k (show m < 2147483648 by omega), e44, xn_add, xs_xs, ← hM4] at pre
          have K4 : kY q M3 M4 := by rw [hM4]; exact kY_tr (kY_w _ (by omega) _ _) (kY_w _ (by omega) _ _)
          have K14 : kY q (xm S) M4 := kY_tr (kM_Y K1) (kY_tr (kM_Y K3) K4)
          obtain ⟨M5, q5, R5, K5, G5, Z5⟩ := tm174L2 hq f (m + 1) c (fun j => if j = m then (pNum tb n 0 10 (.inl (sk tb n a))).1 else D j) (xs S M4) (M1 0 69 4) (xI (nI (pNum tb n 0 10 (.inl (sk tb n a))).1)) (by omega) (by omega) (tY_Y K14 Y) (rM_e (by rw [xm_xs, hM4, xw_r (by omega), xw_r (by omega)]) R3) (by rw [xm_xs, hM4, xw_y (by omega)]) (fun i hi => by
            rw [xm_xs, hM4, xw_n (by omega)]
            by_cases qi : i = m
            · rw [if_pos qi, xw_y (by omega)]
            · rw [if_neg qi, xw_n (by omega), K3.1 q 1080 (by omega), K1.1 q 1080 (by omega)]; exact E i (by omega))
          rw [xs_xs] at q5
          rw [xm_xs] at K5 G5
          refine ⟨M5, pre.trans q5, R5, kY_tr K14 K5, fun k hk => ?_, Z5⟩
          rw [G5 k hk, hM4, xw_n (by omega), xw_n (by omega), K3.1 q 1078 (by omega), K1.1 q 1078 (by omega)]
theorem tm174 {S : xr_S} {q a : Nat} (hq : q < 8) (hp : np ≤ 8) (Y : tY (xm S) tb n) (R : rM (xm S) n (.inl a)) (e0 : xm S 0 72 0 = nI np) : ∃ M, xr_Call (d + 6) 174 [xP 0 69, xI (nI q)] ([], w) S = some (.inl none, ([], w), xs S M) ∧ rM M n (hPot tb n np a).1 ∧ kY q (xm S) M ∧ ∀ a', (hPot tb n np a).1 = .inl a' → (M q 1078 0 = nI (hPot tb n np a).2.1.1 ∧ M q 1078 1 = nI (hPot tb n np a).2.1.2.1 ∧ M q 1078 2 = nI (hPot tb n np a).2.1.2.2.1 ∧ M q 1078 3 = nI (hPot tb n np a).2.1.2.2.2.1 ∧ M q 1078 4 = nI (hPot tb n np a).2.1.2.2.2.2) ∧ ∀ i, i < (hPot tb n np a).2.1.2.2.2.2 → M q 1080 i = nI ((hPot tb n np a).2.2 i) := by
  have j0 : xr_in (nI 0) 5 = true := xi_t (by omega) (by omega)
  have j1 : xr_in (nI 1) 5 = true := xi_t (by omega) (by omega)
  have j2 : xr_in (nI 2) 5 = true := xi_t (by omega) (by omega)
  have j3 : xr_in (nI 3) 5 = true := xi_t (by omega) (by omega)
  have j4 : xr_in (nI 4) 5 = true := xi_t (by omega) (by omega)
  have t0 : xr_in (nI 0) 4 = true := xi_t (by omega) (by omega)
  have k0 : xk (nI 0) = 0 := xn_k (by omega)
  have k1 : xk (nI 1) = 1 := xn_k (by omega)
  have k2 : xk (nI 2) = 2 := xn_k (by omega)
  have k3 : xk (nI 3) = 3 := xn_k (by omega)
  have k4 : xk (nI 4) = 4 := xn_k (by omega)
  have kq : xk (nI q) = q := xn_k (by omega)
  obtain ⟨M1, q1, K1, R1⟩ := tm162 (d := d + 2) (w := w) (S := S) (lo := 0) (hn := np) (hi := nI np - nI 1) (by omega) (hiM (by omega)) Y R
  obtain ⟨A1, hA1⟩ : ∃ A1, A1 = xw M1 q 1078 0 (nI (hN1 tb n np a).1) := ⟨_, rfl⟩
  have KA1 : kY q (xm S) A1 := by rw [hA1]; exact kY_tr (kM_Y K1) (kY_w _ (by omega) _ _)
  have RA1 : rM A1 n (hN1 tb n np a).2 := rM_e (by rw [hA1, xw_r (by omega)]) R1
  have pre : xr_Call (d + 6) 174 [xP 0 69, xI (nI q)] ([], w) S = _ := xh174_0 (d + 5) w S (nI q)
  rw [xi_t hq (by omega), cond_true, t0, cond_true, k0, e0, show xr_Call (d + 5) 162 [xP 0 69, xI (nI 0), xI (nI np - nI 1)] ([], w) S = _ from q1, xr_cI_s, j0, cond_true, kq, xm_xs, xs_xs, show xw M1 q 1078 0 (nI (pNum tb n 0 np (.inl a)).1) = A1 from hA1.symm] at pre
  cases h1 : (hN1 tb n np a).2 with
  | inr zz =>
    rw [h1] at RA1
    rw [if_neg (rM_5 RA1)] at pre
    have e2 : hR2 tb n np a = .inr zz := by unfold hR2 hN2; rw [h1]; rfl
    have eP : (hPot tb n np a).1 = .inr zz := by unfold hPot hN4 hN3; rw [e2]; rfl
    rw [eP]
    exact ⟨A1, pre, RA1, KA1, fun a' ha => by cases ha⟩
  | inl a1 =>
    rw [h1] at RA1
    obtain ⟨r5, r6, r4, rn⟩ := RA1
    have hle : sk tb n a1 ≤ n := sk_le rn
    have q2 := tm158 (d := d + 3) (w := w) (S := xs S A1) (tY_Y KA1 Y) rn r4
    rw [xs_xs, xm_xs] at q2
    obtain ⟨A2, hA2⟩ : ∃ A2, A2 = xw A1 0 69 4 (nI (sk tb n a1)) := ⟨_, rfl⟩
    rw [← hA2] at q2
    have K2 : kM A1 A2 := by rw [hA2]; exact kM_w _ (by omega) _
    have KA2 := kY_tr KA1 (kM_Y (q := q) K2)
    have R2 : rM A2 n (.inl (sk tb n a1)) := ⟨by rw [hA2, xw_n (by omega)]; exact r5, by rw [hA2, xw_n (by omega)]; exact r6, by rw [hA2, xw_y (by omega)], hle⟩
    have e02 : A2 0 72 0 = nI np := by rw [KA2.1 0 72 (by omega) (by omega)]; exact e0
    obtain ⟨M3, q3, K3, R3⟩ := tm162 (d := d + 2) (w := w) (S := xs S A2) (lo := 0) (hn := np) (hi := nI np - nI 1) (by omega) (hiM (by omega)) (tY_Y KA2 Y) R2
    rw [xs_xs] at q3
    rw [xm_xs] at K3
    have en2 : pNum tb n 0 np (.inl (sk tb n a1)) = hN2 tb n np a := by rw [pNum_sk]; unfold hN2; rw [h1]
    rw [en2] at q3 R3
    obtain ⟨A3, hA3⟩ : ∃ A3, A3 = xw M3 q 1078 1 (nI (hN2 tb n np a).1) := ⟨_, rfl⟩
    have K3' : kY q A2 A3 := by rw [hA3]; exact kY_tr (kM_Y K3) (kY_w _ (by omega) _ _)
    have KA3 := kY_tr KA2 K3'
    have RA3 : rM A3 n (hN2 tb n np a).2 := rM_e (by rw [hA3, xw_r (by omega)]) R3
    have a30 : A3 q 1078 0 = nI (hN1 tb n np a).1 := by rw [hA3, xw_n (by omega), K3.1 q 1078 (by omega), K2.1 q 1078 (by omega), hA1, xw_y (by omega)]
    have a31 : A3 q 1078 1 = nI (hN2 tb n np a).1 := by rw [hA3, xw_y (by omega)]
    rw [if_pos r5, show xr_Call (d + 5) 158 [xP 0 69] ([], w) (xs S A1) = _ from q2, xr_cV_s, cond_true, xm_xs, e02, show xr_Call (d + 5) 162 [xP 0 69, xI (nI 0), xI (nI np - nI 1)] ([], w) (xs S A2) = _ from q3, xr_cI_s, j1, cond_true, k1, xm_xs, xs_xs, ← hA3, R2.2.2.1] at pre
    have mid : ∃ A4, xr_Call (d + 6) 174 [xP 0 69, xI (nI q)] ([], w) S = xr_Run (d + 5) 174 78 [xP 0 69, xI (nI q), xP q 1078, xI (nI (sk tb n a1)), xU] [] ([], w) (xs S A4) ∧ kM A3 A4 ∧ rM A4 n (hR2 tb n np a) := by
      cases h2 : (hN2 tb n np a).2 with
      | inr zz =>
        rw [h2] at RA3
        rw [if_neg (rM_5 RA3)] at pre
        have e2 : hR2 tb n np a = .inr zz := by unfold hR2; rw [h2]; rfl
        rw [e2]
        exact ⟨A3, pre, kM_rf _, RA3⟩
      | inl a2 =>
        rw [h2] at RA3
        rw [if_pos RA3.1, cond_true, cond_true, a30, a31] at pre
        have b1 := (pNum_v (show (pNum tb n 0 np (.inl a)).2 = .inl a1 from h1)).1
        have b2 := (pNum_v (show (pNum tb n 0 np (hN1 tb n np a).2).2 = .inl a2 from h2)).1
        have b1 : (hN1 tb n np a).1 < np := b1
        have b2 : (hN2 tb n np a).1 < np := b2
        have eR : hR2 tb n np a = if (hN1 tb n np a).1 = (hN2 tb n np a).1 then .inr (2, sk tb n a1) else .inl a2 := by unfold hR2; rw [h2, h1]; rfl
        by_cases qx : (hN1 tb n np a).1 = (hN2 tb n np a).1
        · obtain ⟨A4, q4, K4, R4, _⟩ := tm159 (d := d + 4) (w := w) (S := xs S A3) (k := 2) (p := sk tb n a1) (by omega) hle RA3
          rw [xm_xs] at K4
          rw [if_pos (by rw [qx]), show xr_Call (d + 5) 159 [xP 0 69, xI (nI 2), xI (nI (sk tb n a1))] ([], w) (xs S A3) = _ from q4, xr_cV_s, xs_xs] at pre
          rw [eR, if_pos qx]
          exact ⟨A4, pre, K4, R4⟩
        · rw [if_neg (by rw [xn_eq (by omega) (by omega)]; exact fun g => qx g.symm)] at pre
          rw [eR, if_neg qx]
          exact ⟨A3, pre, kM_rf _, RA3⟩
    obtain ⟨A4, e4, K4, R4⟩ := mid
    have KA4 := kY_tr KA3 (kM_Y (q := q) K4)
    obtain ⟨M5, q5, K5, R5⟩ := tm162 (d := d + 2) (w := w) (S := xs S A4) (lo := 1) (hn := 41) (hi := nI 40) (by omega) (hi9 (c := 40) (by omega)) (tY_Y KA4 Y) R4
    rw [xs_xs] at q5
    rw [xm_xs] at K5
    obtain ⟨A5, hA5⟩ : ∃ A5, A5 = xw M5 q 1078 2 (nI (hN3 tb n np a).1) := ⟨_, rfl⟩
    have K5' : kY q A4 A5 := by rw [hA5]; exact kY_tr (kM_Y K5) (kY_w _ (by omega) _ _)
    have KA5 := kY_tr KA4 K5'
    have RA5 : rM A5 n (hN3 tb n np a).2 := rM_e (by rw [hA5, xw_r (by omega)]) R5
    obtain ⟨M6, q6, K6, R6⟩ := tm162 (d := d + 2) (w := w) (S := xs S A5) (lo := 0) (hn := 61) (hi := nI 60) (by omega) (hi9 (c := 60) (by omega)) (tY_Y KA5 Y) RA5
    rw [xs_xs] at q6
    rw [xm_xs] at K6
    obtain ⟨A6, hA6⟩ : ∃ A6, A6 = xw (xw M6 q 1078 3 (nI (hN4 tb n np a).1)) q 1078 4 (nI 0) := ⟨_, rfl⟩
    have K6' : kY q A5 A6 := by rw [hA6]; exact kY_tr (kM_Y K6) (kY_tr (kY_w _ (by omega) _ _) (kY_w _ (by omega) _ _))
    have KA6 := kY_tr KA5 K6'
    have RA6 : rM A6 n (hN4 tb n np a).2 := rM_e (by rw [hA6, xw_r (by omega), xw_r (by omega)]) R6
    have e5 : xr_Call (d + 6) 174 [xP 0 69, xI (nI q)] ([], w) S = xr_Run (d + 5) 174 102 [xP 0 69, xI (nI q), xP q 1078, xI (nI (sk tb n a1)), xU] [] ([], w) (xs S A6) := by
      rw [e4]
      refine (xh174_78 _ _ _ _ _ _).trans ?_
      rw [show xr_Call (d + 5) 162 [xP 0 69, xI (nI 1), xI (nI 40)] ([], w) (xs S A4) = _ from q5, xr_cI_s, j2, cond_true, k2, xm_xs, xs_xs, show xw M5 q 1078 2 (nI (pNum tb n 1 41 (hR2 tb n np a)).1) = A5 from hA5.symm, show xr_Call (d + 5) 162 [xP 0 69, xI (nI 0), xI (nI 60)] ([], w) (xs S A5) = _ from q6, xr_cI_s, j3, cond_true, j4, cond_true, k3, k4, xm_xs, xs_xs, hA6]
      rfl
    have c0 : A6 q 1078 0 = nI (hN1 tb n np a).1 := by rw [hA6, xw_n (by omega), xw_n (by omega), K6.1 q 1078 (by omega), hA5, xw_n (by omega), K5.1 q 1078 (by omega), K4.1 q 1078 (by omega)]; exact a30
    have c1 : A6 q 1078 1 = nI (hN2 tb n np a).1 := by rw [hA6, xw_n (by omega), xw_n (by omega), K6.1 q 1078 (by omega), hA5, xw_n (by omega), K5.1 q 1078 (by omega), K4.1 q 1078 (by omega)]; exact a31
    have c2 : A6 q 1078 2 = nI (hN3 tb n np a).1 := by rw [hA6, xw_n (by omega), xw_n (by omega), K6.1 q 1078 (by omega), hA5, xw_y (by omega)]
    have c3 : A6 q 1078 3 = nI (hN4 tb n np a).1 := by rw [hA6, xw_n (by omega), xw_y (by omega)]
    have c4 : A6 q 1078 4 = nI 0 := by rw [hA6, xw_y (by omega)]
    cases h4 : (hN4 tb n np a).2 with
    | inr zz =>
      rw [h4] at RA6
      have eP : (hPot tb n np a).1 = .inr zz := by unfold hPot; rw [h4]; rfl
      rw [eP]
      refine ⟨A6, ?_, RA6, KA6, fun a' ha => by cases ha⟩
      rw [e5]
      refine (xh174_102 _ _ _ _ _ _ _).trans ?_
      rw [if_neg (show ¬ xm (xs S A6) 0 69 5 = nI 0 from rM_5 RA6)]
      exact tm174f (d := d) (S := xs S A6) RA6
    | inl b4 =>
      rw [h4] at RA6
      obtain ⟨M7, q7, R7, K7, G7, Z7⟩ := tm174L2 (d := d) (w := w) (tb := tb) (n := n) hq 7 0 b4 (fun _ => 0) (xs S A6) (nI (sk tb n a1)) xU rfl (by omega) (tY_Y KA6 Y) RA6 c4 (fun i hi => by omega)
      rw [xs_xs] at q7
      rw [xm_xs] at K7 G7
      have eP : hPlr tb n (hN4 tb n np a).2 = hPl tb n 7 b4 0 (fun _ => 0) := by rw [h4]; rfl
      refine ⟨M7, e5.trans q7, ?_, kY_tr KA6 K7, fun a' ha => ?_⟩
      · show rM M7 n (hPlr tb n (hN4 tb n np a).2).1
        rw [eP]; exact R7
      · have ha : (hPlr tb n (hN4 tb n np a).2).1 = .inl a' := ha
        rw [eP] at ha
        obtain ⟨z1, z2⟩ := Z7 a' ha
        refine ⟨⟨?_, ?_, ?_, ?_, ?_⟩, ?_⟩
        · rw [G7 0 (by omega)]; exact c0
        · rw [G7 1 (by omega)]; exact c1
        · rw [G7 2 (by omega)]; exact c2
        · rw [G7 3 (by omega)]; exact c3
        · show M7 q 1078 4 = nI (hPlr tb n (hN4 tb n np a).2).2.1
          rw [eP]; exact z1
        · show ∀ i, i < (hPlr tb n (hN4 tb n np a).2).2.1 → M7 q 1080 i = nI ((hPlr tb n (hN4 tb n np a).2).2.2 i)
          rw [eP]; exact z2
end
