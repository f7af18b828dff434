/-! THE LAW'S LOOP, 2: its invariant -/
def lI (b p q o L : Nat) (sc : Nat → Int32) (m : xr_N) (S : xr_S) (g : Nat → Int64) (X : xq_X) : Prop := ∃ adr, xr_Rep adr m S X ∧ ((adr (0, 0) = p ∧ xr_dom (xr_nx S) (0, 0)) ∧ (adr (0, 69) = q ∧ xr_dom (xr_nx S) (0, 69))) ∧ (∀ z, xr_dom (xr_nx S) z → (z.2 < 2000 → adr z ≠ b) ∧ adr z ≠ o) ∧ (b < X.1 ∧ o < X.1 ∧ b ≠ o) ∧ xq_h X b = some (.inl (9, L, .inl sc)) ∧ xq_h X o = some (.inl (1, 1, .inr (.inl g)))
theorem vs_ints {adr : xr_A → Nat} {nx : xr_A} : ∀ as : List Int32, xr_vs adr nx (as.map xI) (as.map Value.int)
  | [] => trivial
  | _ :: r => ⟨rfl, vs_ints r⟩
section
variable {b p q o L : Nat} {sc : Nat → Int32} {m : xr_N} {S : xr_S} {g : Nat → Int64} {X : xq_X}
theorem lI_call (I : lI b p q o L sc m S g X) {D i c w : Nat} {as : List Int32} {ro : xr_O} {m' : xr_N} {S' : xr_S} (hc : (c = 0 ∧ w = p) ∨ (c = 69 ∧ w = q)) (h : xr_Call D i (xP 0 c :: as.map xI) m S = some (ro, m', S')) : ∃ X', xq_Call D i (.ref w :: as.map Value.int) X = some (xr_ro ro, X') ∧ lI b p q o L sc m' S' g X' := by
  obtain ⟨adr, R, ⟨⟨e0, d0⟩, e9, d9⟩, hz, ⟨hb, ho, hbo⟩, h1, h2⟩ := I
  have hv : xr_vrel adr (xr_nx S) (xP 0 c) (.ref w) := by
    rcases hc with ⟨rfl, rfl⟩ | ⟨rfl, rfl⟩
    · exact Or.inr ⟨(by intro h; cases h), d0, by rw [e0]⟩
    · exact Or.inr ⟨(by intro h; cases h), d9, by rw [e9]⟩
  obtain ⟨adr', X', g1, g2, g3, g4⟩ := xr_SimC h R (As' := .ref w :: as.map Value.int) ⟨hv, vs_ints as⟩
  refine ⟨X', g1, adr', g2, ⟨⟨(g3.1 _ d0).2.trans e0, (g3.1 _ d0).1⟩, (g3.1 _ d9).2.trans e9, (g3.1 _ d9).1⟩, fun z hz' => ?_, ⟨Nat.lt_of_lt_of_le hb g4.2.1, Nat.lt_of_lt_of_le ho g4.2.1, hbo⟩, (g4.1 b hb (fun z hz1 h2000 => (hz z hz1).1 h2000)).trans h1, (g4.1 o ho (fun z hz1 _ => (hz z hz1).2)).trans h2⟩
  rcases g3.2 z hz' with h3 | h3
  · have h4 := (g3.1 z h3).2
    rw [h4]; exact hz z h3
  · exact ⟨fun _ h => by omega, fun h => by omega⟩
theorem lI_set (I : lI b p q o L sc m S g X) (g' : Nat → Int64) : lI b p q o L sc m S g' (xq_set X o (.inl (1, 1, .inr (.inl g')))) := by
  obtain ⟨adr, ⟨a1, a3, a4, a5, a6⟩, hd, hz, hb, h1, h2⟩ := I
  refine ⟨adr, ⟨a1, fun z hz1 => ?_, a4, a5, a6⟩, hd, hz, hb, ?_, if_pos rfl⟩
  · obtain ⟨c1, e, c2, c3⟩ := a3 z hz1
    exact ⟨c1, e, (if_neg (hz z hz1).2).trans c2, c3⟩
  · exact (if_neg hb.2.2).trans h1
theorem lI_swp {T : xr_S} {N : Nat} (I : lI b p q o L sc m S g X) (h : swp m S T) (G : gInv N T) : lI b p q o L sc xMd T g X := by
  obtain ⟨adr, R, ⟨⟨e0, d0⟩, e9, d9⟩, hz, hb, h1, h2⟩ := I
  obtain ⟨adr', R', f0, f9, fz⟩ := rep_swp h G.1 R
  have hn : xr_nx T = (N + 1, 0) := G.1
  have hd : ∀ c, c < 95 → xr_dom (xr_nx T) (0, c) := fun c hc => by rw [hn]; exact Or.inl ⟨(by show c < 1000; omega), Or.inr ⟨Nat.succ_pos _, hc⟩⟩
  refine ⟨adr', R', ⟨⟨f0.trans e0, hd 0 (by omega)⟩, f9.trans e9, hd 69 (by omega)⟩, fun z hz1 => ?_, hb, h1, h2⟩
  obtain ⟨z', k1, k2, k3⟩ := fz z hz1
  rw [k2]
  exact ⟨fun h => (hz z' k1).1 (k3 h), (hz z' k1).2⟩
theorem lI_p (I : lI b p q o L sc m S g X) : ∃ fs, xq_h X p = some (.inr (10, fs)) := by
  obtain ⟨adr, R, ⟨⟨e0, d0⟩, _⟩, _⟩ := I
  obtain ⟨_, e, c2, c3⟩ := R.2.1 _ d0
  obtain ⟨fl, e1, _⟩ := c3.2.2.2.2 (by decide)
  rw [e0] at c2
  exact ⟨fl, by rw [c2, e1]; rfl⟩
theorem lI_q (I : lI b p q o L sc m S g X) : ∃ fs, xq_h X q = some (.inr (11, fs)) := by
  obtain ⟨adr, R, ⟨_, e0, d0⟩, _⟩ := I
  obtain ⟨_, e, c2, c3⟩ := R.2.1 _ d0
  obtain ⟨fl, e1, _⟩ := c3.2.2.2.2 (by decide)
  rw [e0] at c2
  exact ⟨fl, by rw [c2, e1]; rfl⟩
theorem lI_b (I : lI b p q o L sc m S g X) : xq_h X b = some (.inl (9, L, .inl sc)) := I.choose_spec.2.2.2.2.1
theorem lI_o (I : lI b p q o L sc m S g X) : xq_h X o = some (.inl (1, 1, .inr (.inl g))) := I.choose_spec.2.2.2.2.2
theorem lI_n (I : lI b p q o L sc m S g X) : X.1 = S.1 ∧ X.2.1 = S.2.1 := I.choose_spec.1.1
theorem iald_b (h : xq_h X b = some (.inl (9, L, .inl sc))) (hL : L ≤ 3584) {a : Nat} (ha : a < L) (f : Int32 → xq_R) : xq_iald X b (nI a) f = f (sc a) := by
  unfold xq_iald
  rw [h]
  have e1 : (nI a).toNatClampNeg = a := nI_clamp (by omega)
  have e2 : ¬ nI a < 0 := by
    show ¬ nI a < nI 0
    rw [xn_lt (by omega) (by omega)]
    omega
  dsimp only
  rw [if_pos ⟨Or.inr rfl, by rw [e1]; intro h; rcases h with h | h; exact e2 h; omega⟩, e1]
theorem lawRd_ok (h : xq_h X b = some (.inl (9, L, .inl sc))) (hL : L ≤ 3584) {a : Nat} (ha : a + 7 ≤ L) : ∀ (ks : List Nat), (∀ k ∈ ks, k ≤ 6) → ∀ f : List Int32 → xq_R, lawRd X b (nI a) ks f = f (ks.map (fun k => sc (a + k)))
  | [], _, f => rfl
  | k :: r, hk, f => by
    show xq_iald X b (nI a + nI k) _ = _
    have := hk k List.mem_cons_self
    rw [xn_add, iald_b h hL (by omega), lawRd_ok h hL ha r (fun k h => hk k (List.mem_cons_of_mem _ h))]
    rfl
theorem swp_m {T : xr_S} (h : swp m S T) : (∃ w, m = ([], w)) ∧ T.1 = S.1 ∧ T.2.1 = S.2.1 := by
  rcases h with ⟨rfl, rfl⟩ | ⟨rfl, rfl⟩ | ⟨rfl, rfl⟩ | ⟨rfl, rfl⟩ <;> exact ⟨⟨_, rfl⟩, rfl, rfl⟩
theorem br_eq {x : Int32} {t f : xq_R} : xq_br .eq x x t f = t := if_pos rfl
theorem br_ne {x y : Int32} {t f : xq_R} (h : ¬ x = y) : xq_br .ne x y t f = t := if_neg h
theorem br_ne' {x : Int32} {t f : xq_R} : xq_br .ne x x t f = f := if_pos rfl
/-- the state behind an arm -/
def lG (b p q o L : Nat) (sc : Nat → Int32) (S : xr_S) (X' : xq_X) : Prop := ∃ S' N' g', lI b p q o L sc xMd S' g' X' ∧ gInv N' S' ∧ S'.1 ≤ S.1 + 10 ∧ S'.2.1 ≤ S.2.1 + 812
theorem armA {ks : List Nat} {d w ic j f1 f2 tN tI a : Nat} {cmp : Int32 → Int64 → xq_R → xq_R → xq_R} {fv : Int32 → Int64} (Wk : wOk fv w ic ks.length tN tI) (hcmp : ∀ v K F, cmp v (fv v) K F = K) (hks : ∀ k ∈ ks, k ≤ 6) (I : lI b p q o L sc xMd S g X) (hL : L ≤ 3584) (ha : a + 7 ≤ L) (ht : tN ≤ 2 ∧ tI ≤ 2) (h : oRes d ic j ((ks.map (fun k => sc (a + k))).map xI) S tN tI) :
    ∃ t v X', lawA ks (d + 61) w j f1 f2 cmp b p q o (nI a) X = xq_Run (d + 61) 310 2323 [.ref b, .ref p, .ref q, .ref o, .int (nI a), .int t, .int v] [] X' ∧ lG b p q o L sc S X' := by
  unfold lawA
  rw [lawRd_ok (lI_b I) hL ha ks hks]
  have wk := Wk (d + 60) X p o (ks.map (fun k => sc (a + k))) (by simp) (lI_p I)
  have no : ∀ (E : String) (t : Nat), 1 ≤ t → t ≤ 2 → (∀ X1, xq_Call (d + 60) ic (.ref p :: (ks.map (fun k => sc (a + k))).map Value.int) X = some (.inr E, X1) → xq_Call (d + 60 + 1) w (.ref p :: ((ks.map (fun k => sc (a + k))).map Value.int ++ [.ref o])) X = some (.inl (some (.int (nI t))), X1)) → oNo d ic j ((ks.map (fun k => sc (a + k))).map xI) S E t →
      ∃ t v X', (xq_cI (xq_Call (d + 61) w (.ref p :: ((ks.map (fun k => sc (a + k))).map Value.int ++ [.ref o])) X) (fun t X1 => lawRd X1 b (nI a) ks (fun l' => xq_is X1 q 11 (xq_cI (xq_Call (d + 61) j (.ref q :: l'.map Value.int) X1) (fun v X2 => xq_is X2 q 11 (xq_cI (xq_Call (d + 61) 150 [.ref q] X2) (fun u X3 => xq_br .eq u t (xq_br .ne t 0 (xq_Run (d + 61) 310 2323 [.ref b, .ref p, .ref q, .ref o, .int (nI a), .int t, .int v] [] X3) (xq_lald X3 o 0 (fun y => cmp v y (xq_Run (d + 61) 310 2323 [.ref b, .ref p, .ref q, .ref o, .int (nI a), .int t, .int v] [] X3) (xq_Run (d + 61) 310 f2 [.ref b, .ref p, .ref q, .ref o, .int (nI a), .int t, .int v] [] X3)))) (xq_Run (d + 61) 310 f1 [.ref b, .ref p, .ref q, .ref o, .int (nI a), .int t, .int v] [] X3)) (fun E Y => some (.inr E, Y)))) (fun E Y => some (.inr E, Y))))) (fun E Y => some (.inr E, Y))) = xq_Run (d + 61) 310 2323 [.ref b, .ref p, .ref q, .ref o, .int (nI a), .int t, .int v] [] X' ∧ lG b p q o L sc S X' := by
    intro E t t1 t2 hw ⟨v, N', S1, S2, hc, hm, h0, hG, c1, c2⟩
    obtain ⟨X1, k1, I1⟩ := lI_call I (Or.inl ⟨rfl, rfl⟩) hc
    obtain ⟨X2, k2, I2⟩ := lI_call I1 (Or.inr ⟨rfl, rfl⟩) hm
    obtain ⟨X3, k3, I3⟩ := lI_call (as := []) I2 (Or.inr ⟨rfl, rfl⟩) (xe150 (d + 60) _ S2)
    refine ⟨nI t, v, X3, ?_, S2, N', g, I3, hG, c1, c2⟩
    rw [show xq_Call (d + 61) w (.ref p :: ((ks.map (fun k => sc (a + k))).map Value.int ++ [.ref o])) X = _ from hw X1 k1]
    show lawRd X1 b (nI a) ks _ = _
    rw [lawRd_ok (lI_b I1) hL ha ks hks, xq_is_y (lI_q I1), show xq_Call (d + 61) j (.ref q :: (ks.map (fun k => sc (a + k))).map Value.int) X1 = _ from xq_Call_dep k2]
    show xq_is X2 q 11 _ = _
    rw [xq_is_y (lI_q I2), show xq_Call (d + 61) 150 [.ref q] X2 = _ from k3]
    show xq_br .eq (xm S2 0 69 0) (nI t) _ _ = _
    rw [h0, br_eq, br_ne (by show ¬ nI t = nI 0; rw [xn_eq (by omega) (by omega)]; omega)]
  rcases h with ⟨r, N', m, S1, S2, S3, hc, hm, h0, hs, hG, c1, c2⟩ | ⟨h1, h⟩ | ⟨h1, h⟩
  · obtain ⟨⟨w', rfl⟩, s1, s2⟩ := swp_m hs
    obtain ⟨X1, k1, I1⟩ := lI_call I (Or.inl ⟨rfl, rfl⟩) hc
    have I1' := lI_set I1 (vp_updL g 0 (fv r))
    obtain ⟨X2, k2, I2⟩ := lI_call I1' (Or.inr ⟨rfl, rfl⟩) hm
    obtain ⟨X3, k3, I3⟩ := lI_call (as := []) I2 (Or.inr ⟨rfl, rfl⟩) (xe150 (d + 60) _ S2)
    refine ⟨0, r, X3, ?_, S3, N', _, lI_swp I3 hs hG, hG, by omega, by omega⟩
    have k0 := wk.1 r X1 g k1 (lI_o I1)
    rw [show xq_Call (d + 61) w (.ref p :: ((ks.map (fun k => sc (a + k))).map Value.int ++ [.ref o])) X = _ from k0]
    show lawRd (xq_set X1 o (.inl (1, 1, .inr (.inl (vp_updL g 0 (fv r)))))) b (nI a) ks _ = _
    rw [lawRd_ok (lI_b I1') hL ha ks hks, xq_is_y (lI_q I1'), show xq_Call (d + 61) j (.ref q :: (ks.map (fun k => sc (a + k))).map Value.int) _ = _ from xq_Call_dep k2]
    show xq_is X2 q 11 _ = _
    rw [xq_is_y (lI_q I2), show xq_Call (d + 61) 150 [.ref q] X2 = _ from k3]
    show xq_br .eq (xm S2 0 69 0) (nI 0) _ _ = _
    rw [h0, br_eq]
    show xq_br .ne (0 : Int32) 0 _ _ = _
    rw [br_ne', xq_lald_y (lI_o I3)]
    exact hcmp r _ _
  · exact no xNS tN h1 ht.1 (fun X1 k => wk.2.1 X1 h1 k) h
  · exact no xIA tI h1 ht.2 (fun X1 k => wk.2.2 X1 h1 k) h
theorem oRt_of {d i j : Nat} {as : List xr_V} (h : oRes d i j as S 0 0) : oRt d i j as S := by
  rcases h with h | ⟨h, _⟩ | ⟨h, _⟩
  · exact h
  · exact absurd h (by omega)
  · exact absurd h (by omega)
theorem armB {ks : List Nat} {d ic j f a : Nat} {v5 v6 : Value} (hks : ∀ k ∈ ks, k ≤ 6) (I : lI b p q o L sc xMd S g X) (hL : L ≤ 3584) (ha : a + 7 ≤ L) (h : oRt d ic j ((ks.map (fun k => sc (a + k))).map xI) S) :
    ∃ X', lawB ks (d + 61) ic j f v5 v6 b p q o (nI a) X = xq_Run (d + 61) 310 2323 [.ref b, .ref p, .ref q, .ref o, .int (nI a), v5, v6] [] X' ∧ lG b p q o L sc S X' := by
  unfold lawB
  rw [lawRd_ok (lI_b I) hL ha ks hks]
  obtain ⟨r, N', m, S1, S2, S3, hc, hm, h0, hs, hG, c1, c2⟩ := h
  obtain ⟨⟨w', rfl⟩, s1, s2⟩ := swp_m hs
  obtain ⟨X1, k1, I1⟩ := lI_call I (Or.inl ⟨rfl, rfl⟩) hc
  obtain ⟨X2, k2, I2⟩ := lI_call I1 (Or.inr ⟨rfl, rfl⟩) hm
  refine ⟨X2, ?_, S3, N', _, lI_swp I2 hs hG, hG, by omega, by omega⟩
  rw [xq_is_y (lI_p I), show xq_Call (d + 61) ic (.ref p :: (ks.map (fun k => sc (a + k))).map Value.int) X = _ from xq_Call_dep k1]
  show lawRd X1 b (nI a) ks _ = _
  rw [lawRd_ok (lI_b I1) hL ha ks hks, xq_is_y (lI_q I1), show xq_Call (d + 61) j (.ref q :: (ks.map (fun k => sc (a + k))).map Value.int) X1 = _ from xq_Call_dep k2]
  show xq_br .eq r r _ _ = _
  rw [br_eq]
end
