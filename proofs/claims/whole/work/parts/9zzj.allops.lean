/-! LAW, THUMB, FEED: how they end -/
section
variable {d : Nat} {S : xr_S}
theorem o_law {N : Nat} (H : gInv N S) (v : Int32) : oRes d 102 185 [xI v] S 0 1 := by
  have H' := H
  obtain ⟨e, np, nq, ch, st, du, pl, dy, dp, sz, kd, gv, g, h, s, ln, ti, fl, tb, L, w, im, I, B, Sc, Hs⟩ := H
  by_cases qv : xrg v 0 (min L 150)
  rotate_left
  · exact Or.inr (Or.inr ⟨Nat.le_refl _, oNo_q (Or.inr ⟨rfl, rfl⟩) H' (law_no B qv)⟩)
  obtain ⟨n, _, hn, rfl⟩ := qv
  refine Or.inl ?_
  obtain ⟨n1, n2, n3, _, _⟩ := xIq_n I
  obtain ⟨s1, s2, s3, s4⟩ := Sc
  obtain ⟨M1, M2, q1, q2, ⟨a0, a1, a2, a3, a4⟩, Nq, Ya, F, G0, G69⟩ := law_ok (d := d) I (show n ≤ 150 by omega) (show n ≤ L by omega) B
  have fr : ∀ b e, 1 ≤ b → b ≤ N → e < 10 → M2 b e = xm S b e := fun b e h1 _ h2 => F b e (by omega) (by omega) (by omega)
  generalize hX : lAll tb n = WX at q1 q2 a3 a4 Nq Ya
  obtain ⟨r0, X⟩ := WX
  cases r0 with
  | inr q =>
    refine ⟨_, N, xMd, _, _, _, q1, q2, a0, Or.inl ⟨rfl, rfl⟩, gInv_b e (w := w) (im := im) (Nq q rfl) a1 a2 ⟨?_, ?_, ?_, ?_⟩ (hst_fr n1 n2 n3 fr (fun r => F r 1091 (by omega) (by omega) (by omega)) (fun r => F r 1092 (by omega) (by omega) (by omega)) (G69 36 (by omega)) (G69 38 (by omega)) (G0 14 (by omega)) Hs), Nat.le_add_right _ _, Nat.le_add_right _ _⟩
    · show M2 0 0 15 = M2 0 69 3; rw [a3, a4]
    · show M2 0 0 16 = M2 0 69 37; rw [G0 16 (by omega), G69 37 (by omega)]; exact s2
    · show M2 0 0 17 = M2 0 71 0; rw [G0 17 (by omega), F 0 71 (by omega) (by omega) (by omega)]; exact s3
    · show M2 0 0 18 = M2 0 71 1; rw [G0 18 (by omega), F 0 71 (by omega) (by omega) (by omega)]; exact s4
  | inl x =>
    have o : ∀ b e, ¬ (b = 0 ∧ 53 ≤ e ∧ e ≤ 62) → xSwL M2 b e = M2 b e := fun b e h => xSwL_o h
    refine ⟨_, N, xMl, _, _, xs S (xSwL M2), q1, q2, a0, Or.inr (Or.inl ⟨rfl, rfl⟩), gInv_b e (w := w) (im := im) (Ya x rfl) ?_ ?_ ⟨?_, ?_, ?_, ?_⟩ (hst_fr n1 n2 n3 (fun b e h1 h2 h3 => by rw [xm_xs, o b e (by omega)]; exact fr b e h1 h2 h3) (fun r => by rw [xm_xs, o r 1091 (by omega), F r 1091 (by omega) (by omega) (by omega)]) (fun r => by rw [xm_xs, o r 1092 (by omega), F r 1092 (by omega) (by omega) (by omega)]) (by rw [xm_xs, o 0 69 (by omega)]; exact G69 36 (by omega)) (by rw [xm_xs, o 0 69 (by omega)]; exact G69 38 (by omega)) (by rw [xm_xs, o 0 0 (by omega)]; exact G0 14 (by omega)) Hs), Nat.le_add_right _ _, Nat.le_add_right _ _⟩
    · show xSwL M2 0 1 1 = _; rw [o 0 1 (by omega)]; exact a1
    · show xSwL M2 0 69 1 = _; rw [o 0 69 (by omega)]; exact a2
    · show xSwL M2 0 0 15 = xSwL M2 0 69 3; rw [o 0 0 (by omega), o 0 69 (by omega), a3, a4]
    · show xSwL M2 0 0 16 = xSwL M2 0 69 37; rw [o 0 0 (by omega), o 0 69 (by omega), G0 16 (by omega), G69 37 (by omega)]; exact s2
    · show xSwL M2 0 0 17 = xSwL M2 0 71 0; rw [o 0 0 (by omega), o 0 71 (by omega), G0 17 (by omega), F 0 71 (by omega) (by omega) (by omega)]; exact s3
    · show xSwL M2 0 0 18 = xSwL M2 0 71 1; rw [o 0 0 (by omega), o 0 71 (by omega), G0 18 (by omega), F 0 71 (by omega) (by omega) (by omega)]; exact s4
theorem o_thumb {N : Nat} (H : gInv N S) (v : Int32) : oRes d 104 190 [xI v] S 0 1 := by
  have H' := H
  obtain ⟨e, np, nq, ch, st, du, pl, dy, dp, sz, kd, gv, g, h, s, ln, ti, fl, tb, L, w, im, I, B, Sc, Hs⟩ := H
  by_cases qv : xrg v 0 (min L 60)
  rotate_left
  · exact Or.inr (Or.inr ⟨Nat.le_refl _, oNo_q (Or.inr ⟨rfl, rfl⟩) H' (thumb_no B qv)⟩)
  obtain ⟨n, _, hn, rfl⟩ := qv
  refine Or.inl ?_
  obtain ⟨n1, n2, n3, _, _⟩ := xIq_n I
  obtain ⟨s1, s2, s3, s4⟩ := Sc
  obtain ⟨M1, M2, q1, q2, ⟨a0, a1, a2, a3, a4⟩, Nq, Ya, F, G0, G69⟩ := thumb_ok (d := d) I (show n ≤ 60 by omega) (show n ≤ L by omega) B
  have fr : ∀ b e, 1 ≤ b → b ≤ N → e < 10 → M2 b e = xm S b e := fun b e h1 _ h2 => F b e (by omega) (by omega) (by omega)
  generalize hX : uAll tb n = WX at q1 q2 a3 a4 Nq Ya
  obtain ⟨r0, X⟩ := WX
  cases r0 with
  | inr q =>
    refine ⟨_, N, xMd, _, _, _, q1, q2, a0, Or.inl ⟨rfl, rfl⟩, gInv_b e (w := w) (im := im) (Nq q rfl) a1 a2 ⟨?_, ?_, ?_, ?_⟩ (hst_fr n1 n2 n3 fr (fun r => F r 1091 (by omega) (by omega) (by omega)) (fun r => F r 1092 (by omega) (by omega) (by omega)) (G69 36 (by omega)) (G69 38 (by omega)) (G0 14 (by omega)) Hs), Nat.le_add_right _ _, Nat.le_add_right _ _⟩
    · show M2 0 0 15 = M2 0 69 3; rw [a3, a4]
    · show M2 0 0 16 = M2 0 69 37; rw [G0 16 (by omega), G69 37 (by omega)]; exact s2
    · show M2 0 0 17 = M2 0 71 0; rw [G0 17 (by omega), F 0 71 (by omega) (by omega) (by omega)]; exact s3
    · show M2 0 0 18 = M2 0 71 1; rw [G0 18 (by omega), F 0 71 (by omega) (by omega) (by omega)]; exact s4
  | inl x =>
    have o : ∀ b e, ¬ (b = 0 ∧ 63 ≤ e ∧ e ≤ 68) → xSwT M2 b e = M2 b e := fun b e h => xSwT_o h
    refine ⟨_, N, xMt, _, _, xs S (xSwT M2), q1, q2, a0, Or.inr (Or.inr (Or.inl ⟨rfl, rfl⟩)), gInv_b e (w := w) (im := im) (Ya x rfl) ?_ ?_ ⟨?_, ?_, ?_, ?_⟩ (hst_fr n1 n2 n3 (fun b e h1 h2 h3 => by rw [xm_xs, o b e (by omega)]; exact fr b e h1 h2 h3) (fun r => by rw [xm_xs, o r 1091 (by omega), F r 1091 (by omega) (by omega) (by omega)]) (fun r => by rw [xm_xs, o r 1092 (by omega), F r 1092 (by omega) (by omega) (by omega)]) (by rw [xm_xs, o 0 69 (by omega)]; exact G69 36 (by omega)) (by rw [xm_xs, o 0 69 (by omega)]; exact G69 38 (by omega)) (by rw [xm_xs, o 0 0 (by omega)]; exact G0 14 (by omega)) Hs), Nat.le_add_right _ _, Nat.le_add_right _ _⟩
    · show xSwT M2 0 1 1 = _; rw [o 0 1 (by omega)]; exact a1
    · show xSwT M2 0 69 1 = _; rw [o 0 69 (by omega)]; exact a2
    · show xSwT M2 0 0 15 = xSwT M2 0 69 3; rw [o 0 0 (by omega), o 0 69 (by omega), a3, a4]
    · show xSwT M2 0 0 16 = xSwT M2 0 69 37; rw [o 0 0 (by omega), o 0 69 (by omega), G0 16 (by omega), G69 37 (by omega)]; exact s2
    · show xSwT M2 0 0 17 = xSwT M2 0 71 0; rw [o 0 0 (by omega), o 0 71 (by omega), G0 17 (by omega), F 0 71 (by omega) (by omega) (by omega)]; exact s3
    · show xSwT M2 0 0 18 = xSwT M2 0 71 1; rw [o 0 0 (by omega), o 0 71 (by omega), G0 18 (by omega), F 0 71 (by omega) (by omega) (by omega)]; exact s4
theorem o_feed {N : Nat} (H : gInv N S) (a1 a2 a3 a4 a5 : Int32) : oRt d 100 156 [xI a1, xI a2, xI a3, xI a4, xI a5] S := by
  have H' := H
  obtain ⟨e, np, nq, ch, st, du, pl, dy, dp, sz, kd, gv, g, h, s, ln, ti, fl, tb, L, w, im, I, B, Sc, Hs⟩ := H
  by_cases hL : L + 20 ≤ 600
  rotate_left
  · exact oRt_q H' (feed_no a1 a2 a3 a4 a5 hL B)
  obtain ⟨n1, n2, n3, _, _⟩ := xIq_n I
  obtain ⟨s1, s2, s3, s4⟩ := Sc
  obtain ⟨M1, M2, q1, q2, a0, B2, I2, F, G69⟩ := feed_ok (d := d) I a1 a2 a3 a4 a5 hL B
  refine ⟨_, N, xMd, _, _, _, q1, q2, a0, Or.inl ⟨rfl, rfl⟩, ⟨e, np, nq, ch, st, du, pl, dy, dp, sz, kd, gv, g, h, s, ln, ti, fl, _, _, w, im, I2, B2, ⟨?_, ?_, ?_, ?_⟩, hst_fr n1 n2 n3 (fun b e h1 _ h2 => F b e (by omega)) (fun r => F r 1091 (by omega)) (fun r => F r 1092 (by omega)) (G69 36 (by omega)) (G69 38 (by omega)) (by rw [xm_xs, F 0 0 (by omega)]) Hs⟩, Nat.le_add_right _ _, Nat.le_add_right _ _⟩
  · show M2 0 0 15 = M2 0 69 3; rw [F 0 0 (by omega), G69 3 (by omega)]; exact s1
  · show M2 0 0 16 = M2 0 69 37; rw [F 0 0 (by omega), G69 37 (by omega)]; exact s2
  · show M2 0 0 17 = M2 0 71 0; rw [F 0 0 (by omega), F 0 71 (by omega)]; exact s3
  · show M2 0 0 18 = M2 0 71 1; rw [F 0 0 (by omega), F 0 71 (by omega)]; exact s4
end
