/-! THE HISTORY: what is kept of earlier grounds -/
def svd (M : xr_M) (np nq : Nat) (pl : Nat → Nat) (b : Nat) (r : Nat → Int32) : Prop := ∃ h s, xGr M b 1 np nq pl r ∧ xgW np nq pl r ∧ xhC (M b 8) (M b 9) h s ∧ xhM r h s ∧ hI h s
/-- n works that can be undone, the newest first -/
def chn (N : Nat) (M : xr_M) (D : xr_D) (np nq : Nat) (pl : Nat → Nat) : Nat → Option Nat → (Nat → Nat → Int32) → Prop
  | 0, pa, _ => pa = none
  | n + 1, pa, R => ∃ p, pa = some (p + 1) ∧ p < N ∧ M (p + 1) 0 2 = nI (n + 1) ∧ svd M np nq pl (p + 1) (R n) ∧ chn N M D np nq pl n (D (p + 1) 0) R
def hst (N : Nat) (M : xr_M) (D : xr_D) (pa : Option Nat) (np nq : Nat) (pl : Nat → Nat) (w im : Nat) : Prop := (w ≤ 16 ∧ im ≤ 3) ∧ (M 0 69 36 = nI w ∧ M 0 69 38 = nI im ∧ M 0 0 14 = nI im) ∧ chn N M D np nq pl w pa (fun r => M r 1091) ∧ ∀ j, j < im → ∃ p w', D 0 j = some (p + 1) ∧ p < N ∧ w' ≤ 16 ∧ M j 1092 0 = nI w' ∧ svd M np nq pl (p + 1) (fun k => M j 1092 (1 + k)) ∧ chn N M D np nq pl w' (D (p + 1) 0) (fun r k => M j 1092 (794 + 793 * r + k))
section
variable {N N' : Nat} {M M' : xr_M} {D D' : xr_D} {np nq : Nat} {pl : Nat → Nat}
theorem svd_fr {b : Nat} {r r' : Nat → Int32} (n1 : np ≤ 8) (n2 : nq ≤ 8) (n3 : ∀ p, p < nq → pl p ≤ 6) (h : ∀ e, e < 10 → M' b e = M b e) (hr : ∀ k, k < 793 → r' k = r k) (V : svd M np nq pl b r) : svd M' np nq pl b r' := by
  obtain ⟨hh, s, G, W, Hc, Hm, I⟩ := V
  refine ⟨hh, s, xGr_cg n1 n2 n3 hr (xGr_fr (fun e h1 h2 => h e (by omega)) G), xgW_cg n2 hr W, ?_, xhM_cg (xhB_le (by omega) (hG_B (hI_G I))) hr Hm, I⟩
  rw [h 8 (by omega), h 9 (by omega)]
  exact Hc
theorem chn_fr (n1 : np ≤ 8) (n2 : nq ≤ 8) (n3 : ∀ p, p < nq → pl p ≤ 6) (hN : N ≤ N') (h : ∀ b e, 1 ≤ b → b ≤ N → e < 10 → M' b e = M b e) (hD : ∀ b, 1 ≤ b → b ≤ N → D' b 0 = D b 0) {R R' : Nat → Nat → Int32} : ∀ (n : Nat) (pa : Option Nat), (∀ r k, r < n → k < 793 → R' r k = R r k) → chn N M D np nq pl n pa R → chn N' M' D' np nq pl n pa R'
  | 0, _, _, C => C
  | n + 1, pa, hR, C => by
    obtain ⟨p, e, hp, hw, V, C⟩ := C
    refine ⟨p, e, by omega, ?_, svd_fr n1 n2 n3 (fun e he => h _ e (by omega) (by omega) he) (fun k hk => hR n k (by omega) hk) V, ?_⟩
    · rw [h _ 0 (by omega) (by omega) (by omega)]; exact hw
    · rw [hD _ (by omega) (by omega)]
      exact chn_fr n1 n2 n3 hN h hD n _ (fun r k h1 h2 => hR r k (by omega) h2) C
theorem hst_fr {pa : Option Nat} {w im : Nat} (n1 : np ≤ 8) (n2 : nq ≤ 8) (n3 : ∀ p, p < nq → pl p ≤ 6) (h : ∀ b e, 1 ≤ b → b ≤ N → e < 10 → M' b e = M b e) (h4 : ∀ r, M' r 1091 = M r 1091) (h5 : ∀ r, M' r 1092 = M r 1092) (h6 : M' 0 69 36 = M 0 69 36) (h7 : M' 0 69 38 = M 0 69 38) (h8 : M' 0 0 14 = M 0 0 14) (H : hst N M D pa np nq pl w im) : hst N M' D pa np nq pl w im := by
  obtain ⟨H1, H2, H3, H4⟩ := H
  refine ⟨H1, by rw [h6, h7, h8]; exact H2, chn_fr n1 n2 n3 (Nat.le_refl _) h (fun _ _ _ => rfl) w pa (fun r k _ _ => by rw [h4]) H3, fun j hj => ?_⟩
  obtain ⟨p, w', a1, a2, a3, a4, a5, a6⟩ := H4 j hj
  refine ⟨p, w', a1, a2, a3, by rw [h5]; exact a4, svd_fr n1 n2 n3 (fun e he => h _ e (by omega) (by omega) he) (fun k _ => by rw [h5]) a5, chn_fr n1 n2 n3 (Nat.le_refl _) h (fun _ _ _ => rfl) w' _ (fun r k _ _ => by rw [h5]) a6⟩
theorem c142 {d w : Nat} {S : xr_S} {u : List (Nat × Nat × Nat)} {R : Nat → Nat → Int32} (C : chn N (xm S) D np nq pl w (xr_past S) R) : xr_Call (d + 1) 142 [xP 0 0] (u, [35, 44, 53, 58, 63, 66]) S = some (.inl (some (nI w)), (u, [35, 44, 53, 58, 63, 66]), S) := by
  obtain ⟨a, k, nx, pa, M, D1⟩ := S
  cases w with
  | zero =>
    have C : pa = none := C
    subst C
    exact xv142N
  | succ n =>
    obtain ⟨p, e, _, hw, _⟩ := C
    have e : pa = some (p + 1) := e
    have hw : M (p + 1) 0 2 = nI (n + 1) := hw
    subst e
    rw [← hw]
    exact xv142S
end
/-- the scalars that class and model keep alike -/
def scl (M : xr_M) : Prop := M 0 0 15 = M 0 69 3 ∧ M 0 0 16 = M 0 69 37 ∧ M 0 0 17 = M 0 71 0 ∧ M 0 0 18 = M 0 71 1
/-- class and model hold the same -/
def gInv (N : Nat) (S : xr_S) : Prop := S.2.2.1 = (N + 1, 0) ∧ ∃ np nq ch st du pl dy dp sz kd gv g h s ln ti fl tb L w im, xIq (xm S) np nq ch st du pl dy dp sz kd gv g h s ln ti fl ∧ tB (xm S) tb L ∧ scl (xm S) ∧ hst N (xm S) (xr_d S) (xr_past S) np nq pl w im
section
variable {np nq ch st : Nat} {du pl : Nat → Nat} {dy : Nat → Int32} {dp : Nat → Nat → Nat} {sz : Nat} {kd : Nat → Nat} {gv g : Nat → Int32} {h : Nat → Nat} {s : Nat → Nat → Int32} {ln : Nat} {ti : Nat → Nat} {fl : Nat → Option Nat}
theorem xIq_n {M : xr_M} (I : xIq M np nq ch st du pl dy dp sz kd gv g h s ln ti fl) : np ≤ 8 ∧ nq ≤ 8 ∧ (∀ p, p < nq → pl p ≤ 6) ∧ 1 ≤ st ∧ st ≤ 9 := by
  obtain ⟨⟨_, _, ⟨b0, b1, b2, b3, b4⟩, hp, hd⟩, _⟩ := I
  refine ⟨b0, b1, fun p h => ?_, b3, b4⟩
  obtain ⟨_, _, _, _, _, _, _, _, l3⟩ := hp p h
  exact l3
/-- what a question leaves -/
theorem gInv_q {N : Nat} {S : xr_S} {M2 : xr_M} (H : gInv N S) (K : xKp (xm S) M2) : gInv N (xs S M2) := by
  obtain ⟨e, np, nq, ch, st, du, pl, dy, dp, sz, kd, gv, g, h, s, ln, ti, fl, tb, L, w, im, I, B, Sc, Hs⟩ := H
  obtain ⟨n1, n2, n3, _, _⟩ := xIq_n I
  refine ⟨e, np, nq, ch, st, du, pl, dy, dp, sz, kd, gv, g, h, s, ln, ti, fl, tb, L, w, im, xIq_fr (xKp_q K) I, ?_, ?_, ?_⟩
  · obtain ⟨B1, ⟨B2, B3⟩, B4, B5⟩ := B
    refine ⟨B1, ⟨?_, ?_⟩, ?_, ?_⟩
    · rw [xm_xs, K.1 0 1 (by omega)]; exact B2
    · rw [xm_xs, K.1 0 2 (by omega)]; exact B3
    · rw [xm_xs, K.2 1 (by omega) (by omega)]; exact B4
    · rw [xm_xs, K.1 0 70 (by omega)]; exact B5
  · unfold scl
    rw [xm_xs, K.1 0 0 (by omega), K.1 0 71 (by omega), K.2 3 (by omega) (by omega), K.2 37 (by omega) (by omega)]
    exact Sc
  · exact hst_fr n1 n2 n3 (fun b e h1 _ h2 => K.1 b e (by omega)) (fun r => K.1 r 1091 (by omega)) (fun r => K.1 r 1092 (by omega)) (K.2 36 (by omega) (by omega)) (K.2 38 (by omega) (by omega)) (by rw [xm_xs, K.1 0 0 (by omega)]) Hs
/-- what a refusal leaves -/
theorem gInv_r {N : Nat} {S : xr_S} {t f r : Nat} (hf : (f = 17 ∧ r = 0) ∨ (f = 18 ∧ r = 1)) (H : gInv N S) : gInv N (xr_ex (xs S (xw (xw (xw (xm S) 0 0 f (xm S 0 0 f + nI 1)) 0 69 0 (nI t)) 0 71 r (xm S 0 71 r + nI 1)))) := by
  obtain ⟨e, np, nq, ch, st, du, pl, dy, dp, sz, kd, gv, g, h, s, ln, ti, fl, tb, L, w, im, I, B, Sc, Hs⟩ := H
  obtain ⟨n1, n2, n3, _, _⟩ := xIq_n I
  obtain ⟨M', hM⟩ : ∃ M', M' = xw (xw (xw (xm S) 0 0 f (xm S 0 0 f + nI 1)) 0 69 0 (nI t)) 0 71 r (xm S 0 71 r + nI 1) := ⟨_, rfl⟩
  rw [← hM]
  have F : ∀ b e, ¬ (b = 0 ∧ (e = 0 ∨ e = 69 ∨ e = 71)) → M' b e = xm S b e := fun b e h => by rw [hM, xw_r (by omega), xw_r (by omega), xw_r (by omega)]
  have F69 : ∀ k, 1 ≤ k → M' 0 69 k = xm S 0 69 k := fun k h => by rw [hM, xw_n (by omega), xw_n (by omega), xw_n (by omega)]
  have F0 : ∀ k, ¬ k = f → M' 0 0 k = xm S 0 0 k := fun k h => by rw [hM, xw_n (by omega), xw_n (by omega), xw_n (by omega)]
  refine ⟨e, np, nq, ch, st, du, pl, dy, dp, sz, kd, gv, g, h, s, ln, ti, fl, tb, L, w, im, xIq_fr ⟨fun b e h1 _ _ => F b e (by omega), F69 21 (by omega), F69 35 (by omega)⟩ I, ?_, ?_, ?_⟩
  · obtain ⟨B1, ⟨B2, B3⟩, B4, B5⟩ := B
    refine ⟨B1, ⟨?_, ?_⟩, ?_, ?_⟩
    · rw [xm_ex, xm_xs, F 0 1 (by omega)]; exact B2
    · rw [xm_ex, xm_xs, F 0 2 (by omega)]; exact B3
    · rw [xm_ex, xm_xs, F69 1 (by omega)]; exact B4
    · rw [xm_ex, xm_xs, F 0 70 (by omega)]; exact B5
  · obtain ⟨s1, s2, s3, s4⟩ := Sc
    unfold scl
    rw [xm_ex, xm_xs, F69 3 (by omega), F69 37 (by omega), F0 15 (by omega), F0 16 (by omega)]
    rcases hf with ⟨rfl, rfl⟩ | ⟨rfl, rfl⟩
    · refine ⟨s1, s2, ?_, ?_⟩
      · rw [hM, xw_n (by omega), xw_n (by omega), xw_y (by omega), xw_y (by omega), s3]
      · rw [F0 18 (by omega), hM, xw_n (show ¬ (0 = 0 ∧ 71 = 71 ∧ 1 = 0) by omega), xw_n (by omega), xw_n (by omega)]; exact s4
    · refine ⟨s1, s2, ?_, ?_⟩
      · rw [F0 17 (by omega), hM, xw_n (show ¬ (0 = 0 ∧ 71 = 71 ∧ 0 = 1) by omega), xw_n (by omega), xw_n (by omega)]; exact s3
      · rw [hM, xw_n (by omega), xw_n (by omega), xw_y (by omega), xw_y (by omega), s4]
  · exact hst_fr n1 n2 n3 (fun b e h1 _ h2 => F b e (by omega)) (fun r => F r 1091 (by omega)) (fun r => F r 1092 (by omega)) (F69 36 (by omega)) (F69 38 (by omega)) (F0 14 (by omega)) Hs
end
