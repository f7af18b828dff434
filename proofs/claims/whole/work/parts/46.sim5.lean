/-! FROM THE NAMED CELLS TO xq, 5: a step -/
def xr_ro (o : xr_O) : xq_O := match o with
  | .inl none => .inl none
  | .inl (some x) => .inl (some (.int x))
  | .inr E => .inr E
def xr_Ext (adr : xr_A → Nat) (S : xr_S) (X : xq_X) (adr' : xr_A → Nat) (S' : xr_S) : Prop := (∀ z, xr_dom (xr_nx S) z → xr_dom (xr_nx S') z ∧ adr' z = adr z) ∧ (∀ z, xr_dom (xr_nx S') z → xr_dom (xr_nx S) z ∨ X.1 ≤ adr' z)
def xr_Fm (adr : xr_A → Nat) (S : xr_S) (X X' : xq_X) : Prop := (∀ a, a < X.1 → (∀ z, xr_dom (xr_nx S) z → z.2 < 2000 → adr z ≠ a) → xq_h X' a = xq_h X a) ∧ X.1 ≤ X'.1 ∧ X'.2.2.2 = X.2.2.2
def xr_Gd (res : xq_R) (r : xr_O × xr_N × xr_S) (adr : xr_A → Nat) (S : xr_S) (X : xq_X) : Prop := ∃ adr' X', res = some (xr_ro r.1, X') ∧ xr_Rep adr' r.2.1 r.2.2 X' ∧ xr_Ext adr S X adr' r.2.2 ∧ xr_Fm adr S X X'
section
variable {adr adr1 : xr_A → Nat} {m m1 : xr_N} {S S1 : xr_S} {X X1 : xq_X} {r : xr_O × xr_N × xr_S} {res : xq_R}
theorem xr_Ext.rf : xr_Ext adr S X adr S := ⟨fun z hz => ⟨hz, rfl⟩, fun z hz => Or.inl hz⟩
theorem xr_Ext.nx (h : xr_nx S1 = xr_nx S) : xr_Ext adr S X adr S1 := ⟨fun z hz => ⟨by rw [h]; exact hz, rfl⟩, fun z hz => Or.inl (by rw [← h]; exact hz)⟩
theorem xr_Fm.rf : xr_Fm adr S X X := ⟨fun _ _ _ => rfl, Nat.le_refl _, rfl⟩
theorem xr_Fm.set {z : xr_A} {e : xq_E} (hz : xr_dom (xr_nx S) z) (h2 : z.2 < 2000) : xr_Fm adr S X (xq_set X (adr z) e) := by
  refine ⟨fun a ha h => ?_, Nat.le_refl _, rfl⟩
  unfold xq_h xq_set
  dsimp only
  rw [if_neg (fun h9 => h z hz h2 h9.symm)]
theorem xr_Fm.push {n : Nat} {e : xq_E} : xr_Fm adr S X (xq_push X n e) := by
  refine ⟨fun a ha h => ?_, Nat.le_succ _, rfl⟩
  unfold xq_h xq_push
  dsimp only
  rw [if_neg (by omega)]
theorem xr_Fm.grid {n k : Nat} : xr_Fm adr S X (xq_grid X n k) := by
  refine ⟨fun a ha h => ?_, by show X.1 ≤ X.1 + 1 + n; omega, rfl⟩
  unfold xq_h xq_grid
  dsimp only
  rw [if_neg (by omega), if_neg (by omega)]
theorem xr_tr (h1 : xr_Ext adr S X adr1 S1) (h2 : xr_Fm adr S X X1) (h : xr_Gd res r adr1 S1 X1) : xr_Gd res r adr S X := by
  obtain ⟨adr', X', g1, g2, g3, g4⟩ := h
  refine ⟨adr', X', g1, g2, ⟨fun z hz => ?_, fun z hz => ?_⟩, fun a ha hn => ?_, Nat.le_trans h2.2.1 g4.2.1, g4.2.2.trans h2.2.2⟩
  · obtain ⟨c1, c2⟩ := h1.1 z hz
    obtain ⟨c3, c4⟩ := g3.1 z c1
    exact ⟨c3, c4.trans c2⟩
  · rcases g3.2 z hz with h | h
    · rcases h1.2 z h with h9 | h9
      · exact Or.inl h9
      · exact Or.inr (by rw [(g3.1 z h).2]; exact h9)
    · exact Or.inr (Nat.le_trans h2.2.1 h)
  · refine (g4.1 a (Nat.lt_of_lt_of_le ha h2.2.1) (fun z hz hz2 => ?_)).trans (h2.1 a ha hn)
    rcases h1.2 z hz with h9 | h9
    · rw [(h1.1 z h9).2]; exact hn z h9 hz2
    · omega
/-- the state is as it was -/
theorem xr_st (h : xr_Gd res r adr S X) : xr_Gd res r adr S X := h
theorem xr_ad_Ext {b c n : Nat} (hnx : xr_nx S = (b, c)) (hc : c < 1000) (hk2 : (xr_sh b c).1 ≠ 2) : xr_Ext adr S X (xr_ad adr (b, c) X.1) (xr_al S 1 n) := by
  have hnx1 : xr_nx (xr_al S 1 n) = (b, c + 1) := by
    show (S.2.2.1.1, S.2.2.1.2 + 1) = (b, c + 1)
    have h1 : S.2.2.1.1 = b := congrArg Prod.fst hnx
    have h2 : S.2.2.1.2 = c := congrArg Prod.snd hnx
    rw [h1, h2]
  refine ⟨by rw [hnx, hnx1]; exact xr_ad_ext hc, fun z hz => ?_⟩
  rw [hnx1] at hz
  rw [hnx]
  rcases xr_dom_al hc hz with h | rfl | ⟨h1, h2, h3, h4⟩
  · exact Or.inl h
  · exact Or.inr (by unfold xr_ad; rw [if_pos rfl]; exact Nat.le_refl _)
  · rw [h1] at hk2; exact absurd h3 hk2
theorem xr_ag_Ext {c n k : Nat} (hnx : xr_nx S = (0, c)) (hc : c < 1000) (he : ∀ z, xr_dom (xr_nx S) z → xr_dom (xr_nx (xr_al S (1 + n) k)) z ∧ xr_ag adr c X.1 z = adr z) : xr_Ext adr S X (xr_ag adr c X.1) (xr_al S (1 + n) k) := by
  have hnx1 : xr_nx (xr_al S (1 + n) k) = (0, c + 1) := by
    show (S.2.2.1.1, S.2.2.1.2 + 1) = (0, c + 1)
    have h1 : S.2.2.1.1 = 0 := congrArg Prod.fst hnx
    have h2 : S.2.2.1.2 = c := congrArg Prod.snd hnx
    rw [h1, h2]
  refine ⟨he, fun z hz => ?_⟩
  rw [hnx1] at hz
  rw [hnx]
  rcases xr_dom_al hc hz with h | rfl | ⟨h1, h2, h3, h4⟩
  · exact Or.inl h
  · exact Or.inr (by unfold xr_ag; rw [if_pos rfl]; exact Nat.le_refl _)
  · refine Or.inr ?_
    unfold xr_ag
    rw [if_neg (by rintro rfl; have : c = 1000 + c := h2; omega), if_pos h2]
    omega
end
theorem xr_c50 {b c x : Nat} {l : List Nat} {n : Nat} (h : xr_sh b c = (x, n, l)) (hx : x ≠ 99) : (b, c) ≠ ((0, 5000) : xr_A) := by
  intro h9
  cases h9
  have h1 : (99 : Nat) = x := congrArg (fun q : Nat × Nat × List Nat => q.1) h
  exact hx h1.symm
theorem xr_c5 {b c x : Nat} (h : (xr_sh b c).1 = x) (hx : x ≠ 99) : (b, c) ≠ ((0, 5000) : xr_A) := by
  intro h9
  cases h9
  have h1 : (99 : Nat) = x := h
  exact hx h1.symm
theorem xr_d5 {nx : xr_A} {z : xr_A} (h : xr_dom nx z) : z ≠ (0, 5000) := by
  rintro rfl
  rcases h with ⟨h, -⟩ | ⟨⟨-, h⟩, -⟩ | ⟨h | h, -⟩
  · exact absurd h (by decide)
  · exact absurd h (by decide)
  · exact absurd h (by decide)
  · exact absurd h (by decide)
theorem xr_c2000 {nx : xr_A} {b c ci : Nat} (h : xr_dom nx (b, c)) (hk : (xr_sh b c).1 = 100 + ci) (hci : ci ≠ 20) : c < 2000 := by
  rcases h with ⟨h, -⟩ | ⟨⟨-, h⟩, -⟩ | ⟨h | h, -⟩
  · have : c < 1000 := h
    omega
  · exact h
  · have : c = 3000 := h
    subst this
    have h1 : (120 : Nat) = 100 + ci := hk
    omega
  · have : c = 4000 := h
    subst this
    have h1 : (8 : Nat) = 100 + ci := hk
    omega
