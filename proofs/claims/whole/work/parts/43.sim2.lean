/-! FROM THE NAMED CELLS TO xq, 2: how the relation goes on -/
abbrev xr_wf (m : xr_N) (S : xr_S) : Prop := (∀ q, xr_past S = some q → 0 < q ∧ xr_dom (xr_nx S) (q, 0)) ∧ (∀ b k q, xr_d S b k = some q → 0 < q ∧ xr_dom (xr_nx S) (q, 0)) ∧ (∀ (j q : Nat), m.2[j]? = some q → q ≠ 0 → xr_dom (xr_nx S) (0, q))
abbrev xr_fr (S : xr_S) : Prop := (∀ b c k, c < 2000 → ¬ xr_dom (xr_nx S) (b, c) → xm S b c k = 0) ∧ (∀ b k, ¬ xr_dom (xr_nx S) (b, cond (Nat.beq b 0) 34 0) → xr_d S b k = none)
section
variable {adr adr' : xr_A → Nat} {m m1 : xr_N} {S S1 : xr_S} {X : xq_X} {z : xr_A} {e : xq_E}
theorem xr_dom_row {nx : xr_A} {c j : Nat} (h : xr_dom nx (0, c)) (hc : c < 1000) (hk : (xr_sh 0 c).1 = 2) (hj : j < (xr_sh 0 c).2.1) : xr_dom nx (j, 1000 + c) := by
  have e : 1000 + c - 1000 = c := by omega
  refine Or.inr (Or.inl ⟨⟨by show 1000 ≤ 1000 + c; omega, by show 1000 + c < 2000; omega⟩, ?_, ?_⟩)
  · dsimp only
    rw [e]; exact ⟨hk, hj⟩
  · dsimp only
    rw [e]
    rcases h with ⟨-, h | h⟩ | ⟨⟨h, -⟩, -⟩ | ⟨h | h, -⟩
    · exact Or.inl h
    · exact Or.inr h
    · have : 1000 ≤ c := h
      omega
    · have : c = 3000 := h
      omega
    · have : c = 4000 := h
      omega
theorem xr_crel_to (h : xr_crel adr m S z e) (hz : xr_dom (xr_nx S) z) (hwf : xr_wf m S) (he : ∀ z, xr_dom (xr_nx S) z → xr_dom (xr_nx S1) z ∧ adr' z = adr z)
    (hM : ∀ k, xm S1 z.1 z.2 k = xm S z.1 z.2 k) (hp : z = (0, 0) → xr_past S1 = xr_past S ∧ m1.2 = m.2) (hd : z.2 = 0 → 0 < z.1 → xr_d S1 z.1 0 = xr_d S z.1 0) (hi : z = (0, 34) → ∀ j, xr_d S1 0 j = xr_d S 0 j) (hu : ∀ k, (z.1, z.2, k) ∈ m.1 → (z.1, z.2, k) ∈ m1.1) : xr_crel adr' m1 S1 z e := by
  obtain ⟨h0, h2, h3, h8, h100⟩ := h
  obtain ⟨w1, w2, w3⟩ := hwf
  have hMf : xm S1 z.1 z.2 = xm S z.1 z.2 := funext hM
  have hrf : ∀ q : Option Nat, (∀ x, q = some x → xr_dom (xr_nx S) (x, 0)) → xr_rf adr' q = xr_rf adr q := fun q hq => by
    cases q with
    | none => rfl
    | some x => show Value.ref (adr' (x, 0)) = Value.ref (adr (x, 0)); rw [(he _ (hq x rfl)).2]
  refine ⟨fun g => by rw [h0 g, hMf], fun g g1 g2 => ?_, fun g g1 g2 => ?_, h8, fun g => ?_⟩
  · obtain ⟨hh, a1, a2⟩ := h2 g g1 g2
    refine ⟨hh, a1, fun j hj => ?_⟩
    rw [a2 j hj, (he _ (xr_dom_row (by rw [← g1]; exact hz) g2 (by rw [← g1]; exact g) (by rw [← g1]; exact hj))).2]
  · obtain ⟨hh, a1, a2⟩ := h3 g g1 g2
    refine ⟨hh, a1, fun j hj => ?_⟩
    rw [a2 j hj, hi (Prod.ext g1 g2) j]
    cases hq : xr_d S 0 j with
    | none => rfl
    | some q => show some (adr (q, 0)) = some (adr' (q, 0)); rw [(he _ (w2 0 j q hq).2).2]
  · obtain ⟨fl, a1, a2, a3⟩ := h100 g
    refine ⟨fl, a1, a2, fun k c hk => ?_⟩
    obtain ⟨hkl, b1, b2, b3, b4, b5, b6⟩ := a3 k c hk
    refine ⟨hkl, fun g1 g2 => ?_, fun g1 => by rw [b2 g1, hM k], b3, fun g1 g2 g3 => ?_, fun g1 g2 g3 => ?_, fun g1 g2 g3 g4 q hq hq0 => ?_⟩
    · obtain ⟨c1, c2⟩ := b1 g1 (fun g9 => g2 (hu k g9))
      exact ⟨by rw [c1, (he _ c2).2], (he _ c2).1⟩
    · rw [b4 g1 g2 g3, (hp (Prod.ext g2 g3)).1, hrf _ (fun x hx => (w1 x hx).2)]
    · rw [b5 g1 g2 g3, hd g2 g3, hrf _ (fun x hx => (w2 _ _ x hx).2)]
    · rw [(hp (Prod.ext g3 g4)).2] at hq
      rw [b6 g1 g2 g3 g4 q hq hq0, (he _ (w3 _ q hq hq0)).2]
/-- one cell is written -/
theorem xr_Rep_set (hR : xr_Rep adr m S X) {z0 : xr_A} (hz : xr_dom (xr_nx S) z0) (h2 : z0.2 < 2000) {e1 : xq_E} (h1 : S1.1 = S.1 ∧ S1.2.1 = S.2.1 ∧ xr_nx S1 = xr_nx S) (hc : xr_crel adr m1 S1 z0 e1)
    (ho : ∀ z e, xr_dom (xr_nx S) z → z ≠ z0 → xr_crel adr m S z e → xr_crel adr m1 S1 z e) (hw : xr_wf m1 S1) (hf : xr_fr S1) : xr_Rep adr m1 S1 (xq_set X (adr z0) e1) := by
  obtain ⟨⟨a1, a2⟩, a3, a4, a5, a6, a7, a8⟩ := hR
  obtain ⟨b1, b2, b3⟩ := h1
  refine ⟨⟨a1.trans b1.symm, a2.trans b2.symm⟩, fun z hz1 => ?_, fun z z' hz1 hz2 => a4 z z' (by rw [← b3]; exact hz1) (by rw [← b3]; exact hz2), a5, hw, hf.1, hf.2⟩
  rw [b3] at hz1
  obtain ⟨c1, e, c2, c3⟩ := a3 z hz1
  refine ⟨c1, ?_⟩
  by_cases hzz : z = z0
  · subst hzz
    exact ⟨e1, by unfold xq_h xq_set; simp, hc⟩
  · have hne : adr z ≠ adr z0 := fun h9 => hzz (a4 z0 z hz hz1 h2 h9.symm).symm
    refine ⟨e, ?_, ho z e hz1 hzz c3⟩
    unfold xq_h xq_set
    dsimp only
    rw [if_neg hne]; exact c2
/-- the ints of a cell are written -/
theorem xr_Rep_ints (hR : xr_Rep adr m S X) {b c : Nat} (hz : xr_dom (xr_nx S) (b, c)) (h2 : c < 2000) {M : xr_M} (hM : ∀ b' c' k, (b', c') ≠ (b, c) → M b' c' k = xm S b' c' k) {e1 : xq_E} (hc : xr_crel adr m (xs S M) (b, c) e1) : xr_Rep adr m (xs S M) (xq_set X (adr (b, c)) e1) := by
  have hR' := hR
  obtain ⟨⟨a1, a2⟩, a3, a4, a5, a6, a7, a8⟩ := hR
  refine xr_Rep_set hR' hz h2 ⟨rfl, rfl, rfl⟩ hc (fun z e hz1 hne h => xr_crel_to h hz1 a6 (fun z hz => ⟨hz, rfl⟩) (fun k => hM _ _ _ hne) (fun _ => ⟨rfl, rfl⟩) (fun _ _ => rfl) (fun _ _ => rfl) (fun _ h => h)) a6 ⟨fun b' c' k h3 h4 => ?_, a8⟩
  refine (hM b' c' k (fun h9 => ?_)).trans (a7 b' c' k h3 h4)
  rw [h9] at h4; exact h4 hz
theorem xr_crel_arr {b c : Nat} (hk : (xr_sh b c).1 = 0) : xr_crel adr m S (b, c) (.inl (0, (xr_sh b c).2.1, .inl (xm S b c))) := by
  refine ⟨fun _ => rfl, fun h => ?_, fun h => ?_, fun h => ?_, fun h => ?_⟩
  · rw [show (xr_sh (b, c).1 (b, c).2).1 = 0 from hk] at h; cases h
  · rw [show (xr_sh (b, c).1 (b, c).2).1 = 0 from hk] at h; cases h
  · rw [show (xr_sh (b, c).1 (b, c).2).1 = 0 from hk] at h; cases h
  · rw [show (xr_sh (b, c).1 (b, c).2).1 = 0 from hk] at h; omega
/-- an int array's cell -/
theorem xr_Rep_arr (hR : xr_Rep adr m S X) {b c : Nat} (hz : xr_dom (xr_nx S) (b, c)) (hk : (xr_sh b c).1 = 0) : xq_h X (adr (b, c)) = some (.inl (0, (xr_sh b c).2.1, .inl (xm S b c))) := by
  obtain ⟨-, e, h1, h2⟩ := hR.2.1 _ hz
  rw [h1, h2.1 hk]
theorem xr_in_iff {i : Int32} {n : Nat} (h : xr_in i n = true) : ¬ (i < 0 ∨ n ≤ i.toNatClampNeg) ∧ i.toNatClampNeg = xk i ∧ xk i < n := by
  have h := of_decide_eq_true h
  have e : i.toNatClampNeg = i.toInt.toNat := rfl
  refine ⟨fun h9 => ?_, e, ?_⟩
  · rcases h9 with h9 | h9
    · rw [Int32.lt_iff_toInt_lt] at h9
      have : (0 : Int32).toInt = 0 := rfl
      omega
    · omega
  · unfold xk; omega
theorem xr_Rep_iast (hR : xr_Rep adr m S X) {b c : Nat} (hz : xr_dom (xr_nx S) (b, c)) (h2 : c < 2000) (hk : (xr_sh b c).1 = 0) (k : Nat) (x : Int32) : xr_Rep adr m (xs S (xw (xm S) b c k x)) (xq_set X (adr (b, c)) (.inl (0, (xr_sh b c).2.1, .inl (upd (xm S b c) k x)))) := by
  refine xr_Rep_ints hR hz h2 (fun b' c' k' hne => ?_) ?_
  · unfold xw
    rw [if_neg]
    rintro ⟨rfl, rfl, -⟩
    exact hne rfl
  · have e : upd (xm S b c) k x = xm (xs S (xw (xm S) b c k x)) b c := by
      funext j
      show (if j = k then x else xm S b c j) = (if b = b ∧ c = c ∧ j = k then x else xm S b c j)
      simp
    rw [e]
    exact xr_crel_arr hk
theorem xr_sh_lt {b c : Nat} (h : xr_dom (xr_nx S) (b, c)) (hk : (xr_sh b c).1 = 0) : c < 2000 := by
  rcases h with ⟨h, -⟩ | ⟨⟨-, h⟩, -⟩ | ⟨h | h, -⟩
  · have : c < 1000 := h
    omega
  · exact h
  · have : c = 3000 := h
    subst this; cases hk
  · have : c = 4000 := h
    subst this; cases hk
end
