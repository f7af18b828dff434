/-! THE CELLS NAMED ANEW when plan, law or thumb changed places -/
def swc (lo n c : Nat) : Nat := if lo ≤ c ∧ c < lo + n then c + n else if lo + n ≤ c ∧ c < lo + 2 * n then c - n else c
def swz (lo n : Nat) (z : xr_A) : xr_A := if z.1 = 0 then (0, swc lo n z.2) else z
theorem swc_ge {lo n c : Nat} (h : lo + 2 * n ≤ c) : swc lo n c = c := by unfold swc; rw [if_neg (by omega), if_neg (by omega)]
theorem swc_sw {lo n : Nat} (c : Nat) : swc lo n (swc lo n c) = c := by
  unfold swc
  by_cases h1 : lo ≤ c ∧ c < lo + n
  · rw [if_pos h1, if_neg (by omega), if_pos (by omega)]; omega
  · rw [if_neg h1]
    by_cases h2 : lo + n ≤ c ∧ c < lo + 2 * n
    · rw [if_pos h2, if_pos (by omega)]; omega
    · rw [if_neg h2, if_neg h1, if_neg h2]
theorem swc_lt {lo n B : Nat} (h : lo + 2 * n ≤ B) (c : Nat) : swc lo n c < B ↔ c < B := by
  unfold swc
  split
  · omega
  · split <;> omega
theorem swz_sw {lo n : Nat} (z : xr_A) : swz lo n (swz lo n z) = z := by
  obtain ⟨b, c⟩ := z
  unfold swz
  by_cases h : b = 0
  · subst h; simp [swc_sw]
  · simp [h]
def swOk (lo n : Nat) (m : xr_N) : Prop := (lo + 2 * n ≤ 95 ∧ 0 < lo) ∧ (∀ c, c < 95 → xr_sh 0 (swc lo n c) = xr_sh 0 c) ∧ (∀ c, c < 95 → ∀ e ∈ (xr_sh 0 c).2.2, 10 ≤ e → swc lo n (c + (e - 10)) = swc lo n c + (e - 10)) ∧ (∀ c, c < 95 → (xr_sh 0 c).1 = 2 ∨ (xr_sh 0 c).1 = 3 → swc lo n c = c) ∧ m.1 = [] ∧ ∀ j q : Nat, xMd.2[j]? = some q → m.2[j]? = some (swc lo n q)
theorem swz_dom {lo n N : Nat} (h : lo + 2 * n ≤ 95) (z : xr_A) : xr_dom (N + 1, 0) (swz lo n z) ↔ xr_dom (N + 1, 0) z := by
  obtain ⟨b, c⟩ := z
  unfold swz
  by_cases hb : b = 0
  · subst hb
    rw [if_pos rfl]
    by_cases hc : c < 95
    · have h1 := (swc_lt (B := 95) h c).mpr hc
      have e : ∀ x, x < 95 → xr_dom (N + 1, 0) (0, x) := fun x hx => Or.inl ⟨(by show x < 1000; omega), Or.inr ⟨Nat.succ_pos _, hx⟩⟩
      exact ⟨fun _ => e _ hc, fun _ => e _ h1⟩
    · rw [swc_ge (by dsimp only; omega)]
  · rw [if_neg hb]
theorem swz_2 {lo n : Nat} (h : lo + 2 * n ≤ 95) (z : xr_A) : (swz lo n z).2 < 2000 ↔ z.2 < 2000 := by
  unfold swz
  by_cases hb : z.1 = 0
  · rw [if_pos hb]; exact swc_lt (by omega) _
  · rw [if_neg hb]
theorem swz_q {lo n : Nat} (h : 0 < lo) (q : Nat) : swz lo n (q, 0) = (q, 0) := by
  unfold swz
  by_cases hb : q = 0
  · subst hb; rw [if_pos rfl]; unfold swc; rw [if_neg (by dsimp only; omega), if_neg (by dsimp only; omega)]
  · rw [if_neg hb]
theorem swz_ge {lo n : Nat} (h : lo + 2 * n ≤ 95) {b c : Nat} (hc : 95 ≤ c) : swz lo n (b, c) = (b, c) := by
  unfold swz
  by_cases hb : b = 0
  · subst hb; rw [if_pos rfl, swc_ge (by dsimp only; omega)]
  · rw [if_neg hb]
theorem rep_sw {lo n N : Nat} {m : xr_N} {S : xr_S} {M : xr_M} {X : xq_X} {adr : xr_A → Nat} (K : swOk lo n m) (hN : S.2.2.1 = (N + 1, 0)) (hM : ∀ b c, M b c = xm S (swz lo n (b, c)).1 (swz lo n (b, c)).2) (R : xr_Rep adr m S X) : xr_Rep (fun z => adr (swz lo n z)) xMd (xs S M) X := by
  obtain ⟨⟨k1, k0⟩, ksh, kf, kf2, km, kq⟩ := K
  obtain ⟨a1, a3, a4, a5, ⟨a6, a7, a8⟩, a9, a10⟩ := R
  have en : xr_nx (xs S M) = (N + 1, 0) := hN
  have en0 : xr_nx S = (N + 1, 0) := hN
  have em : xm (xs S M) = M := rfl
  have esh : ∀ z, xr_dom (N + 1, 0) z → xr_sh (swz lo n z).1 (swz lo n z).2 = xr_sh z.1 z.2 := by
    intro z hz
    obtain ⟨b, c⟩ := z
    by_cases hc : 95 ≤ c
    · rw [swz_ge k1 hc]
    · unfold swz
      by_cases hb : b = 0
      · subst hb; rw [if_pos rfl]; exact ksh c (by omega)
      · rw [if_neg hb]
  refine ⟨a1, fun z hz => ?_, fun z z' hz hz' h2 he => ?_, fun k hk => ?_, ⟨fun q hq => ?_, fun b k q hq => ?_, fun j q hj hq => ?_⟩, fun b c k hc hz => ?_, fun b k hz => ?_⟩
  · rw [en] at hz
    obtain ⟨c1, e, c2, c3⟩ := a3 (swz lo n z) (by rw [en0]; exact (swz_dom k1 z).mpr hz)
    refine ⟨c1, e, c2, ?_⟩
    have es := esh z hz
    obtain ⟨g0, g2, g3, g8, g100⟩ := c3
    rw [es] at g0 g2 g3 g8 g100
    obtain ⟨b, c⟩ := z
    have fx : (xr_sh b c).1 = 2 ∨ (xr_sh b c).1 = 3 → c < 1000 → swz lo n (b, c) = (b, c) := by
      intro h h2
      by_cases hb : b = 0
      · subst hb
        by_cases hc : 95 ≤ c
        · exact swz_ge k1 hc
        · unfold swz; rw [if_pos rfl, kf2 c (by omega) h]
      · unfold swz; rw [if_neg hb]
    refine ⟨fun h => ?_, fun h h1 h2 => ?_, fun h h1 h2 => ?_, fun h => ?_, fun h => ?_⟩
    · rw [g0 h, em, hM]
    · dsimp only at h1 h2
      have f := fx (Or.inl h) h2
      rw [f] at g2
      obtain ⟨hh, e1, e2⟩ := g2 h h1 h2
      refine ⟨hh, e1, fun j hj => ?_⟩
      rw [e2 j hj]
      show some (adr (j, 1000 + c)) = some (adr (swz lo n (j, 1000 + c)))
      rw [swz_ge k1 (by omega)]
    · dsimp only at h1 h2
      have f := fx (Or.inr h) (by omega)
      rw [f] at g3
      obtain ⟨hh, e1, e2⟩ := g3 h h1 h2
      refine ⟨hh, e1, fun j hj => ?_⟩
      rw [e2 j hj]
      show (xr_d S 0 j).map _ = (xr_d S 0 j).map _
      cases xr_d S 0 j with
      | none => rfl
      | some q => show some (adr (q, 0)) = some (adr (swz lo n (q, 0))); rw [swz_q k0]
    · have f : swz lo n (b, c) = (b, c) := by
        by_cases hb : b = 0
        · subst hb
          by_cases hc : 95 ≤ c
          · exact swz_ge k1 hc
          · exfalso
            have : ∀ c, c < 95 → (xr_sh 0 c).1 ≠ 8 := by decide
            exact this c (by omega) h
        · unfold swz; rw [if_neg hb]
      rw [f] at g8
      exact g8 h
    · obtain ⟨fl, e1, e2, e3⟩ := g100 h
      refine ⟨fl, e1, e2, fun k cc hk => ?_⟩
      obtain ⟨f1, f2⟩ := e3 k cc hk
      refine ⟨f1, ?_⟩
      dsimp only at hk
      have add : 10 ≤ cc → swz lo n (b, c + (cc - 10)) = ((swz lo n (b, c)).1, (swz lo n (b, c)).2 + (cc - 10)) := by
        intro h10
        by_cases hb : b = 0
        · subst hb
          by_cases hc : 95 ≤ c
          · rw [swz_ge k1 hc, swz_ge k1 (by omega)]
          · unfold swz; rw [if_pos rfl, if_pos rfl]; dsimp only; rw [kf c (by omega) cc (List.mem_of_getElem? hk) h10]
        · unfold swz; rw [if_neg hb, if_neg hb]
      have zz : b = 0 → c = 0 → swz lo n (b, c) = (b, c) := by intro h1 h2; subst h2; exact swz_q k0 b
      obtain ⟨r1, r2, r3, r4, r5, r6⟩ := f2
      refine ⟨fun h10 hm => ?_, fun h0 => ?_, r3, fun h1 hb hc => ?_, fun h1 hc hb => ?_, fun h1 h2 hb hc q hq hq0 => ?_⟩
      · obtain ⟨s1, s2⟩ := r1 h10 (by rw [km]; simp)
        have ad := add h10
        refine ⟨?_, ?_⟩
        · rw [s1]; show _ = some (Value.ref (adr (swz lo n (b, c + (cc - 10))))); rw [ad]
        · rw [en, ← swz_dom (lo := lo) (n := n) k1]
          show xr_dom _ (swz lo n (b, c + (cc - 10))); rw [ad, ← en0]; exact s2
      · rw [r2 h0, em, hM]
      · have f := zz hb hc
        rw [f] at r4
        rw [r4 h1 hb hc]
        show some (xr_rf adr (xr_past S)) = some (xr_rf _ (xr_past S))
        cases xr_past S with
        | none => rfl
        | some q => show some (Value.ref (adr (q, 0))) = some (Value.ref (adr (swz lo n (q, 0)))); rw [swz_q k0]
      · have f : swz lo n (b, c) = (b, c) := by dsimp only at hc; rw [hc]; exact swz_q k0 b
        rw [f] at r5
        rw [r5 h1 hc hb]
        show some (xr_rf adr (xr_d S b 0)) = some (xr_rf _ (xr_d S b 0))
        cases xr_d S b 0 with
        | none => rfl
        | some q => show some (Value.ref (adr (q, 0))) = some (Value.ref (adr (swz lo n (q, 0)))); rw [swz_q k0]
      · have f := zz hb hc
        rw [f] at r6
        have h9 : swc lo n q ≠ 0 := by
          intro h9
          have h8 : swc lo n (swc lo n q) = swc lo n 0 := by rw [h9]
          rw [swc_sw] at h8
          have : swc lo n 0 = 0 := by unfold swc; rw [if_neg (by omega), if_neg (by omega)]
          exact hq0 (h8.trans this)
        rw [r6 h1 h2 hb hc (swc lo n q) (kq _ _ hq) h9]
        rfl
  · rw [en] at hz hz'
    have := a4 _ _ (by rw [en0]; exact (swz_dom k1 z).mpr hz) (by rw [en0]; exact (swz_dom k1 z').mpr hz') ((swz_2 k1 z).mpr h2) he
    rw [← swz_sw (lo := lo) (n := n) z, this, swz_sw]
  · show _ = adr (swz lo n (k, 3000)); rw [swz_ge k1 (by omega)]; exact a5 k hk
  · exact a6 q hq
  · exact a7 b k q hq
  · have h := kq j q hj
    have h9 : swc lo n q ≠ 0 := by
      intro h9
      have h8 : swc lo n (swc lo n q) = swc lo n 0 := by rw [h9]
      rw [swc_sw] at h8
      have : swc lo n 0 = 0 := by unfold swc; rw [if_neg (by omega), if_neg (by omega)]
      exact hq (h8.trans this)
    have := a8 j _ h h9
    rw [en0] at this
    rw [en, ← swz_dom (lo := lo) (n := n) k1]
    exact this
  · rw [em, hM]
    refine a9 _ _ k ((swz_2 k1 (b, c)).mpr hc) (fun h => hz ?_)
    rw [en0] at h
    rw [en]
    exact (swz_dom k1 (b, c)).mp h
  · exact a10 b k hz
theorem swOk_l : swOk 53 5 xMl := ⟨by decide, by decide, by decide, by decide, rfl, by
  intro j q h
  match j, h with
  | 0, h => cases h; rfl
  | 1, h => cases h; rfl
  | 2, h => cases h; rfl
  | 3, h => cases h; rfl
  | 4, h => cases h; rfl
  | 5, h => cases h; rfl
  | j + 6, h => cases h⟩
theorem swOk_t : swOk 63 3 xMt := ⟨by decide, by decide, by decide, by decide, rfl, by
  intro j q h
  match j, h with
  | 0, h => cases h; rfl
  | 1, h => cases h; rfl
  | 2, h => cases h; rfl
  | 3, h => cases h; rfl
  | 4, h => cases h; rfl
  | 5, h => cases h; rfl
  | j + 6, h => cases h⟩
theorem swOk_h : swOk 35 9 xMh := ⟨by decide, by decide, by decide, by decide, rfl, by
  intro j q h
  match j, h with
  | 0, h => cases h; rfl
  | 1, h => cases h; rfl
  | 2, h => cases h; rfl
  | 3, h => cases h; rfl
  | 4, h => cases h; rfl
  | 5, h => cases h; rfl
  | j + 6, h => cases h⟩
/-- whatever changed places: the cells have names so that the mode is the usual one; PotHill and the model keep theirs -/
theorem rep_swp {m : xr_N} {S T : xr_S} {X : xq_X} {adr : xr_A → Nat} {N : Nat} (h : swp m S T) (hN : T.2.2.1 = (N + 1, 0)) (R : xr_Rep adr m S X) : ∃ adr', xr_Rep adr' xMd T X ∧ adr' (0, 0) = adr (0, 0) ∧ adr' (0, 69) = adr (0, 69) ∧ ∀ z, xr_dom (xr_nx T) z → ∃ z', xr_dom (xr_nx S) z' ∧ adr' z = adr z' ∧ (z.2 < 2000 → z'.2 < 2000) := by
  rcases h with ⟨rfl, rfl⟩ | ⟨rfl, rfl⟩ | ⟨rfl, rfl⟩ | ⟨rfl, rfl⟩
  · exact ⟨adr, R, rfl, rfl, fun z hz => ⟨z, hz, rfl, id⟩⟩
  all_goals
    refine ⟨_, rep_sw (by first | exact swOk_l | exact swOk_t | exact swOk_h) hN (fun b c => ?_) R, rfl, rfl, fun z hz => ⟨_, ?_, rfl, (swz_2 (by omega) z).mpr⟩⟩
    · funext k
      by_cases hb : b = 0
      · subst hb
        first | unfold xSwL | unfold xSwT | unfold xSwP
        unfold swz swc
        simp only [true_and, if_true]
        split
        · rw [if_pos (by omega)]
        · split
          · rw [if_neg (by omega), if_pos (by omega)]
          · rw [if_neg (by omega), if_neg (by omega)]
      · first | unfold xSwL | unfold xSwT | unfold xSwP
        unfold swz
        simp only [hb, false_and, if_false]
    · have e1 : xr_nx S = (N + 1, 0) := hN
      have e2 : xr_dom (N + 1, 0) z := by rw [← hN]; exact hz
      rw [e1]
      exact (swz_dom (by omega) z).mpr e2
