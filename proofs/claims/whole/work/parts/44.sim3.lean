/-! FROM THE NAMED CELLS TO xq, 3: fields -/
section
variable {adr adr' : xr_A → Nat} {m m1 : xr_N} {S S1 : xr_S} {X : xq_X}
theorem xr_Rep_obj (hR : xr_Rep adr m S X) {b c ci : Nat} (hz : xr_dom (xr_nx S) (b, c)) (hk : (xr_sh b c).1 = 100 + ci) : ∃ fl, xq_h X (adr (b, c)) = some (.inr (ci, fl)) ∧ fl.length = (xr_sh b c).2.1 ∧ ∀ (k e : Nat), (xr_sh b c).2.2[k]? = some e → k < fl.length ∧ xr_frel adr m S b c k e fl := by
  obtain ⟨-, e, h1, h2⟩ := hR.2.1 _ hz
  obtain ⟨fl, g1, g2, g3⟩ := h2.2.2.2.2 (by show 100 ≤ (xr_sh b c).1; omega)
  have e1 : (xr_sh (b, c).1 (b, c).2).1 - 100 = ci := by show (xr_sh b c).1 - 100 = ci; omega
  rw [e1] at g1
  exact ⟨fl, by rw [h1, g1], g2, g3⟩
theorem xr_crel_obj {b c ci : Nat} (hk : (xr_sh b c).1 = 100 + ci) {fl : List Value} (h1 : fl.length = (xr_sh b c).2.1) (h2 : ∀ (k e : Nat), (xr_sh b c).2.2[k]? = some e → k < fl.length ∧ xr_frel adr m S b c k e fl) : xr_crel adr m S (b, c) (.inr (ci, fl)) := by
  have e0 : (xr_sh (b, c).1 (b, c).2).1 = 100 + ci := hk
  refine ⟨fun h => ?_, fun h => ?_, fun h => ?_, fun h => ?_, fun h => ⟨fl, ?_, h1, h2⟩⟩
  · omega
  · omega
  · omega
  · omega
  · rw [e0, show 100 + ci - 100 = ci by omega]
theorem xr_fl_ne {fl : List Value} {k j : Nat} {v : Value} (h : j ≠ k) : (fl.set k v)[j]? = fl[j]? := List.getElem?_set_ne (Ne.symm h)
theorem xr_fl_eq {fl : List Value} {k : Nat} {v : Value} (h : k < fl.length) : (fl.set k v)[k]? = some v := List.getElem?_set_self h
/-- an int field is written -/
theorem xr_Rep_putI (hR : xr_Rep adr m S X) {b c ci k : Nat} (hz : xr_dom (xr_nx S) (b, c)) (h2 : c < 2000) (hk : (xr_sh b c).1 = 100 + ci) (he : (xr_sh b c).2.2[k]? = some 0) (x : Int32) {fl : List Value} (hfl : fl.length = (xr_sh b c).2.1) (hfr : ∀ (k e : Nat), (xr_sh b c).2.2[k]? = some e → k < fl.length ∧ xr_frel adr m S b c k e fl) :
    xr_Rep adr m (xs S (xw (xm S) b c k x)) (xq_set X (adr (b, c)) (.inr (ci, fl.set k (.int x)))) := by
  refine xr_Rep_ints hR hz h2 (fun b' c' k' hne => ?_) (xr_crel_obj hk (by rw [List.length_set]; exact hfl) (fun j e hj => ?_))
  · unfold xw
    rw [if_neg]
    rintro ⟨rfl, rfl, -⟩
    exact hne rfl
  · obtain ⟨hl, b1, b2, b3, b4, b5, b6⟩ := hfr j e hj
    refine ⟨by rw [List.length_set]; exact hl, ?_⟩
    by_cases hjk : j = k
    · subst hjk
      rw [he] at hj
      cases hj
      refine ⟨fun h => by omega, fun _ => ?_, fun h => by omega, fun h => by omega, fun h => by omega, fun h => by omega⟩
      rw [xr_fl_eq hl]
      show some (Value.int x) = some (.int (if b = b ∧ c = c ∧ j = j then x else xm S b c j))
      simp
    · unfold xr_frel
      rw [xr_fl_ne hjk]
      refine ⟨b1, fun g => ?_, b3, b4, b5, b6⟩
      rw [b2 g]
      show some (Value.int (xm S b c j)) = some (.int (if b = b ∧ c = c ∧ j = k then x else xm S b c j))
      simp [hjk]
theorem xr_c00 {k : Nat} {e : Nat} (h : (xr_sh 0 0).2.2[k]? = some e) : k < 19 := (List.getElem?_eq_some_iff.mp h).1
theorem xr_c00p : ∀ k, k < 19 → (xr_sh 0 0).2.2[k]? = some 1 → k = 13 := by decide
theorem xr_c00m : ∀ k, k < 19 → ∀ e, e < 9 → 3 ≤ e → (xr_sh 0 0).2.2[k]? = some e → k = e + 4 := by decide
theorem xr_c00n : ∀ k, k < 19 → (xr_sh 0 0).2.2[k]? ≠ some 2 := by decide
/-- past is written -/
theorem xr_Rep_putP (hR : xr_Rep adr m S X) {k : Nat} (hz : xr_dom (xr_nx S) (0, 0)) (he : (xr_sh 0 0).2.2[k]? = some 1) (q : Option Nat) (hq : ∀ x, q = some x → 0 < x ∧ xr_dom (xr_nx S) (x, 0)) {fl : List Value} (hfl : fl.length = (xr_sh 0 0).2.1) (hfr : ∀ (k e : Nat), (xr_sh 0 0).2.2[k]? = some e → k < fl.length ∧ xr_frel adr m S 0 0 k e fl) :
    xr_Rep adr m (xr_sp S q) (xq_set X (adr (0, 0)) (.inr (10, fl.set k (xr_rf adr q)))) := by
  have hR' := hR
  obtain ⟨⟨a1, a2⟩, a3, a4, a5, a6, a7, a8⟩ := hR
  refine xr_Rep_set hR' hz (by decide) ⟨rfl, rfl, rfl⟩ (xr_crel_obj (ci := 10) rfl (by rw [List.length_set]; exact hfl) (fun j e hj => ?_)) (fun z e hz1 hne h => xr_crel_to h hz1 a6 (fun z hz => ⟨hz, rfl⟩) (fun k => rfl) (fun h9 => absurd h9 hne) (fun _ _ => rfl) (fun _ _ => rfl) (fun _ h => h)) ⟨hq, a6.2.1, a6.2.2⟩ ⟨a7, a8⟩
  obtain ⟨hl, b1, b2, b3, b4, b5, b6⟩ := hfr j e hj
  refine ⟨by rw [List.length_set]; exact hl, ?_⟩
  by_cases hjk : j = k
  · subst hjk
    rw [he] at hj
    cases hj
    refine ⟨fun h => by omega, fun h => by omega, fun h => by omega, fun _ _ _ => ?_, fun h => by omega, fun h => by omega⟩
    rw [xr_fl_eq hl]; rfl
  · unfold xr_frel
    rw [xr_fl_ne hjk]
    refine ⟨b1, b2, b3, fun g _ _ => ?_, b5, b6⟩
    subst g
    have e1 := xr_c00p j (xr_c00 hj) hj
    have e2 := xr_c00p k (xr_c00 he) he
    omega
/-- plan, .. is written -/
theorem xr_Rep_putM (hR : xr_Rep adr m S X) {k e : Nat} (hz : xr_dom (xr_nx S) (0, 0)) (he : (xr_sh 0 0).2.2[k]? = some e) (he3 : 3 ≤ e) (he9 : e < 9) (q : Nat) (hq : xr_dom (xr_nx S) (0, q)) {fl : List Value} (hfl : fl.length = (xr_sh 0 0).2.1) (hfr : ∀ (k e : Nat), (xr_sh 0 0).2.2[k]? = some e → k < fl.length ∧ xr_frel adr m S 0 0 k e fl) :
    xr_Rep adr (m.1, m.2.set (e - 3) q) S (xq_set X (adr (0, 0)) (.inr (10, fl.set k (.ref (adr (0, q)))))) := by
  have hR' := hR
  obtain ⟨⟨a1, a2⟩, a3, a4, a5, a6, a7, a8⟩ := hR
  refine xr_Rep_set hR' hz (by decide) ⟨rfl, rfl, rfl⟩ (xr_crel_obj (ci := 10) rfl (by rw [List.length_set]; exact hfl) (fun j e' hj => ?_)) (fun z e hz1 hne h => xr_crel_to h hz1 a6 (fun z hz => ⟨hz, rfl⟩) (fun k => rfl) (fun h9 => absurd h9 hne) (fun _ _ => rfl) (fun _ _ => rfl) (fun _ h => h)) ⟨a6.1, a6.2.1, fun i p hi hp => ?_⟩ ⟨a7, a8⟩
  · obtain ⟨hl, b1, b2, b3, b4, b5, b6⟩ := hfr j e' hj
    refine ⟨by rw [List.length_set]; exact hl, ?_⟩
    by_cases hjk : j = k
    · subst hjk
      rw [he] at hj
      cases hj
      refine ⟨fun h => by omega, fun h => by omega, fun h => by omega, fun h => by omega, fun h => by omega, fun _ _ _ _ p hp hp0 => ?_⟩
      have hp : (m.2.set (e - 3) q)[e - 3]? = some p := hp
      have : p = q := by
        rw [List.getElem?_set] at hp
        simp only [if_true] at hp
        split at hp
        · exact (Option.some.inj hp).symm
        · cases hp
      subst this
      rw [xr_fl_eq hl]
    · unfold xr_frel
      rw [xr_fl_ne hjk]
      refine ⟨b1, b2, b3, b4, b5, fun g1 g2 g3 g4 p hp hp0 => ?_⟩
      have hee : e' ≠ e := fun h9 => by
        subst h9
        have e1 := xr_c00m j (xr_c00 hj) e' g2 g1 hj
        have e2 := xr_c00m k (xr_c00 he) e' g2 g1 he
        omega
      have hp : (m.2.set (e - 3) q)[e' - 3]? = some p := hp
      rw [List.getElem?_set_ne (by omega)] at hp
      exact b6 g1 g2 g3 g4 p hp hp0
  · have hi : (m.2.set (e - 3) q)[i]? = some p := hi
    rw [List.getElem?_set] at hi
    split at hi
    · split at hi
      · cases hi; exact hq
      · cases hi
    · exact a6.2.2 i p hi hp
theorem xr_cSe : ∀ k, k < 3 → (xr_sh 1 0).2.2[k]? = some 2 → k = 1 := by decide
/-- a Saved's earlier is written -/
theorem xr_Rep_putE (hR : xr_Rep adr m S X) {b ci k : Nat} (hb : 0 < b) (hz : xr_dom (xr_nx S) (b, 0)) (hk : (xr_sh b 0).1 = 100 + ci) (he : (xr_sh b 0).2.2[k]? = some 2) (q : Option Nat) (hq : ∀ x, q = some x → 0 < x ∧ xr_dom (xr_nx S) (x, 0)) {fl : List Value} (hfl : fl.length = (xr_sh b 0).2.1) (hfr : ∀ (k e : Nat), (xr_sh b 0).2.2[k]? = some e → k < fl.length ∧ xr_frel adr m S b 0 k e fl) :
    xr_Rep adr m (xr_sd S (xr_up (xr_d S) b 0 q)) (xq_set X (adr (b, 0)) (.inr (ci, fl.set k (xr_rf adr q)))) := by
  obtain ⟨b', rfl⟩ : ∃ b', b = b' + 1 := ⟨b - 1, by omega⟩
  have hR' := hR
  obtain ⟨⟨a1, a2⟩, a3, a4, a5, a6, a7, a8⟩ := hR
  have hup : ∀ x y, x ≠ b' + 1 ∨ y ≠ 0 → xr_up (xr_d S) (b' + 1) 0 q x y = xr_d S x y := fun x y h => by
    unfold xr_up
    rw [if_neg]
    rintro ⟨rfl, rfl⟩
    rcases h with h | h <;> exact h rfl
  refine xr_Rep_set hR' hz (show (0 : Nat) < 2000 by decide) ⟨rfl, rfl, rfl⟩ (xr_crel_obj hk (by rw [List.length_set]; exact hfl) (fun j e hj => ?_)) (fun z e hz1 hne h => xr_crel_to h hz1 a6 (fun z hz => ⟨hz, rfl⟩) (fun k => rfl) (fun _ => ⟨rfl, rfl⟩) (fun h9 _ => hup _ _ ?_) (fun h9 j => hup 0 j (Or.inl (by omega))) (fun _ h => h)) ⟨a6.1, fun x y p hp => ?_, a6.2.2⟩ ⟨a7, fun x y hx => ?_⟩
  · obtain ⟨hl, b1, b2, b3, b4, b5, b6⟩ := hfr j e hj
    refine ⟨by rw [List.length_set]; exact hl, ?_⟩
    by_cases hjk : j = k
    · subst hjk
      rw [he] at hj
      cases hj
      refine ⟨fun h => by omega, fun h => by omega, fun h => by omega, fun h => by omega, fun _ _ _ => ?_, fun h => by omega⟩
      rw [xr_fl_eq hl]
      show some (xr_rf adr q) = some (xr_rf adr (if b' + 1 = b' + 1 ∧ 0 = 0 then q else xr_d S (b' + 1) 0))
      simp
    · unfold xr_frel
      rw [xr_fl_ne hjk]
      refine ⟨b1, b2, b3, b4, fun g _ _ => ?_, b6⟩
      subst g
      have e1 := xr_cSe j (List.getElem?_eq_some_iff.mp hj).1 hj
      have e2 := xr_cSe k (List.getElem?_eq_some_iff.mp he).1 he
      omega
  · by_cases h8 : z.1 = b' + 1
    · exact absurd (Prod.ext h8 h9) hne
    · exact Or.inl h8
  · have hp : xr_up (xr_d S) (b' + 1) 0 q x y = some p := hp
    unfold xr_up at hp
    split at hp
    · exact hq p hp
    · exact a6.2.1 x y p hp
  · refine (hup x y ?_).trans (a8 x y hx)
    by_cases h8 : x = b' + 1
    · subst h8
      exact absurd hz hx
    · exact Or.inl h8
/-- a field of fixed target is written -/
theorem xr_Rep_putF (hR : xr_Rep adr m S X) {b c ci k e : Nat} (hz : xr_dom (xr_nx S) (b, c)) (h2 : c < 2000) (hk : (xr_sh b c).1 = 100 + ci) (he : (xr_sh b c).2.2[k]? = some e) (he10 : 10 ≤ e) {u : List (Nat × Nat × Nat)} (hu : m.1 = (b, c, k) :: u) (ht : xr_dom (xr_nx S) (b, c + (e - 10))) {fl : List Value} (hfl : fl.length = (xr_sh b c).2.1) (hfr : ∀ (k e : Nat), (xr_sh b c).2.2[k]? = some e → k < fl.length ∧ xr_frel adr m S b c k e fl) :
    xr_Rep adr (u, m.2) S (xq_set X (adr (b, c)) (.inr (ci, fl.set k (.ref (adr (b, c + (e - 10))))))) := by
  have hR' := hR
  obtain ⟨⟨a1, a2⟩, a3, a4, a5, a6, a7, a8⟩ := hR
  have hmem : ∀ q, q ∈ m.1 → q ≠ (b, c, k) → q ∈ u := fun q hq hne => by
    rw [hu] at hq
    rcases List.mem_cons.mp hq with h | h
    · exact absurd h hne
    · exact h
  refine xr_Rep_set hR' hz h2 ⟨rfl, rfl, rfl⟩ (xr_crel_obj hk (by rw [List.length_set]; exact hfl) (fun j e' hj => ?_)) (fun z e hz1 hne h => xr_crel_to h hz1 a6 (fun z hz => ⟨hz, rfl⟩) (fun k => rfl) (fun _ => ⟨rfl, rfl⟩) (fun _ _ => rfl) (fun _ _ => rfl) (fun k' h => hmem _ h (fun h9 => hne ?_))) a6 ⟨a7, a8⟩
  · obtain ⟨hl, b1, b2, b3, b4, b5, b6⟩ := hfr j e' hj
    refine ⟨by rw [List.length_set]; exact hl, ?_⟩
    by_cases hjk : j = k
    · subst hjk
      rw [he] at hj
      cases hj
      refine ⟨fun _ _ => ⟨?_, ht⟩, fun h => by omega, fun h => by omega, fun h => by omega, fun h => by omega, fun h => by omega⟩
      rw [xr_fl_eq hl]
    · unfold xr_frel
      rw [xr_fl_ne hjk]
      refine ⟨fun g1 g2 => b1 g1 (fun g3 => g2 (hmem _ g3 (fun g4 => ?_))), b2, b3, b4, b5, b6⟩
      cases g4; exact hjk rfl
  · cases h9; rfl
/-- a place of images is written -/
theorem xr_Rep_aast (hR : xr_Rep adr m S X) (hz : xr_dom (xr_nx S) (0, 34)) {k : Nat} (hk : k < 3) (q : Option Nat) (hq : ∀ x, q = some x → 0 < x ∧ xr_dom (xr_nx S) (x, 0)) {h : Nat → Option Nat} (hh : ∀ j, j < 3 → h j = (xr_d S 0 j).map (fun q => adr (q, 0))) :
    xr_Rep adr m (xr_sd S (xr_up (xr_d S) 0 k q)) (xq_set X (adr (0, 34)) (.inl (3, 3, .inr (.inr (.inr (.inr (va_up h k (q.map (fun q => adr (q, 0)))))))))) := by
  have hR' := hR
  obtain ⟨⟨a1, a2⟩, a3, a4, a5, a6, a7, a8⟩ := hR
  refine xr_Rep_set hR' hz (by decide) ⟨rfl, rfl, rfl⟩ ⟨fun h => ?_, fun h => ?_, fun _ _ _ => ⟨_, rfl, fun j hj => ?_⟩, fun h => ?_, fun h => ?_⟩ (fun z e hz1 hne h => xr_crel_to h hz1 a6 (fun z hz => ⟨hz, rfl⟩) (fun k => rfl) (fun _ => ⟨rfl, rfl⟩) (fun h9 h8 => ?_) (fun h9 j => absurd h9 hne) (fun _ h => h)) ⟨a6.1, fun x y p hp => ?_, a6.2.2⟩ ⟨a7, fun x y hx => ?_⟩
  · cases h
  · cases h
  · have hj : j < 3 := hj
    show va_up h k (q.map (fun q => adr (q, 0))) j = Option.map (fun q => adr (q, 0)) (if 0 = 0 ∧ j = k then q else xr_d S 0 j)
    unfold va_up
    by_cases hjk : j = k
    · simp [hjk]
    · simp [hjk, hh j hj]
  · cases h
  · have : 100 ≤ 3 := h
    omega
  · show xr_up (xr_d S) 0 k q z.1 0 = xr_d S z.1 0
    unfold xr_up
    rw [if_neg (by omega)]
  · have hp : xr_up (xr_d S) 0 k q x y = some p := hp
    unfold xr_up at hp
    split at hp
    · exact hq p hp
    · exact a6.2.1 x y p hp
  · show xr_up (xr_d S) 0 k q x y = none
    unfold xr_up
    split
    · rename_i h9
      obtain ⟨rfl, rfl⟩ := h9
      exact absurd hz hx
    · exact a8 x y hx
end
