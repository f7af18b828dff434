/-! SOUNDNESS, 4: arrays, makings, copies -/
section
variable {B : Nat} {dC : Nat → ClassId} {dI : Nat → Nat → Nat} {ac : Nat → ClassId}
variable {p : Program} {l : Launch} {e : Env} {R : Room} {s : State} {m : MethodId} {args : Array Value} {below : List Frame} {meth : Method} {c : Code} {H : Heap} {locs : List Loc} {cells slots : Nat} {Q : State → Prop} {i d pc : Nat} {X0 X : xq_X} {ls : Array Slot} {rest : List Value}
theorem xq_in {j : Int32} {n : Nat} (h : ¬ (j < 0 ∨ n ≤ j.toNatClampNeg)) : ¬ (j < 0) ∧ j.toNatClampNeg < n := ⟨fun q => h (Or.inl q), Nat.not_le.mp fun q => h (Or.inr q)⟩
theorem xq_iald_W (hF : xq_Fr B dC dI ac p l R s m args meth c i d X0) (hJ : xq_J B dC dI ac X s s.heap H) (hS : va_S (xq_A B) s.heap H locs) (hd : decode (xq_by i) pc = .ok (.iaload, 1)) {a k n : Nat} {j : Int32} {g : Nat → Int32} (hh : xq_h X a = some (.inl (k, n, .inl g))) (hk : k = 0 ∨ k = 9) (hin : ¬ (j < 0 ∨ n ≤ j.toNatClampNeg))
    (kk : W p l e R s m args below meth c H locs cells slots Q (F0 m (pc + 1) ls (.int (g j.toNatClampNeg) :: rest))) : W p l e R s m args below meth c H locs cells slots Q (F0 m pc ls (.int j :: .ref a :: rest)) := by
  obtain ⟨⟨hx, hb, hml, hr⟩, ⟨hts, hown, hlocks, hname⟩, -, ⟨hK, hG, hB, hN⟩⟩ := hF
  obtain ⟨h1, h2, h3⟩ := hJ.2 _ _ hh
  rcases hk with rfl | rfl
  · have hat := (h2 rfl).2
    exact W.iald (v := .int (g j.toNatClampNeg)) hx hb hat ((hK.2 0 (ac 0, .int) rfl).1 n (fun j => .int (g j))) (fun q => by cases q) (by show ¬ (j < 0 ∨ (arrV _ _ _).slots.size ≤ _); rw [arrV_size]; exact hin) (by show (arrV _ _ _).slots[_]? = _; rw [arrV_read _ _ (xq_in hin).2]) rfl rfl hd kk
  · rcases h3 rfl with ⟨h9, -⟩ | ⟨-, hX, hlt, hA⟩
    · cases h9
    · exact va_sld hx hb hX hlt hA hS hin hd kk
theorem xq_bald_W (hF : xq_Fr B dC dI ac p l R s m args meth c i d X0) (hJ : xq_J B dC dI ac X s s.heap H) (hS : va_S (xq_A B) s.heap H locs) (hd : decode (xq_by i) pc = .ok (.baload, 1)) {a n : Nat} {j : Int32} {g : Nat → Int32} (hh : xq_h X a = some (.inl (8, n, .inl g))) (hin : ¬ (j < 0 ∨ n ≤ j.toNatClampNeg))
    (kk : W p l e R s m args below meth c H locs cells slots Q (F0 m (pc + 1) ls (.int (g j.toNatClampNeg) :: rest))) : W p l e R s m args below meth c H locs cells slots Q (F0 m pc ls (.int j :: .ref a :: rest)) := by
  obtain ⟨⟨hx, hb, hml, hr⟩, ⟨hts, hown, hlocks, hname⟩, -, ⟨hK, hG, hB, hN⟩⟩ := hF
  obtain ⟨h1, h2, h3⟩ := hJ.2 _ _ hh
  rcases h3 rfl with ⟨-, hT⟩ | ⟨h9, -⟩
  · exact va_tb hx hb hT hS hin rfl hd kk
  · cases h9
theorem xq_lald_W (hF : xq_Fr B dC dI ac p l R s m args meth c i d X0) (hJ : xq_J B dC dI ac X s s.heap H) (hd : decode (xq_by i) pc = .ok (.laload, 1)) {a n : Nat} {j : Int32} {g : Nat → Int64} (hh : xq_h X a = some (.inl (1, n, .inr (.inl g)))) (hin : ¬ (j < 0 ∨ n ≤ j.toNatClampNeg))
    (kk : W p l e R s m args below meth c H locs cells slots Q (F0 m (pc + 1) ls (.long (g j.toNatClampNeg) :: rest))) : W p l e R s m args below meth c H locs cells slots Q (F0 m pc ls (.int j :: .ref a :: rest)) := by
  obtain ⟨⟨hx, hb, hml, hr⟩, ⟨hts, hown, hlocks, hname⟩, -, ⟨hK, hG, hB, hN⟩⟩ := hF
  obtain ⟨h1, h2, h3⟩ := hJ.2 _ _ hh
  have hat := (h2 rfl).2
  exact W.lald (v := .long (g j.toNatClampNeg)) hx hb hat ((hK.2 1 (ac 1, .long) rfl).1 n (fun j => .long (g j))) (fun q => by cases q) (by show ¬ (j < 0 ∨ (arrV _ _ _).slots.size ≤ _); rw [arrV_size]; exact hin) (by show (arrV _ _ _).slots[_]? = _; rw [arrV_read _ _ (xq_in hin).2]) rfl rfl hd kk
theorem xq_aald_W (hF : xq_Fr B dC dI ac p l R s m args meth c i d X0) (hJ : xq_J B dC dI ac X s s.heap H) (hd : decode (xq_by i) pc = .ok (.aaload, 1)) {a k n : Nat} {j : Int32} {g : Nat → Option Nat} (hh : xq_h X a = some (.inl (k, n, .inr (.inr (.inr (.inr g)))))) (hk : k = 2 ∨ k = 3) (hin : ¬ (j < 0 ∨ n ≤ j.toNatClampNeg))
    (kk : W p l e R s m args below meth c H locs cells slots Q (F0 m (pc + 1) ls (va_rf (g j.toNatClampNeg) :: rest))) : W p l e R s m args below meth c H locs cells slots Q (F0 m pc ls (.int j :: .ref a :: rest)) := by
  obtain ⟨⟨hx, hb, hml, hr⟩, ⟨hts, hown, hlocks, hname⟩, -, ⟨hK, hG, hB, hN⟩⟩ := hF
  obtain ⟨h1, h2, h3⟩ := hJ.2 _ _ hh
  rcases hk with rfl | rfl
  · have hat := (h2 rfl).2
    exact W.aald (v := va_rf (g j.toNatClampNeg)) (ty := .array .int) hx hb hat ((hK.2 2 (ac 2, .array .int) rfl).1 n (fun j => va_rf (g j))) rfl (fun q => by cases q) (by show ¬ (j < 0 ∨ (arrV _ _ _).slots.size ≤ _); rw [arrV_size]; exact hin) (by show (arrV _ _ _).slots[_]? = _; rw [arrV_read _ _ (xq_in hin).2]) rfl rfl hd kk
  · have hat := (h2 rfl).2
    exact W.aald (v := va_rf (g j.toNatClampNeg)) (ty := .object RX6) hx hb hat ((hK.2 3 (ac 3, .object RX6) rfl).1 n (fun j => va_rf (g j))) rfl (fun q => by cases q) (by show ¬ (j < 0 ∨ (arrV _ _ _).slots.size ≤ _); rw [arrV_size]; exact hin) (by show (arrV _ _ _).slots[_]? = _; rw [arrV_read _ _ (xq_in hin).2]) rfl rfl hd kk
theorem xq_iast_W (hF : xq_Fr B dC dI ac p l R s m args meth c i d X0) (hJ : xq_J B dC dI ac X s s.heap H) (hS : va_S (xq_A B) s.heap H locs) (hd : decode (xq_by i) pc = .ok (.iastore, 1)) {a n : Nat} {j x : Int32} {g : Nat → Int32} (hh : xq_h X a = some (.inl (0, n, .inl g))) (hin : ¬ (j < 0 ∨ n ≤ j.toNatClampNeg))
    (kk : ∀ (H1 : Heap) (locs1 : List Loc), xq_J B dC dI ac (xq_set X a (.inl (0, n, .inl (upd g j.toNatClampNeg x)))) s s.heap H1 → va_S (xq_A B) s.heap H1 locs1 → W p l e R s m args below meth c H1 locs1 cells slots Q (F0 m (pc + 1) ls rest)) : W p l e R s m args below meth c H locs cells slots Q (F0 m pc ls (.int x :: .int j :: .ref a :: rest)) := by
  obtain ⟨⟨hx, hb, hml, hr⟩, ⟨hts, hown, hlocks, hname⟩, -, ⟨hK, hG, hB, hN⟩⟩ := hF
  obtain ⟨h1, h2, h3⟩ := hJ.2 _ _ hh
  obtain ⟨hBa, hat⟩ := h2 rfl
  refine W.iast hx hb hat ((hK.2 0 (ac 0, .int) rfl).1 n (fun j => .int (g j))) (fun q => by cases q) (by show ¬ (j < 0 ∨ (arrV _ _ _).slots.size ≤ _); rw [arrV_size]; exact hin) rfl rfl hd fun H1 e1 z oq => ?_
  refine kk H1 _ (hJ.set hh rfl rfl ?_ z oq) (hS.put z oq hBa)
  show H1[a]? = some (vp_cell _ _)
  rw [e1]
  show some ((arrV (ac 0) n (fun j => .int (g j))).setSlot _ _) = _
  rw [vp_cell_i, arrV_store]
  congr 2
  funext q
  by_cases hq : q = j.toNatClampNeg
  · subst hq; simp [updV, upd]
  · simp [updV, upd, hq]
theorem xq_last_W (hF : xq_Fr B dC dI ac p l R s m args meth c i d X0) (hJ : xq_J B dC dI ac X s s.heap H) (hS : va_S (xq_A B) s.heap H locs) (hd : decode (xq_by i) pc = .ok (.lastore, 1)) {a n : Nat} {j : Int32} {x : Int64} {g : Nat → Int64} (hh : xq_h X a = some (.inl (1, n, .inr (.inl g)))) (hin : ¬ (j < 0 ∨ n ≤ j.toNatClampNeg))
    (kk : ∀ (H1 : Heap) (locs1 : List Loc), xq_J B dC dI ac (xq_set X a (.inl (1, n, .inr (.inl (vp_updL g j.toNatClampNeg x))))) s s.heap H1 → va_S (xq_A B) s.heap H1 locs1 → W p l e R s m args below meth c H1 locs1 cells slots Q (F0 m (pc + 1) ls rest)) : W p l e R s m args below meth c H locs cells slots Q (F0 m pc ls (.long x :: .int j :: .ref a :: rest)) := by
  obtain ⟨⟨hx, hb, hml, hr⟩, ⟨hts, hown, hlocks, hname⟩, -, ⟨hK, hG, hB, hN⟩⟩ := hF
  obtain ⟨h1, h2, h3⟩ := hJ.2 _ _ hh
  obtain ⟨hBa, hat⟩ := h2 rfl
  refine W.last hx hb hat ((hK.2 1 (ac 1, .long) rfl).1 n (fun j => .long (g j))) (fun q => by cases q) (by show ¬ (j < 0 ∨ (arrV _ _ _).slots.size ≤ _); rw [arrV_size]; exact hin) rfl rfl hd fun H1 e1 z oq => ?_
  refine kk H1 _ (hJ.set hh rfl rfl ?_ z oq) (hS.put z oq hBa)
  show H1[a]? = some (vp_cell _ _)
  rw [e1]
  show some ((arrV (ac 1) n (fun j => .long (g j))).setSlot _ _) = _
  rw [vp_cell_l, arrV_store]
  congr 2
  funext q
  by_cases hq : q = j.toNatClampNeg
  · subst hq; simp [updV, vp_updL]
  · simp [updV, vp_updL, hq]
theorem xq_aast_W (hF : xq_Fr B dC dI ac p l R s m args meth c i d X0) (hJ : xq_J B dC dI ac X s s.heap H) (hS : va_S (xq_A B) s.heap H locs) (hd : decode (xq_by i) pc = .ok (.aastore, 1)) {a n : Nat} {j : Int32} {r : Option Nat} {g : Nat → Option Nat} (hh : xq_h X a = some (.inl (3, n, .inr (.inr (.inr (.inr g)))))) (hr0 : xq_isS X r = true) (hin : ¬ (j < 0 ∨ n ≤ j.toNatClampNeg))
    (kk : ∀ (H1 : Heap) (locs1 : List Loc), xq_J B dC dI ac (xq_set X a (.inl (3, n, .inr (.inr (.inr (.inr (va_up g j.toNatClampNeg r))))))) s s.heap H1 → va_S (xq_A B) s.heap H1 locs1 → W p l e R s m args below meth c H1 locs1 cells slots Q (F0 m (pc + 1) ls rest)) : W p l e R s m args below meth c H locs cells slots Q (F0 m pc ls (va_rf r :: .int j :: .ref a :: rest)) := by
  obtain ⟨⟨hx, hb, hml, hr⟩, ⟨hts, hown, hlocks, hname⟩, -, ⟨hK, hG, hB, hN⟩⟩ := hF
  obtain ⟨h1, h2, h3⟩ := hJ.2 _ _ hh
  obtain ⟨hBa, hat⟩ := h2 rfl
  have fin : ∀ H1 : Heap, H1[a]? = some ((vp_cell (ac 3) (n, .inr (.inr (.inr (.inr g))))).setSlot j.toNatClampNeg (va_rf r)) → H1.size = H.size → (∀ q, q ≠ a → H1[q]? = H[q]?) → W p l e R s m args below meth c H1 (locs ++ [⟨a, j.toNatClampNeg⟩]) cells slots Q (F0 m (pc + 1) ls rest) := fun H1 e1 z oq => by
    refine kk H1 _ (hJ.set hh rfl rfl ?_ z oq) (hS.put z oq hBa)
    show H1[a]? = some (vp_cell _ _)
    rw [e1]
    show some ((arrV (ac 3) n (fun j => va_rf (g j))).setSlot _ _) = _
    rw [vp_cell_q, arrV_store]
    congr 2
    funext q
    by_cases hq : q = j.toNatClampNeg
    · subst hq; simp [updV, va_up]
    · simp [updV, va_up, hq]
  cases r with
  | none => exact va_WaastN (C := RX6) hx hb hat ((hK.2 3 (ac 3, .object RX6) rfl).1 n (fun j => va_rf (g j))) (fun h => by cases h) (by show ¬ (j < 0 ∨ (arrV _ _ _).slots.size ≤ _); rw [arrV_size]; exact hin) rfl rfl hd fin
  | some v =>
    unfold xq_isS at hr0
    dsimp only at hr0
    split at hr0
    · rename_i cv fs hv
      have hc6 := xq_beq hr0
      subst hc6
      obtain ⟨-, v2, -⟩ := hJ.2 _ _ hv
      obtain ⟨-, r', hr', cellV, g1, g2, g3, -⟩ := v2 rfl
      have hcls := (hK.1 6 _ (xq_cl 6 (by decide))).2
      obtain ⟨kA, comp, k1, k2, k3, -⟩ := (hK.2 3 (ac 3, .object RX6) rfl).2
      have hcomp : comp = dC 6 := Option.some.inj (k3.symm.trans hcls.1)
      subst hcomp
      obtain ⟨kC, hkC, -⟩ := hcls.2
      exact W.aast hx hb hat (fun q h => by cases h) (fun h => by cases h) k1 k2 rfl hkC ⟨(xq_in hin).1, by show _ < (arrV _ _ _).slots.size; rw [arrV_size]; exact (xq_in hin).2⟩ g1 (fun q h => by rw [g3] at h; cases h) (by rw [g2]; exact hkC) (by rw [g2]; exact va_assign hcls) rfl rfl hd fin
    · cases hr0
theorem xq_alen_W (hF : xq_Fr B dC dI ac p l R s m args meth c i d X0) (hJ : xq_J B dC dI ac X s s.heap H) (hS : va_S (xq_A B) s.heap H locs) (hd : decode (xq_by i) pc = .ok (.arraylength, 1)) {a k n : Nat} {v : (Nat → Int32) ⊕ (Nat → Int64) ⊕ (Nat → UInt32) ⊕ (Nat → UInt64) ⊕ (Nat → Option Nat)} (hh : xq_h X a = some (.inl (k, n, v)))
    (kk : W p l e R s m args below meth c H locs cells slots Q (F0 m (pc + 1) ls (.int (Int32.ofNat n) :: rest))) : W p l e R s m args below meth c H locs cells slots Q (F0 m pc ls (.ref a :: rest)) := by
  obtain ⟨⟨hx, hb, hml, hr⟩, ⟨hts, hown, hlocks, hname⟩, -, ⟨hK, hG, hB, hN⟩⟩ := hF
  obtain ⟨h1, h2, h3⟩ := hJ.2 _ _ hh
  rcases Nat.lt_or_ge k 4 with hk | hk
  · have hro : xq_ro (.inl (k, n, v)) = false := by
      show Nat.ble 4 k = false
      cases h9 : Nat.ble 4 k with
      | false => rfl
      | true => have := Nat.le_of_ble_eq_true h9; omega
    have hP : va_P (dC, dI) vwCl [(a, .inl (ac k, n, v))] H := fun j q hj => by
      cases j with
      | zero => cases hj; exact (h2 hro).2
      | succ j => simp at hj
    have ht : ∃ ty, (xq_tl ac)[k]? = some (ac k, ty) := by
      rcases (show k = 0 ∨ k = 1 ∨ k = 2 ∨ k = 3 by omega) with rfl | rfl | rfl | rfl
      · exact ⟨_, rfl⟩
      · exact ⟨_, rfl⟩
      · exact ⟨_, rfl⟩
      · exact ⟨_, rfl⟩
    obtain ⟨ty, ht⟩ := ht
    exact va_alen hx hb hK hP 0 k rfl ht rfl hd kk
  · have hro : xq_ro (.inl (k, n, v)) = true := Nat.ble_eq_true_of_le hk
    have h9 := h3 hro
    cases v with
    | inl f =>
      rcases h9 with ⟨-, hT⟩ | ⟨-, hX, hlt, hA⟩
      · exact va_tlen hx hb hT hS rfl hd kk
      · exact va_slen hx hb hX hlt hA hS hd kk
    | inr v => exact h9.elim
theorem xq_S_grow {A : Nat → Prop} {H0 H H1 : Heap} {locs : List Loc} (hS : va_S A H0 H locs) (hz : H.size ≤ H1.size) (oq : ∀ q : Nat, q < H.size → H1[q]? = H[q]?) : va_S A H0 H1 locs :=
  ⟨Nat.le_trans hS.1 hz, fun q h1 h2 => (oq q (Nat.lt_of_lt_of_le h1 hS.1)).trans (hS.2.1 q h1 h2), hS.2.2⟩
theorem xq_newa_W (hF : xq_Fr B dC dI ac p l R s m args meth c i d X0) (hJ : xq_J B dC dI ac X s s.heap H) (hS : va_S (xq_A B) s.heap H locs) {t : ArrayType} (hd : decode (xq_by i) pc = .ok (.newarray t, 2)) {k : Nat} (hk : (k = 0 ∧ t = .int) ∨ (k = 1 ∧ t = .long)) {n : Int32} (hn : ¬ (n < 0 ∨ 1000000 < n.toNatClampNeg)) (hc : cells + 1 ≤ R.cells) (hs : slots + n.toNatClampNeg ≤ R.slots)
    (kk : ∀ H1 : Heap, xq_J B dC dI ac (xq_push X n.toNatClampNeg (.inl (k, n.toNatClampNeg, xq_zero k))) s s.heap H1 → va_S (xq_A B) s.heap H1 locs → W p l e R s m args below meth c H1 locs (cells + 1) (slots + n.toNatClampNeg) Q (F0 m (pc + 2) ls (.ref X.1 :: rest))) : W p l e R s m args below meth c H locs cells slots Q (F0 m pc ls (.int n :: rest)) := by
  obtain ⟨⟨hx, hb, hml, hr⟩, ⟨hts, hown, hlocks, hname⟩, -, ⟨hK, hG, hB, hN⟩⟩ := hF
  have hn0 : ¬ n < 0 := fun h => hn (Or.inl h)
  have hn1 : n.toNatClampNeg ≤ 1000000 := Nat.not_lt.mp fun h => hn (Or.inr h)
  have hBH : B ≤ H.size := Nat.le_trans hB hS.1
  rcases hk with ⟨rfl, rfl⟩ | ⟨rfl, rfl⟩
  · refine va_newaK (atype := .int) hx hb (hts _ xq_o_aI) rfl hd rfl hn0 rfl (by show n.toNatClampNeg * 4 ≤ _; omega) hc hs hJ.1 fun H1 cA e1 z1 o1 hAr hNm => ?_
    have hcA : cA = ac 0 := Option.some.inj (hNm.symm.trans (hK.2 0 (ac 0, .int) rfl).2)
    subst hcA
    rw [← hJ.1] at z1 o1
    exact kk H1 (hJ.push hBH rfl e1 z1 o1) (xq_S_grow hS (by omega) o1)
  · refine va_newaK (atype := .long) hx hb (hts _ xq_o_aL) rfl hd rfl hn0 rfl (by show n.toNatClampNeg * 8 ≤ _; omega) hc hs hJ.1 fun H1 cA e1 z1 o1 hAr hNm => ?_
    have hcA : cA = ac 1 := Option.some.inj (hNm.symm.trans (hK.2 1 (ac 1, .long) rfl).2)
    subst hcA
    rw [← hJ.1] at z1 o1
    exact kk H1 (hJ.push hBH rfl e1 z1 o1) (xq_S_grow hS (by omega) o1)
theorem xq_anew_W (hF : xq_Fr B dC dI ac p l R s m args meth c i d X0) (hJ : xq_J B dC dI ac X s s.heap H) (hS : va_S (xq_A B) s.heap H locs) (hd : decode (xq_by i) pc = .ok (.anewarray 47, 3)) (ho : xq_mo i = 10) {n : Int32} (hn : ¬ (n < 0 ∨ 1000000 < n.toNatClampNeg)) (hc : cells + 1 ≤ R.cells) (hs : slots + n.toNatClampNeg ≤ R.slots)
    (kk : ∀ H1 : Heap, xq_J B dC dI ac (xq_push X n.toNatClampNeg (.inl (3, n.toNatClampNeg, xq_zero 3))) s s.heap H1 → va_S (xq_A B) s.heap H1 locs → W p l e R s m args below meth c H1 locs (cells + 1) (slots + n.toNatClampNeg) Q (F0 m (pc + 3) ls (.ref X.1 :: rest))) : W p l e R s m args below meth c H locs cells slots Q (F0 m pc ls (.int n :: rest)) := by
  obtain ⟨⟨hx, hb, hml, hr⟩, ⟨hts, hown, hlocks, hname⟩, -, ⟨hK, hG, hB, hN⟩⟩ := hF
  have hn0 : ¬ n < 0 := fun h => hn (Or.inl h)
  have hn1 : n.toNatClampNeg ≤ 1000000 := Nat.not_lt.mp fun h => hn (Or.inr h)
  have hBH : B ≤ H.size := Nat.le_trans hB hS.1
  rw [ho] at hown
  refine W.anew hx hb hown (hts _ xq_o_saved) (va_AO.use (hG.2.2.2.2.2.2.2 _ (by simp [xq_xw]))) rfl hd rfl hn0 (by omega) hc hs fun cA kA comp f1 f2 f3 f4 => ?_
  have hcA : cA = ac 3 := by
    obtain ⟨_, _, _, _, _, h4⟩ := (hK.2 3 (ac 3, .object RX6) rfl).2
    exact Option.some.inj (f1.symm.trans h4)
  subst hcA
  have o1 : ∀ q : Nat, q < H.size → (H.push ({ cls := ac 3, slots := Array.replicate n.toNatClampNeg .null, vm := .none } : Cell))[q]? = H[q]? := fun q hq => by rw [Array.getElem?_push, if_neg (Nat.ne_of_lt hq)]
  have z1 : (H.push ({ cls := ac 3, slots := Array.replicate n.toNatClampNeg .null, vm := .none } : Cell)).size = H.size + 1 := Array.size_push _
  have h9 := kk (H.push ({ cls := ac 3, slots := Array.replicate n.toNatClampNeg .null, vm := .none } : Cell)) (hJ.push hBH rfl (by
    show (H.push _)[X.1]? = some (vp_cell (ac 3) _)
    rw [← hJ.1, Array.getElem?_push_size]
    show some _ = some (arrV (ac 3) n.toNatClampNeg (fun j => va_rf none))
    rw [arrV_new]; rfl) z1 o1) (xq_S_grow hS (by omega) o1)
  rw [← hJ.1] at h9
  exact h9
theorem xq_new_W (hF : xq_Fr B dC dI ac p l R s m args meth c i d X0) (hJ : xq_J B dC dI ac X s s.heap H) (hS : va_S (xq_A B) s.heap H locs) {k ci : Nat} (hd : decode (xq_by i) pc = .ok (.new k, 3)) (hci : ci < 12) (hlk : xq_in3 xq_L_ck (xq_mo i) k ci = true) (hc : cells + 1 ≤ R.cells) (hs : slots + (xq_C ci).2.2 ≤ R.slots)
    (kk : ∀ H1 : Heap, xq_J B dC dI ac (xq_push X (xq_C ci).2.2 (.inr (ci, xq_dflt ci (xq_C ci).2.2))) s s.heap H1 → va_S (xq_A B) s.heap H1 locs → W p l e R s m args below meth c H1 locs (cells + 1) (slots + (xq_C ci).2.2) Q (F0 m (pc + 3) ls (.ref X.1 :: rest))) : W p l e R s m args below meth c H locs cells slots Q (F0 m pc ls rest) := by
  obtain ⟨⟨hx, hb, hml, hr⟩, ⟨hts, hown, hlocks, hname⟩, -, ⟨hK, hG, hB, hN⟩⟩ := hF
  have hBH : B ≤ H.size := Nat.le_trans hB hS.1
  have hKn := hK.1 ci _ (xq_cl ci hci)
  have hi0 : (Cond.initialized (xq_C ci).1).before args s = true := by rw [← xq_on_C ci hci]; exact hts _ (xq_ini (by omega))
  refine W.newcK hx hb hown (hts _ (xq_W_ck _ (xq_in3_m hlk))) (hts _ (xq_ins hci)) hi0 rfl hd hc hs hKn.2.1 hJ.1 fun H1 kC hkC e1 z1 o1 => ?_
  rw [← hJ.1] at z1 o1
  have hro : xq_ro (.inr (ci, xq_dflt ci (xq_C ci).2.2)) = false := by
    show Nat.ble 12 ci = false
    cases h9 : Nat.ble 12 ci with
    | false => rfl
    | true => have := Nat.le_of_ble_eq_true h9; omega
  refine kk H1 (hJ.push hBH hro ⟨_, xq_cl ci hci, (u_born (xq_tys ci) hts (xq_uws hci) hKn hkC e1 (xq_tyok ci hci)).to (fun j hj => ?_)⟩ z1 o1) (xq_S_grow hS (by omega) o1)
  show defaultValue (xq_tys ci j) = (xq_dflt ci (xq_C ci).2.2).getD j .null
  unfold xq_dflt
  rw [List.getD_eq_getElem?_getD, List.getElem?_map, List.getElem?_range hj]
  rfl
end
