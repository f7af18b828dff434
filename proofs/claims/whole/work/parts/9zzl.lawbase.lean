/-! THE LAW'S LOOP, 1: what its arms do, on the real state -/
theorem xq_run_dep : ∀ (n d i pc : Nat) (ls st : List Value) (X : xq_X) (r : xq_O × xq_X), xq_run n d i pc ls st X = some r → xq_run n (d + 1) i pc ls st X = some r
  | 0, _, _, _, _, _, _, _, h => by cases h
  | n + 1, d, i, pc, ls, st, X, r, h => by
    rw [xq_run] at h ⊢
    cases hc : xq_code i pc with
    | none => rw [hc] at h; cases h
    | some I =>
      rw [hc] at h
      dsimp only at h ⊢
      obtain ⟨A, B, h1, h2, h3⟩ := xq_step_Cn i pc I ls st X _ _ r h
      refine h3 _ _ (fun q hq => xq_run_dep n d i _ _ _ _ _ (h1 q hq)) (fun q hq => ?_)
      have h4 := h2 q hq
      cases d with
      | zero => cases h4
      | succ d' => exact xq_run_dep n d' _ _ _ _ _ _ h4
theorem xq_Call_dep {d j : Nat} {As : List Value} {X : xq_X} {r : xq_O × xq_X} (h : xq_Call d j As X = some r) : xq_Call (d + 1) j As X = some r := by
  cases d with
  | zero => cases h
  | succ d' =>
    obtain ⟨n, hn⟩ := xq_Run_iff.mp h
    exact xq_Run_iff.mpr ⟨n, xq_run_dep n d' _ _ _ _ _ _ hn⟩
def lawRd (X : xq_X) (b : Nat) (i : Int32) : List Nat → (List Int32 → xq_R) → xq_R
  | [], f => f []
  | k :: r, f => xq_iald X b (i + nI k) (fun a => lawRd X b i r (fun l => f (a :: l)))
/-- an arm with a wrapper: w; the model's method j; f1, f2: where it says false -/
noncomputable def lawA (ks : List Nat) (d w j f1 f2 : Nat) (cmp : Int32 → Int64 → xq_R → xq_R → xq_R) (b p q o : Nat) (i : Int32) (X : xq_X) : xq_R :=
  lawRd X b i ks (fun l => xq_cI (xq_Call d w (.ref p :: (l.map Value.int ++ [.ref o])) X) (fun t X1 => lawRd X1 b i ks (fun l' => xq_is X1 q 11 (xq_cI (xq_Call d j (.ref q :: l'.map Value.int) X1) (fun v X2 => xq_is X2 q 11 (xq_cI (xq_Call d 150 [.ref q] X2) (fun u X3 => xq_br .eq u t (xq_br .ne t 0 (xq_Run d 310 2323 [.ref b, .ref p, .ref q, .ref o, .int i, .int t, .int v] [] X3) (xq_lald X3 o 0 (fun y => cmp v y (xq_Run d 310 2323 [.ref b, .ref p, .ref q, .ref o, .int i, .int t, .int v] [] X3) (xq_Run d 310 f2 [.ref b, .ref p, .ref q, .ref o, .int i, .int t, .int v] [] X3)))) (xq_Run d 310 f1 [.ref b, .ref p, .ref q, .ref o, .int i, .int t, .int v] [] X3)) (fun E Y => some (.inr E, Y)))) (fun E Y => some (.inr E, Y))))) (fun E Y => some (.inr E, Y)))
/-- an arm without one -/
noncomputable def lawB (ks : List Nat) (d ic j f : Nat) (v5 v6 : Value) (b p q o : Nat) (i : Int32) (X : xq_X) : xq_R :=
  lawRd X b i ks (fun l => xq_is X p 10 (xq_cI (xq_Call d ic (.ref p :: l.map Value.int) X) (fun t X1 => lawRd X1 b i ks (fun l' => xq_is X1 q 11 (xq_cI (xq_Call d j (.ref q :: l'.map Value.int) X1) (fun v X2 => xq_br .eq t v (xq_Run d 310 2323 [.ref b, .ref p, .ref q, .ref o, .int i, v5, v6] [] X2) (xq_Run d 310 f [.ref b, .ref p, .ref q, .ref o, .int i, v5, v6] [] X2)) (fun E Y => some (.inr E, Y))))) (fun E Y => some (.inr E, Y))))
def cmpI (v : Int32) (y : Int64) (K F : xq_R) : xq_R := xq_br .eq (lg_cmp y v.toInt64) 0 K F
def cmpZ (v : Int32) (y : Int64) (K F : xq_R) : xq_R := xq_br .eq v 0 (xq_br .eq (lg_cmp y (Int64.ofNat 0)) 0 K F) (xq_br .eq (lg_cmp y (Int64.ofNat 1)) 0 K F)
def fvZ (v : Int32) : Int64 := if v = 0 then Int64.ofNat 0 else Int64.ofNat 1
theorem lg_self (x : Int64) : lg_cmp x x = 0 := by
  unfold lg_cmp
  simp
theorem cmpI_ok (v : Int32) (K F : xq_R) : cmpI v v.toInt64 K F = K := by
  unfold cmpI
  rw [lg_self]
  rfl
theorem cmpZ_ok (v : Int32) (K F : xq_R) : cmpZ v (fvZ v) K F = K := by
  unfold cmpZ fvZ
  by_cases h : v = 0
  · subst h; rw [if_pos rfl, lg_self]; rfl
  · rw [if_neg h, lg_self]
    show (if v = 0 then _ else _) = _
    rw [if_neg h]; rfl
/-- what a wrapper makes of its call -/
def wOk (fv : Int32 → Int64) (w i n tN tI : Nat) : Prop := ∀ (d : Nat) (X : xq_X) (p o : Nat) (l : List Int32), l.length = n → (∃ fs, xq_h X p = some (.inr (10, fs))) →
  (∀ r X1 g, xq_Call d i (.ref p :: l.map Value.int) X = some (.inl (some (.int r)), X1) → xq_h X1 o = some (.inl (1, 1, .inr (.inl g))) → xq_Call (d + 1) w (.ref p :: (l.map Value.int ++ [.ref o])) X = some (.inl (some (.int 0)), xq_set X1 o (.inl (1, 1, .inr (.inl (vp_updL g 0 (fv r))))))) ∧
  (∀ X1, 1 ≤ tN → xq_Call d i (.ref p :: l.map Value.int) X = some (.inr xNS, X1) → xq_Call (d + 1) w (.ref p :: (l.map Value.int ++ [.ref o])) X = some (.inl (some (.int (nI tN))), X1)) ∧
  (∀ X1, 1 ≤ tI → xq_Call d i (.ref p :: l.map Value.int) X = some (.inr xIA, X1) → xq_Call (d + 1) w (.ref p :: (l.map Value.int ++ [.ref o])) X = some (.inl (some (.int (nI tI))), X1))
theorem xq_is_y {X : xq_X} {a ci : Nat} {f : xq_R} (h : ∃ fs, xq_h X a = some (.inr (ci, fs))) : xq_is X a ci f = f := by
  obtain ⟨fs, h⟩ := h
  unfold xq_is
  rw [h]
  exact if_pos rfl
theorem xq_last_y {X : xq_X} {o : Nat} {g : Nat → Int64} {x : Int64} {f : xq_X → xq_R} (h : xq_h X o = some (.inl (1, 1, .inr (.inl g)))) : xq_last X o 0 x f = f (xq_set X o (.inl (1, 1, .inr (.inl (vp_updL g 0 x))))) := by
  unfold xq_last
  rw [h]
  exact if_pos ⟨rfl, by decide⟩
theorem xq_lald_y {X : xq_X} {o : Nat} {g : Nat → Int64} {f : Int64 → xq_R} (h : xq_h X o = some (.inl (1, 1, .inr (.inl g)))) : xq_lald X o 0 f = f (g 0) := by
  unfold xq_lald
  rw [h]
  exact if_pos ⟨rfl, by decide⟩
theorem w_run {fv : Int32 → Int64} {w i d P P3 p o tN tI : Nat} {X : xq_X} {L As : List Value} (e : xq_Run d w 0 L [] X = xq_is X p 10 (xq_cI (xq_Call d i As X) (fun r X1 => xq_Run d w P3 L [.int r, .int 0, .ref o] X1) (xq_exc w P L (xq_Run d w))))
    (t : ∀ r X1, xq_Run d w P3 L [.int r, .int 0, .ref o] X1 = xq_last X1 o 0 (fv r) (fun X2 => some (.inl (some (.int 0)), X2)))
    (hN : 1 ≤ tN → ∃ h k, xq_find P xNS (xq_ht w) = some (h, k) ∧ ∀ X, xq_Run d w h (L.set k (.retAddr 0)) [] X = some (.inl (some (.int (nI tN))), X))
    (hI : 1 ≤ tI → ∃ h k, xq_find P xIA (xq_ht w) = some (h, k) ∧ ∀ X, xq_Run d w h (L.set k (.retAddr 0)) [] X = some (.inl (some (.int (nI tI))), X))
    (hp : ∃ fs, xq_h X p = some (.inr (10, fs))) :
  (∀ r X1 g, xq_Call d i As X = some (.inl (some (.int r)), X1) → xq_h X1 o = some (.inl (1, 1, .inr (.inl g))) → xq_Run d w 0 L [] X = some (.inl (some (.int 0)), xq_set X1 o (.inl (1, 1, .inr (.inl (vp_updL g 0 (fv r))))))) ∧
  (∀ X1, 1 ≤ tN → xq_Call d i As X = some (.inr xNS, X1) → xq_Run d w 0 L [] X = some (.inl (some (.int (nI tN))), X1)) ∧
  (∀ X1, 1 ≤ tI → xq_Call d i As X = some (.inr xIA, X1) → xq_Run d w 0 L [] X = some (.inl (some (.int (nI tI))), X1)) := by
  rw [e, xq_is_y hp]
  refine ⟨fun r X1 g hc ho => ?_, fun X1 h1 hc => ?_, fun X1 h1 hc => ?_⟩
  · rw [hc]
    show xq_Run d w P3 L [.int r, .int 0, .ref o] X1 = _
    rw [t, xq_last_y ho]
  · rw [hc]
    obtain ⟨h, k, f1, f2⟩ := hN h1
    show xq_exc w P L (xq_Run d w) xNS X1 = _
    unfold xq_exc
    rw [f1]
    exact f2 X1
  · rw [hc]
    obtain ⟨h, k, f1, f2⟩ := hI h1
    show xq_exc w P L (xq_Run d w) xIA X1 = _
    unfold xq_exc
    rw [f1]
    exact f2 X1
