/-! THE LIMIT: xq_Run is what xq_run comes to with fuel enough; it unfolds by one step -/
abbrev xq_KT : Type := Nat → List Value → List Value → xq_X → xq_R
abbrev xq_CT : Type := Nat → List Value → xq_X → xq_R
/-- F asks K and C at finitely many places, and only what they answer there counts -/
def xq_Cn (F : xq_KT → xq_CT → xq_R) : Prop := ∀ K C r, F K C = some r → ∃ (A : List ((Nat × List Value × List Value × xq_X) × (xq_O × xq_X))) (B : List ((Nat × List Value × xq_X) × (xq_O × xq_X))),
  (∀ a ∈ A, K a.1.1 a.1.2.1 a.1.2.2.1 a.1.2.2.2 = some a.2) ∧ (∀ b ∈ B, C b.1.1 b.1.2.1 b.1.2.2 = some b.2) ∧
  ∀ (K' : xq_KT) (C' : xq_CT), (∀ a ∈ A, K' a.1.1 a.1.2.1 a.1.2.2.1 a.1.2.2.2 = some a.2) → (∀ b ∈ B, C' b.1.1 b.1.2.1 b.1.2.2 = some b.2) → F K' C' = some r
theorem xq_Cn_k (v : xq_R) : xq_Cn (fun _ _ => v) := fun K C r h => ⟨[], [], (fun _ h => nomatch h), (fun _ h => nomatch h), fun _ _ _ _ => h⟩
theorem xq_Cn_K (pc : Nat) (ls st : List Value) (X : xq_X) : xq_Cn (fun K _ => K pc ls st X) := fun K C r h =>
  ⟨[((pc, ls, st, X), r)], [], (fun a ha => by rw [List.mem_singleton] at ha; subst ha; exact h), (fun _ h => nomatch h), fun K' C' hA _ => hA _ (List.mem_singleton.mpr rfl)⟩
theorem xq_Cn_ite {c : Prop} [Decidable c] {F G : xq_KT → xq_CT → xq_R} (hF : xq_Cn F) (hG : xq_Cn G) : xq_Cn (fun K C => if c then F K C else G K C) := by
  by_cases h : c
  · simp only [h, if_true]; exact hF
  · simp only [h, if_false]; exact hG
theorem xq_Cn_cond {c : Bool} {F G : xq_KT → xq_CT → xq_R} (hF : xq_Cn F) (hG : xq_Cn G) : xq_Cn (fun K C => cond c (F K C) (G K C)) := by
  cases c
  · exact hG
  · exact hF
theorem xq_Cn_br {c : ClassFile.Cond} {x y : Int32} {F G : xq_KT → xq_CT → xq_R} (hF : xq_Cn F) (hG : xq_Cn G) : xq_Cn (fun K C => xq_br c x y (F K C) (G K C)) := by
  cases c
  · exact xq_Cn_ite hF hG
  · exact xq_Cn_ite hG hF
  · exact xq_Cn_ite hF hG
  · exact xq_Cn_ite hG hF
  · exact xq_Cn_ite hF hG
  · exact xq_Cn_ite hG hF
theorem xq_Cn_two {Z : xq_CT → xq_R} {j : Nat} {As : List Value} {X : xq_X} {f : xq_O × xq_X → xq_KT → xq_CT → xq_R} (D : xq_R → xq_KT → xq_CT → xq_R) (hn : ∀ K C, D none K C = none) (hs : ∀ q, xq_Cn (D (some q))) : xq_Cn (fun K C => D (C j As X) K C) := by
  intro K C r h
  cases hq : C j As X with
  | none => simp only [hq, hn] at h; cases h
  | some q =>
    simp only [hq] at h
    obtain ⟨A, B, h1, h2, h3⟩ := hs q K C r h
    refine ⟨A, ((j, As, X), q) :: B, h1, ?_, ?_⟩
    · intro b hb
      rcases List.mem_cons.mp hb with rfl | hb
      · exact hq
      · exact h2 b hb
    · intro K' C' hA hB
      have e : C' j As X = some q := hB ((j, As, X), q) List.mem_cons_self
      show D (C' j As X) K' C' = some r
      rw [e]
      exact h3 K' C' hA (fun b hb => hB b (List.mem_cons_of_mem _ hb))
theorem xq_Cn_cI {j : Nat} {As : List Value} {X : xq_X} {f : Int32 → xq_X → xq_KT → xq_CT → xq_R} {g : String → xq_X → xq_KT → xq_CT → xq_R} (hf : ∀ x Y, xq_Cn (f x Y)) (hg : ∀ s Y, xq_Cn (g s Y)) : xq_Cn (fun K C => xq_cI (C j As X) (fun x Y => f x Y K C) (fun s Y => g s Y K C)) := by
  refine xq_Cn_two (Z := fun _ => none) (f := fun _ _ _ => none) (fun res K C => xq_cI res (fun x Y => f x Y K C) (fun s Y => g s Y K C)) (fun _ _ => rfl) (fun q => ?_)
  obtain ⟨o, Y⟩ := q
  rcases o with v | s
  · cases v with
    | none => exact xq_Cn_k none
    | some v => cases v with
      | int x => exact hf x Y
      | _ => exact xq_Cn_k none
  · exact hg s Y
theorem xq_Cn_cV {j : Nat} {As : List Value} {X : xq_X} {f : xq_X → xq_KT → xq_CT → xq_R} {g : String → xq_X → xq_KT → xq_CT → xq_R} (hf : ∀ Y, xq_Cn (f Y)) (hg : ∀ s Y, xq_Cn (g s Y)) : xq_Cn (fun K C => xq_cV (C j As X) (fun Y => f Y K C) (fun s Y => g s Y K C)) := by
  refine xq_Cn_two (Z := fun _ => none) (f := fun _ _ _ => none) (fun res K C => xq_cV res (fun Y => f Y K C) (fun s Y => g s Y K C)) (fun _ _ => rfl) (fun q => ?_)
  obtain ⟨o, Y⟩ := q
  rcases o with v | s
  · cases v with
    | none => exact hf Y
    | some v => exact xq_Cn_k none
  · exact hg s Y
section
variable {X : xq_X} {a ci k : Nat}
theorem xq_Cn_getI {f : Int32 → xq_KT → xq_CT → xq_R} (hf : ∀ x, xq_Cn (f x)) : xq_Cn (fun K C => xq_getI X a ci k (fun x => f x K C)) := by
  unfold xq_getI; split
  · refine xq_Cn_ite ?_ (xq_Cn_k none); split
    · exact hf _
    · exact xq_Cn_k none
  · exact xq_Cn_k none
theorem xq_Cn_getR {f : Nat → xq_KT → xq_CT → xq_R} (hf : ∀ x, xq_Cn (f x)) : xq_Cn (fun K C => xq_getR X a ci k (fun x => f x K C)) := by
  unfold xq_getR; split
  · refine xq_Cn_ite ?_ (xq_Cn_k none); split
    · exact hf _
    · exact xq_Cn_k none
  · exact xq_Cn_k none
theorem xq_Cn_getQ {f : Nat → xq_KT → xq_CT → xq_R} {g : xq_KT → xq_CT → xq_R} (hf : ∀ x, xq_Cn (f x)) (hg : xq_Cn g) : xq_Cn (fun K C => xq_getQ X a ci k (fun x => f x K C) (g K C)) := by
  unfold xq_getQ; split
  · refine xq_Cn_ite ?_ (xq_Cn_k none); split
    · exact hf _
    · exact hg
    · exact xq_Cn_k none
  · exact xq_Cn_k none
theorem xq_Cn_put {v : Value} {f : xq_X → xq_KT → xq_CT → xq_R} (hf : ∀ x, xq_Cn (f x)) : xq_Cn (fun K C => xq_put X a ci k v (fun x => f x K C)) := by
  unfold xq_put; split
  · exact xq_Cn_ite (hf _) (xq_Cn_k none)
  · exact xq_Cn_k none
theorem xq_Cn_iald {i : Int32} {f : Int32 → xq_KT → xq_CT → xq_R} (hf : ∀ x, xq_Cn (f x)) : xq_Cn (fun K C => xq_iald X a i (fun x => f x K C)) := by
  unfold xq_iald; split
  · exact xq_Cn_ite (hf _) (xq_Cn_k none)
  · exact xq_Cn_k none
theorem xq_Cn_bald {i : Int32} {f : Int32 → xq_KT → xq_CT → xq_R} (hf : ∀ x, xq_Cn (f x)) : xq_Cn (fun K C => xq_bald X a i (fun x => f x K C)) := by
  unfold xq_bald; split
  · exact xq_Cn_ite (hf _) (xq_Cn_k none)
  · exact xq_Cn_k none
theorem xq_Cn_lald {i : Int32} {f : Int64 → xq_KT → xq_CT → xq_R} (hf : ∀ x, xq_Cn (f x)) : xq_Cn (fun K C => xq_lald X a i (fun x => f x K C)) := by
  unfold xq_lald; split
  · exact xq_Cn_ite (hf _) (xq_Cn_k none)
  · exact xq_Cn_k none
theorem xq_Cn_aald {i : Int32} {f : Nat → xq_KT → xq_CT → xq_R} {g : xq_KT → xq_CT → xq_R} (hf : ∀ x, xq_Cn (f x)) (hg : xq_Cn g) : xq_Cn (fun K C => xq_aald X a i (fun x => f x K C) (g K C)) := by
  unfold xq_aald; split
  · refine xq_Cn_ite ?_ (xq_Cn_k none); split
    · exact hf _
    · exact hg
  · exact xq_Cn_k none
theorem xq_Cn_iast {i x : Int32} {f : xq_X → xq_KT → xq_CT → xq_R} (hf : ∀ x, xq_Cn (f x)) : xq_Cn (fun K C => xq_iast X a i x (fun x => f x K C)) := by
  unfold xq_iast; split
  · exact xq_Cn_ite (hf _) (xq_Cn_k none)
  · exact xq_Cn_k none
theorem xq_Cn_last {i : Int32} {x : Int64} {f : xq_X → xq_KT → xq_CT → xq_R} (hf : ∀ x, xq_Cn (f x)) : xq_Cn (fun K C => xq_last X a i x (fun x => f x K C)) := by
  unfold xq_last; split
  · exact xq_Cn_ite (hf _) (xq_Cn_k none)
  · exact xq_Cn_k none
theorem xq_Cn_aast {i : Int32} {x : Option Nat} {f : xq_X → xq_KT → xq_CT → xq_R} (hf : ∀ x, xq_Cn (f x)) : xq_Cn (fun K C => xq_aast X a i x (fun x => f x K C)) := by
  unfold xq_aast; split
  · exact xq_Cn_ite (hf _) (xq_Cn_k none)
  · exact xq_Cn_k none
theorem xq_Cn_alen {f : Int32 → xq_KT → xq_CT → xq_R} (hf : ∀ x, xq_Cn (f x)) : xq_Cn (fun K C => xq_alen X a (fun x => f x K C)) := by
  unfold xq_alen; split
  · exact hf _
  · exact xq_Cn_k none
theorem xq_Cn_newa {n : Int32} {f : xq_X → xq_KT → xq_CT → xq_R} (hf : ∀ x, xq_Cn (f x)) : xq_Cn (fun K C => xq_newa X k n (fun x => f x K C)) := xq_Cn_ite (xq_Cn_k none) (hf _)
theorem xq_Cn_mna {n m : Int32} {f : xq_X → xq_KT → xq_CT → xq_R} (hf : ∀ x, xq_Cn (f x)) : xq_Cn (fun K C => xq_mna X n m (fun x => f x K C)) := xq_Cn_ite (xq_Cn_k none) (hf _)
theorem xq_Cn_cpy {b : Nat} {sp dp n : Int32} {f : xq_X → xq_KT → xq_CT → xq_R} (hf : ∀ x, xq_Cn (f x)) : xq_Cn (fun K C => xq_cpy X a sp b dp n (fun x => f x K C)) := by
  unfold xq_cpy; split
  · exact xq_Cn_ite (hf _) (xq_Cn_k none)
  · exact xq_Cn_k none
theorem xq_Cn_is {F : xq_KT → xq_CT → xq_R} (hf : xq_Cn F) : xq_Cn (fun K C => xq_is X a ci (F K C)) := by
  unfold xq_is; split
  · exact xq_Cn_ite hf (xq_Cn_k none)
  · exact xq_Cn_k none
end
theorem xq_Cn_exc (i pc : Nat) (ls : List Value) (s : String) (X : xq_X) : xq_Cn (fun K _ => xq_exc i pc ls K s X) := by
  unfold xq_exc; split
  · exact xq_Cn_K _ _ _ _
  · exact xq_Cn_k _
set_option maxHeartbeats 4000000 in
theorem xq_step_Cn (i pc : Nat) (I : xq_I) (ls st : List Value) (X : xq_X) : xq_Cn (fun K C => xq_step i pc I ls st X K C) := by
  unfold xq_step
  split
  · exact xq_Cn_K _ _ _ _
  · split
    · exact xq_Cn_K _ _ _ _
    · split
      · exact xq_Cn_br (xq_Cn_K _ _ _ _) (xq_Cn_K _ _ _ _)
      · exact xq_Cn_k none
    · split
      · exact xq_Cn_br (xq_Cn_K _ _ _ _) (xq_Cn_K _ _ _ _)
      · exact xq_Cn_k none
    · split
      · exact xq_Cn_K _ _ _ _
      · exact xq_Cn_K _ _ _ _
      · exact xq_Cn_k none
    · split
      · refine xq_Cn_ite (xq_Cn_K _ _ _ _) ?_
        split
        · exact xq_Cn_K _ _ _ _
        · exact xq_Cn_k none
      · exact xq_Cn_k none
    · split
      · exact xq_Cn_ite (xq_Cn_k none) (xq_Cn_K _ _ _ _)
      · exact xq_Cn_k none
    · split
      · exact xq_Cn_ite (xq_Cn_k none) (xq_Cn_K _ _ _ _)
      · exact xq_Cn_k none
    · split
      · split
        · exact xq_Cn_getI (fun _ => xq_Cn_K _ _ _ _)
        · exact xq_Cn_getR (fun _ => xq_Cn_K _ _ _ _)
        · exact xq_Cn_getQ (fun _ => xq_Cn_K _ _ _ _) (xq_Cn_K _ _ _ _)
      · exact xq_Cn_k none
    · split
      · exact xq_Cn_cond (xq_Cn_put (fun _ => xq_Cn_K _ _ _ _)) (xq_Cn_k none)
      · exact xq_Cn_cond (xq_Cn_k none) (xq_Cn_put (fun _ => xq_Cn_K _ _ _ _))
      · exact xq_Cn_cond (xq_Cn_put (fun _ => xq_Cn_K _ _ _ _)) (xq_Cn_k none)
      · exact xq_Cn_k none
    · refine xq_Cn_cond (xq_Cn_K _ _ _ _) ?_
      split
      · exact xq_Cn_K _ _ _ _
      · exact xq_Cn_K _ _ _ _
    · split
      · exact xq_Cn_iald (fun _ => xq_Cn_K _ _ _ _)
      · exact xq_Cn_k none
    · split
      · exact xq_Cn_bald (fun _ => xq_Cn_K _ _ _ _)
      · exact xq_Cn_k none
    · split
      · exact xq_Cn_lald (fun _ => xq_Cn_K _ _ _ _)
      · exact xq_Cn_k none
    · split
      · exact xq_Cn_aald (fun _ => xq_Cn_K _ _ _ _) (xq_Cn_K _ _ _ _)
      · exact xq_Cn_k none
    · split
      · exact xq_Cn_iast (fun _ => xq_Cn_K _ _ _ _)
      · exact xq_Cn_k none
    · split
      · exact xq_Cn_last (fun _ => xq_Cn_K _ _ _ _)
      · exact xq_Cn_k none
    · split
      · exact xq_Cn_aast (fun _ => xq_Cn_K _ _ _ _)
      · exact xq_Cn_aast (fun _ => xq_Cn_K _ _ _ _)
      · exact xq_Cn_k none
    · split
      · exact xq_Cn_alen (fun _ => xq_Cn_K _ _ _ _)
      · exact xq_Cn_k none
    · split
      · exact xq_Cn_newa (fun _ => xq_Cn_K _ _ _ _)
      · exact xq_Cn_k none
    · split
      · exact xq_Cn_newa (fun _ => xq_Cn_K _ _ _ _)
      · exact xq_Cn_k none
    · split
      · exact xq_Cn_mna (fun _ => xq_Cn_K _ _ _ _)
      · exact xq_Cn_k none
    · split
      · exact xq_Cn_k _
      · exact xq_Cn_k _
      · exact xq_Cn_K _ _ _ _
    · split
      · refine xq_Cn_is (xq_Cn_cond ?_ (xq_Cn_k none))
        split
        · exact xq_Cn_cV (fun _ => xq_Cn_K _ _ _ _) (fun _ _ => xq_Cn_exc _ _ _ _ _)
        · exact xq_Cn_cI (fun _ _ => xq_Cn_K _ _ _ _) (fun _ _ => xq_Cn_exc _ _ _ _ _)
      · exact xq_Cn_k none
    · split
      · exact xq_Cn_cond (xq_Cn_cond (xq_Cn_K _ _ _ _) (xq_Cn_k none)) (xq_Cn_is (xq_Cn_cond (xq_Cn_cV (fun _ => xq_Cn_K _ _ _ _) (fun _ _ => xq_Cn_k none)) (xq_Cn_k none)))
      · exact xq_Cn_k none
    · refine xq_Cn_cond ?_ (xq_Cn_cond ?_ (xq_Cn_cond ?_ (xq_Cn_cond ?_ (xq_Cn_cond ?_ (xq_Cn_k none)))))
      · split
        · exact xq_Cn_cond (xq_Cn_cpy (fun _ => xq_Cn_K _ _ _ _)) (xq_Cn_k none)
        · exact xq_Cn_k none
      · split
        · exact xq_Cn_cond (xq_Cn_K _ _ _ _) (xq_Cn_k none)
        · exact xq_Cn_k none
      · split
        · exact xq_Cn_cond (xq_Cn_K _ _ _ _) (xq_Cn_k none)
        · exact xq_Cn_k none
      · split
        · exact xq_Cn_cond (xq_Cn_K _ _ _ _) (xq_Cn_k none)
        · exact xq_Cn_k none
      · split
        · exact xq_Cn_cV (fun _ => xq_Cn_K _ _ _ _) (fun _ _ => xq_Cn_exc _ _ _ _ _)
        · exact xq_Cn_cI (fun _ _ => xq_Cn_K _ _ _ _) (fun _ _ => xq_Cn_exc _ _ _ _ _)
    · exact xq_Cn_k _
    · exact xq_Cn_k _
    · exact xq_Cn_k none
/-- more fuel: the same answer -/
theorem xq_run_succ : ∀ (n d i pc : Nat) (ls st : List Value) (X : xq_X) (r : xq_O × xq_X), xq_run n d i pc ls st X = some r → xq_run (n + 1) d i pc ls st X = some r
  | 0, _, _, _, _, _, _, _, h => by cases h
  | n + 1, d, i, pc, ls, st, X, r, h => by
    rw [xq_run] at h ⊢
    cases hc : xq_code i pc with
    | none => rw [hc] at h; cases h
    | some I =>
      rw [hc] at h
      simp only at h ⊢
      obtain ⟨A, B, h1, h2, h3⟩ := xq_step_Cn i pc I ls st X _ _ r h
      refine h3 _ _ (fun a ha => xq_run_succ n _ _ _ _ _ _ _ (h1 a ha)) (fun b hb => ?_)
      have hb2 := h2 b hb
      cases d with
      | zero => cases hb2
      | succ d' => exact xq_run_succ n _ _ _ _ _ _ _ hb2
theorem xq_run_le {n m d i pc : Nat} {ls st : List Value} {X : xq_X} {r : xq_O × xq_X} (hm : n ≤ m) (h : xq_run n d i pc ls st X = some r) : xq_run m d i pc ls st X = some r := by
  induction hm with
  | refl => exact h
  | step _ ih => exact xq_run_succ _ _ _ _ _ _ _ _ ih
noncomputable def xq_Run (d i pc : Nat) (ls st : List Value) (X : xq_X) : xq_R := by
  classical exact if h : ∃ r, ∃ n, xq_run n d i pc ls st X = some r then some (Classical.choose h) else none
theorem xq_Run_iff {d i pc : Nat} {ls st : List Value} {X : xq_X} {r : xq_O × xq_X} : xq_Run d i pc ls st X = some r ↔ ∃ n, xq_run n d i pc ls st X = some r := by
  unfold xq_Run
  constructor
  · intro h
    split at h
    · rename_i h1
      have h2 := Classical.choose_spec h1
      rw [Option.some.inj h] at h2
      exact h2
    · cases h
  · rintro ⟨n, hn⟩
    have h1 : ∃ r, ∃ n, xq_run n d i pc ls st X = some r := ⟨r, n, hn⟩
    rw [dif_pos h1]
    obtain ⟨m, hm⟩ := Classical.choose_spec h1
    have e1 := xq_run_le (Nat.le_max_left n m) hn
    have e2 := xq_run_le (Nat.le_max_right n m) hm
    rw [e1] at e2
    exact e2.symm ▸ rfl
/-- a call with d frames left -/
noncomputable def xq_Call (d j : Nat) (As : List Value) (X : xq_X) : xq_R := match d with
  | 0 => none
  | d' + 1 => xq_Run d' j 0 (xq_entry j As) [] X
theorem xq_list_n {α : Type} (P : Nat → α → Prop) (hm : ∀ n m a, n ≤ m → P n a → P m a) : ∀ l : List α, (∀ a ∈ l, ∃ n, P n a) → ∃ n, ∀ a ∈ l, P n a
  | [], _ => ⟨0, fun _ h => nomatch h⟩
  | a :: l, h => by
    obtain ⟨n, hn⟩ := h a List.mem_cons_self
    obtain ⟨m, hm2⟩ := xq_list_n P hm l (fun b hb => h b (List.mem_cons_of_mem _ hb))
    refine ⟨max n m, fun b hb => ?_⟩
    rcases List.mem_cons.mp hb with rfl | hb
    · exact hm _ _ _ (Nat.le_max_left _ _) hn
    · exact hm _ _ _ (Nat.le_max_right _ _) (hm2 b hb)
/-- THE UNFOLDING -/
theorem xq_Run_eq (d i pc : Nat) (ls st : List Value) (X : xq_X) : xq_Run d i pc ls st X = match xq_code i pc with
    | none => none
    | some I => xq_step i pc I ls st X (xq_Run d i) (xq_Call d) := by
  apply Option.ext
  intro r
  rw [xq_Run_iff]
  constructor
  · rintro ⟨n, hn⟩
    cases n with
    | zero => cases hn
    | succ n =>
      rw [xq_run] at hn
      cases hc : xq_code i pc with
      | none => rw [hc] at hn; cases hn
      | some I =>
        rw [hc] at hn
        simp only at hn ⊢
        obtain ⟨A, B, h1, h2, h3⟩ := xq_step_Cn i pc I ls st X _ _ r hn
        refine h3 _ _ (fun a ha => xq_Run_iff.mpr ⟨n, h1 a ha⟩) (fun b hb => ?_)
        have hb2 := h2 b hb
        cases d with
        | zero => cases hb2
        | succ d' => exact xq_Run_iff.mpr ⟨n, hb2⟩
  · intro h
    cases hc : xq_code i pc with
    | none => rw [hc] at h; cases h
    | some I =>
      rw [hc] at h
      simp only at h
      obtain ⟨A, B, h1, h2, h3⟩ := xq_step_Cn i pc I ls st X _ _ r h
      obtain ⟨n1, hn1⟩ := xq_list_n (fun n (a : (Nat × List Value × List Value × xq_X) × (xq_O × xq_X)) => xq_run n d i a.1.1 a.1.2.1 a.1.2.2.1 a.1.2.2.2 = some a.2) (fun n m a hnm hp => xq_run_le hnm hp) A (fun a ha => xq_Run_iff.mp (h1 a ha))
      obtain ⟨n2, hn2⟩ := xq_list_n (fun n (b : (Nat × List Value × xq_X) × (xq_O × xq_X)) => (match d with
        | 0 => (none : xq_R)
        | d' + 1 => xq_run n d' b.1.1 0 (xq_entry b.1.1 b.1.2.1) [] b.1.2.2) = some b.2) (fun n m b hnm hp => by
          cases d with
          | zero => cases hp
          | succ d' => exact xq_run_le hnm hp) B (fun b hb => by
          have hb2 := h2 b hb
          cases d with
          | zero => cases hb2
          | succ d' => exact xq_Run_iff.mp hb2)
      refine ⟨max n1 n2 + 1, ?_⟩
      rw [xq_run, hc]
      simp only
      refine h3 _ _ (fun a ha => xq_run_le (Nat.le_max_left _ _) (hn1 a ha)) (fun b hb => ?_)
      have hb2 := hn2 b hb
      cases d with
      | zero => cases hb2
      | succ d' => exact xq_run_le (Nat.le_max_right _ _) hb2
