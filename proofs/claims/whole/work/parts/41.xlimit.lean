/-! THE LIMIT of xr_run -/
abbrev xr_KT : Type := Nat → List xr_V → List xr_V → xr_N → xr_S → xr_R
abbrev xr_CT : Type := Nat → List xr_V → xr_N → xr_S → xr_R
def xr_Cn (F : xr_KT → xr_CT → xr_R) : Prop := ∀ K C r, F K C = some r → ∃ (A : List ((Nat × List xr_V × List xr_V × xr_N × xr_S) × (xr_O × xr_N × xr_S))) (B : List ((Nat × List xr_V × xr_N × xr_S) × (xr_O × xr_N × xr_S))),
  (∀ a ∈ A, K a.1.1 a.1.2.1 a.1.2.2.1 a.1.2.2.2.1 a.1.2.2.2.2 = some a.2) ∧ (∀ b ∈ B, C b.1.1 b.1.2.1 b.1.2.2.1 b.1.2.2.2 = some b.2) ∧
  ∀ (K' : xr_KT) (C' : xr_CT), (∀ a ∈ A, K' a.1.1 a.1.2.1 a.1.2.2.1 a.1.2.2.2.1 a.1.2.2.2.2 = some a.2) → (∀ b ∈ B, C' b.1.1 b.1.2.1 b.1.2.2.1 b.1.2.2.2 = some b.2) → F K' C' = some r
theorem xr_Cn_k (v : xr_R) : xr_Cn (fun _ _ => v) := fun K C r h => ⟨[], [], (fun _ h => nomatch h), (fun _ h => nomatch h), fun _ _ _ _ => h⟩
theorem xr_Cn_K (pc : Nat) (ls st : List xr_V) (m : xr_N) (S : xr_S) : xr_Cn (fun K _ => K pc ls st m S) := fun K C r h =>
  ⟨[((pc, ls, st, m, S), r)], [], (fun a ha => by rw [List.mem_singleton] at ha; subst ha; exact h), (fun _ h => nomatch h), fun K' C' hA _ => hA _ (List.mem_singleton.mpr rfl)⟩
theorem xr_Cn_ite {c : Prop} [Decidable c] {F G : xr_KT → xr_CT → xr_R} (hF : xr_Cn F) (hG : xr_Cn G) : xr_Cn (fun K C => if c then F K C else G K C) := by
  by_cases h : c
  · simp only [h, if_true]; exact hF
  · simp only [h, if_false]; exact hG
theorem xr_Cn_cond {c : Bool} {F G : xr_KT → xr_CT → xr_R} (hF : xr_Cn F) (hG : xr_Cn G) : xr_Cn (fun K C => cond c (F K C) (G K C)) := by
  cases c
  · exact hG
  · exact hF
theorem xr_Cn_br {c : ClassFile.Cond} {x y : Int32} {F G : xr_KT → xr_CT → xr_R} (hF : xr_Cn F) (hG : xr_Cn G) : xr_Cn (fun K C => xr_br c x y (F K C) (G K C)) := by
  cases c
  · exact xr_Cn_ite hF hG
  · exact xr_Cn_ite hG hF
  · exact xr_Cn_ite hF hG
  · exact xr_Cn_ite hG hF
  · exact xr_Cn_ite hF hG
  · exact xr_Cn_ite hG hF
theorem xr_Cn_two {j : Nat} {As : List xr_V} {m : xr_N} {S : xr_S} (D : xr_R → xr_KT → xr_CT → xr_R) (hn : ∀ K C, D none K C = none) (hs : ∀ q, xr_Cn (D (some q))) : xr_Cn (fun K C => D (C j As m S) K C) := by
  intro K C r h
  cases hq : C j As m S with
  | none => simp only [hq, hn] at h; cases h
  | some q =>
    simp only [hq] at h
    obtain ⟨A, B, h1, h2, h3⟩ := hs q K C r h
    refine ⟨A, ((j, As, m, S), q) :: B, h1, ?_, ?_⟩
    · intro b hb
      rcases List.mem_cons.mp hb with rfl | hb
      · exact hq
      · exact h2 b hb
    · intro K' C' hA hB
      have e : C' j As m S = some q := hB ((j, As, m, S), q) List.mem_cons_self
      show D (C' j As m S) K' C' = some r
      rw [e]
      exact h3 K' C' hA (fun b hb => hB b (List.mem_cons_of_mem _ hb))
theorem xr_Cn_cI {m0 : xr_N} {j : Nat} {As : List xr_V} {m : xr_N} {S : xr_S} {f : Int32 → xr_S → xr_KT → xr_CT → xr_R} (hf : ∀ x Y, xr_Cn (f x Y)) : xr_Cn (fun K C => xr_cI m0 (C j As m S) (fun x Y => f x Y K C)) := by
  refine xr_Cn_two (fun res K C => xr_cI m0 res (fun x Y => f x Y K C)) (fun _ _ => rfl) (fun q => ?_)
  obtain ⟨o, m1, Y⟩ := q
  rcases o with v | s
  · cases v with
    | none => exact xr_Cn_k none
    | some x => exact xr_Cn_ite (hf x Y) (xr_Cn_k none)
  · exact xr_Cn_k _
theorem xr_Cn_cV {m0 : xr_N} {j : Nat} {As : List xr_V} {m : xr_N} {S : xr_S} {f : xr_S → xr_KT → xr_CT → xr_R} (hf : ∀ Y, xr_Cn (f Y)) : xr_Cn (fun K C => xr_cV m0 (C j As m S) (fun Y => f Y K C)) := by
  refine xr_Cn_two (fun res K C => xr_cV m0 res (fun Y => f Y K C)) (fun _ _ => rfl) (fun q => ?_)
  obtain ⟨o, m1, Y⟩ := q
  rcases o with v | s
  · cases v with
    | none => exact xr_Cn_ite (hf Y) (xr_Cn_k none)
    | some x => exact xr_Cn_k none
  · exact xr_Cn_k _
theorem xr_Cn_cC {m0 : xr_N} {ci j : Nat} {As : List xr_V} {m : xr_N} {S : xr_S} {f : xr_S → xr_KT → xr_CT → xr_R} (hf : ∀ Y, xr_Cn (f Y)) : xr_Cn (fun K C => xr_cC m0 ci (C j As m S) (fun Y => f Y K C)) := by
  refine xr_Cn_two (fun res K C => xr_cC m0 ci res (fun Y => f Y K C)) (fun _ _ => rfl) (fun q => ?_)
  obtain ⟨o, m1, Y⟩ := q
  rcases o with v | s
  · cases v with
    | none => exact xr_Cn_ite (xr_Cn_cond (xr_Cn_cond (hf _) (xr_Cn_k none)) (hf _)) (xr_Cn_k none)
    | some x => exact xr_Cn_k none
  · exact xr_Cn_k _
section
variable {m : xr_N} {S : xr_S} {b c ci k ty : Nat}
theorem xr_Cn_get {f : xr_V → xr_KT → xr_CT → xr_R} (hf : ∀ x, xr_Cn (f x)) : xr_Cn (fun K C => xr_get m S b c ci k ty (fun x => f x K C)) := by
  unfold xr_get
  refine xr_Cn_cond ?_ (xr_Cn_k none)
  split
  · unfold xr_fld
    refine xr_Cn_cond (xr_Cn_cond (hf _) (xr_Cn_k none)) (xr_Cn_cond (xr_Cn_cond (hf _) (xr_Cn_k none)) (xr_Cn_cond (xr_Cn_cond (hf _) (xr_Cn_k none)) (xr_Cn_cond (xr_Cn_cond ?_ (xr_Cn_k none)) (xr_Cn_cond (xr_Cn_cond ?_ (xr_Cn_k none)) ?_))))
    · split
      · exact hf _
      · exact hf _
    · split
      · exact hf _
      · exact hf _
    · split
      · exact xr_Cn_cond (xr_Cn_k none) (hf _)
      · exact xr_Cn_k none
  · exact xr_Cn_k none
theorem xr_Cn_put {v : xr_V} {f : xr_N → xr_S → xr_KT → xr_CT → xr_R} (hf : ∀ x y, xr_Cn (f x y)) : xr_Cn (fun K C => xr_put m S b c ci k ty v (fun x y => f x y K C)) := by
  unfold xr_put
  refine xr_Cn_cond ?_ (xr_Cn_k none)
  split
  · refine xr_Cn_cond ?_ (xr_Cn_cond ?_ (xr_Cn_cond ?_ (xr_Cn_cond ?_ (xr_Cn_cond ?_ (xr_Cn_k none)))))
    · split
      · split
        · exact xr_Cn_ite (xr_Cn_cond (hf _ _) (xr_Cn_k none)) (xr_Cn_k none)
        · exact xr_Cn_k none
      · exact xr_Cn_k none
    · split
      · exact xr_Cn_cond (hf _ _) (xr_Cn_k none)
      · exact xr_Cn_k none
    · split
      · exact xr_Cn_cond (hf _ _) (xr_Cn_k none)
      · exact xr_Cn_cond (hf _ _) (xr_Cn_k none)
      · exact xr_Cn_k none
    · split
      · exact xr_Cn_cond (hf _ _) (xr_Cn_k none)
      · exact xr_Cn_cond (hf _ _) (xr_Cn_k none)
      · exact xr_Cn_k none
    · split
      · exact xr_Cn_cond (hf _ _) (xr_Cn_k none)
      · exact xr_Cn_k none
  · exact xr_Cn_k none
theorem xr_Cn_iald {i : Int32} {f : Int32 → xr_KT → xr_CT → xr_R} (hf : ∀ x, xr_Cn (f x)) : xr_Cn (fun K C => xr_iald S b c i (fun x => f x K C)) := xr_Cn_cond (xr_Cn_cond (hf _) (xr_Cn_k none)) (xr_Cn_k none)
theorem xr_Cn_bald {i : Int32} {f : Int32 → xr_KT → xr_CT → xr_R} (hf : ∀ x, xr_Cn (f x)) : xr_Cn (fun K C => xr_bald b c i (fun x => f x K C)) := xr_Cn_cond (xr_Cn_cond (hf _) (xr_Cn_k none)) (xr_Cn_k none)
theorem xr_Cn_aald {i : Int32} {f : xr_V → xr_KT → xr_CT → xr_R} (hf : ∀ x, xr_Cn (f x)) : xr_Cn (fun K C => xr_aald S b c i (fun x => f x K C)) := by
  unfold xr_aald
  refine xr_Cn_cond (xr_Cn_cond (hf _) (xr_Cn_cond ?_ (xr_Cn_k none))) (xr_Cn_k none)
  split
  · exact hf _
  · exact hf _
theorem xr_Cn_iast {i x : Int32} {f : xr_S → xr_KT → xr_CT → xr_R} (hf : ∀ x, xr_Cn (f x)) : xr_Cn (fun K C => xr_iast S b c i x (fun x => f x K C)) := xr_Cn_cond (xr_Cn_cond (hf _) (xr_Cn_k none)) (xr_Cn_k none)
theorem xr_Cn_aast {i : Int32} {v : xr_V} {f : xr_S → xr_KT → xr_CT → xr_R} (hf : ∀ x, xr_Cn (f x)) : xr_Cn (fun K C => xr_aast S b c i v (fun x => f x K C)) := by
  unfold xr_aast
  refine xr_Cn_cond (xr_Cn_cond ?_ (xr_Cn_k none)) (xr_Cn_k none)
  split
  · exact hf _
  · exact hf _
  · exact xr_Cn_k none
theorem xr_Cn_alen {f : Int32 → xr_KT → xr_CT → xr_R} (hf : ∀ x, xr_Cn (f x)) : xr_Cn (fun K C => xr_alen b c (fun x => f x K C)) := xr_Cn_cond (hf _) (xr_Cn_k none)
theorem xr_Cn_newa {n : Int32} {f : xr_V → xr_S → xr_KT → xr_CT → xr_R} (hf : ∀ x y, xr_Cn (f x y)) : xr_Cn (fun K C => xr_newa S k n (fun x y => f x y K C)) := xr_Cn_cond (hf _ _) (xr_Cn_k none)
theorem xr_Cn_mna {n k : Int32} {f : xr_V → xr_S → xr_KT → xr_CT → xr_R} (hf : ∀ x y, xr_Cn (f x y)) : xr_Cn (fun K C => xr_mna S n k (fun x y => f x y K C)) := xr_Cn_cond (hf _ _) (xr_Cn_k none)
theorem xr_Cn_new {f : xr_V → xr_N → xr_S → xr_KT → xr_CT → xr_R} (hf : ∀ x y z, xr_Cn (f x y z)) : xr_Cn (fun K C => xr_new m S ci k (fun x y z => f x y z K C)) := xr_Cn_cond (hf _ _ _) (xr_Cn_k none)
theorem xr_Cn_cpy {b1 c1 : Nat} {sp dp n : Int32} {f : xr_S → xr_KT → xr_CT → xr_R} (hf : ∀ x, xr_Cn (f x)) : xr_Cn (fun K C => xr_cpy S b c sp b1 c1 dp n (fun x => f x K C)) := xr_Cn_cond (xr_Cn_cond (hf _) (xr_Cn_k none)) (xr_Cn_k none)
end
set_option maxHeartbeats 4000000 in
theorem xr_step_Cn (i pc : Nat) (I : xq_I) (ls st : List xr_V) (m : xr_N) (S : xr_S) : xr_Cn (fun K C => xr_step i pc I ls st m S K C) := by
  unfold xr_step
  split
  · exact xr_Cn_K _ _ _ _ _
  · split
    · exact xr_Cn_K _ _ _ _ _
    · split
      · exact xr_Cn_br (xr_Cn_K _ _ _ _ _) (xr_Cn_K _ _ _ _ _)
      · exact xr_Cn_k none
    · split
      · exact xr_Cn_br (xr_Cn_K _ _ _ _ _) (xr_Cn_K _ _ _ _ _)
      · exact xr_Cn_k none
    · split
      · exact xr_Cn_cond (xr_Cn_k none) (xr_Cn_K _ _ _ _ _)
      · exact xr_Cn_K _ _ _ _ _
      · exact xr_Cn_k none
    · split
      · refine xr_Cn_ite (xr_Cn_K _ _ _ _ _) ?_
        split
        · exact xr_Cn_K _ _ _ _ _
        · exact xr_Cn_k none
      · exact xr_Cn_k none
    · split
      · exact xr_Cn_ite (xr_Cn_k none) (xr_Cn_K _ _ _ _ _)
      · exact xr_Cn_k none
    · split
      · exact xr_Cn_ite (xr_Cn_k none) (xr_Cn_K _ _ _ _ _)
      · exact xr_Cn_k none
    · split
      · exact xr_Cn_get (fun _ => xr_Cn_K _ _ _ _ _)
      · exact xr_Cn_k none
    · split
      · exact xr_Cn_put (fun _ _ => xr_Cn_K _ _ _ _ _)
      · exact xr_Cn_k none
    · exact xr_Cn_cond (xr_Cn_K _ _ _ _ _) (xr_Cn_K _ _ _ _ _)
    · split
      · exact xr_Cn_iald (fun _ => xr_Cn_K _ _ _ _ _)
      · exact xr_Cn_k none
    · split
      · exact xr_Cn_bald (fun _ => xr_Cn_K _ _ _ _ _)
      · exact xr_Cn_k none
    · split
      · exact xr_Cn_aald (fun _ => xr_Cn_K _ _ _ _ _)
      · exact xr_Cn_k none
    · split
      · exact xr_Cn_iast (fun _ => xr_Cn_K _ _ _ _ _)
      · exact xr_Cn_k none
    · split
      · exact xr_Cn_aast (fun _ => xr_Cn_K _ _ _ _ _)
      · exact xr_Cn_k none
    · split
      · exact xr_Cn_alen (fun _ => xr_Cn_K _ _ _ _ _)
      · exact xr_Cn_k none
    · split
      · exact xr_Cn_cond (xr_Cn_newa (fun _ _ => xr_Cn_K _ _ _ _ _)) (xr_Cn_k none)
      · exact xr_Cn_k none
    · split
      · exact xr_Cn_newa (fun _ _ => xr_Cn_K _ _ _ _ _)
      · exact xr_Cn_k none
    · split
      · exact xr_Cn_mna (fun _ _ => xr_Cn_K _ _ _ _ _)
      · exact xr_Cn_k none
    · exact xr_Cn_cond (xr_Cn_k _) (xr_Cn_cond (xr_Cn_k _) (xr_Cn_new (fun _ _ _ => xr_Cn_K _ _ _ _ _)))
    · split
      · refine xr_Cn_cond ?_ (xr_Cn_k none)
        split
        · exact xr_Cn_cV (fun _ => xr_Cn_K _ _ _ _ _)
        · exact xr_Cn_cI (fun _ _ => xr_Cn_K _ _ _ _ _)
      · exact xr_Cn_k none
    · split
      · exact xr_Cn_cond (xr_Cn_cond (xr_Cn_K _ _ _ _ _) (xr_Cn_k none)) (xr_Cn_cond (xr_Cn_cC (fun _ => xr_Cn_K _ _ _ _ _)) (xr_Cn_k none))
      · exact xr_Cn_k none
    · refine xr_Cn_cond ?_ (xr_Cn_cond ?_ (xr_Cn_cond ?_ (xr_Cn_cond ?_ (xr_Cn_cond ?_ (xr_Cn_k none)))))
      · split
        · exact xr_Cn_cond (xr_Cn_cpy (fun _ => xr_Cn_K _ _ _ _ _)) (xr_Cn_k none)
        · exact xr_Cn_k none
      · split
        · exact xr_Cn_cond (xr_Cn_K _ _ _ _ _) (xr_Cn_k none)
        · exact xr_Cn_k none
      · split
        · exact xr_Cn_cond (xr_Cn_K _ _ _ _ _) (xr_Cn_k none)
        · exact xr_Cn_k none
      · split
        · exact xr_Cn_cond (xr_Cn_K _ _ _ _ _) (xr_Cn_k none)
        · exact xr_Cn_k none
      · split
        · exact xr_Cn_cV (fun _ => xr_Cn_K _ _ _ _ _)
        · exact xr_Cn_cI (fun _ _ => xr_Cn_K _ _ _ _ _)
    · exact xr_Cn_k _
    · exact xr_Cn_k _
    · exact xr_Cn_k none
theorem xr_run_succ : ∀ (n d i pc : Nat) (ls st : List xr_V) (m : xr_N) (S : xr_S) (r : xr_O × xr_N × xr_S), xr_run n d i pc ls st m S = some r → xr_run (n + 1) d i pc ls st m S = some r
  | 0, _, _, _, _, _, _, _, _, h => by cases h
  | n + 1, d, i, pc, ls, st, m, S, r, h => by
    rw [xr_run] at h ⊢
    cases hc : xq_code i pc with
    | none => rw [hc] at h; cases h
    | some I =>
      rw [hc] at h
      simp only at h ⊢
      obtain ⟨A, B, h1, h2, h3⟩ := xr_step_Cn i pc I ls st m S _ _ r h
      refine h3 _ _ (fun a ha => xr_run_succ n _ _ _ _ _ _ _ _ (h1 a ha)) (fun b hb => ?_)
      have hb2 := h2 b hb
      cases d with
      | zero => cases hb2
      | succ d' => exact xr_run_succ n _ _ _ _ _ _ _ _ hb2
theorem xr_run_le {n k d i pc : Nat} {ls st : List xr_V} {m : xr_N} {S : xr_S} {r : xr_O × xr_N × xr_S} (hm : n ≤ k) (h : xr_run n d i pc ls st m S = some r) : xr_run k d i pc ls st m S = some r := by
  induction hm with
  | refl => exact h
  | step _ ih => exact xr_run_succ _ _ _ _ _ _ _ _ _ ih
noncomputable def xr_Run (d i pc : Nat) (ls st : List xr_V) (m : xr_N) (S : xr_S) : xr_R := by
  classical exact if h : ∃ r, ∃ n, xr_run n d i pc ls st m S = some r then some (Classical.choose h) else none
theorem xr_Run_iff {d i pc : Nat} {ls st : List xr_V} {m : xr_N} {S : xr_S} {r : xr_O × xr_N × xr_S} : xr_Run d i pc ls st m S = some r ↔ ∃ n, xr_run n d i pc ls st m S = some r := by
  unfold xr_Run
  constructor
  · intro h
    split at h
    · rename_i h1
      have h2 := Classical.choose_spec h1
      rw [Option.some.inj h] at h2
      exact h2
    · cases h
  · rintro ⟨n, hn⟩
    have h1 : ∃ r, ∃ n, xr_run n d i pc ls st m S = some r := ⟨r, n, hn⟩
    rw [dif_pos h1]
    obtain ⟨k, hk⟩ := Classical.choose_spec h1
    have e1 := xr_run_le (Nat.le_max_left n k) hn
    have e2 := xr_run_le (Nat.le_max_right n k) hk
    rw [e1] at e2
    exact e2.symm ▸ rfl
noncomputable def xr_Call (d j : Nat) (As : List xr_V) (m : xr_N) (S : xr_S) : xr_R := match d with
  | 0 => none
  | d' + 1 => xr_Run d' j 0 (xr_entry j As) [] m S
theorem xr_Run_eq (d i pc : Nat) (ls st : List xr_V) (m : xr_N) (S : xr_S) : xr_Run d i pc ls st m S = match xq_code i pc with
    | none => none
    | some I => xr_step i pc I ls st m S (xr_Run d i) (xr_Call d) := by
  apply Option.ext
  intro r
  rw [xr_Run_iff]
  constructor
  · rintro ⟨n, hn⟩
    cases n with
    | zero => cases hn
    | succ n =>
      rw [xr_run] at hn
      cases hc : xq_code i pc with
      | none => rw [hc] at hn; cases hn
      | some I =>
        rw [hc] at hn
        simp only at hn ⊢
        obtain ⟨A, B, h1, h2, h3⟩ := xr_step_Cn i pc I ls st m S _ _ r hn
        refine h3 _ _ (fun a ha => xr_Run_iff.mpr ⟨n, h1 a ha⟩) (fun b hb => ?_)
        have hb2 := h2 b hb
        cases d with
        | zero => cases hb2
        | succ d' => exact xr_Run_iff.mpr ⟨n, hb2⟩
  · intro h
    cases hc : xq_code i pc with
    | none => rw [hc] at h; cases h
    | some I =>
      rw [hc] at h
      simp only at h
      obtain ⟨A, B, h1, h2, h3⟩ := xr_step_Cn i pc I ls st m S _ _ r h
      obtain ⟨n1, hn1⟩ := xq_list_n (fun n (a : (Nat × List xr_V × List xr_V × xr_N × xr_S) × (xr_O × xr_N × xr_S)) => xr_run n d i a.1.1 a.1.2.1 a.1.2.2.1 a.1.2.2.2.1 a.1.2.2.2.2 = some a.2) (fun n k a hnm hp => xr_run_le hnm hp) A (fun a ha => xr_Run_iff.mp (h1 a ha))
      obtain ⟨n2, hn2⟩ := xq_list_n (fun n (b : (Nat × List xr_V × xr_N × xr_S) × (xr_O × xr_N × xr_S)) => (match d with
        | 0 => (none : xr_R)
        | d' + 1 => xr_run n d' b.1.1 0 (xr_entry b.1.1 b.1.2.1) [] b.1.2.2.1 b.1.2.2.2) = some b.2) (fun n k b hnm hp => by
          cases d with
          | zero => cases hp
          | succ d' => exact xr_run_le hnm hp) B (fun b hb => by
          have hb2 := h2 b hb
          cases d with
          | zero => cases hb2
          | succ d' => exact xr_Run_iff.mp hb2)
      refine ⟨max n1 n2 + 1, ?_⟩
      rw [xr_run, hc]
      simp only
      refine h3 _ _ (fun a ha => xr_run_le (Nat.le_max_left _ _) (hn1 a ha)) (fun b hb => ?_)
      have hb2 := hn2 b hb
      cases d with
      | zero => cases hb2
      | succ d' => exact xr_run_le (Nat.le_max_right _ _) hb2
/-! STRETCHES -/
noncomputable def xr_exec (stop : Nat → Bool) (d i : Nat) (K : xr_KT) : Nat → xr_KT
  | 0, pc, ls, st, m, S => K pc ls st m S
  | k + 1, pc, ls, st, m, S => match xq_code i pc with
    | none => none
    | some I => xr_step i pc I ls st m S (fun pc1 ls1 st1 m1 S1 => cond (stop pc1) (K pc1 ls1 st1 m1 S1) (xr_exec stop d i K k pc1 ls1 st1 m1 S1)) (xr_Call d)
theorem xr_exec_eq (stop : Nat → Bool) (d i : Nat) : ∀ (k pc : Nat) (ls st : List xr_V) (m : xr_N) (S : xr_S), xr_exec stop d i (xr_Run d i) k pc ls st m S = xr_Run d i pc ls st m S
  | 0, _, _, _, _, _ => rfl
  | k + 1, pc, ls, st, m, S => by
    rw [xr_Run_eq, xr_exec]
    have e : (fun pc1 ls1 st1 m1 S1 => cond (stop pc1) (xr_Run d i pc1 ls1 st1 m1 S1) (xr_exec stop d i (xr_Run d i) k pc1 ls1 st1 m1 S1)) = xr_Run d i := by
      funext pc1 ls1 st1 m1 S1
      rw [xr_exec_eq stop d i k pc1 ls1 st1 m1 S1]
      cases stop pc1 <;> rfl
    rw [e]
