/-! THE START, 5 (printed by wip/whole/strw2.py) -/
def xq_PD : String := "jdk/internal/util/Preconditions"
def xq_tW : List Cond := [.laysStatic "java/lang/String" "COMPACT_STRINGS" "Z", .laysStatic xq_PD "SIOOBE_FORMATTER" "Ljava/util/function/BiFunction;", .laysStatic Bundle.tN "UNASSIGNED_STACK" Bundle.steD, .laysStatic Bundle.tN "SUPPRESSED_SENTINEL" Bundle.listD, .initialized "java/lang/String", .initialized xq_PD, .initialized Bundle.tN] ++ xq_S.map (fun q => .stringRef q.1 q.2.1 q.2.2)
def xq_nW : List Cond := [.eq (.static "java/lang/String" "COMPACT_STRINGS" "Z") (.int 1), .isRef (.static xq_PD "SIOOBE_FORMATTER" "Ljava/util/function/BiFunction;"), .isRef (.static Bundle.tN "UNASSIGNED_STACK" Bundle.steD), .isRef (.static Bundle.tN "SUPPRESSED_SENTINEL" Bundle.listD), .not (.castable "java/lang/IllegalArgumentException" "java/util/NoSuchElementException"), .not (.castable "java/util/NoSuchElementException" "java/lang/IllegalArgumentException")]
theorem xq_tW_ix : ixOk tables_1 xq_tW [644, 660, 550, 552, 18, 20, 12, 563, 630, 683, 684, 685, 686, 721, 796, 798, 799, 800, 801, 802, 803, 804, 832, 834, 835, 836, 837, 838, 985] = true := by decide +kernel
theorem xq_nW_ix : ixOk (flatC narrow_1) xq_nW [4, 5, 2, 3, 33, 21] = true := by decide +kernel
theorem xq_tW_in : ∀ w ∈ xq_tW, w ∈ lw_tbl := fun w h => List.mem_append_right _ (ixOk_mem _ _ xq_tW_ix w h)
theorem xq_nW_in : ∀ w ∈ xq_nW, w ∈ flatC narrow_1 := ixOk_mem _ _ xq_nW_ix
theorem xq_nth {l : List Cond} {w : Cond} (i : Nat) (h : l[i]? = some w) : w ∈ l := List.mem_of_getElem? h
theorem xq_isRef {args : Array Value} {s : State} {t : Term} (h : (Cond.isRef t).before args s = true) : ∃ r : Option Nat, t.eval args s none [] s = some (va_rf r) := by
  simp only [Cond.before, Cond.holds, Cond.value] at h
  cases hv : t.eval args s none [] s with
  | none => rw [hv] at h; cases h
  | some v =>
    rw [hv] at h
    cases v with
    | ref a => exact ⟨some a, rfl⟩
    | null => exact ⟨none, rfl⟩
    | _ => cases h
theorem xq_over {args : Array Value} {s : State} (h : (Cond.arrayOver (.array .int)).before args s = true) : ∃ c k comp, s.vm.findClass ("[" ++ (FieldType.array .int).toString) = some c ∧ s.vm.classes[c]? = some k ∧ k.kind = .array comp (.array .int) := by
  simp only [Cond.before, Cond.holds, Cond.value] at h
  cases h1 : s.vm.findClass (FieldType.array .int).toString with
  | none => rw [h1] at h; cases h
  | some comp =>
    rw [h1] at h
    dsimp only [Option.bind] at h
    split at h
    · cases h
    · rename_i c hc
      dsimp only at h
      cases h2 : s.vm.classes[c]? with
      | none => rw [h2] at h; cases h
      | some k =>
        rw [h2] at h
        cases hk : k.kind with
        | array cp ty =>
          simp only [Option.map, hk] at h
          have h3 := (Bool.and_eq_true_iff.mp (Option.some.inj (eq_of_beq h)))
          have h4 := of_decide_eq_true h3.1
          have h5 := of_decide_eq_true h3.2
          subst h4
          exact ⟨c, k, cp, h5, h2, hk⟩
        | ordinary => simp [Option.map, hk] at h
        | primitive q => simp [Option.map, hk] at h
section
variable {args : Array Value} {s : State}
theorem start_G (hts : ∀ w ∈ lw_tbl, w.before args s = true) (hn : ∀ w ∈ flatC narrow_1, w.before args s = true) {adK : Nat → Nat} (hK : ∀ k, k < 22 → (xq_sT k).eval args s none [] s = some (.ref (adK k))) : ∃ fm, xq_G s.heap.size (adK, fm) s s.heap := by
  have hA : ∀ a : Nat, a < s.heap.size → ¬ xq_A s.heap.size a := fun a h => Nat.not_le.mpr h
  have ht : ∀ (i : Nat) (w : Cond), xq_tW[i]? = some w → w.before args s = true := fun i w h => hts w (xq_tW_in w (xq_nth i h))
  have hw : ∀ (i : Nat) (w : Cond), xq_nW[i]? = some w → w.before args s = true := fun i w h => hn w (xq_nW_in w (xq_nth i h))
  obtain ⟨fm, hfm⟩ := xq_isRef (hw 1 _ rfl)
  refine ⟨fm, va_Zof (ht 0 _ rfl) (ht 4 _ rfl) (va_eqi (hw 0 _ rfl)) hA, va_Zof (ht 1 _ rfl) (ht 5 _ rfl) hfm hA, vx_Zqof (ht 2 _ rfl) (ht 6 _ rfl) (hw 2 _ rfl) hA, vx_Zqof (ht 3 _ rfl) (ht 6 _ rfl) (hw 3 _ rfl) hA, fun k q hq => ?_, va_Nc.of (hw 4 _ rfl), va_Nc.of (hw 5 _ rfl), fun w hwx => ?_⟩
  · have hk : k < 22 := (List.getElem?_eq_some_iff.mp hq).1
    have h1 : (Cond.stringRef q.1 q.2.1 q.2.2).before args s = true := hts _ (xq_tW_in _ (List.mem_append_right _ (List.mem_map.mpr ⟨q, List.mem_of_getElem? hq, rfl⟩)))
    have h2 := hK k hk
    unfold xq_sT at h2
    rw [List.getD_eq_getElem?_getD, hq] at h2
    exact vk_R.of h1 h2
  · have h1 : ∀ w ∈ xq_xw, w ∈ lw_tbl := by
      intro w hw
      rcases List.mem_cons.mp hw with rfl | hw
      · exact xq_o_oS
      rcases List.mem_cons.mp hw with rfl | hw
      · exact xq_o_oI
      rcases List.mem_cons.mp hw with rfl | hw
      · exact xq_o_ia1
      rcases List.mem_cons.mp hw with rfl | hw
      · exact xq_o_ns1
      rcases List.mem_cons.mp hw with rfl | hw
      · exact xq_o_de0
      rcases List.mem_cons.mp hw with rfl | hw
      · exact xq_o_de1
      rcases List.mem_cons.mp hw with rfl | hw
      · exact xq_o_de2
      cases hw
    have h2 := hts w (h1 w hwx)
    rcases List.mem_cons.mp hwx with rfl | hwx
    · exact h2
    rcases List.mem_cons.mp hwx with rfl | hwx
    · exact h2
    rcases List.mem_cons.mp hwx with rfl | hwx
    · exact h2
    rcases List.mem_cons.mp hwx with rfl | hwx
    · exact h2
    rcases List.mem_cons.mp hwx with rfl | hwx
    · exact h2
    rcases List.mem_cons.mp hwx with rfl | hwx
    · exact h2
    rcases List.mem_cons.mp hwx with rfl | hwx
    · exact h2
    cases hwx
theorem start_K (hts : ∀ w ∈ lw_tbl, w.before args s = true) : ∃ dC dI ac, va_K (dC, dI) vwCl (xq_tl ac) s := by
  have hg : ∀ w ∈ xq_g, w.before args s = true := fun w h => hts w (List.mem_filter.mp h).1
  have h0 : ∀ ci : Nat, ∃ q : ClassId × (Nat → Nat), ci < 12 → u_Kn s (xq_C ci).1 (xq_C ci).2.1 (xq_C ci).2.2 q.1 q.2 := by
    intro ci
    by_cases h : ci < 12
    · have hin : ∀ ci, ci < 12 → ci ∈ xq_L_insta := by decide
      obtain ⟨c, iS, hk⟩ := u_known hg (xq_uws h) (hg _ (xq_W_insta ci (hin ci h)))
      exact ⟨(c, iS), fun _ => hk⟩
    · exact ⟨(0, fun _ => 0), fun h9 => absurd h9 h⟩
  obtain ⟨D, hD⟩ := Classical.axiomOfChoice h0
  obtain ⟨c0, k0, p0, a0, b0, e0⟩ := Cond.arrayClass_spec (hg _ xq_o_aI)
  obtain ⟨c1, k1, p1, a1, b1, e1⟩ := Cond.arrayClass_spec (hg _ xq_o_aL)
  obtain ⟨c2, k2, p2, a2, b2, e2⟩ := xq_over (hts _ xq_o_oI)
  obtain ⟨p3, c3, k3, f3, g3, b3, e3, a3⟩ := Cond.arrayOver_spec (hts _ xq_o_oS)
  refine ⟨fun ci => (D ci).1, fun ci => (D ci).2, fun k => if k = 0 then c0 else if k = 1 then c1 else if k = 2 then c2 else c3, fun c q hq => ?_, fun k q hq => ?_⟩
  · have hc : c < 12 := (List.getElem?_eq_some_iff.mp hq).1
    have e : q = xq_C c := by
      match c, hc, hq with
      | 0, _, hq => cases hq; rfl
      | 1, _, hq => cases hq; rfl
      | 2, _, hq => cases hq; rfl
      | 3, _, hq => cases hq; rfl
      | 4, _, hq => cases hq; rfl
      | 5, _, hq => cases hq; rfl
      | 6, _, hq => cases hq; rfl
      | 7, _, hq => cases hq; rfl
      | 8, _, hq => cases hq; rfl
      | 9, _, hq => cases hq; rfl
      | 10, _, hq => cases hq; rfl
      | 11, _, hq => cases hq; rfl
      | n + 12, h, _ => exact absurd h (by omega)
    rw [e]
    exact hD c hc
  · match k, hq with
    | 0, hq => cases hq; exact ⟨fun n z => ⟨(fun k h => by cases h), k0, b0, p0, e0⟩, a0⟩
    | 1, hq => cases hq; exact ⟨fun n z => ⟨(fun k h => by cases h), k1, b1, p1, e1⟩, a1⟩
    | 2, hq => cases hq; exact ⟨fun n z => ⟨(fun k h => by cases h), k2, b2, p2, e2⟩, a2⟩
    | 3, hq => cases hq; exact ⟨fun n z => ⟨(fun k h => by cases h), k3, b3, p3, e3⟩, k3, p3, b3, e3, f3, a3⟩
    | n + 4, hq => cases hq
end
