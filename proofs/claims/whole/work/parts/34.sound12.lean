/-! SOUNDNESS, 12: the interpreter is the machine -/
theorem xq_sound {B : Nat} {dC : Nat → ClassId} {dI : Nat → Nat → Nat} {ac : Nat → ClassId} {l : Launch} (hl : l.stackTraces = false) : ∀ (n d i pc : Nat) (L st : List Value) (X : xq_X) (r : xq_O × xq_X), xq_run n d i pc L st X = some r → L.length = xq_loc i → xq_Ok B dC dI ac l d i pc L st X r
  | 0, _, _, _, _, _, _, _, h, _ => by cases h
  | n + 1, d, i, pc, L, st, X, r, h, hL => by
    rw [xq_run] at h
    cases hc : xq_code i pc with
    | none => rw [hc] at h; cases h
    | some I =>
      rw [hc] at h
      refine xq_step_ok (fun pc' L' st' X' h1 h2 => xq_sound hl n d i pc' L' st' X' r h2 h1) (fun j As X1 q h1 hj h13 hA hn => ?_) hc hL h
      cases d with
      | zero => cases h1
      | succ d' =>
        have hle : As.length ≤ xq_loc j := by rw [hn]; exact (xq_mokd hj).2.2.2.2.2.2.2
        have hlen : (xq_entry j As).length = xq_loc j := by unfold xq_entry; rw [List.length_append, List.length_replicate]; omega
        have h9 := xq_sound (B := B) (dC := dC) (dI := dI) (ac := ac) hl n d' j 0 (xq_entry j As) [] X1 q h1 hlen
        exact ⟨h9.1, h9.2.1, d', rfl, xq_Mt_of hl hj h13 hA hn h9.2.2⟩
