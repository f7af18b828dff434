/-! THE WORK'S TEXT: abstract, 2 -/
section
variable {tb : Nat → Nat} {n np nq : Nat} {full : Bool} {sr : wS → wS}
theorem pSgn_nn {c a' : Nat} {r : tR} (e : pSgn tb n c r = .inl a') : ∃ a, r = .inl a ∧ a < a' ∧ a' ≤ n := by
  cases r with
  | inr q => cases e
  | inl a =>
    have h1 := sk_ge tb n a
    by_cases q : sk tb n a < n ∧ tb (sk tb n a) = c
    · rw [pSgn_y q] at e; cases e; exact ⟨a, rfl, by omega, by omega⟩
    · rw [show pSgn tb n c (.inl a) = .inr (1, sk tb n a) from if_neg q] at e; cases e
theorem wend_in {b : Nat} (hb : b ≤ n) : wend tb n b ≤ n := (trun_ge (p := tlet) (tb := tb) (n := n) n b).2.1 hb
theorem wStp_inv {b : Nat} {X : wX} (hs : full = false → ∀ s, wInv n s → wInv n (sr s)) (hb : b ≤ n) (hX : 5 * X.1 ≤ b) : wInv n (wStp tb n np nq full sr b X) := by
  intro a ha
  unfold wStp at ha ⊢
  have hw := wend_in (tb := tb) hb
  cases hk : wKnd tb b (wend tb n b) with
  | none => rw [hk] at ha; cases ha
  | some k =>
    rw [hk] at ha
    obtain ⟨l1, l2, l3⟩ := wKnd_len hk
    unfold wKin at ha ⊢
    dsimp only at ha ⊢
    by_cases k5 : k = 5
    · rw [if_pos k5] at ha ⊢
      cases full with
      | true => rw [if_pos rfl] at ha; cases ha
      | false =>
        rw [if_neg (by decide)] at ha ⊢
        obtain ⟨c1, e1, g1, g2⟩ := pSgn_nn ha
        obtain ⟨c2, e2, g3, g4⟩ := pSgn_nn e1
        have i := hs rfl (pSgn tb n 91 (wNum tb n np nq 5 (.inl (wend tb n b))).2, wRow 5 (wNum tb n np nq 5 (.inl (wend tb n b))).1 X) (fun c hc => by
          obtain ⟨c3, e3, g5, g6⟩ := pSgn_nn hc
          have := wNum_a hw e3
          refine ⟨g6, ?_⟩
          show 5 * (X.1 + 1) ≤ c
          have := l3 k5
          omega) c2 e2
        exact ⟨g2, by show 5 * (sr _).2.1 ≤ a; omega⟩
    · rw [if_neg k5] at ha ⊢
      obtain ⟨c1, e1, g1, g2⟩ := pSgn_nn ha
      have := wNum_a hw e1
      refine ⟨g2, ?_⟩
      show 5 * (X.1 + 1) ≤ a
      omega
theorem wItr_inv {F : Nat → wX → wS} {top : Bool} (hF : ∀ b X, b ≤ n → 5 * X.1 ≤ b → wInv n (F b X)) : ∀ m s, wInv n s → wInv n (wItr tb n F top m s)
  | 0, _, I => I
  | _ + 1, (.inr _, _), I => I
  | m + 1, (.inl a, X), I => by
    obtain ⟨i1, i2⟩ := I a rfl
    dsimp only at i2
    have h1 := sk_ge tb n a
    have h2 := sk_le (tb := tb) i1
    have e : wItr tb n F top (m + 1) (.inl a, X) = if wStop top tb n (sk tb n a) = true then (.inl (sk tb n a), X) else wItr tb n F top m (F (sk tb n a) X) := rfl
    rw [e]
    split
    · exact fun c hc => by cases hc; exact ⟨h2, by dsimp only; omega⟩
    · exact wItr_inv hF m _ (hF _ _ h2 (by omega))
theorem wIn_inv : ∀ L s, wInv n s → wInv n (wIn tb n np nq L s)
  | 0 => wItr_inv (fun b X hb hX => wStp_inv (fun h => by cases h) hb hX) 150
  | L + 1 => wItr_inv (fun b X hb hX => wStp_inv (fun _ => wIn_inv L) hb hX) 150
def wMon (n : Nat) (f : wS → wS) : Prop := ∀ a X a', a ≤ n → (f (.inl a, X)).1 = .inl a' → a ≤ a'
theorem wStp_mon {b a' : Nat} {X : wX} (hs : full = false → wMon n sr) (hr : full = false → ∀ q X, sr (.inr q, X) = (.inr q, X)) (hb : b ≤ n) (h : (wStp tb n np nq full sr b X).1 = .inl a') : b + 5 ≤ a' := by
  unfold wStp at h
  have hw := wend_in (tb := tb) hb
  cases hk : wKnd tb b (wend tb n b) with
  | none => rw [hk] at h; cases h
  | some k =>
    rw [hk] at h
    obtain ⟨l1, l2, l3⟩ := wKnd_len hk
    unfold wKin at h
    dsimp only at h
    by_cases k5 : k = 5
    · rw [if_pos k5] at h
      cases full with
      | true => rw [if_pos rfl] at h; cases h
      | false =>
        rw [if_neg (by decide)] at h
        have := l3 k5
        obtain ⟨c1, e1, g1, g2⟩ := pSgn_nn h
        obtain ⟨c2, e2, g3, g4⟩ := pSgn_nn e1
        cases hp : pSgn tb n 91 (wNum tb n np nq 5 (.inl (wend tb n b))).2 with
        | inr q => rw [hp, hr rfl] at e2; cases e2
        | inl c3 =>
          rw [hp] at e2
          obtain ⟨c4, e4, g5, g6⟩ := pSgn_nn hp
          have m1 := hs rfl _ _ _ g6 e2
          have := wNum_a hw e4
          omega
    · rw [if_neg k5] at h
      obtain ⟨c1, e1, g1, g2⟩ := pSgn_nn h
      have := wNum_a hw e1
      omega
theorem wItr_mon {F : Nat → wX → wS} {top : Bool} (hF : ∀ b X a', b ≤ n → (F b X).1 = .inl a' → b + 5 ≤ a' ∧ a' ≤ n) : ∀ m a X a', a ≤ n → (wItr tb n F top m (.inl a, X)).1 = .inl a' → a ≤ a'
  | 0, a, X, a', _, h => by cases h; exact Nat.le_refl _
  | m + 1, a, X, a', ha, h => by
    have h1 := sk_ge tb n a
    have h2 := sk_le (tb := tb) ha
    have e : wItr tb n F top (m + 1) (.inl a, X) = if wStop top tb n (sk tb n a) = true then (.inl (sk tb n a), X) else wItr tb n F top m (F (sk tb n a) X) := rfl
    rw [e] at h
    split at h
    · cases h; exact h1
    · rcases hf : F (sk tb n a) X with ⟨r, X2⟩
      rw [hf] at h
      cases r with
      | inr q => rw [wItr_r] at h; cases h
      | inl b =>
        obtain ⟨p1, p2⟩ := hF (sk tb n a) X b h2 (by rw [hf])
        have := wItr_mon hF m b X2 a' p2 h
        omega
theorem wStp_le {b a' : Nat} {X : wX} (h : (wStp tb n np nq full sr b X).1 = .inl a') : a' ≤ n := by
  unfold wStp wKin at h
  split at h
  · cases h
  · split at h
    · split at h
      · cases h
      · exact (pSgn_nn h).elim (fun _ g => g.2.2)
    · exact (pSgn_nn h).elim (fun _ g => g.2.2)
theorem wIn_mon : ∀ L, wMon n (wIn tb n np nq L)
  | 0 => fun a X a' ha h => wItr_mon (fun b X a' hb h => ⟨wStp_mon (fun h => by cases h) (fun h => by cases h) hb h, wStp_le h⟩) 150 a X a' ha h
  | L + 1 => fun a X a' ha h => wItr_mon (fun b X a' hb h => ⟨wStp_mon (fun _ => wIn_mon L) (fun _ q X => wIn_r L) hb h, wStp_le h⟩) 150 a X a' ha h
end
