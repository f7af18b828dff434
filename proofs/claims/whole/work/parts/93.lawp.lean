/-! THE LAW'S TEXT: read as the class reads it. A state: the reader, how many signs, their kinds, their numbers -/
abbrev lS : Type := tR × Nat × (Nat → Nat) × (Nat → Int32)
def lAdd (k : Nat) (v : Int32) (s : lS) : lS := match s.1 with
  | .inl _ => (s.1, s.2.1 + 1, (fun j => if j = s.2.1 then k else s.2.2.1 j), xu s.2.2.2 s.2.1 v)
  | .inr _ => s
/-- which word stands there -/
def lKnd (tb : Nat → Nat) (b e : Nat) : Option Nat := cond (wis (xr_by 7) tb b e) (some 1) (cond (wis (xr_by 8) tb b e) (some 2) (cond (wis (xr_by 9) tb b e) (some 3) (cond (wis (xr_by 10) tb b e) (some 4) (cond (wis (xr_by 11) tb b e) (some 5) (cond (wis (xr_by 12) tb b e) (some 6) (cond (wis (xr_by 13) tb b e) (some 11) (cond (wis (xr_by 14) tb b e) (some 12) none)))))))
def lWrd (tb : Nat → Nat) (n : Nat) (full : Bool) (sr : lS → lS) (b e : Nat) (D : Nat × (Nat → Nat) × (Nat → Int32)) (o : Option Nat) : lS := match o with
  | none => (.inr (1, b), D)
  | some k => if k < 7 then lAdd k (nI 0) (.inl e, D) else if full = true then (.inr (3, b), D) else
      lAdd k (nI 0) (pSgn tb n 93 (sr (pSgn tb n 44 (sr (pSgn tb n 91 (.inl e), D)).1, (sr (pSgn tb n 91 (.inl e), D)).2)).1, (sr (pSgn tb n 44 (sr (pSgn tb n 91 (.inl e), D)).1, (sr (pSgn tb n 91 (.inl e), D)).2)).2)
def lUnt (tb : Nat → Nat) (n : Nat) (full : Bool) (sr : lS → lS) (s : lS) : lS := match s.1 with
  | .inr _ => s
  | .inl a => if sk tb n a < n ∧ tb (sk tb n a) = 40 then (if full = true then (.inr (3, sk tb n a), s.2) else (pSgn tb n 41 (sr (.inl (sk tb n a + 1), s.2)).1, (sr (.inl (sk tb n a + 1), s.2)).2))
    else if sk tb n a < n ∧ tdig (tb (sk tb n a)) = true then lAdd 0 (nI (pNum tb n 0 1000 (.inl a)).1) ((pNum tb n 0 1000 (.inl a)).2, s.2)
    else lWrd tb n full sr (sk tb n a) (wend tb n (sk tb n a)) s.2 (lKnd tb (sk tb n a) (wend tb n (sk tb n a)))
def lItr (tb : Nat → Nat) (n : Nat) (f : lS → lS) (c1 k1 c2 k2 : Nat) : Nat → lS → lS
  | 0, s => s
  | m + 1, s => match s.1 with
    | .inr _ => s
    | .inl a => if sk tb n a < n ∧ tb (sk tb n a) = c1 then lItr tb n f c1 k1 c2 k2 m (lAdd k1 (nI 0) (f (.inl (sk tb n a + 1), s.2)))
      else if sk tb n a < n ∧ tb (sk tb n a) = c2 then lItr tb n f c1 k1 c2 k2 m (lAdd k2 (nI 0) (f (.inl (sk tb n a + 1), s.2)))
      else (.inl (sk tb n a), s.2)
def lPrd (tb : Nat → Nat) (n : Nat) (full : Bool) (sr : lS → lS) (s : lS) : lS := lItr tb n (lUnt tb n full sr) 42 9 47 10 150 (lUnt tb n full sr s)
def lSum (tb : Nat → Nat) (n : Nat) (full : Bool) (sr : lS → lS) (s : lS) : lS := lItr tb n (lPrd tb n full sr) 43 7 45 8 150 (lPrd tb n full sr s)
def lTop (tb : Nat → Nat) (n : Nat) : Nat → lS → lS
  | 0 => lSum tb n true (fun s => s)
  | L + 1 => lSum tb n false (lTop tb n L)
def lVld (kd : Nat → Nat) (sz : Nat) : Prop := ∀ k, k < sz → kd k ≤ 12 ∧ (7 ≤ kd k → 2 ≤ ldep kd k)
def lInv (n p D : Nat) (s : lS) : Prop := ∀ a, s.1 = .inl a → a ≤ n ∧ s.2.1 + p ≤ a ∧ lVld s.2.2.1 s.2.1 ∧ ldep s.2.2.1 s.2.1 = D
theorem ldep_cg {kd kd' : Nat → Nat} : ∀ k, (∀ j, j < k → kd j = kd' j) → ldep kd k = ldep kd' k
  | 0, _ => rfl
  | k + 1, h => by rw [ldep, ldep, ldep_cg k (fun j hj => h j (by omega)), h k (by omega)]
theorem lVld_add {kd : Nat → Nat} {sz k : Nat} (V : lVld kd sz) (hk : k ≤ 12) (hd : 7 ≤ k → 2 ≤ ldep kd sz) : lVld (fun j => if j = sz then k else kd j) (sz + 1) ∧ ldep (fun j => if j = sz then k else kd j) (sz + 1) = if k < 7 then ldep kd sz + 1 else ldep kd sz - 1 := by
  have e : ∀ i, i ≤ sz → ldep (fun j => if j = sz then k else kd j) i = ldep kd i := fun i hi => ldep_cg i (fun j hj => if_neg (by omega))
  refine ⟨fun i hi => ?_, ?_⟩
  · rw [e i (by omega)]
    by_cases q : i = sz
    · dsimp only
      rw [if_pos q, q]
      exact ⟨hk, hd⟩
    · dsimp only
      rw [if_neg q]
      exact V i (by omega)
  · rw [ldep, e sz (Nat.le_refl _), if_pos rfl]
section
variable {tb : Nat → Nat} {n : Nat} {full : Bool} {sr : lS → lS}
/-- a number or a leaf is added -/
theorem lInv_leaf {p D k : Nat} {v : Int32} {s : lS} (hk : k < 7) (I : lInv n (p + 1) D s) : lInv n p (D + 1) (lAdd k v s) := by
  intro a ha
  unfold lAdd at ha ⊢
  cases hs : s.1 with
  | inr q => rw [hs] at ha; dsimp only at ha; rw [hs] at ha; cases ha
  | inl a0 =>
    rw [hs] at ha
    dsimp only at ha ⊢
    cases ha
    obtain ⟨i1, i2, i3, i4⟩ := I _ hs
    obtain ⟨g1, g2⟩ := lVld_add (k := k) i3 (by omega) (by omega)
    exact ⟨i1, by omega, g1, by rw [g2, if_pos hk, i4]⟩
theorem lInv_op {p D k : Nat} {v : Int32} {s : lS} (hk : 7 ≤ k) (hk2 : k ≤ 12) (I : lInv n (p + 1) (D + 2) s) : lInv n p (D + 1) (lAdd k v s) := by
  intro a ha
  unfold lAdd at ha ⊢
  cases hs : s.1 with
  | inr q => rw [hs] at ha; dsimp only at ha; rw [hs] at ha; cases ha
  | inl a0 =>
    rw [hs] at ha
    dsimp only at ha ⊢
    cases ha
    obtain ⟨i1, i2, i3, i4⟩ := I _ hs
    obtain ⟨g1, g2⟩ := lVld_add (k := k) i3 (by omega) (by omega)
    exact ⟨i1, by omega, g1, by rw [g2, if_neg (by omega), i4]; omega⟩
theorem lInv_sgn {p D c : Nat} {r : tR} {X : Nat × (Nat → Nat) × (Nat → Int32)} (I : lInv n p D (r, X)) : lInv n (p + 1) D (pSgn tb n c r, X) := by
  intro a ha
  cases r with
  | inr q => cases ha
  | inl a0 =>
    obtain ⟨i1, i2, i3, i4⟩ := I a0 rfl
    have h1 := sk_ge tb n a0
    by_cases q : sk tb n a0 < n ∧ tb (sk tb n a0) = c
    · rw [pSgn_y q] at ha
      cases ha
      exact ⟨by omega, by dsimp only at i2 ⊢; omega, i3, i4⟩
    · rw [pSgn_n q] at ha; cases ha
theorem lInv_mono {p p' D : Nat} {s : lS} (h : p' ≤ p) (I : lInv n p D s) : lInv n p' D s := fun a ha => by
  obtain ⟨i1, i2, i3, i4⟩ := I a ha
  exact ⟨i1, by omega, i3, i4⟩
theorem lInv_bad {p D : Nat} {q : Nat × Nat} {X : Nat × (Nat → Nat) × (Nat → Int32)} : lInv n p D (.inr q, X) := fun a ha => nomatch ha
theorem pNum_a {lo hn a a' : Nat} (h : (pNum tb n lo hn (.inl a)).2 = .inl a') : a < a' ∧ a' ≤ n := by
  by_cases q : sk tb n a < n ∧ tdig (tb (sk tb n a)) = true
  · by_cases q2 : lo ≤ dval tb (dend tb n (sk tb n a) - sk tb n a) (sk tb n a) 0 ∧ dval tb (dend tb n (sk tb n a) - sk tb n a) (sk tb n a) 0 < hn
    · rw [pNum_y q q2] at h
      cases h
      have h1 := sk_ge tb n a
      have e : dend tb n (sk tb n a) = dend tb n (sk tb n a + 1) := trun_s q
      have h2 := trun_ge (p := tdig) (tb := tb) (n := n) n (sk tb n a + 1)
      rw [e]
      unfold dend
      exact ⟨by omega, h2.2.1 (by omega)⟩
    · rw [pNum_n q q2] at h; cases h
  · rw [pNum_d q] at h; cases h
theorem lKnd_w {b e k : Nat} (h : lKnd tb b e = some k) : b + 3 ≤ e ∧ (k < 7 ∨ k = 11 ∨ k = 12) := by
  have key : ∀ j, j < 22 → wis (xr_by j) tb b e = true → e - b = (xr_by j).length := fun j _ h => (of_decide_eq_true h).1
  have l7 : (xr_by 7).length = 5 := by decide
  have l8 : (xr_by 8).length = 5 := by decide
  have l9 : (xr_by 9).length = 4 := by decide
  have l10 : (xr_by 10).length = 4 := by decide
  have l11 : (xr_by 11).length = 3 := by decide
  have l12 : (xr_by 12).length = 3 := by decide
  have l13 : (xr_by 13).length = 5 := by decide
  have l14 : (xr_by 14).length = 4 := by decide
  unfold lKnd at h
  cases h7 : wis (xr_by 7) tb b e with
  | true => rw [h7] at h; cases h; have := key 7 (by omega) h7; omega
  | false =>
  rw [h7] at h
  cases h8 : wis (xr_by 8) tb b e with
  | true => rw [h8] at h; cases h; have := key 8 (by omega) h8; omega
  | false =>
  rw [h8] at h
  cases h9 : wis (xr_by 9) tb b e with
  | true => rw [h9] at h; cases h; have := key 9 (by omega) h9; omega
  | false =>
  rw [h9] at h
  cases h10 : wis (xr_by 10) tb b e with
  | true => rw [h10] at h; cases h; have := key 10 (by omega) h10; omega
  | false =>
  rw [h10] at h
  cases h11 : wis (xr_by 11) tb b e with
  | true => rw [h11] at h; cases h; have := key 11 (by omega) h11; omega
  | false =>
  rw [h11] at h
  cases h12 : wis (xr_by 12) tb b e with
  | true => rw [h12] at h; cases h; have := key 12 (by omega) h12; omega
  | false =>
  rw [h12] at h
  cases h13 : wis (xr_by 13) tb b e with
  | true => rw [h13] at h; cases h; have := key 13 (by omega) h13; omega
  | false =>
  rw [h13] at h
  cases h14 : wis (xr_by 14) tb b e with
  | true => rw [h14] at h; cases h; have := key 14 (by omega) h14; omega
  | false => rw [h14] at h; cases h
theorem lUnt_inv (hs : full = false → ∀ p D s, lInv n p D s → lInv n p (D + 1) (sr s)) : ∀ p D s, lInv n p D s → lInv n p (D + 1) (lUnt tb n full sr s) := by
  intro p D s I
  unfold lUnt
  cases hr : s.1 with
  | inr q => intro a ha; dsimp only at ha; rw [hr] at ha; cases ha
  | inl a =>
    obtain ⟨i1, i2, i3, i4⟩ := I a hr
    have h1 := sk_ge tb n a
    dsimp only
    by_cases q1 : sk tb n a < n ∧ tb (sk tb n a) = 40
    · rw [if_pos q1]
      cases full with
      | true => rw [if_pos rfl]; exact lInv_bad
      | false =>
        rw [if_neg (by simp)]
        have I1 : lInv n (p + 1) D (.inl (sk tb n a + 1), s.2) := fun a' ha => by
          cases ha
          exact ⟨by omega, by dsimp only; omega, i3, i4⟩
        exact lInv_mono (by omega) (lInv_sgn (hs rfl _ _ _ I1))
    · rw [if_neg q1]
      by_cases q2 : sk tb n a < n ∧ tdig (tb (sk tb n a)) = true
      · rw [if_pos q2]
        refine lInv_leaf (by omega) (fun a' ha => ?_)
        obtain ⟨g1, g2⟩ := pNum_a ha
        exact ⟨g2, by dsimp only; omega, i3, i4⟩
      · rw [if_neg q2]
        unfold lWrd
        have hge := trun_ge (p := tlet) (tb := tb) (n := n) n (sk tb n a)
        have hle : wend tb n (sk tb n a) ≤ n := hge.2.1 (sk_le i1)
        cases hk : lKnd tb (sk tb n a) (wend tb n (sk tb n a)) with
        | none => exact lInv_bad
        | some k =>
          obtain ⟨w1, w2⟩ := lKnd_w hk
          dsimp only
          by_cases q3 : k < 7
          · rw [if_pos q3]
            refine lInv_leaf q3 (fun a' ha => ?_)
            cases ha
            exact ⟨hle, by dsimp only; omega, i3, i4⟩
          · rw [if_neg q3]
            cases full with
            | true => rw [if_pos rfl]; exact lInv_bad
            | false =>
              rw [if_neg (by simp)]
              have I1 : lInv n (p + 1) D (.inl (wend tb n (sk tb n a)), s.2) := fun a' ha => by
                cases ha
                exact ⟨hle, by dsimp only; omega, i3, i4⟩
              have I2 := hs rfl _ _ _ (lInv_mono (p' := p + 1) (by omega) (lInv_sgn (tb := tb) (c := 91) I1))
              have I3 := hs rfl _ _ _ (lInv_mono (p' := p + 1) (by omega) (lInv_sgn (tb := tb) (c := 44) I2))
              exact lInv_op (by omega) (by omega) (lInv_mono (p' := p + 1) (by omega) (lInv_sgn (tb := tb) (c := 93) I3))
theorem lItr_inv {f : lS → lS} {c1 k1 c2 k2 : Nat} (hk1 : 7 ≤ k1 ∧ k1 ≤ 12) (hk2 : 7 ≤ k2 ∧ k2 ≤ 12) (hf : ∀ p D s, lInv n p D s → lInv n p (D + 1) (f s)) : ∀ m p D s, lInv n p (D + 1) s → lInv n p (D + 1) (lItr tb n f c1 k1 c2 k2 m s)
  | 0, p, D, s, I => I
  | m + 1, p, D, s, I => by
    rw [lItr]
    cases hr : s.1 with
    | inr q => intro a ha; dsimp only at ha; rw [hr] at ha; cases ha
    | inl a =>
      obtain ⟨i1, i2, i3, i4⟩ := I a hr
      have h1 := sk_ge tb n a
      have h2 := sk_le (tb := tb) i1
      have I1 : sk tb n a < n → lInv n (p + 1) (D + 1) (.inl (sk tb n a + 1), s.2) := fun q a' ha => by
        cases ha
        exact ⟨by omega, by dsimp only; omega, i3, i4⟩
      dsimp only
      by_cases q1 : sk tb n a < n ∧ tb (sk tb n a) = c1
      · rw [if_pos q1]
        exact lItr_inv hk1 hk2 hf m p D _ (lInv_op hk1.1 hk1.2 (hf _ _ _ (I1 q1.1)))
      · rw [if_neg q1]
        by_cases q2 : sk tb n a < n ∧ tb (sk tb n a) = c2
        · rw [if_pos q2]
          exact lItr_inv hk1 hk2 hf m p D _ (lInv_op hk2.1 hk2.2 (hf _ _ _ (I1 q2.1)))
        · rw [if_neg q2]
          intro a' ha
          cases ha
          exact ⟨h2, by dsimp only; omega, i3, i4⟩
theorem lPrd_inv (hs : full = false → ∀ p D s, lInv n p D s → lInv n p (D + 1) (sr s)) : ∀ p D s, lInv n p D s → lInv n p (D + 1) (lPrd tb n full sr s) := fun p D s I => lItr_inv (by omega) (by omega) (lUnt_inv hs) 150 p D _ (lUnt_inv hs p D s I)
theorem lSum_inv (hs : full = false → ∀ p D s, lInv n p D s → lInv n p (D + 1) (sr s)) : ∀ p D s, lInv n p D s → lInv n p (D + 1) (lSum tb n full sr s) := fun p D s I => lItr_inv (by omega) (by omega) (lPrd_inv hs) 150 p D _ (lPrd_inv hs p D s I)
theorem lTop_inv : ∀ L p D s, lInv n p D s → lInv n p (D + 1) (lTop tb n L s)
  | 0 => lSum_inv (fun h => nomatch h)
  | L + 1 => lSum_inv (fun _ => lTop_inv L)
theorem lItr_r {f : lS → lS} {c1 k1 c2 k2 : Nat} {s : lS} {q : Nat × Nat} (h : s.1 = .inr q) : ∀ m, lItr tb n f c1 k1 c2 k2 m s = s
  | 0 => rfl
  | m + 1 => by rw [lItr, h]
theorem lUnt_r {s : lS} {q : Nat × Nat} (h : s.1 = .inr q) : lUnt tb n full sr s = s := by
  unfold lUnt; rw [h]
theorem lPrd_r {s : lS} {q : Nat × Nat} (h : s.1 = .inr q) : lPrd tb n full sr s = s := by
  unfold lPrd; rw [lUnt_r h, lItr_r h]
theorem lSum_r {s : lS} {q : Nat × Nat} (h : s.1 = .inr q) : lSum tb n full sr s = s := by
  unfold lSum; rw [lPrd_r h, lItr_r h]
theorem lTop_r {s : lS} {q : Nat × Nat} (h : s.1 = .inr q) : ∀ L, lTop tb n L s = s
  | 0 => lSum_r h
  | L + 1 => lSum_r h
end
