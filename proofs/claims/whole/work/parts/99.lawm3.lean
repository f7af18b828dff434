/-! THE LAW'S TEXT: the model, 3 -/
section
variable {d k : Nat} {w : List Nat} {tb : Nat → Nat} {n : Nat} {full : Bool} {sr : lS → lS} {o : Nat}
def lMon (F : lS → lS) : Prop := ∀ a X a', (F (.inl a, X)).1 = .inl a' → a ≤ a'
theorem lAdd_1 {kk : Nat} {v : Int32} {s : lS} : (lAdd kk v s).1 = s.1 := by
  unfold lAdd
  cases hs : s.1 with
  | inl a => rfl
  | inr q => exact hs
theorem lMon_s {F : lS → lS} (h : lMon F) (hr : ∀ s q, s.1 = .inr q → F s = s) {r : tR} {X : Nat × (Nat → Nat) × (Nat → Int32)} {a' : Nat} (e : (F (r, X)).1 = .inl a') : ∃ a, r = .inl a ∧ a ≤ a' := by
  cases r with
  | inl a => exact ⟨a, rfl, h a X a' e⟩
  | inr q => rw [hr (.inr q, X) q rfl] at e; cases e
theorem pSgn_a {c a' : Nat} {r : tR} (e : pSgn tb n c r = .inl a') : ∃ a, r = .inl a ∧ a < a' := by
  cases r with
  | inr q => cases e
  | inl a =>
    have h1 := sk_ge tb n a
    by_cases q : sk tb n a < n ∧ tb (sk tb n a) = c
    · rw [pSgn_y q] at e; cases e; exact ⟨a, rfl, by omega⟩
    · rw [pSgn_n q] at e; cases e
theorem lUnt_mon (hs : full = false → lMon sr) (hr : full = false → ∀ s q, s.1 = .inr q → sr s = s) : lMon (lUnt tb n full sr) := by
  intro a X a' e
  have h1 := sk_ge tb n a
  have edef : lUnt tb n full sr (.inl a, X) = if sk tb n a < n ∧ tb (sk tb n a) = 40 then (if full = true then (.inr (3, sk tb n a), X) else (pSgn tb n 41 (sr (.inl (sk tb n a + 1), X)).1, (sr (.inl (sk tb n a + 1), X)).2)) else if sk tb n a < n ∧ tdig (tb (sk tb n a)) = true then lAdd 0 (nI (pNum tb n 0 1000 (.inl a)).1) ((pNum tb n 0 1000 (.inl a)).2, X) else lWrd tb n full sr (sk tb n a) (wend tb n (sk tb n a)) X (lKnd tb (sk tb n a) (wend tb n (sk tb n a))) := rfl
  rw [edef] at e
  by_cases q1 : sk tb n a < n ∧ tb (sk tb n a) = 40
  · rw [if_pos q1] at e
    cases full with
    | true => rw [if_pos rfl] at e; cases e
    | false =>
      rw [if_neg (by simp)] at e
      obtain ⟨a2, e2, l2⟩ := pSgn_a e
      have := hs rfl _ _ _ e2
      omega
  · rw [if_neg q1] at e
    by_cases q2 : sk tb n a < n ∧ tdig (tb (sk tb n a)) = true
    · rw [if_pos q2, lAdd_1] at e
      have := pNum_a e
      omega
    · rw [if_neg q2] at e
      unfold lWrd at e
      have hw := trun_ge (p := tlet) (tb := tb) (n := n) n (sk tb n a)
      cases hk : lKnd tb (sk tb n a) (wend tb n (sk tb n a)) with
      | none => rw [hk] at e; cases e
      | some kk =>
        rw [hk] at e
        dsimp only at e
        have hwe : sk tb n a ≤ wend tb n (sk tb n a) := hw.1
        by_cases q3 : kk < 7
        · rw [if_pos q3, lAdd_1] at e
          cases e
          omega
        · rw [if_neg q3] at e
          cases full with
          | true => rw [if_pos rfl] at e; cases e
          | false =>
            rw [if_neg (by simp), lAdd_1] at e
            obtain ⟨a2, e2, l2⟩ := pSgn_a e
            obtain ⟨a3, e3, l3⟩ := lMon_s (hs rfl) (hr rfl) e2
            obtain ⟨a4, e4, l4⟩ := pSgn_a e3
            obtain ⟨a5, e5, l5⟩ := lMon_s (hs rfl) (hr rfl) e4
            obtain ⟨a6, e6, l6⟩ := pSgn_a e5
            cases e6
            omega
theorem lItr_mon {F : lS → lS} {c1 k1 c2 k2 : Nat} (h : lMon F) : ∀ m, lMon (lItr tb n F c1 k1 c2 k2 m)
  | 0 => fun a X a' e => by cases e; exact Nat.le_refl _
  | m + 1 => fun a X a' e => by
    have h1 := sk_ge tb n a
    have ih : lMon (lItr tb n F c1 k1 c2 k2 m) := lItr_mon h m
    have ed : lItr tb n F c1 k1 c2 k2 (m + 1) (.inl a, X) = if sk tb n a < n ∧ tb (sk tb n a) = c1 then lItr tb n F c1 k1 c2 k2 m (lAdd k1 (nI 0) (F (.inl (sk tb n a + 1), X))) else if sk tb n a < n ∧ tb (sk tb n a) = c2 then lItr tb n F c1 k1 c2 k2 m (lAdd k2 (nI 0) (F (.inl (sk tb n a + 1), X))) else (.inl (sk tb n a), X) := rfl
    have go : ∀ kk, (lItr tb n F c1 k1 c2 k2 m (lAdd kk (nI 0) (F (.inl (sk tb n a + 1), X)))).1 = .inl a' → a ≤ a' := fun kk e => by
      rcases hq : lAdd kk (nI 0) (F (.inl (sk tb n a + 1), X)) with ⟨r, X2⟩
      rw [hq] at e
      obtain ⟨a2, e2, l2⟩ := lMon_s ih (fun s q h => lItr_r h m) e
      have : (F (.inl (sk tb n a + 1), X)).1 = .inl a2 := by rw [← lAdd_1 (kk := kk) (v := nI 0), hq]; exact e2
      have := h _ _ _ this
      omega
    rw [ed] at e
    by_cases q1 : sk tb n a < n ∧ tb (sk tb n a) = c1
    · rw [if_pos q1] at e; exact go k1 e
    · rw [if_neg q1] at e
      by_cases q2 : sk tb n a < n ∧ tb (sk tb n a) = c2
      · rw [if_pos q2] at e; exact go k2 e
      · rw [if_neg q2] at e; cases e; omega
theorem lPrd_mon (hs : full = false → lMon sr) (hr : full = false → ∀ s q, s.1 = .inr q → sr s = s) : lMon (lPrd tb n full sr) := fun a X a' e => by
  rcases hq : lUnt tb n full sr (.inl a, X) with ⟨r, X2⟩
  unfold lPrd at e
  rw [hq] at e
  obtain ⟨a2, e2, l2⟩ := lMon_s (lItr_mon (lUnt_mon hs hr) 150) (fun s q h => lItr_r h 150) e
  have : (lUnt tb n full sr (.inl a, X)).1 = .inl a2 := by rw [hq]; exact e2
  have := lUnt_mon hs hr _ _ _ this
  omega
theorem lSum_mon (hs : full = false → lMon sr) (hr : full = false → ∀ s q, s.1 = .inr q → sr s = s) : lMon (lSum tb n full sr) := fun a X a' e => by
  rcases hq : lPrd tb n full sr (.inl a, X) with ⟨r, X2⟩
  unfold lSum at e
  rw [hq] at e
  obtain ⟨a2, e2, l2⟩ := lMon_s (lItr_mon (lPrd_mon hs hr) 150) (fun s q h => lItr_r h 150) e
  have : (lPrd tb n full sr (.inl a, X)).1 = .inl a2 := by rw [hq]; exact e2
  have := lPrd_mon hs hr _ _ _ this
  omega
theorem lTop_mon : ∀ L, lMon (lTop tb n L)
  | 0 => lSum_mon (fun h => nomatch h) (fun h => nomatch h)
  | L + 1 => lSum_mon (fun _ => lTop_mon L) (fun _ s q h => lTop_r h L)
theorem tm182 (hn : n ≤ 150) (hf : full = decide (¬ o < 6)) (ho : o ≤ 6) (hs : full = false → ∀ p D s, lInv n p D s → lInv n p (D + 1) (sr s)) (hm : full = false → lMon sr) (hr : full = false → ∀ s q, s.1 = .inr q → sr s = s) (HS : full = false → MSum w tb n (k + 8) (o + 1) sr) {S : xr_S} {p D : Nat} {s : lS} (Y : tY (xm S) tb n) (C : mLw (xm S) n o s) (I : lInv n p D s) : ∃ M, xr_Call (d + k + 11) 182 [xP 0 69] ([], w) S = some (.inl none, ([], w), xs S M) ∧ kN (xm S) M ∧ mLw M n o (lPrd tb n full sr s) := by
  obtain ⟨M1, q1, K1, C1⟩ := tm184 (d := d) (k := k) hn hf ho hs HS Y C I
  obtain ⟨M2, q2, K2, C2⟩ := tm182L (d := d + k + 6) (w := w) (o := o) hn (lUnt_inv hs) (fun S s p D Y C I => tm184 (d := d) (k := k) hn hf ho hs HS Y C I) (fun q X => lUnt_r rfl) (lUnt_mon hm hr) 150 (xs S M1) _ p D xU (fun a _ => by omega) (tY_N K1 Y) C1 (lUnt_inv hs p D s I)
  rw [xs_xs] at q2
  rw [xm_xs] at K2
  refine ⟨M2, ?_, kN_tr K1 K2, C2⟩
  rw [xe182, q1, xr_cV_s]
  exact q2
theorem tm181 (hn : n ≤ 150) (hf : full = decide (¬ o < 6)) (ho : o ≤ 6) (hs : full = false → ∀ p D s, lInv n p D s → lInv n p (D + 1) (sr s)) (hm : full = false → lMon sr) (hr : full = false → ∀ s q, s.1 = .inr q → sr s = s) (HS : full = false → MSum w tb n (k + 8) (o + 1) sr) : MSum w tb n (k + 12) o (lSum tb n full sr) := by
  intro d S s p D Y C I
  obtain ⟨M1, q1, K1, C1⟩ := tm182 (d := d) (k := k) hn hf ho hs hm hr HS Y C I
  obtain ⟨M2, q2, K2, C2⟩ := tm181L (d := d + k + 7) (w := w) (o := o) hn (lPrd_inv hs) (fun S s p D Y C I => tm182 (d := d) (k := k) hn hf ho hs hm hr HS Y C I) (fun q X => lPrd_r rfl) (lPrd_mon hm hr) 150 (xs S M1) _ p D xU (fun a _ => by omega) (tY_N K1 Y) C1 (lPrd_inv hs p D s I)
  rw [xs_xs] at q2
  rw [xm_xs] at K2
  refine ⟨M2, ?_, kN_tr K1 K2, C2⟩
  rw [show d + (k + 12) = d + k + 11 + 1 by omega, xe181, q1, xr_cV_s]
  exact q2
theorem tmTop (hn : n ≤ 150) : ∀ L, L ≤ 6 → MSum w tb n (4 * L + 12) (6 - L) (lTop tb n L)
  | 0, _ => tm181 (k := 0) hn (by decide) (by omega) (fun h => nomatch h) (fun h => nomatch h) (fun h => nomatch h) (fun h => nomatch h)
  | L + 1, h => by
    have ih := tmTop hn L (by omega)
    have e : 6 - L = 6 - (L + 1) + 1 := by omega
    rw [e] at ih
    exact tm181 (k := 4 * L + 4) hn (decide_eq_false (by omega)).symm (by omega) (fun _ => lTop_inv L) (fun _ => lTop_mon L) (fun _ s q h => lTop_r h L) (fun _ => ih)
theorem lTop_sk (a : Nat) (X : Nat × (Nat → Nat) × (Nat → Int32)) : ∀ L, lTop tb n L (.inl (sk tb n a), X) = lTop tb n L (.inl a, X) := by
  have u : ∀ full sr, lUnt tb n full sr (.inl (sk tb n a), X) = lUnt tb n full sr (.inl a, X) := fun full sr => by
    unfold lUnt pNum
    dsimp only
    rw [sk_sk]
  have s : ∀ full sr, lSum tb n full sr (.inl (sk tb n a), X) = lSum tb n full sr (.inl a, X) := fun full sr => by
    unfold lSum lPrd
    rw [u]
  intro L
  cases L with
  | zero => exact s _ _
  | succ L => exact s _ _
end
