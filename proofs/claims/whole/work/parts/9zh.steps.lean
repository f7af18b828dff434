/-! THE WORK'S STEPS: abstract -/
/-- the ground's row, the heap -/
abbrev aG := (Nat → Int32) × (Nat → Nat) × (Nat → Nat → Int32)
/-- steps begun, done, refused; the ground -/
abbrev aS := Nat × Nat × Nat × aG
def gpay (du : Nat → Nat) (g : Nat → Int32) (p : Nat) : Nat → Int32 := xu (xu (xu g (gN g (16 + (2 * p + 1))) (g (gN g (16 + (2 * p + 1))) - nI (du p))) (gN g (16 + 2 * p)) (xu g (gN g (16 + (2 * p + 1))) (g (gN g (16 + (2 * p + 1))) - nI (du p)) (gN g (16 + 2 * p)) + nI (du p))) (8 + p) (nI 1)
def ggive (g : Nat → Int32) (k y : Nat) : Nat → Int32 := xu (xu g (16 + k) (nI y)) (32 + k) (nI 0)
def aDo (f st ch : Nat) (du pl : Nat → Nat) (dy : Nat → Int32) (nq sz : Nat) (kd : Nat → Nat) (gv : Nat → Int32) (v : Nat × Nat × Nat × Nat) (G : aG) : Bool × aG := match v.1 with
  | 0 => if (G.1 (8 + v.2.1) = nI 0 ∧ gap G.1 (2 * v.2.1) (2 * v.2.1 + 1) (pl v.2.1) ≤ ch) ∧ ¬ G.1 (gN G.1 (16 + (2 * v.2.1 + 1))) < nI (du v.2.1) then (true, gpay du G.1 v.2.1, G.2) else (false, G)
  | 1 => if G.1 (8 + v.2.1) = nI 0 ∧ ¬ G.1 (16 + (2 * v.2.1 + v.2.2.1)) = nI v.2.2.2 then (true, ggive G.1 (2 * v.2.1 + v.2.2.1) v.2.2.2, G.2) else (false, G)
  | 2 => if (hcol G.2.1 G.2.2 (nI v.2.1)).isSome = true then (false, G) else (true, G.1, (hset st f (hup G.2.1 v.2.2.1 (G.2.1 v.2.2.1 + 1)) (hus G.2.2 v.2.2.1 (G.2.1 v.2.2.1) (nI v.2.1))).2)
  | 3 => if G.2.1 v.2.1 = 0 then (false, G) else (true, G.1, (hset st f (hup G.2.1 v.2.1 (G.2.1 v.2.1 - 1)) G.2.2).2)
  | _ => if G.1 144 < nI 200 then (true, gyear sz kd gv pl dy nq G.1, G.2) else (false, G)
def aOne (DO : Nat × Nat × Nat × Nat → aG → Bool × aG) (v : Nat × Nat × Nat × Nat) (A : aS) : aS := (A.1, (if (DO v A.2.2.2).1 = true then A.2.1 + 1 else A.2.1), (if (DO v A.2.2.2).1 = true then A.2.2.1 else A.2.2.1 + 1), (DO v A.2.2.2).2)
def aRep (F : aS → aS) : Nat → aS → aS
  | 0, a => a
  | n + 1, a => aRep F n (F a)
def aRun (DO : Nat × Nat × Nat × Nat → aG → Bool × aG) (X : wX) : Nat → Nat → Nat → aS → aS
  | 0, _, _, a => a
  | m + 1, i, b, a => if i < b ∧ a.1 < 200 then aRun DO X m (X.2.2 i) b (if (X.2.1 i).1 = 5 then aRep (aRun DO X m (i + 1) (X.2.2 i)) (X.2.1 i).2.1 (a.1 + 1, a.2) else aOne DO (X.2.1 i) (a.1 + 1, a.2)) else a
/-- what holds of a ground -/
def aGk (np nq : Nat) (pl : Nat → Nat) (G : aG) : Prop := xgW np nq pl G.1 ∧ hI G.2.1 G.2.2
def aOk (np nq : Nat) (pl : Nat → Nat) (A : aS) : Prop := A.1 ≤ 200 ∧ aGk np nq pl A.2.2.2
section
variable {np nq : Nat} {pl : Nat → Nat}
theorem xgW_h {g : Nat → Int32} {k y : Nat} (W : xgW np nq pl g) (n2 : nq ≤ 8) (hn : np ≤ 8) (hk : k < 2 * nq) (hy : y < np) : xgW np nq pl (xu g (16 + k) (nI y)) := by
  refine ⟨fun j hj => ?_, fun j i hj hi => ?_⟩
  · by_cases q : j = k
    · subst q
      rw [gN_y (by omega), xu_y rfl]
      exact ⟨rfl, hy⟩
    · rw [gN_u (by omega), xu_n (by omega)]
      exact W.1 j hj
  · rw [gN_u (by omega), xu_n (by omega)]
    exact W.2 j i hj hi
theorem aDo_ok {f st ch sz : Nat} {du : Nat → Nat} {dy : Nat → Int32} {kd : Nat → Nat} {gv : Nat → Int32} (hf : 17000 ≤ f) (h1 : 1 ≤ st) (h9 : st ≤ 9) (n1 : np ≤ 8) (n2 : nq ≤ 8) (n3 : ∀ p, p < nq → pl p ≤ 6) {v : Nat × Nat × Nat × Nat} (hv : wRok np nq v) {G : aG} (hG : aGk np nq pl G) : aGk np nq pl (aDo f st ch du pl dy nq sz kd gv v G).2 := by
  obtain ⟨k, p, x, y⟩ := v
  obtain ⟨g, h, s⟩ := G
  obtain ⟨W, I⟩ := hG
  obtain ⟨v1, v2, v3, v4, v5, v6⟩ := hv
  dsimp only at v1 v2 v3 v4 v5 v6 W I
  have B := hG_B (hI_G I)
  unfold aDo
  dsimp only
  split
  · have hp := v2 (by omega)
    split
    · refine ⟨?_, I⟩
      obtain ⟨_, l1⟩ := W.1 (2 * p + 1) (by omega)
      obtain ⟨_, l2⟩ := W.1 (2 * p) (by omega)
      exact xgW_o (xgW_o (xgW_o W n2 (by omega)) n2 (by omega)) n2 (by omega)
    · exact ⟨W, I⟩
  · have hp := v2 (by omega)
    obtain ⟨hx, hy⟩ := v3 rfl
    split
    · refine ⟨?_, I⟩
      exact xgW_o (xgW_h W n2 n1 (by omega) hy) n2 (by omega)
    · exact ⟨W, I⟩
  · have hp := v2 (by omega)
    have hx := v4 rfl
    split
    · exact ⟨W, I⟩
    · rename_i hc
      refine ⟨W, ?_⟩
      have hc : hcol h s (nI p) = none := by
        cases hq : hcol h s (nI p) with
        | none => rfl
        | some z => rw [hq] at hc; exact absurd rfl hc
      have b1 := B x hx
      have := hsq_le (hup_B (x := x) (n := h x + 1) B (by omega))
      refine hI_set h1 h9 (by omega) ?_
      have c1 := hcnt_put (x := x) hx (show p < 8 by omega) hc
      have c2 := hup_T (h := h) (n := h x + 1) hx
      have := I.2
      omega
  · have hx := v5 rfl
    split
    · exact ⟨W, I⟩
    · rename_i hz
      refine ⟨W, ?_⟩
      have b1 := B p hx
      have := hsq_le (hup_B (x := p) (n := h p - 1) B (by omega))
      refine hI_set h1 h9 (by omega) ?_
      have c1 := hcnt_dig (s := s) hx (Nat.pos_of_ne_zero hz)
      have c2 := hup_T (h := h) (n := h p - 1) hx
      have := I.2
      omega
  · split
    · exact ⟨xgW_gyear W n2 n3, I⟩
    · exact ⟨W, I⟩
variable {DO : Nat × Nat × Nat × Nat → aG → Bool × aG} {X : wX}
theorem aRep_ok {F : aS → aS} {P : aS → Prop} (hF : ∀ a, P a → P (F a)) : ∀ n a, P a → P (aRep F n a)
  | 0, _, h => h
  | n + 1, a, h => aRep_ok hF n (F a) (hF a h)
theorem aRun_ok (hD : ∀ j G, j < X.1 → (X.2.1 j).1 ≠ 5 → aGk np nq pl G → aGk np nq pl (DO (X.2.1 j) G).2) (hE : ∀ j, j < X.1 → X.2.2 j ≤ X.1) : ∀ m i b A, b ≤ X.1 → aOk np nq pl A → aOk np nq pl (aRun DO X m i b A)
  | 0, _, _, _, _, h => h
  | m + 1, i, b, A, hb, h => by
    rw [aRun]
    split
    · rename_i q
      have h1 : aOk np nq pl (A.1 + 1, A.2) := ⟨by show A.1 + 1 ≤ 200; omega, h.2⟩
      refine aRun_ok hD hE m _ b _ hb ?_
      split
      · exact aRep_ok (P := aOk np nq pl) (fun a ha => aRun_ok hD hE m _ _ a (hE i (by omega)) ha) _ _ h1
      · rename_i q5
        exact ⟨h1.1, hD i _ (by omega) q5 h.2⟩
    · exact h
theorem aRun_full {m i b : Nat} {A : aS} (h : ¬ A.1 < 200) : aRun DO X m i b A = A := by
  cases m with
  | zero => rfl
  | succ m => rw [aRun, if_neg (fun q => h q.2)]
theorem aRep_full {m i b : Nat} {A : aS} (h : ¬ A.1 < 200) : ∀ n, aRep (aRun DO X m i b) n A = A
  | 0 => rfl
  | n + 1 => by rw [aRep, aRun_full h]; exact aRep_full h n
end
