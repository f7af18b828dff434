/-! QUESTIONS, 9: the order of digging -/
def rkv (h : Nat → Nat) : Nat → List Nat
  | 0 => []
  | v + 1 => (List.range 8).filter (fun x => decide (h x = v + 1)) ++ rkv h v
def hL (h : Nat → Nat) : List Nat := rkv h 80
theorem rkv_mem {h : Nat → Nat} : ∀ (v x : Nat), x ∈ rkv h v ↔ x < 8 ∧ 0 < h x ∧ h x ≤ v
  | 0, x => by simp [rkv]; omega
  | v + 1, x => by
    rw [rkv, List.mem_append, rkv_mem v x, List.mem_filter, List.mem_range, decide_eq_true_eq]
    omega
theorem rkv_pw {h : Nat → Nat} : ∀ v, (rkv h v).Pairwise (fun a b => h b < h a ∨ (h a = h b ∧ a < b))
  | 0 => List.Pairwise.nil
  | v + 1 => by
    rw [rkv, List.pairwise_append]
    refine ⟨?_, rkv_pw v, fun a ha b hb => ?_⟩
    · have h1 : (List.range 8).Pairwise (fun a b => a < b) := List.pairwise_lt_range
      have h2 := List.Pairwise.filter (fun x => decide (h x = v + 1)) h1
      refine List.Pairwise.imp_of_mem (fun {a b} ha hb hab => ?_) h2
      have ea := of_decide_eq_true (List.mem_filter.mp ha).2
      have eb := of_decide_eq_true (List.mem_filter.mp hb).2
      omega
    · have ea := of_decide_eq_true (List.mem_filter.mp ha).2
      have eb := (rkv_mem v b).mp hb
      omega
theorem filt_sum {p : Nat → Bool} {f : Nat → Nat} : ∀ n, (((List.range n).filter p).map f).sum = xsN (fun x => cond (p x) (f x) 0) n
  | 0 => rfl
  | n + 1 => by
    rw [List.range_succ, List.filter_append, List.map_append, List.sum_append, filt_sum n, xsN]
    cases hp : p n <;> simp [hp]
theorem rkv_sum {h f : Nat → Nat} : ∀ v, ((rkv h v).map f).sum = xsN (fun x => cond (decide (0 < h x ∧ h x ≤ v)) (f x) 0) 8
  | 0 => by
    rw [xsN_congr (g' := fun _ => 0) 8 (fun k _ => by rw [decide_eq_false (by omega)]; rfl)]
    rfl
  | v + 1 => by
    rw [rkv, List.map_append, List.sum_append, filt_sum 8, rkv_sum v, ← xsN_add]
    refine xsN_congr 8 (fun k _ => ?_)
    by_cases q : h k = v + 1
    · rw [decide_eq_true q, decide_eq_false (by omega), decide_eq_true (by omega)]; rfl
    · rw [decide_eq_false q]
      by_cases q2 : 0 < h k ∧ h k ≤ v
      · rw [decide_eq_true q2, decide_eq_true (by omega)]; simp
      · rw [decide_eq_false q2, decide_eq_false (by omega)]; rfl
theorem rkv_len {h : Nat → Nat} (v : Nat) : (rkv h v).length ≤ 8 := by
  have e := rkv_sum (h := h) (f := fun _ => 1) v
  have : ((rkv h v).map (fun _ => 1)).sum = (rkv h v).length := by
    generalize rkv h v = l
    induction l with
    | nil => rfl
    | cons a t ih => simp [ih]; omega
  rw [this] at e
  have := xsN_le1 (g := fun x => cond (decide (0 < h x ∧ h x ≤ v)) 1 0) 8 (fun k _ => by cases decide (0 < h k ∧ h k ≤ v) <;> simp)
  omega
/-- the highest column that is not dug -/
def hbst (D : Nat → Bool) (h : Nat → Nat) (n : Nat) : Option Nat := xfo (fun x o => cond (decide (0 < h x) && !D x) (match o with | none => some x | some y => if h y < h x then some x else some y) o) n none
theorem hbst_s {D : Nat → Bool} {h : Nat → Nat} : ∀ n, (∀ y, hbst D h n = some y → y < n ∧ 0 < h y ∧ D y = false ∧ ∀ x, x < n → 0 < h x → D x = false → h x < h y ∨ (h x = h y ∧ y ≤ x)) ∧ (hbst D h n = none → ∀ x, x < n → 0 < h x → D x = true)
  | 0 => ⟨fun y q => (nomatch q), fun _ x hx => by omega⟩
  | n + 1 => by
    obtain ⟨i1, i2⟩ := hbst_s (D := D) (h := h) n
    have e : hbst D h (n + 1) = cond (decide (0 < h n) && !D n) (match hbst D h n with | none => some n | some y => if h y < h n then some n else some y) (hbst D h n) := rfl
    by_cases q : 0 < h n
    · cases hd : D n with
      | true =>
        rw [hd, Bool.not_true, Bool.and_false] at e
        rw [e]
        refine ⟨fun y hy => ?_, fun hy x hx h1 => ?_⟩
        · obtain ⟨g1, g2, g3, g4⟩ := i1 y hy
          refine ⟨by omega, g2, g3, fun x hx h1 h2 => ?_⟩
          rcases Nat.lt_or_ge x n with q2 | q2
          · exact g4 x q2 h1 h2
          · rw [show x = n by omega, hd] at h2; cases h2
        · rcases Nat.lt_or_ge x n with q2 | q2
          · exact i2 hy x q2 h1
          · rw [show x = n by omega]; exact hd
      | false =>
        rw [hd, decide_eq_true q, Bool.not_false, Bool.and_true] at e
        rw [e]
        dsimp only [cond_true]
        cases ho : hbst D h n with
        | none =>
          refine ⟨fun y hy => ?_, fun hy => (nomatch hy)⟩
          cases hy
          refine ⟨by omega, q, hd, fun x hx h1 h2 => ?_⟩
          rcases Nat.lt_or_ge x n with q2 | q2
          · have := i2 ho x q2 h1; rw [this] at h2; cases h2
          · rw [show x = n by omega]; exact Or.inr ⟨rfl, Nat.le_refl _⟩
        | some z =>
          obtain ⟨g1, g2, g3, g4⟩ := i1 z ho
          dsimp only
          by_cases q3 : h z < h n
          · rw [if_pos q3]
            refine ⟨fun y hy => ?_, fun hy => (nomatch hy)⟩
            cases hy
            refine ⟨by omega, q, hd, fun x hx h1 h2 => ?_⟩
            rcases Nat.lt_or_ge x n with q2 | q2
            · have := g4 x q2 h1 h2; omega
            · rw [show x = n by omega]; exact Or.inr ⟨rfl, Nat.le_refl _⟩
          · rw [if_neg q3]
            refine ⟨fun y hy => ?_, fun hy => (nomatch hy)⟩
            cases hy
            refine ⟨by omega, g2, g3, fun x hx h1 h2 => ?_⟩
            rcases Nat.lt_or_ge x n with q2 | q2
            · exact g4 x q2 h1 h2
            · rw [show x = n by omega]; omega
    · rw [decide_eq_false q, Bool.false_and] at e
      rw [e]
      refine ⟨fun y hy => ?_, fun hy x hx h1 => ?_⟩
      · obtain ⟨g1, g2, g3, g4⟩ := i1 y hy
        refine ⟨by omega, g2, g3, fun x hx h1 h2 => ?_⟩
        rcases Nat.lt_or_ge x n with q2 | q2
        · exact g4 x q2 h1 h2
        · rw [show x = n by omega] at h1; omega
      · rcases Nat.lt_or_ge x n with q2 | q2
        · exact i2 hy x q2 h1
        · rw [show x = n by omega] at h1; omega
theorem hbst_next {D : Nat → Bool} {h : Nat → Nat} {A C : List Nat} {b : Nat} (B : xhB 80 h) (e : hL h = A ++ b :: C) (hD : ∀ x, x < 8 → (D x = true ↔ x ∈ A)) : hbst D h 8 = some b := by
  have pw := rkv_pw (h := h) 80
  rw [show rkv h 80 = hL h from rfl, e, List.pairwise_append] at pw
  obtain ⟨_, p2, p3⟩ := pw
  have mem : ∀ x, x ∈ A ++ b :: C ↔ x < 8 ∧ 0 < h x ∧ h x ≤ 80 := fun x => by rw [← e]; exact rkv_mem 80 x
  obtain ⟨b8, b0, _⟩ := (mem b).mp (by simp)
  have bA : D b = false := by
    cases hd : D b with
    | false => rfl
    | true =>
      have := p3 b ((hD b b8).mp hd) b List.mem_cons_self
      omega
  obtain ⟨i1, i2⟩ := hbst_s (D := D) (h := h) 8
  cases ho : hbst D h 8 with
  | none => rw [i2 ho b b8 b0] at bA; cases bA
  | some y =>
    obtain ⟨g1, g2, g3, g4⟩ := i1 y ho
    have hy : y ∈ A ++ b :: C := (mem y).mpr ⟨g1, g2, B y g1⟩
    have h5 := g4 b b8 b0 bA
    rcases List.mem_append.mp hy with h6 | h6
    · rw [(hD y g1).mpr h6] at g3; cases g3
    · rcases List.mem_cons.mp h6 with rfl | h7
      · rfl
      · have := (List.pairwise_cons.mp p2).1 y h7
        omega
theorem hbst_end {D : Nat → Bool} {h : Nat → Nat} (B : xhB 80 h) (hD : ∀ x, x < 8 → (D x = true ↔ x ∈ hL h)) : hbst D h 8 = none := by
  cases ho : hbst D h 8 with
  | none => rfl
  | some y =>
    obtain ⟨g1, g2, g3, g4⟩ := (hbst_s (D := D) (h := h) 8).1 y ho
    have := (hD y g1).mpr ((rkv_mem 80 y).mpr ⟨g1, g2, B y g1⟩)
    rw [this] at g3; cases g3
theorem xbt_z {x : Int32} {k : Nat} (hk : k < 31) : (((x >>> (nI k &&& 31)) &&& nI 1) = nI 0) ↔ xbt x k = false := by
  unfold xbt
  rw [← xbt_sh hk]
  have e : ∀ y : BitVec 32, (y &&& 1#32 = 0#32) ↔ y.getLsbD 0 = false := fun y => by
    rw [BitVec.and_one_eq_setWidth_ofBool_getLsbD]
    cases y.getLsbD 0 <;> decide
  rw [← e]
  constructor
  · intro h
    have := congrArg Int32.toBitVec h
    rw [Int32.toBitVec_and] at this
    exact this
  · intro h
    apply Int32.toBitVec_inj.mp
    rw [Int32.toBitVec_and]
    exact h
/-- a column of v shards dug: above, below, dug -/
def wg : Nat → Nat × Nat × Nat → Nat × Nat × Nat
  | 0, s => s
  | v + 1, s => wg v (s.1 + (v + 1) * (s.2.2 + 1), s.2.1 + (v + 1), s.2.2 + 1)
def wall (h : Nat → Nat) : List Nat → Nat × Nat × Nat → Nat × Nat × Nat
  | [], s => s
  | b :: l, s => wall h l (wg (h b) s)
theorem wg_b : ∀ (v : Nat) (s : Nat × Nat × Nat), v ≤ 45 → s.1 ≤ 45 * (s.2.2 * s.2.2) → (wg v s).1 ≤ 45 * ((wg v s).2.2 * (wg v s).2.2) ∧ (wg v s).2.2 = s.2.2 + v ∧ (wg v s).2.1 = s.2.1 + v * (v + 1) / 2 ∧ (s.2.1 ≤ s.1 → (wg v s).2.1 ≤ (wg v s).1)
  | 0, s, _, h => ⟨h, rfl, by simp [wg], fun q => q⟩
  | v + 1, s, hv, h => by
    rw [wg]
    have key : s.1 + (v + 1) * (s.2.2 + 1) ≤ 45 * ((s.2.2 + 1) * (s.2.2 + 1)) := by
      have h1 : (v + 1) * (s.2.2 + 1) ≤ 45 * (s.2.2 + 1) := Nat.mul_le_mul_right _ (by omega)
      have h2 : (s.2.2 + 1) * (s.2.2 + 1) = s.2.2 * s.2.2 + 2 * s.2.2 + 1 := by
        rw [Nat.add_mul, Nat.mul_add]; omega
      omega
    obtain ⟨i1, i2, i3, i4⟩ := wg_b v (s.1 + (v + 1) * (s.2.2 + 1), s.2.1 + (v + 1), s.2.2 + 1) (by omega) key
    refine ⟨i1, by rw [i2]; dsimp only; omega, ?_, fun q => i4 ?_⟩
    · rw [i3]
      dsimp only
      have h3 : (v + 1) * (v + 1 + 1) = v * (v + 1) + 2 * (v + 1) := by
        rw [show v + 1 + 1 = v + 2 by omega, Nat.mul_add, Nat.mul_comm (v + 1) v]; omega
      rw [h3, Nat.add_mul_div_left _ _ (by omega)]
      omega
    · dsimp only
      have : (v + 1) * 1 ≤ (v + 1) * (s.2.2 + 1) := Nat.mul_le_mul_left _ (by omega)
      omega
theorem wall_b {h : Nat → Nat} (B : ∀ b, b < 8 → h b ≤ 45) : ∀ (l : List Nat) (s : Nat × Nat × Nat), (∀ b ∈ l, b < 8) → s.1 ≤ 45 * (s.2.2 * s.2.2) → (wall h l s).1 ≤ 45 * ((wall h l s).2.2 * (wall h l s).2.2) ∧ (wall h l s).2.2 = s.2.2 + (l.map h).sum ∧ (wall h l s).2.1 = s.2.1 + (l.map (fun b => h b * (h b + 1) / 2)).sum ∧ (s.2.1 ≤ s.1 → (wall h l s).2.1 ≤ (wall h l s).1)
  | [], s, _, hs => ⟨hs, by simp [wall], by simp [wall], fun q => q⟩
  | b :: l, s, hl, hs => by
    obtain ⟨i1, i2, i3, i4⟩ := wg_b (h b) s (B b (hl b List.mem_cons_self)) hs
    obtain ⟨j1, j2, j3, j4⟩ := wall_b B l (wg (h b) s) (fun c hc => hl c (List.mem_cons_of_mem _ hc)) i1
    rw [wall]
    refine ⟨j1, ?_, ?_, fun q => j4 (i4 q)⟩
    · rw [j2, i2, List.map_cons, List.sum_cons]; omega
    · rw [j3, i3, List.map_cons, List.sum_cons]; omega
section
variable {d : Nat} {w : List Nat} {S : xr_S} {c : Nat} {h : Nat → Nat} {s : Nat → Nat → Int32}
theorem oc41 (hc : c = 9 ∨ c = 18 ∨ c = 31) (H : xhC (xm S 0 (c + 1)) (xm S 0 (c + 2)) h s) (B : xhB 45 h) (v : Int32) : xr_Call (d + 1) 41 [xP 0 c, xI v] ([], w) S = some (.inl (some (oI (hbst (xbt v) h 8))), ([], w), S) := by
  have H1 := H.1
  rw [xe41 d w S c hc]
  obtain ⟨u, e⟩ := xl_upV (T := fun k u => xr_Run d 41 4 [xP 0 c, xI v, xI (oI (hbst (xbt v) h k)), xI (nI k), u] [] ([], w) S) 8 (fun k u hk => by
    have es : hbst (xbt v) h (k + 1) = cond (decide (0 < h k) && !xbt v k) (match hbst (xbt v) h k with | none => some k | some y => if h y < h k then some k else some y) (hbst (xbt v) h k) := rfl
    have bk := B k hk
    have z := xbt_z (x := v) (k := k) (by omega)
    by_cases q : 0 < h k
    · cases hd : xbt v k with
      | true =>
        rw [hd, Bool.not_true, Bool.and_false] at es
        refine ⟨xI (nI 0), ?_⟩
        refine (xg41_4 _ _ _ _ hc _ _ _ _).trans ?_
        rw [es, if_neg (show ¬ ((v >>> (nI k &&& 31)) &&& nI 1) = nI 0 from fun q2 => by rw [z.mp q2] at hd; cases hd)]
        simp (disch := omega) only [xi_t, xn_k, xn_lt, xn_eq, xn_mul, xn_add, xn_sub, xn_dec, xn_m1, xn_1m, if_pos, if_neg, if_true, if_false, cond_true, cond_false, true_and, and_true, false_and, and_false, xr_cI_s, xr_cV_s, xr_cI_e, xr_cV_e, xm_xs, xs_xs, H1]
      | false =>
        rw [hd, decide_eq_true q, Bool.not_false, Bool.and_true] at es
        refine ⟨xI (nI 1), ?_⟩
        refine (xg41_4 _ _ _ _ hc _ _ _ _).trans ?_
        rw [es, if_pos (z.mpr hd)]
        cases ho : hbst (xbt v) h k with
        | none => simp (disch := omega) only [xi_t, xn_k, xn_lt, xn_eq, xn_mul, xn_add, xn_sub, xn_dec, xn_m1, xn_1m, if_pos, if_neg, if_true, if_false, cond_true, cond_false, true_and, and_true, false_and, and_false, xr_cI_s, xr_cV_s, xr_cI_e, xr_cV_e, xm_xs, xs_xs, H1, oI]
        | some y =>
          have hy := ((hbst_s (D := xbt v) (h := h) k).1 y ho).1
          have by' := B y (by omega)
          simp (disch := omega) only [xi_t, xn_k, xn_lt, xn_eq, xn_mul, xn_add, xn_sub, xn_dec, xn_m1, xn_1m, if_pos, if_neg, if_true, if_false, cond_true, cond_false, true_and, and_true, false_and, and_false, xr_cI_s, xr_cV_s, xr_cI_e, xr_cV_e, xm_xs, xs_xs, H1, oI]
          by_cases q3 : h y < h k
          · rw [if_pos q3]; simp only [q3, if_true]
          · rw [if_neg q3]; simp only [q3, if_false]
    · rw [decide_eq_false q, Bool.false_and] at es
      refine ⟨xI (nI 0), ?_⟩
      refine (xg41_4 _ _ _ _ hc _ _ _ _).trans ?_
      rw [es]
      simp (disch := omega) only [xi_t, xn_k, xn_lt, xn_eq, xn_mul, xn_add, xn_sub, xn_dec, xn_m1, xn_1m, if_pos, if_neg, if_true, if_false, cond_true, cond_false, true_and, and_true, false_and, and_false, xr_cI_s, xr_cV_s, xr_cI_e, xr_cV_e, xm_xs, xs_xs, H1]) xU
  refine Eq.trans ?_ (e.trans ?_)
  · rfl
  · refine (xg41_4 _ _ _ _ hc _ _ _ _).trans ?_
    simp (disch := omega) only [xi_t, xn_k, xn_lt, xn_eq, xn_mul, xn_add, xn_sub, xn_dec, xn_m1, xn_1m, if_pos, if_neg, if_true, if_false, cond_true, cond_false, true_and, and_true, false_and, and_false, xr_cI_s, xr_cV_s, xr_cI_e, xr_cV_e, xm_xs, xs_xs]
theorem oc42 (hc : c = 9 ∨ c = 18 ∨ c = 31) (H : xhC (xm S 0 (c + 1)) (xm S 0 (c + 2)) h s) (B : xhB 45 h) : xr_Call (d + 2) 42 [xP 0 c] ([], w) S = some (.inl (some (nI (wall h (hL h) (0, 0, 0)).1)), ([], w), S) := by
  have H1 := H.1
  have lw : ∀ (v : Nat) (t : Nat × Nat × Nat) (dug : Int32) (k x : Nat), v ≤ 45 → xr_Run (d + 1) 42 48 [xP 0 c, xI (nI t.1), xI (nI t.2.2), xI dug, xI (nI k), xI (nI x), xI (nI v)] [] ([], w) S = xr_Run (d + 1) 42 9 [xP 0 c, xI (nI (wg v t).1), xI (nI (wg v t).2.2), xI dug, xI (nI (k + 1)), xI (nI x), xI (nI 0)] [] ([], w) S := by
    intro v
    induction v with
    | zero =>
      intro t dug k x _
      refine (xg42_48 _ _ _ _ hc _ _ _ _ _ _).trans ?_
      simp (disch := omega) only [xi_t, xn_k, xn_lt, xn_eq, xn_mul, xn_add, xn_sub, xn_dec, xn_m1, xn_1m, if_pos, if_neg, if_true, if_false, cond_true, cond_false, true_and, and_true, false_and, and_false, xr_cI_s, xr_cV_s, xr_cI_e, xr_cV_e, xm_xs, xs_xs, wg, Nat.lt_irrefl]
    | succ v ih =>
      intro t dug k x hv
      refine (xg42_48 _ _ _ _ hc _ _ _ _ _ _).trans ?_
      rw [wg, ← ih _ dug k x (by omega)]
      simp (disch := omega) only [xn_lt, xn_add, xn_mul, xn_dec, if_pos, Nat.add_sub_cancel]
  have lp : ∀ (C A : List Nat) (t : Nat × Nat × Nat) (dug : Int32) (u1 u2 : xr_V), hL h = A ++ C → (∀ x, x < 8 → (xbt dug x = true ↔ x ∈ A)) → xr_Run (d + 1) 42 9 [xP 0 c, xI (nI t.1), xI (nI t.2.2), xI dug, xI (nI A.length), u1, u2] [] ([], w) S = some (.inl (some (nI (wall h C t).1)), ([], w), S) := by
    intro C
    induction C with
    | nil =>
      intro A t dug u1 u2 e hD
      rw [List.append_nil] at e
      have hl := rkv_len (h := h) 80
      rw [show rkv h 80 = hL h from rfl, e] at hl
      refine (xg42_9 _ _ _ _ hc _ _ _ _ _ _).trans ?_
      rw [oc41 hc H B, hbst_end (xhB_le (by omega) B) (fun x hx => by rw [e]; exact hD x hx)]
      simp only [xr_cI_s, oI, wall, if_true]
      split <;> rfl
    | cons b C ih =>
      intro A t dug u1 u2 e hD
      have hl := rkv_len (h := h) 80
      rw [show rkv h 80 = hL h from rfl, e, List.length_append, List.length_cons] at hl
      have hb : b < 8 := ((rkv_mem (h := h) 80 b).mp (by rw [show rkv h 80 = hL h from rfl, e]; simp)).1
      have bb := B b hb
      refine (xg42_9 _ _ _ _ hc _ _ _ _ _ _).trans ?_
      rw [oc41 hc H B, hbst_next (xhB_le (by omega) B) e hD]
      simp (disch := omega) only [xi_t, xn_k, xn_lt, xn_eq, xn_mul, xn_add, xn_sub, xn_dec, xn_m1, xn_1m, if_pos, if_neg, if_true, if_false, cond_true, cond_false, true_and, and_true, false_and, and_false, xr_cI_s, xr_cV_s, xr_cI_e, xr_cV_e, xm_xs, xs_xs, oI, H1]
      rw [lw _ t _ _ _ bb]
      have := ih (A ++ [b]) (wg (h b) t) (dug ||| (nI 1 <<< (nI b &&& 31))) (xI (nI b)) (xI (nI 0)) (by rw [e]; simp) (fun x hx => by
        rw [xbt_or (by omega) (by omega), Bool.or_eq_true, hD x hx, decide_eq_true_eq]
        simp)
      rw [List.length_append, List.length_singleton] at this
      exact this
  rw [xe42 (d + 1) w S c hc]
  exact lp (hL h) [] (0, 0, 0) (nI 0) xU xU rfl (fun x _ => by rw [xbt_0]; simp)
theorem oc43 (hc : c = 9 ∨ c = 18 ∨ c = 31) (H : xhC (xm S 0 (c + 1)) (xm S 0 (c + 2)) h s) (B : xhB 45 h) : xr_Call (d + 1) 43 [xP 0 c] ([], w) S = some (.inl (some (nI (xsN (fun x => h x * (h x + 1) / 2) 8))), ([], w), S) := by
  have H1 := H.1
  rw [xe43 d w S c hc]
  have z : ¬ nI 2 = 0 := by decide
  refine (xl_up (T := fun k => xr_Run d 43 4 [xP 0 c, xI (nI (xsN (fun x => h x * (h x + 1) / 2) k)), xI (nI k)] [] ([], w) S) (n := 8) (fun k hk => ?_)).trans ?_
  · refine (xg43_4 _ _ _ _ hc _ _).trans ?_
    have bk := B k hk
    have : h k * (h k + 1) ≤ 45 * 46 := Nat.mul_le_mul bk (by omega)
    simp (disch := omega) only [z, xn_div, xi_t, xn_k, xn_lt, xn_eq, xn_mul, xn_add, xn_sub, xn_dec, xn_m1, xn_1m, if_pos, if_neg, if_true, if_false, cond_true, cond_false, true_and, and_true, false_and, and_false, xr_cI_s, xr_cV_s, xr_cI_e, xr_cV_e, xm_xs, xs_xs, H1, xsN]
  · refine (xg43_4 _ _ _ _ hc _ _).trans ?_
    simp (disch := omega) only [xi_t, xn_k, xn_lt, xn_eq, xn_mul, xn_add, xn_sub, xn_dec, xn_m1, xn_1m, if_pos, if_neg, if_true, if_false, cond_true, cond_false, true_and, and_true, false_and, and_false, xr_cI_s, xr_cV_s, xr_cI_e, xr_cV_e, xm_xs, xs_xs]
theorem om244 (H : xhM (xm S 0 89) h s) (B : xhB 45 h) : ∃ M, xr_Call (d + 2) 244 [xP 0 69] ([], w) S = some (.inl (some (nI (hL h).length)), ([], w), xs S M) ∧ (∀ i, i < (hL h).length → M 0 93 i = nI ((hL h).getD i 0)) ∧ ∀ b e, ¬ (b = 0 ∧ e = 93) → M b e = xm S b e := by
  have inner : ∀ (v : Nat), v < 80 → ∀ (n : Nat) (A C : List Nat) (M : xr_M), n ≤ 8 → hL h = A ++ ((List.range 8).filter (fun x => decide (h x = v + 1)) ++ C) → (∀ i, i < A.length → M 0 93 i = nI (A.getD i 0)) → (∀ b e, ¬ (b = 0 ∧ e = 93) → M b e = xm S b e) → ∃ M', xr_Run (d + 1) 244 11 [xP 0 69, xI (nI A.length), xI (nI (v + 1)), xI (nI 0)] [] ([], w) (xs S M) = xr_Run (d + 1) 244 11 [xP 0 69, xI (nI (A ++ (List.range n).filter (fun x => decide (h x = v + 1))).length), xI (nI (v + 1)), xI (nI n)] [] ([], w) (xs S M') ∧ (∀ i, i < (A ++ (List.range n).filter (fun x => decide (h x = v + 1))).length → M' 0 93 i = nI ((A ++ (List.range n).filter (fun x => decide (h x = v + 1))).getD i 0)) ∧ ∀ b e, ¬ (b = 0 ∧ e = 93) → M' b e = xm S b e := by
    intro v hv n
    induction n with
    | zero =>
      intro A C M _ e cA F
      refine ⟨M, by simp, by simpa using cA, F⟩
    | succ n ih =>
      intro A C M hn e cA F
      obtain ⟨M', r, c1, F'⟩ := ih A C M (by omega) e cA F
      have H' : xhM (xm (xs S M') 0 89) h s := by rw [xm_xs, F' 0 89 (by omega)]; exact H
      have r2 := hm192 (d := d) (w := w) (S := xs S M') (Or.inl rfl) H' (x := n) (by omega)
      have bn := B n (by omega)
      rw [List.range_succ, List.filter_append, ← List.append_assoc]
      by_cases q : h n = v + 1
      · have ef : [n].filter (fun x => decide (h x = v + 1)) = [n] := by simp [q]
        rw [ef]
        generalize hA : A ++ (List.range n).filter (fun x => decide (h x = v + 1)) = A1 at *
        have hl : A1.length < 8 := by
          have h1 := rkv_len (h := h) 80
          rw [show rkv h 80 = hL h from rfl, e] at h1
          have h2 : ((List.range (n + 1)).filter (fun x => decide (h x = v + 1))).length ≤ ((List.range 8).filter (fun x => decide (h x = v + 1))).length := by
            have e8 : List.range 8 = List.range (n + 1) ++ (List.range (8 - (n + 1))).map (n + 1 + ·) := by
              rw [← List.range_add, show n + 1 + (8 - (n + 1)) = 8 by omega]
            rw [e8, List.filter_append, List.length_append]; omega
          rw [List.range_succ, List.filter_append, ef, List.length_append, List.length_singleton] at h2
          rw [List.length_append, List.length_append] at h1
          rw [← hA, List.length_append]
          omega
        refine ⟨xw M' 0 93 A1.length (nI n), ?_, fun i hi => ?_, fun b e q2 => by rw [xw_r q2]; exact F' b e q2⟩
        · rw [r]
          refine (xg244_11 _ _ _ _ _ _).trans ?_
          rw [r2]
          simp (disch := omega) only [xi_t, xn_k, xn_lt, xn_eq, xn_mul, xn_add, xn_sub, xn_dec, xn_m1, xn_1m, if_pos, if_neg, if_true, if_false, cond_true, cond_false, true_and, and_true, false_and, and_false, xr_cI_s, xr_cV_s, xr_cI_e, xr_cV_e, xm_xs, xs_xs, List.length_append, List.length_singleton]
        · rw [List.length_append, List.length_singleton] at hi
          by_cases q3 : i = A1.length
          · rw [xw_y (by omega), q3]
            simp [List.getD]
          · rw [xw_n (by omega), c1 i (by omega)]
            have h1 : i < A1.length := by omega
            simp [List.getD, List.getElem?_append, h1]
      · have ef : [n].filter (fun x => decide (h x = v + 1)) = [] := by simp [q]
        rw [ef, List.append_nil]
        refine ⟨M', ?_, c1, F'⟩
        rw [r]
        refine (xg244_11 _ _ _ _ _ _).trans ?_
        rw [r2]
        simp (disch := omega) only [xi_t, xn_k, xn_lt, xn_eq, xn_mul, xn_add, xn_sub, xn_dec, xn_m1, xn_1m, if_pos, if_neg, if_true, if_false, cond_true, cond_false, true_and, and_true, false_and, and_false, xr_cI_s, xr_cV_s, xr_cI_e, xr_cV_e, xm_xs, xs_xs]
  have outer : ∀ (v : Nat), v ≤ 80 → ∀ (A : List Nat) (M : xr_M) (u : xr_V), hL h = A ++ rkv h v → (∀ i, i < A.length → M 0 93 i = nI (A.getD i 0)) → (∀ b e, ¬ (b = 0 ∧ e = 93) → M b e = xm S b e) → ∃ M', xr_Run (d + 1) 244 5 [xP 0 69, xI (nI A.length), xI (nI v), u] [] ([], w) (xs S M) = some (.inl (some (nI (hL h).length)), ([], w), xs S M') ∧ (∀ i, i < (hL h).length → M' 0 93 i = nI ((hL h).getD i 0)) ∧ ∀ b e, ¬ (b = 0 ∧ e = 93) → M' b e = xm S b e := by
    intro v
    induction v with
    | zero =>
      intro _ A M u e cA F
      rw [rkv, List.append_nil] at e
      refine ⟨M, ?_, by rw [e]; exact cA, F⟩
      refine (xg244_5 _ _ _ _ _ _).trans ?_
      rw [e]
      simp (disch := omega) only [xi_t, xn_k, xn_lt, xn_eq, xn_mul, xn_add, xn_sub, xn_dec, xn_m1, xn_1m, if_pos, if_neg, if_true, if_false, cond_true, cond_false, true_and, and_true, false_and, and_false, xr_cI_s, xr_cV_s, xr_cI_e, xr_cV_e, xm_xs, xs_xs, Nat.lt_irrefl]
    | succ v ih =>
      intro hv A M u e cA F
      rw [rkv] at e
      obtain ⟨M1, r1, c1, F1⟩ := inner v (by omega) 8 A (rkv h v) M (Nat.le_refl _) e cA F
      obtain ⟨M2, r2, c2, F2⟩ := ih (by omega) (A ++ (List.range 8).filter (fun x => decide (h x = v + 1))) M1 (xI (nI 8)) (by rw [e, List.append_assoc]) c1 F1
      refine ⟨M2, ?_, c2, F2⟩
      rw [← r2]
      refine (xg244_5 _ _ _ _ _ _).trans ?_
      rw [if_pos (by rw [xn_lt (by omega) (by omega)]; omega), r1]
      refine (xg244_11 _ _ _ _ _ _).trans ?_
      rw [if_neg (by rw [xn_lt (by omega) (by omega)]; omega), xn_dec _ (by omega), Nat.add_sub_cancel]
  obtain ⟨M, r, cM, F⟩ := outer 80 (Nat.le_refl _) [] (xm S) xU rfl (fun i hi => by simp at hi) (fun _ _ _ => rfl)
  refine ⟨M, ?_, cM, F⟩
  rw [xs_xm] at r
  rw [xe244]
  exact r
end
