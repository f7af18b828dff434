/-! QUESTIONS, 6: rings. Bits -/
def xbt (x : Int32) (k : Nat) : Bool := x.toBitVec.getLsbD k
theorem xbv1 (y : BitVec 32) : (y &&& 1#32 = 1#32) ↔ y.getLsbD 0 = true := by
  rw [BitVec.and_one_eq_setWidth_ofBool_getLsbD]
  cases y.getLsbD 0 <;> decide
theorem xbt_sh {x : Int32} {k : Nat} (hk : k < 31) : (x >>> (nI k &&& 31)).toBitVec.getLsbD 0 = x.toBitVec.getLsbD k := by
  have e : ((nI k &&& 31 : Int32).toBitVec.smod 32).toNat = k := by
    have : ∀ k : Fin 31, ((nI k.val &&& 31 : Int32).toBitVec.smod 32).toNat = k.val := by decide +kernel
    exact this ⟨k, hk⟩
  rw [Int32.toBitVec_shiftRight]
  show (x.toBitVec.sshiftRight ((nI k &&& 31 : Int32).toBitVec.smod 32).toNat).getLsbD 0 = _
  rw [BitVec.getLsbD_sshiftRight, e]
  simp
  intro h; omega
theorem xbt_t {x : Int32} {k : Nat} (hk : k < 31) : (((x >>> (nI k &&& 31)) &&& nI 1) = nI 1) ↔ xbt x k = true := by
  unfold xbt
  rw [← xbt_sh hk, ← xbv1]
  constructor
  · intro h
    have := congrArg Int32.toBitVec h
    rw [Int32.toBitVec_and] at this
    exact this
  · intro h
    apply Int32.toBitVec_inj.mp
    rw [Int32.toBitVec_and]
    exact h
theorem xbt_or {x : Int32} {j k : Nat} (hj : j < 31) (hk : k < 31) : xbt (x ||| (nI 1 <<< (nI j &&& 31))) k = (xbt x k || decide (k = j)) := by
  unfold xbt
  rw [Int32.toBitVec_or, BitVec.getLsbD_or]
  have : ∀ j k : Fin 31, ((nI 1 <<< (nI j.val &&& 31) : Int32).toBitVec.getLsbD k.val) = decide (k.val = j.val) := by decide +kernel
  rw [this ⟨j, hj⟩ ⟨k, hk⟩]
theorem xbt_0 (k : Nat) : xbt (nI 0) k = false := by
  unfold xbt
  rw [show (nI 0).toBitVec = 0#32 from rfl, BitVec.getLsbD_zero]
theorem xbt_1 {j k : Nat} (hj : j < 31) (hk : k < 31) : xbt (nI 1 <<< (nI j &&& 31)) k = decide (k = j) := by
  have : ∀ j k : Fin 31, ((nI 1 <<< (nI j.val &&& 31) : Int32).toBitVec.getLsbD k.val) = decide (k.val = j.val) := by decide +kernel
  exact this ⟨j, hj⟩ ⟨k, hk⟩
/-! searches -/
def rcin {α : Type} (f : Nat → Option α) : Nat → Nat → Option α
  | 0, _ => none
  | n + 1, j => match f j with
    | some a => some a
    | none => rcin f n (j + 1)
theorem rcin_congr {α : Type} {f f' : Nat → Option α} : ∀ (n j : Nat), (∀ i, j ≤ i → i < j + n → f i = f' i) → rcin f n j = rcin f' n j
  | 0, _, _ => rfl
  | n + 1, j, h => by rw [rcin, rcin, h j (Nat.le_refl j) (by omega), rcin_congr n (j + 1) (fun i h1 h2 => h i (by omega) (by omega))]
theorem rcin_none {α : Type} {f : Nat → Option α} : ∀ (n j : Nat), rcin f n j = none → ∀ i, j ≤ i → i < j + n → f i = none
  | 0, _, _ => fun i h1 h2 => by omega
  | n + 1, j, h => fun i h1 h2 => by
    rw [rcin] at h
    cases hc : f j with
    | some a => rw [hc] at h; cases h
    | none =>
      rw [hc] at h
      rcases Nat.eq_or_lt_of_le h1 with rfl | q
      · exact hc
      · exact rcin_none n (j + 1) h i q (by omega)
theorem rcin_some {α : Type} {f : Nat → Option α} {a : α} : ∀ (n j : Nat), rcin f n j = some a → ∃ i, j ≤ i ∧ i < j + n ∧ f i = some a
  | 0, _, h => by cases h
  | n + 1, j, h => by
    rw [rcin] at h
    cases hc : f j with
    | some b => rw [hc] at h; cases h; exact ⟨j, by omega, by omega, hc⟩
    | none =>
      rw [hc] at h
      obtain ⟨i, h1, h2, h3⟩ := rcin_some n (j + 1) h
      exact ⟨i, by omega, by omega, h3⟩
def rcf (O : Nat → Nat → Bool) (np a : Nat) : Nat → Nat → Option (List Nat)
  | 0, x => cond (O x a) (some []) none
  | k + 1, x => rcin (fun b => cond (O x b) ((rcf O np a k b).map (fun l => b :: l)) none) (np - (a + 1)) (a + 1)
def rmf (O : Nat → Nat → Bool) (np a : Nat) : Nat → Nat → Int32 → Option (List Nat)
  | 0, x, _ => cond (O x a) (some []) none
  | k + 1, x, v => rcin (fun b => cond (xbt v b) none (cond (O x b) ((rmf O np a k b (v ||| (nI 1 <<< (nI b &&& 31)))).map (fun l => b :: l)) none)) (np - (a + 1)) (a + 1)
/-- a closing walk -/
def rcw (O : Nat → Nat → Bool) (np a : Nat) : List Nat → Nat → Prop
  | [], x => O x a = true
  | b :: l, x => (a < b ∧ b < np) ∧ O x b = true ∧ rcw O np a l b
section
variable {O : Nat → Nat → Bool} {np a : Nat}
theorem rcf_some : ∀ (k x : Nat) (l : List Nat), rcf O np a k x = some l → rcw O np a l x ∧ l.length = k
  | 0, x, l, h => by
    rw [rcf] at h
    cases ho : O x a with
    | true => rw [ho] at h; cases h; exact ⟨ho, rfl⟩
    | false => rw [ho] at h; cases h
  | k + 1, x, l, h => by
    rw [rcf] at h
    obtain ⟨b, h1, h2, h3⟩ := rcin_some _ _ h
    cases ho : O x b with
    | false => rw [ho] at h3; cases h3
    | true =>
      rw [ho] at h3
      cases hr : rcf O np a k b with
      | none => rw [hr] at h3; cases h3
      | some l' =>
        rw [hr] at h3
        cases h3
        obtain ⟨g1, g2⟩ := rcf_some k b l' hr
        exact ⟨⟨⟨by omega, by omega⟩, ho, g1⟩, by simp [g2]⟩
theorem rcf_none : ∀ (k x : Nat), rcf O np a k x = none → ∀ l, rcw O np a l x → l.length ≠ k
  | 0, x, h, l, hl => by
    intro e
    have : l = [] := List.eq_nil_of_length_eq_zero e
    subst this
    rw [rcf, show O x a = true from hl] at h
    cases h
  | k + 1, x, h, l, hl => by
    intro e
    cases l with
    | nil => cases e
    | cons b l =>
      obtain ⟨⟨h1, h2⟩, h3, h4⟩ := hl
      rw [rcf] at h
      have h5 := rcin_none _ _ h b (by omega) (by omega)
      simp only [h3, cond_true] at h5
      cases hr : rcf O np a k b with
      | some l' => rw [hr] at h5; cases h5
      | none => exact rcf_none k b hr l h4 (by simpa using e)
theorem rcw_suf : ∀ (B C : List Nat) (b x : Nat), rcw O np a (B ++ b :: C) x → rcw O np a C b
  | [], C, b, x, h => h.2.2
  | y :: B, C, b, x, h => rcw_suf B C b y h.2.2
theorem rcw_short : ∀ (l : List Nat) (x : Nat), rcw O np a l x → ¬ l.Nodup → ∃ l', rcw O np a l' x ∧ l'.length < l.length ∧ l' ≠ []
  | [], _, _, h => absurd List.nodup_nil h
  | b :: t, x, hw, h => by
    by_cases q : b ∈ t
    · obtain ⟨B, C, e⟩ := List.append_of_mem q
      refine ⟨b :: C, ⟨hw.1, hw.2.1, ?_⟩, ?_, by simp⟩
      · have := hw.2.2; rw [e] at this; exact rcw_suf B C b b this
      · rw [e]; simp; omega
    · have h2 : ¬ t.Nodup := fun h3 => h (List.nodup_cons.mpr ⟨q, h3⟩)
      obtain ⟨t', g1, g2, g3⟩ := rcw_short t b hw.2.2 h2
      exact ⟨b :: t', ⟨hw.1, hw.2.1, g1⟩, by simpa using g2, by simp⟩
theorem rcf_rmf (hn : np ≤ 8) : ∀ (k x : Nat) (v : Int32) (V : List Nat), (∀ b, b < 8 → (xbt v b = true ↔ b ∈ V)) → (∀ l, rcw O np a l x → l.length = k → (∀ y ∈ l, y ∉ V) ∧ l.Nodup) → rcf O np a k x = rmf O np a k x v
  | 0, _, _, _, _, _ => rfl
  | k + 1, x, v, V, hv, H => by
    rw [rcf, rmf]
    refine rcin_congr _ _ (fun b h1 h2 => ?_)
    cases ho : O x b with
    | false => cases xbt v b <;> rfl
    | true =>
      dsimp only [cond_true]
      cases hb : xbt v b with
      | true =>
        have hm : b ∈ V := (hv b (by omega)).mp hb
        cases hr : rcf O np a k b with
        | none => rfl
        | some l =>
          obtain ⟨g1, g2⟩ := rcf_some k b l hr
          have := (H (b :: l) ⟨⟨by omega, by omega⟩, ho, g1⟩ (by simp [g2])).1 b List.mem_cons_self
          exact absurd hm this
      | false =>
        dsimp only [cond_false]
        rw [rcf_rmf hn k b (v ||| (nI 1 <<< (nI b &&& 31))) (b :: V) (fun c hc => ?_) (fun l hl e => ?_)]
        · rw [xbt_or (by omega) (by omega), Bool.or_eq_true, hv c hc, List.mem_cons, decide_eq_true_eq, or_comm]
        · obtain ⟨g1, g2⟩ := H (b :: l) ⟨⟨by omega, by omega⟩, ho, hl⟩ (by simp [e])
          obtain ⟨g3, g4⟩ := List.nodup_cons.mp g2
          refine ⟨fun y hy => ?_, g4⟩
          rw [List.mem_cons]
          rintro (rfl | h5)
          · exact g3 hy
          · exact g1 y (List.mem_cons_of_mem _ hy) h5
theorem rcw_gt : ∀ (l : List Nat) (x : Nat), rcw O np a l x → ∀ y ∈ l, a < y ∧ y < np
  | [], _, _, y, hy => absurd hy List.not_mem_nil
  | b :: t, x, hw, y, hy => by
    rcases List.mem_cons.mp hy with rfl | h
    · exact hw.1
    · exact rcw_gt t b hw.2.2 y h
theorem rcf_top (hn : np ≤ 8) (ha : a < np) {k : Nat} (h0 : ∀ j, 1 ≤ j → j < k → rcf O np a j a = none) : rcf O np a k a = rmf O np a k a (nI 1 <<< (nI a &&& 31)) := by
  refine rcf_rmf hn k a _ [a] (fun b hb => ?_) (fun l hl e => ⟨fun y hy => ?_, ?_⟩)
  · rw [xbt_1 (by omega) (by omega)]; simp
  · have := (rcw_gt l a hl y hy).1
    rw [List.mem_singleton]; omega
  · apply Classical.byContradiction
    intro h
    obtain ⟨l', g1, g2, g3⟩ := rcw_short l a hl h
    have hp : 1 ≤ l'.length := by
      cases l' with
      | nil => exact absurd rfl g3
      | cons _ _ => simp
    exact rcf_none l'.length a (h0 _ hp (by omega)) l' g1 rfl
end
/-- the digits of a row -/
def rdg : Nat → List Nat → Nat
  | n, [] => n
  | n, b :: l => rdg (10 * n + b + 1) l
def rres (o : Option (List Nat)) (n : Nat) : Nat := match o with
  | none => 0
  | some l => rdg n l
theorem rdg_pos : ∀ (l : List Nat) (n : Nat), 0 < n → 0 < rdg n l
  | [], _, h => h
  | b :: l, n, _ => rdg_pos l (10 * n + b + 1) (by omega)
theorem rdg_le : ∀ (l : List Nat) (n m : Nat), n < m → (∀ b ∈ l, b < 8) → rdg n l < m * 10 ^ l.length
  | [], n, m, h, _ => by simpa [rdg] using h
  | b :: l, n, m, h, hb => by
    have := rdg_le l (10 * n + b + 1) (10 * m) (by have := hb b List.mem_cons_self; omega) (fun c hc => hb c (List.mem_cons_of_mem _ hc))
    rw [rdg, List.length_cons, Nat.pow_succ]
    calc _ < 10 * m * 10 ^ l.length := this
      _ = m * (10 ^ l.length * 10) := by rw [Nat.mul_comm 10 m, Nat.mul_assoc, Nat.mul_comm 10]
def rall (O : Nat → Nat → Bool) (np k : Nat) : Option (Nat × List Nat) := rcin (fun a => (rcf O np a (k + 1) a).map (fun l => (a, l))) np 0
def rfind (O : Nat → Nat → Bool) (np : Nat) : Option (Nat × Nat × List Nat) := rcin (fun k => (rall O np k).map (fun r => (k + 2, r))) (np - 1) 0
section
variable {d : Nat} {w : List Nat} {S : xr_S} {O : Nat → Nat → Bool} {np a many : Nat} {ow : Nat → Int32}
theorem rc71 (hn : np ≤ 8) (hO : ∀ p b, p < np → b < np → xbt (ow p) b = O p b) (ha : a < np) (hm : many ≤ np) : ∀ (k : Nat) (S : xr_S) (len x : Nat), len + k = many → 1 ≤ len → x < np → xm S 0 28 0 = nI a → xm S 0 28 (len - 1) = nI x → (∀ p, p < np → xm S 0 29 p = ow p) → ∃ M, xr_Call (d + k + 1) 71 [xP 0 27, xI (nI np), xI (nI many), xI (nI len)] ([], w) S = some (.inl (some (cond (rcf O np a k x).isSome (nI 1) (nI 0))), ([], w), xs S M) ∧ (∀ i, i < len → M 0 28 i = xm S 0 28 i) ∧ (∀ l, rcf O np a k x = some l → ∀ i, i < k → M 0 28 (len + i) = nI (l.getD i 0)) ∧ ∀ b e, ¬ (b = 0 ∧ e = 28) → M b e = xm S b e
  | 0, S, len, x, hk, h1, hx, e0, ex, eo => by
    refine ⟨xm S, ?_, fun _ _ => rfl, fun _ _ i hi => by omega, fun _ _ _ => rfl⟩
    rw [xe71]
    have o := hO x a hx ha
    have t := xbt_t (x := ow x) (k := a) (by omega)
    simp (disch := omega) only [xi_t, xn_k, xn_lt, xn_eq, xn_mul, xn_add, xn_sub, xn_dec, xn_m1, xn_1m, if_pos, if_neg, if_true, if_false, cond_true, cond_false, true_and, and_true, false_and, and_false, xr_cI_s, xr_cV_s, xr_cI_e, xr_cV_e, xm_xs, xs_xs, ex, e0, eo x hx, xs_xm]
    rw [rcf]
    cases hq : O x a with
    | true =>
      rw [hq] at o
      rw [if_pos (t.mpr o)]; rfl
    | false =>
      rw [hq] at o
      rw [if_neg (fun h => by rw [t.mp h] at o; cases o)]; rfl
  | k + 1, S, len, x, hk, h1, hx, e0, ex, eo => by
    have lp : ∀ (n j : Nat) (S : xr_S), j + n = np → a < j → xm S 0 28 0 = nI a → (∀ p, p < np → xm S 0 29 p = ow p) → ∃ M, xr_Run (d + k + 1) 71 60 [xP 0 27, xI (nI np), xI (nI many), xI (nI len), xI (ow x), xI (nI j)] [] ([], w) S = some (.inl (some (cond (rcin (fun b => cond (O x b) ((rcf O np a k b).map (fun l => b :: l)) none) n j).isSome (nI 1) (nI 0))), ([], w), xs S M) ∧ (∀ i, i < len → M 0 28 i = xm S 0 28 i) ∧ (∀ l, rcin (fun b => cond (O x b) ((rcf O np a k b).map (fun l => b :: l)) none) n j = some l → ∀ i, i < k + 1 → M 0 28 (len + i) = nI (l.getD i 0)) ∧ ∀ b e, ¬ (b = 0 ∧ e = 28) → M b e = xm S b e := by
      intro n
      induction n with
      | zero =>
        intro j S hj hja e0 eo
        refine ⟨xm S, ?_, fun _ _ => rfl, fun _ h => (nomatch h), fun _ _ _ => rfl⟩
        refine (xg71_60 _ _ _ _ _ _ _ _).trans ?_
        simp (disch := omega) only [xi_t, xn_k, xn_lt, xn_eq, xn_mul, xn_add, xn_sub, xn_dec, xn_m1, xn_1m, if_pos, if_neg, if_true, if_false, cond_true, cond_false, true_and, and_true, false_and, and_false, xr_cI_s, xr_cV_s, xr_cI_e, xr_cV_e, xm_xs, xs_xs, xs_xm, rcin, Option.isSome]
      | succ n ih =>
        intro j S hj hja e0 eo
        have o := hO x j hx (by omega)
        have t := xbt_t (x := ow x) (k := j) (by omega)
        cases hq : O x j with
        | false =>
          rw [hq] at o
          obtain ⟨M, r, c1, c2, F⟩ := ih (j + 1) S (by omega) (by omega) e0 eo
          refine ⟨M, ?_, c1, ?_, F⟩
          · refine (xg71_60 _ _ _ _ _ _ _ _).trans ?_
            rw [if_pos (by rw [xn_lt (by omega) (by omega)]; omega), if_neg (fun h => by rw [t.mp h] at o; cases o)]
            simp (disch := omega) only [xi_t, xn_k, xn_lt, xn_eq, xn_mul, xn_add, xn_sub, xn_dec, xn_m1, xn_1m, if_pos, if_neg, if_true, if_false, cond_true, cond_false, true_and, and_true, false_and, and_false, xr_cI_s, xr_cV_s, xr_cI_e, xr_cV_e, xm_xs, xs_xs, rcin, hq]
            exact r
          · intro l hl
            simp only [rcin, hq, cond_false] at hl
            exact c2 l hl
        | true =>
          rw [hq] at o
          obtain ⟨M1, r1, c1, c2, F1⟩ := rc71 hn hO ha hm k (xs S (xw (xm S) 0 28 len (nI j))) (len + 1) j (by omega) (by omega) (by omega) (by rw [xm_xs, xw_n (by omega)]; exact e0) (by rw [xm_xs, Nat.add_sub_cancel, xw_y (by omega)]) (fun p hp => by rw [xm_xs, xw_n (by omega)]; exact eo p hp)
          rw [xs_xs] at r1
          rw [xm_xs] at c1 F1
          have rr : xr_Run (d + k + 1) 71 60 [xP 0 27, xI (nI np), xI (nI many), xI (nI len), xI (ow x), xI (nI j)] [] ([], w) S = xr_cI ([], w) (some (.inl (some (cond (rcf O np a k j).isSome (nI 1) (nI 0))), ([], w), xs S M1)) (fun x2 S1 => (if x2 = (nI 0) then (xr_Run (d + k + 1) 71 60 [xP 0 27, xI (nI np), xI (nI many), xI (nI len), xI (ow x), xI (nI j + nI 1)] [] ([], w) S1) else (some (.inl (some (nI 1)), ([], w), S1)))) := by
            refine (xg71_60 _ _ _ _ _ _ _ _).trans ?_
            rw [if_pos (by rw [xn_lt (by omega) (by omega)]; omega), if_pos (t.mpr o)]
            simp (disch := omega) only [xi_t, xn_k, xn_lt, xn_eq, xn_mul, xn_add, xn_sub, xn_dec, xn_m1, xn_1m, if_pos, if_neg, if_true, if_false, cond_true, cond_false, true_and, and_true, false_and, and_false, xr_cI_s, xr_cV_s, xr_cI_e, xr_cV_e, xm_xs, xs_xs, r1]
          have F : ∀ b e, ¬ (b = 0 ∧ e = 28) → M1 b e = xm S b e := fun b e h => by rw [F1 b e h, xw_r h]
          cases hr : rcf O np a k j with
          | some l =>
            rw [hr] at rr
            refine ⟨M1, ?_, fun i hi => by rw [c1 i (by omega), xw_n (by omega)], ?_, F⟩
            · rw [rr]
              simp (disch := omega) only [xi_t, xn_k, xn_lt, xn_eq, xn_mul, xn_add, xn_sub, xn_dec, xn_m1, xn_1m, if_pos, if_neg, if_true, if_false, cond_true, cond_false, true_and, and_true, false_and, and_false, xr_cI_s, xr_cV_s, xr_cI_e, xr_cV_e, xm_xs, xs_xs, rcin, hq, hr, Option.map, Option.isSome]
            · intro l2 hl
              simp only [rcin, hq, cond_true, hr, Option.map] at hl
              cases hl
              intro i hi
              cases i with
              | zero => rw [Nat.add_zero, c1 len (by omega), xw_y (by omega)]; rfl
              | succ i =>
                rw [show len + (i + 1) = len + 1 + i by omega, c2 l hr i (by omega)]
                rfl
          | none =>
            rw [hr] at rr
            obtain ⟨M, r, d1, d2, F2⟩ := ih (j + 1) (xs S M1) (by omega) (by omega) (by rw [xm_xs, c1 0 (by omega), xw_n (by omega)]; exact e0) (fun p hp => by rw [xm_xs, F 0 29 (by omega)]; exact eo p hp)
            rw [xs_xs] at r
            rw [xm_xs] at d1 F2
            refine ⟨M, ?_, fun i hi => by rw [d1 i hi, c1 i (by omega), xw_n (by omega)], ?_, fun b e h => by rw [F2 b e h, F b e h]⟩
            · rw [rr]
              simp (disch := omega) only [xi_t, xn_k, xn_lt, xn_eq, xn_mul, xn_add, xn_sub, xn_dec, xn_m1, xn_1m, if_pos, if_neg, if_true, if_false, cond_true, cond_false, true_and, and_true, false_and, and_false, xr_cI_s, xr_cV_s, xr_cI_e, xr_cV_e, xm_xs, xs_xs, rcin, hq, hr, Option.map, Option.isSome]
              exact r
            · intro l hl
              simp only [rcin, hq, cond_true, hr, Option.map] at hl
              exact d2 l hl
    obtain ⟨M, r, c1, c2, F⟩ := lp (np - (a + 1)) (a + 1) S (by omega) (by omega) e0 eo
    refine ⟨M, ?_, c1, c2, F⟩
    rw [xe71]
    simp (disch := omega) only [xi_t, xn_k, xn_lt, xn_eq, xn_mul, xn_add, xn_sub, xn_dec, xn_m1, xn_1m, if_pos, if_neg, if_true, if_false, cond_true, cond_false, true_and, and_true, false_and, and_false, xr_cI_s, xr_cV_s, xr_cI_e, xr_cV_e, xm_xs, xs_xs, ex, e0, eo x hx]
    rw [rcf]
    exact r
theorem rc70 (hn : np ≤ 8) (hO : ∀ p b, p < np → b < np → xbt (ow p) b = O p b) {k : Nat} (hm : k + 2 ≤ np) (eo : ∀ p, p < np → xm S 0 29 p = ow p) (es : xm S 0 27 2 = nI 0) : ∃ M, xr_Call (d + 10) 70 [xP 0 27, xI (nI np), xI (nI (k + 2))] ([], w) S = some (.inl none, ([], w), xs S M) ∧ (match rall O np k with | none => M 0 27 2 = nI 0 | some r => M 0 27 2 = nI (k + 2) ∧ M 0 28 0 = nI r.1 ∧ ∀ i, i < k + 1 → M 0 28 (1 + i) = nI (r.2.getD i 0)) ∧ (∀ i, ¬ i = 2 → M 0 27 i = xm S 0 27 i) ∧ ∀ b e, ¬ (b = 0 ∧ (e = 27 ∨ e = 28)) → M b e = xm S b e := by
  have lp : ∀ (n j : Nat) (S : xr_S), j + n = np → (∀ p, p < np → xm S 0 29 p = ow p) → xm S 0 27 2 = nI 0 → ∃ M, xr_Run (d + 9) 70 2 [xP 0 27, xI (nI np), xI (nI (k + 2)), xI (nI j)] [] ([], w) S = some (.inl none, ([], w), xs S M) ∧ (match rcin (fun a => (rcf O np a (k + 1) a).map (fun l => (a, l))) n j with | none => M 0 27 2 = nI 0 | some r => M 0 27 2 = nI (k + 2) ∧ M 0 28 0 = nI r.1 ∧ ∀ i, i < k + 1 → M 0 28 (1 + i) = nI (r.2.getD i 0)) ∧ (∀ i, ¬ i = 2 → M 0 27 i = xm S 0 27 i) ∧ ∀ b e, ¬ (b = 0 ∧ (e = 27 ∨ e = 28)) → M b e = xm S b e := by
    intro n
    induction n with
    | zero =>
      intro j S hj eo es
      refine ⟨xm S, ?_, es, fun _ _ => rfl, fun _ _ _ => rfl⟩
      refine (xg70_2 _ _ _ _ _ _).trans ?_
      simp (disch := omega) only [xi_t, xn_k, xn_lt, xn_eq, xn_mul, xn_add, xn_sub, xn_dec, xn_m1, xn_1m, if_pos, if_neg, if_true, if_false, cond_true, cond_false, true_and, and_true, false_and, and_false, xr_cI_s, xr_cV_s, xr_cI_e, xr_cV_e, xm_xs, xs_xs, xs_xm]
    | succ n ih =>
      intro j S hj eo es
      obtain ⟨M1, r1, c1, c2, F1⟩ := rc71 (d := d + 7 - k) (w := w) (many := k + 2) (a := j) hn hO (by omega) hm (k + 1) (xs S (xw (xm S) 0 28 0 (nI j))) 1 j (by omega) (by omega) (by omega) (by rw [xm_xs, xw_y (by omega)]) (by rw [xm_xs, xw_y (by omega)]) (fun p hp => by rw [xm_xs, xw_n (by omega)]; exact eo p hp)
      rw [xs_xs, show d + 7 - k + (k + 1) + 1 = d + 9 by omega] at r1
      rw [xm_xs] at c1 F1
      have F : ∀ b e, ¬ (b = 0 ∧ e = 28) → M1 b e = xm S b e := fun b e h => by rw [F1 b e h, xw_r h]
      cases hr : rcf O np j (k + 1) j with
      | some l =>
        rw [hr] at r1
        refine ⟨xw M1 0 27 2 (nI (k + 2)), ?_, ?_, fun i hi => by rw [xw_n (by omega), F 0 27 (by omega)], fun b e h => by rw [xw_r (by omega), F b e (by omega)]⟩
        · refine (xg70_2 _ _ _ _ _ _).trans ?_
          simp (disch := omega) only [xi_t, xn_k, xn_lt, xn_eq, xn_mul, xn_add, xn_sub, xn_dec, xn_m1, xn_1m, if_pos, if_neg, if_true, if_false, cond_true, cond_false, true_and, and_true, false_and, and_false, xr_cI_s, xr_cV_s, xr_cI_e, xr_cV_e, xm_xs, xs_xs, r1, Option.isSome]
        · simp only [rcin, hr, Option.map]
          refine ⟨by rw [xw_y (by omega)], ?_, fun i hi => ?_⟩
          · rw [xw_n (by omega), c1 0 (by omega), xw_y (by omega)]
          · rw [xw_n (by omega)]; exact c2 l hr i hi
      | none =>
        rw [hr] at r1
        obtain ⟨M, r, m1, m2, F2⟩ := ih (j + 1) (xs S M1) (by omega) (fun p hp => by rw [xm_xs, F 0 29 (by omega)]; exact eo p hp) (by rw [xm_xs, F 0 27 (by omega)]; exact es)
        rw [xs_xs] at r
        rw [xm_xs] at m2 F2
        refine ⟨M, ?_, ?_, fun i hi => by rw [m2 i hi, F 0 27 (by omega)], fun b e h => by rw [F2 b e h, F b e (by omega)]⟩
        · refine (xg70_2 _ _ _ _ _ _).trans ?_
          simp (disch := omega) only [xi_t, xn_k, xn_lt, xn_eq, xn_mul, xn_add, xn_sub, xn_dec, xn_m1, xn_1m, if_pos, if_neg, if_true, if_false, cond_true, cond_false, true_and, and_true, false_and, and_false, xr_cI_s, xr_cV_s, xr_cI_e, xr_cV_e, xm_xs, xs_xs, r1, Option.isSome]
          exact r
        · simp only [rcin, hr, Option.map]
          exact m1
  obtain ⟨M, r, c⟩ := lp np 0 S (by omega) eo es
  exact ⟨M, by rw [xe70]; exact r, c⟩
end
