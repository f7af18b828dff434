/-! TEXTS: the bytes tb, n of them; a reader: .inl a (sound, at a), .inr (kind, place) (a fault) -/
def tv (tb : Nat → Nat) (n k : Nat) : Int32 := if k < n then nI (tb k) else -1
def skp (tb : Nat → Nat) (n : Nat) : Nat → Nat → Nat
  | 0, a => a
  | f + 1, a => if a < n ∧ tb a = 32 then skp tb n f (a + 1) else a
def sk (tb : Nat → Nat) (n a : Nat) : Nat := skp tb n n a
def tdig (c : Nat) : Bool := decide (48 ≤ c ∧ c ≤ 57)
def tlet (c : Nat) : Bool := decide (97 ≤ c ∧ c ≤ 122)
/-- a run of bytes with p -/
def trun (p : Nat → Bool) (tb : Nat → Nat) (n : Nat) : Nat → Nat → Nat
  | 0, a => a
  | f + 1, a => if a < n ∧ p (tb a) = true then trun p tb n f (a + 1) else a
def wend (tb : Nat → Nat) (n a : Nat) : Nat := trun tlet tb n n a
def dend (tb : Nat → Nat) (n a : Nat) : Nat := trun tdig tb n n a
/-- the number that the digits a .. e - 1 tell -/
def dval (tb : Nat → Nat) : Nat → Nat → Nat → Nat
  | 0, _, v => v
  | k + 1, a, v => dval tb k (a + 1) (min 100000 (10 * v + (tb a - 48)))
theorem skp_ge {tb : Nat → Nat} {n : Nat} : ∀ f a, a ≤ skp tb n f a ∧ (a ≤ n → skp tb n f a ≤ n)
  | 0, a => ⟨Nat.le_refl _, fun h => h⟩
  | f + 1, a => by
    rw [skp]
    split
    · have := skp_ge (tb := tb) (n := n) f (a + 1)
      exact ⟨by omega, fun h => this.2 (by omega)⟩
    · exact ⟨Nat.le_refl _, fun h => h⟩
theorem skp_end {tb : Nat → Nat} {n : Nat} : ∀ f a, n ≤ a + f → ¬ (skp tb n f a < n ∧ tb (skp tb n f a) = 32)
  | 0, a, h => by rw [skp]; omega
  | f + 1, a, h => by
    rw [skp]
    split
    · exact skp_end f (a + 1) (by omega)
    · assumption
theorem skp_id {tb : Nat → Nat} {n a : Nat} (h : ¬ (a < n ∧ tb a = 32)) : ∀ f, skp tb n f a = a
  | 0 => rfl
  | f + 1 => by rw [skp, if_neg h]
theorem sk_ge (tb : Nat → Nat) (n a : Nat) : a ≤ sk tb n a := (skp_ge n a).1
theorem sk_le {tb : Nat → Nat} {n a : Nat} (h : a ≤ n) : sk tb n a ≤ n := (skp_ge n a).2 h
theorem sk_end (tb : Nat → Nat) (n a : Nat) : ¬ (sk tb n a < n ∧ tb (sk tb n a) = 32) := skp_end n a (by omega)
theorem sk_sk (tb : Nat → Nat) (n a : Nat) : sk tb n (sk tb n a) = sk tb n a := skp_id (sk_end tb n a) n
theorem skp_s {tb : Nat → Nat} {n a : Nat} (h : a < n ∧ tb a = 32) : sk tb n a = sk tb n (a + 1) := by
  unfold sk
  have L : ∀ f g b, n ≤ b + f → n ≤ b + g → skp tb n f b = skp tb n g b := by
    intro f
    induction f with
    | zero =>
      intro g b h1 h2
      rw [skp, skp_id (by omega)]
    | succ f ih =>
      intro g b h1 h2
      rw [skp]
      by_cases q : b < n ∧ tb b = 32
      · rw [if_pos q]
        cases g with
        | zero => omega
        | succ g => rw [skp, if_pos q]; exact ih g (b + 1) (by omega) (by omega)
      · rw [if_neg q, skp_id q]
  have : skp tb n (n + 1) a = skp tb n n (a + 1) := by rw [skp, if_pos h]
  rw [← this]
  exact L n (n + 1) a (by omega) (by omega)
theorem trun_ge {p : Nat → Bool} {tb : Nat → Nat} {n : Nat} : ∀ f a, a ≤ trun p tb n f a ∧ (a ≤ n → trun p tb n f a ≤ n) ∧ (∀ k, a ≤ k → k < trun p tb n f a → k < n ∧ p (tb k) = true)
  | 0, a => ⟨Nat.le_refl _, fun h => h, fun k h1 h2 => by rw [trun] at h2; omega⟩
  | f + 1, a => by
    rw [trun]
    split
    · rename_i q
      have := trun_ge (p := p) (tb := tb) (n := n) f (a + 1)
      refine ⟨by omega, fun h => this.2.1 (by omega), fun k h1 h2 => ?_⟩
      rcases Nat.eq_or_lt_of_le h1 with rfl | h3
      · exact q
      · exact this.2.2 k h3 h2
    · exact ⟨Nat.le_refl _, fun h => h, fun k h1 h2 => by omega⟩
theorem trun_end {p : Nat → Bool} {tb : Nat → Nat} {n : Nat} : ∀ f a, n ≤ a + f → ¬ (trun p tb n f a < n ∧ p (tb (trun p tb n f a)) = true)
  | 0, a, h => by rw [trun]; omega
  | f + 1, a, h => by
    rw [trun]
    split
    · exact trun_end f (a + 1) (by omega)
    · assumption
theorem trun_s {p : Nat → Bool} {tb : Nat → Nat} {n a : Nat} (h : a < n ∧ p (tb a) = true) : trun p tb n n a = trun p tb n n (a + 1) := by
  have L : ∀ f g b, n ≤ b + f → n ≤ b + g → trun p tb n f b = trun p tb n g b := by
    intro f
    induction f with
    | zero =>
      intro g b h1 h2
      cases g with
      | zero => rfl
      | succ g => rw [trun, trun, if_neg (by omega)]
    | succ f ih =>
      intro g b h1 h2
      rw [trun]
      by_cases q : b < n ∧ p (tb b) = true
      · rw [if_pos q]
        cases g with
        | zero => omega
        | succ g => rw [trun, if_pos q]; exact ih g (b + 1) (by omega) (by omega)
      · rw [if_neg q]
        cases g with
        | zero => rfl
        | succ g => rw [trun, if_neg q]
  have : trun p tb n (n + 1) a = trun p tb n n (a + 1) := by rw [trun, if_pos h]
  rw [← this]
  exact L n (n + 1) a (by omega) (by omega)
theorem trun_n {p : Nat → Bool} {tb : Nat → Nat} {n a : Nat} (h : ¬ (a < n ∧ p (tb a) = true)) : trun p tb n n a = a := by
  cases n with
  | zero => rfl
  | succ n => rw [trun, if_neg h]
theorem dval_le {tb : Nat → Nat} : ∀ k a v, v ≤ 100000 → dval tb k a v ≤ 100000
  | 0, _, _, h => h
  | k + 1, a, v, h => dval_le k (a + 1) _ (by omega)
abbrev tR : Type := Nat ⊕ (Nat × Nat)
/-- the text, as class and model hold it -/
def tX (M : xr_M) (tb : Nat → Nat) (n : Nat) : Prop := n ≤ 600 ∧ (∀ k, tb k ≤ 255) ∧ M 0 1 2 = nI n ∧ ∀ k, k < n → M 0 2 k = nI (tb k)
def tY (M : xr_M) (tb : Nat → Nat) (n : Nat) : Prop := n ≤ 600 ∧ (∀ k, tb k ≤ 255) ∧ M 0 69 2 = nI n ∧ ∀ k, k < n → M 0 70 k = nI (tb k)
def rC (M : xr_M) (n : Nat) (r : tR) : Prop := match r with
  | .inl a => M 0 1 5 = nI 0 ∧ M 0 1 6 = -1 ∧ M 0 1 3 = nI a ∧ a ≤ n
  | .inr (k, p) => M 0 1 5 = nI k ∧ (1 ≤ k ∧ k ≤ 4) ∧ M 0 1 6 = nI p ∧ p ≤ n ∧ ∃ a, a ≤ n ∧ M 0 1 3 = nI a
def rM (M : xr_M) (n : Nat) (r : tR) : Prop := match r with
  | .inl a => M 0 69 5 = nI 0 ∧ M 0 69 6 = -1 ∧ M 0 69 4 = nI a ∧ a ≤ n
  | .inr (k, p) => M 0 69 5 = nI k ∧ (1 ≤ k ∧ k ≤ 4) ∧ M 0 69 6 = nI p ∧ p ≤ n ∧ ∃ a, a ≤ n ∧ M 0 69 4 = nI a
/-- what reading changes -/
def kC (M M' : xr_M) : Prop := (∀ b e, ¬ (b = 0 ∧ e = 1) → M' b e = M b e) ∧ ∀ k, k < 3 → M' 0 1 k = M 0 1 k
def kM (M M' : xr_M) : Prop := (∀ b e, ¬ (b = 0 ∧ e = 69) → M' b e = M b e) ∧ ∀ k, ¬ (k = 4 ∨ k = 5 ∨ k = 6) → M' 0 69 k = M 0 69 k
theorem kC_rf (M : xr_M) : kC M M := ⟨fun _ _ _ => rfl, fun _ _ => rfl⟩
theorem kM_rf (M : xr_M) : kM M M := ⟨fun _ _ _ => rfl, fun _ _ => rfl⟩
theorem kC_tr {M M' M'' : xr_M} (h : kC M M') (h' : kC M' M'') : kC M M'' := ⟨fun b e q => (h'.1 b e q).trans (h.1 b e q), fun k q => (h'.2 k q).trans (h.2 k q)⟩
theorem kM_tr {M M' M'' : xr_M} (h : kM M M') (h' : kM M' M'') : kM M M'' := ⟨fun b e q => (h'.1 b e q).trans (h.1 b e q), fun k q => (h'.2 k q).trans (h.2 k q)⟩
theorem kC_w (M : xr_M) {k : Nat} (h : 3 ≤ k) (v : Int32) : kC M (xw M 0 1 k v) := ⟨fun b e q => by rw [xw_r q], fun j hj => by rw [xw_n (by omega)]⟩
theorem kM_w (M : xr_M) {k : Nat} (h : k = 4 ∨ k = 5 ∨ k = 6) (v : Int32) : kM M (xw M 0 69 k v) := ⟨fun b e q => by rw [xw_r q], fun j hj => by rw [xw_n (by omega)]⟩
theorem tX_k {M M' : xr_M} {tb : Nat → Nat} {n : Nat} (K : kC M M') (X : tX M tb n) : tX M' tb n := ⟨X.1, X.2.1, by rw [K.2 2 (by omega)]; exact X.2.2.1, fun k hk => by rw [K.1 0 2 (by omega)]; exact X.2.2.2 k hk⟩
theorem tY_k {M M' : xr_M} {tb : Nat → Nat} {n : Nat} (K : kM M M') (X : tY M tb n) : tY M' tb n := ⟨X.1, X.2.1, by rw [K.2 2 (by omega)]; exact X.2.2.1, fun k hk => by rw [K.1 0 70 (by omega)]; exact X.2.2.2 k hk⟩
def pSgn (tb : Nat → Nat) (n c : Nat) (r : tR) : tR := match r with
  | .inl a => if sk tb n a < n ∧ tb (sk tb n a) = c then .inl (sk tb n a + 1) else .inr (1, sk tb n a)
  | .inr q => .inr q
def pTak (tb : Nat → Nat) (n c : Nat) (r : tR) : Bool × tR := match r with
  | .inl a => if sk tb n a < n ∧ tb (sk tb n a) = c then (true, .inl (sk tb n a + 1)) else (false, .inl (sk tb n a))
  | .inr q => (false, .inr q)
/-- numbers lo .. hn - 1 -/
def pNum (tb : Nat → Nat) (n lo hn : Nat) (r : tR) : Nat × tR := match r with
  | .inl a => if sk tb n a < n ∧ tdig (tb (sk tb n a)) = true then
      (if lo ≤ dval tb (dend tb n (sk tb n a) - sk tb n a) (sk tb n a) 0 ∧ dval tb (dend tb n (sk tb n a) - sk tb n a) (sk tb n a) 0 < hn then (dval tb (dend tb n (sk tb n a) - sk tb n a) (sk tb n a) 0, .inl (dend tb n (sk tb n a))) else (0, .inr (2, sk tb n a)))
    else (0, .inr (1, sk tb n a))
  | .inr q => (0, .inr q)
def rsk (tb : Nat → Nat) (n : Nat) (r : tR) : tR := match r with
  | .inl a => .inl (sk tb n a)
  | .inr q => .inr q
theorem pSgn_y {tb : Nat → Nat} {n c a : Nat} (h : sk tb n a < n ∧ tb (sk tb n a) = c) : pSgn tb n c (.inl a) = .inl (sk tb n a + 1) := if_pos h
theorem pSgn_n {tb : Nat → Nat} {n c a : Nat} (h : ¬ (sk tb n a < n ∧ tb (sk tb n a) = c)) : pSgn tb n c (.inl a) = .inr (1, sk tb n a) := if_neg h
theorem pTak_y {tb : Nat → Nat} {n c a : Nat} (h : sk tb n a < n ∧ tb (sk tb n a) = c) : pTak tb n c (.inl a) = (true, .inl (sk tb n a + 1)) := if_pos h
theorem pTak_n {tb : Nat → Nat} {n c a : Nat} (h : ¬ (sk tb n a < n ∧ tb (sk tb n a) = c)) : pTak tb n c (.inl a) = (false, .inl (sk tb n a)) := if_neg h
def rso (r : tR) : Int32 := match r with
  | .inl _ => nI 1
  | .inr _ => nI 0
theorem rso_l (a : Nat) : rso (.inl a) = nI 1 := rfl
theorem rso_r (q : Nat × Nat) : rso (.inr q) = nI 0 := rfl
theorem rsk_l (tb : Nat → Nat) (n a : Nat) : rsk tb n (.inl a) = .inl (sk tb n a) := rfl
theorem rsk_r (tb : Nat → Nat) (n : Nat) (q : Nat × Nat) : rsk tb n (.inr q) = .inr q := rfl
def pBl (k p : Nat) (r : tR) : tR := match r with
  | .inl _ => .inr (k, p)
  | .inr q => .inr q
theorem xw_id {M : xr_M} {b c k : Nat} {v : Int32} (h : M b c k = v) : xw M b c k v = M := by
  funext b' c' k'
  unfold xw
  split
  · rename_i q; rw [q.1, q.2.1, q.2.2, h]
  · rfl
section
variable {d : Nat} {w : List Nat} {S : xr_S} {tb : Nat → Nat} {n : Nat} {r : tR}
theorem tc84 (X : tX (xm S) tb n) {a : Nat} (ha : a ≤ n) (e : xm S 0 1 3 = nI a) : xr_Call (d + 1) 84 [xP 0 1] ([], w) S = some (.inl (some (tv tb n (sk tb n a))), ([], w), xs S (xw (xm S) 0 1 3 (nI (sk tb n a)))) := by
  have L : ∀ (f a : Nat) (M : xr_M), a + f = n → tX M tb n → M 0 1 3 = nI a → xr_Run d 84 0 [xP 0 1] [] ([], w) (xs S M) = some (.inl (some (tv tb n (sk tb n a))), ([], w), xs S (xw M 0 1 3 (nI (sk tb n a)))) := by
    intro f
    induction f with
    | zero =>
      intro a M h X e
      obtain ⟨x1, x2, x3, x4⟩ := X
      refine (xe84 d w (xs S M)).trans ?_
      have es : sk tb n a = a := skp_id (by omega) n
      rw [es, xw_id e]
      unfold tv
      simp (disch := omega) only [xi_t, xn_k, xn_lt, xn_eq, xn_mul, xn_add, xn_sub, xn_dec, xn_m1, xn_1m, if_pos, if_neg, if_true, if_false, cond_true, cond_false, true_and, and_true, false_and, and_false, xr_cI_s, xr_cV_s, xr_cI_e, xr_cV_e, xm_xs, xs_xs, e, x3]
    | succ f ih =>
      intro a M h X e
      obtain ⟨x1, x2, x3, x4⟩ := id X
      refine (xe84 d w (xs S M)).trans ?_
      by_cases q : tb a = 32
      · have := ih (a + 1) (xw M 0 1 3 (nI (a + 1))) (by omega) (tX_k (kC_w M (by omega) _) X) (by rw [xw_y (by omega)])
        rw [xw_xw, ← skp_s ⟨by omega, q⟩] at this
        have x5 := x4 a (by omega)
        rw [q] at x5
        simp (disch := omega) only [xi_t, xn_k, xn_lt, xn_eq, xn_mul, xn_add, xn_sub, xn_dec, xn_m1, xn_1m, if_pos, if_neg, if_true, if_false, cond_true, cond_false, true_and, and_true, false_and, and_false, xr_cI_s, xr_cV_s, xr_cI_e, xr_cV_e, xm_xs, xs_xs, e, x3, x5]
        exact this
      · have es : sk tb n a = a := skp_id (by omega) n
        rw [es, xw_id e]
        unfold tv
        have x5 := x4 a (by omega)
        have x6 := x2 a
        simp (disch := omega) only [xi_t, xn_k, xn_lt, xn_eq, xn_mul, xn_add, xn_sub, xn_dec, xn_m1, xn_1m, if_pos, if_neg, if_true, if_false, cond_true, cond_false, true_and, and_true, false_and, and_false, xr_cI_s, xr_cV_s, xr_cI_e, xr_cV_e, xm_xs, xs_xs, e, x3, x5]
  have := L (n - a) a (xm S) (by omega) X e
  rw [xs_xm] at this
  exact this
theorem tc82 (R : rC (xm S) n r) : xr_Call (d + 1) 82 [xP 0 1] ([], w) S = some (.inl (some (rso r)), ([], w), S) := by
  rw [xe82]
  cases r with
  | inl a => rw [if_pos R.1]; rfl
  | inr q =>
    obtain ⟨k, p⟩ := q
    obtain ⟨r1, r2, _⟩ := R
    rw [if_neg (by rw [r1, xn_eq (by omega) (by omega)]; omega)]
    rfl
theorem tc83 {k p : Nat} (hk : 1 ≤ k ∧ k ≤ 4) (hp : p ≤ n) (R : rC (xm S) n r) : ∃ M, xr_Call (d + 1) 83 [xP 0 1, xI (nI k), xI (nI p)] ([], w) S = some (.inl none, ([], w), xs S M) ∧ kC (xm S) M ∧ rC M n (pBl k p r) ∧ M 0 1 4 = xm S 0 1 4 ∧ M 0 1 3 = xm S 0 1 3 := by
  cases r with
  | inl a =>
    obtain ⟨r1, r2, r3, r4⟩ := R
    refine ⟨xw (xw (xm S) 0 1 5 (nI k)) 0 1 6 (nI p), ?_, kC_tr (kC_w _ (by omega) _) (kC_w _ (by omega) _), ⟨?_, hk, ?_, hp, a, r4, ?_⟩, ?_, ?_⟩
    · rw [xe83, if_pos r1]
    · rw [xw_n (by omega), xw_y (by omega)]
    · rw [xw_y (by omega)]
    · rw [xw_n (by omega), xw_n (by omega)]; exact r3
    · rw [xw_n (by omega), xw_n (by omega)]
    · rw [xw_n (by omega), xw_n (by omega)]
  | inr q =>
    obtain ⟨k', p'⟩ := q
    refine ⟨xm S, ?_, kC_rf _, R, rfl, rfl⟩
    obtain ⟨r1, r2, _⟩ := R
    rw [xe83, if_neg (by rw [r1, xn_eq (by omega) (by omega)]; omega), xs_xm]
/-- look, whatever the reader is -/
theorem tc84r (X : tX (xm S) tb n) (R : rC (xm S) n r) : ∃ M v b, xr_Call (d + 1) 84 [xP 0 1] ([], w) S = some (.inl (some v), ([], w), xs S M) ∧ kC (xm S) M ∧ rC M n (rsk tb n r) ∧ M 0 1 4 = xm S 0 1 4 ∧ (∀ a, r = .inl a → v = tv tb n (sk tb n a)) ∧ M 0 1 3 = nI b ∧ b ≤ n ∧ v = tv tb n b := by
  cases r with
  | inl a =>
    obtain ⟨r1, r2, r3, r4⟩ := R
    refine ⟨xw (xm S) 0 1 3 (nI (sk tb n a)), tv tb n (sk tb n a), sk tb n a, tc84 X r4 r3, kC_w _ (by omega) _, ⟨?_, ?_, xw_y (by omega), sk_le r4⟩, ?_, fun a' h => (by cases h; rfl), xw_y (by omega), sk_le r4, rfl⟩
    · rw [xw_n (by omega)]; exact r1
    · rw [xw_n (by omega)]; exact r2
    · rw [xw_n (by omega)]
  | inr q =>
    obtain ⟨k, p⟩ := q
    obtain ⟨r1, r2, r3, r4, a, r5, r6⟩ := R
    refine ⟨xw (xm S) 0 1 3 (nI (sk tb n a)), tv tb n (sk tb n a), sk tb n a, tc84 X r5 r6, kC_w _ (by omega) _, ⟨?_, r2, ?_, r4, sk tb n a, sk_le r5, xw_y (by omega)⟩, ?_, fun a' h => (nomatch h), xw_y (by omega), sk_le r5, rfl⟩
    · rw [xw_n (by omega)]; exact r1
    · rw [xw_n (by omega)]; exact r3
    · rw [xw_n (by omega)]
theorem tv_eq {k c : Nat} (hb : ∀ k, tb k ≤ 255) (hc : c ≤ 255) : (tv tb n k = nI c) = (k < n ∧ tb k = c) := by
  have := hb k
  unfold tv
  apply propext
  by_cases q : k < n
  · rw [if_pos q, xn_eq (by omega) (by omega)]
    exact ⟨fun h => ⟨q, h⟩, fun h => h.2⟩
  · rw [if_neg q, xn_1m (by omega)]
    exact ⟨fun h => h.elim, fun h => absurd h.1 q⟩
theorem tc85 {c : Nat} (hc : c ≤ 255) : xr_Call (d + 1) 85 [xI (nI c)] ([], w) S = some (.inl (some (cond (tdig c) (nI 1) (nI 0))), ([], w), S) := by
  rw [xe85]
  unfold tdig
  by_cases q1 : c < 48
  · rw [if_pos (by rw [xn_lt (by omega) (by omega)]; exact q1), decide_eq_false (by omega)]; rfl
  · rw [if_neg (by rw [xn_lt (by omega) (by omega)]; exact q1)]
    by_cases q2 : 57 < c
    · rw [if_pos (by rw [xn_lt (by omega) (by omega)]; exact q2), decide_eq_false (by omega)]; rfl
    · rw [if_neg (by rw [xn_lt (by omega) (by omega)]; exact q2), decide_eq_true (by omega)]; rfl
theorem tc85m : xr_Call (d + 1) 85 [xI (-1)] ([], w) S = some (.inl (some (nI 0)), ([], w), S) := by
  rw [xe85, if_pos (by decide)]
theorem tc86 {c : Nat} (hc : c ≤ 255) : xr_Call (d + 1) 86 [xI (nI c)] ([], w) S = some (.inl (some (cond (tlet c) (nI 1) (nI 0))), ([], w), S) := by
  rw [xe86]
  unfold tlet
  by_cases q1 : c < 97
  · rw [if_pos (by rw [xn_lt (by omega) (by omega)]; exact q1), decide_eq_false (by omega)]; rfl
  · rw [if_neg (by rw [xn_lt (by omega) (by omega)]; exact q1)]
    by_cases q2 : 122 < c
    · rw [if_pos (by rw [xn_lt (by omega) (by omega)]; exact q2), decide_eq_false (by omega)]; rfl
    · rw [if_neg (by rw [xn_lt (by omega) (by omega)]; exact q2), decide_eq_true (by omega)]; rfl
theorem tc86m : xr_Call (d + 1) 86 [xI (-1)] ([], w) S = some (.inl (some (nI 0)), ([], w), S) := by
  rw [xe86, if_pos (by decide)]
theorem tc85v (hb : ∀ k, tb k ≤ 255) (k : Nat) : xr_Call (d + 1) 85 [xI (tv tb n k)] ([], w) S = some (.inl (some (cond (decide (k < n) && tdig (tb k)) (nI 1) (nI 0))), ([], w), S) := by
  unfold tv
  by_cases q : k < n
  · rw [if_pos q, tc85 (hb k), decide_eq_true q, Bool.true_and]
  · rw [if_neg q, tc85m, decide_eq_false q, Bool.false_and]; rfl
theorem tc86v (hb : ∀ k, tb k ≤ 255) (k : Nat) : xr_Call (d + 1) 86 [xI (tv tb n k)] ([], w) S = some (.inl (some (cond (decide (k < n) && tlet (tb k)) (nI 1) (nI 0))), ([], w), S) := by
  unfold tv
  by_cases q : k < n
  · rw [if_pos q, tc86 (hb k), decide_eq_true q, Bool.true_and]
  · rw [if_neg q, tc86m, decide_eq_false q, Bool.false_and]; rfl
/-- takeSign -/
theorem tc90 (X : tX (xm S) tb n) (R : rC (xm S) n r) {c : Nat} (hc : c ≤ 255) : ∃ M, xr_Call (d + 2) 90 [xP 0 1, xI (nI c)] ([], w) S = some (.inl (some (cond (pTak tb n c r).1 (nI 1) (nI 0))), ([], w), xs S M) ∧ kC (xm S) M ∧ rC M n (pTak tb n c r).2 := by
  cases r with
  | inl a =>
    obtain ⟨r1, r2, r3, r4⟩ := id R
    have e := tv_eq (tb := tb) (n := n) (k := sk tb n a) X.2.1 hc
    have hl := sk_le (tb := tb) r4
    by_cases q : sk tb n a < n ∧ tb (sk tb n a) = c
    · rw [pTak_y q]
      refine ⟨xw (xw (xm S) 0 1 3 (nI (sk tb n a))) 0 1 3 (nI (sk tb n a + 1)), ?_, kC_tr (kC_w _ (by omega) _) (kC_w _ (by omega) _), ?_, ?_, xw_y (by omega), by omega⟩
      · rw [xe90, tc82 R, xr_cI_s, if_neg (by rw [rso_l, xn_eq (by omega) (by omega)]; omega), tc84 X r4 r3, xr_cI_s, if_pos (by rw [e]; exact q), xm_xs, xs_xs, xw_y (by omega), xn_add]
        rfl
      · rw [xw_n (by omega), xw_n (by omega)]; exact r1
      · rw [xw_n (by omega), xw_n (by omega)]; exact r2
    · rw [pTak_n q]
      refine ⟨xw (xm S) 0 1 3 (nI (sk tb n a)), ?_, kC_w _ (by omega) _, ?_, ?_, xw_y (by omega), hl⟩
      · rw [xe90, tc82 R, xr_cI_s, if_neg (by rw [rso_l, xn_eq (by omega) (by omega)]; omega), tc84 X r4 r3, xr_cI_s, if_neg (by rw [e]; exact q)]
        rfl
      · rw [xw_n (by omega)]; exact r1
      · rw [xw_n (by omega)]; exact r2
  | inr q =>
    refine ⟨xm S, ?_, kC_rf _, R⟩
    rw [xe90, tc82 R, xr_cI_s, if_pos (show rso (.inr q) = nI 0 from rfl), xs_xm]
    rfl
/-- expect -/
theorem tc91 (X : tX (xm S) tb n) (R : rC (xm S) n r) {c : Nat} (hc : c ≤ 255) : ∃ M, xr_Call (d + 2) 91 [xP 0 1, xI (nI c)] ([], w) S = some (.inl none, ([], w), xs S M) ∧ kC (xm S) M ∧ rC M n (pSgn tb n c r) := by
  obtain ⟨M1, v, b, r1, K1, R1, _, _, e3, hb, ev⟩ := tc84r (d := d) (w := w) X R
  have R1' : rC (xm (xs S M1)) n (rsk tb n r) := R1
  have e := tv_eq (tb := tb) (n := n) (k := b) X.2.1 hc
  obtain ⟨M2, r2, K2, R2, _, _⟩ := tc83 (d := d) (w := w) (S := xs S M1) (k := 1) (p := b) (by omega) hb R1'
  rw [xs_xs] at r2
  rw [xm_xs] at K2
  cases r with
  | inl a =>
    have eb : b = sk tb n a := by
      have := R1.2.2.1
      rw [e3, xn_eq (by have := X.1; omega) (by have := R1.2.2.2; have := X.1; omega)] at this
      exact this
    subst eb
    by_cases q : sk tb n a < n ∧ tb (sk tb n a) = c
    · rw [pSgn_y q]
      refine ⟨xw M1 0 1 3 (nI (sk tb n a + 1)), ?_, kC_tr K1 (kC_w _ (by omega) _), ?_, ?_, xw_y (by omega), by omega⟩
      · rw [xe91, r1, xr_cI_s, if_pos (by rw [ev, e]; exact q), tc82 R1', xr_cI_s, if_neg (by rw [rsk_l, rso_l, xn_eq (by omega) (by omega)]; omega), xm_xs, xs_xs, e3, xn_add]
      · rw [xw_n (by omega)]; exact R1.1
      · rw [xw_n (by omega)]; exact R1.2.1
    · rw [pSgn_n q]
      refine ⟨M2, ?_, kC_tr K1 K2, R2⟩
      rw [xe91, r1, xr_cI_s, if_neg (by rw [ev, e]; exact q), xm_xs, e3, r2, xr_cV_s]
  | inr q =>
    refine ⟨M2, ?_, kC_tr K1 K2, R2⟩
    rw [xe91, r1, xr_cI_s]
    by_cases q2 : v = nI c
    · rw [if_pos q2, tc82 R1', xr_cI_s, if_pos (show rso (rsk tb n (.inr q)) = nI 0 from rfl), xm_xs, e3, r2, xr_cV_s]
    · rw [if_neg q2, xm_xs, e3, r2, xr_cV_s]
end
