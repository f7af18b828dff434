/-! TEXTS, 2: the class's numbers and words -/
def rwd (tb : Nat → Nat) (n : Nat) (r : tR) : tR := match r with
  | .inl a => .inl (wend tb n (sk tb n a))
  | .inr q => .inr q
def wis (L : List Nat) (tb : Nat → Nat) (b e : Nat) : Bool := decide (e - b = L.length ∧ ∀ i, i < L.length → tb (b + i) = L.getD i 0)
theorem pNum_d {tb : Nat → Nat} {n lo hn a : Nat} (h : ¬ (sk tb n a < n ∧ tdig (tb (sk tb n a)) = true)) : pNum tb n lo hn (.inl a) = (0, .inr (1, sk tb n a)) := if_neg h
theorem pNum_n {tb : Nat → Nat} {n lo hn a : Nat} (h : sk tb n a < n ∧ tdig (tb (sk tb n a)) = true) (h2 : ¬ (lo ≤ dval tb (dend tb n (sk tb n a) - sk tb n a) (sk tb n a) 0 ∧ dval tb (dend tb n (sk tb n a) - sk tb n a) (sk tb n a) 0 < hn)) : pNum tb n lo hn (.inl a) = (0, .inr (2, sk tb n a)) := (if_pos h).trans (if_neg h2)
theorem pNum_y {tb : Nat → Nat} {n lo hn a : Nat} (h : sk tb n a < n ∧ tdig (tb (sk tb n a)) = true) (h2 : lo ≤ dval tb (dend tb n (sk tb n a) - sk tb n a) (sk tb n a) 0 ∧ dval tb (dend tb n (sk tb n a) - sk tb n a) (sk tb n a) 0 < hn) : pNum tb n lo hn (.inl a) = (dval tb (dend tb n (sk tb n a) - sk tb n a) (sk tb n a) 0, .inl (dend tb n (sk tb n a))) := (if_pos h).trans (if_pos h2)
theorem tdig_b {c : Nat} (h : tdig c = true) : 48 ≤ c ∧ c ≤ 57 := of_decide_eq_true h
section
variable {d : Nat} {w : List Nat} {S : xr_S} {tb : Nat → Nat} {n : Nat} {r : tR}
theorem rC_w4 {M : xr_M} {r : tR} (R : rC M n r) (v : Int32) : rC (xw M 0 1 4 v) n r := by
  cases r with
  | inl a =>
    obtain ⟨r1, r2, r3, r4⟩ := R
    exact ⟨by rw [xw_n (by omega)]; exact r1, by rw [xw_n (by omega)]; exact r2, by rw [xw_n (by omega)]; exact r3, r4⟩
  | inr q =>
    obtain ⟨r1, r2, r3, r4, a, r5, r6⟩ := R
    exact ⟨by rw [xw_n (by omega)]; exact r1, r2, by rw [xw_n (by omega)]; exact r3, r4, a, r5, by rw [xw_n (by omega)]; exact r6⟩
theorem tc87L {lo hn : Nat} {hi : Int32} (hlo : lo ≤ 100000) (hhi : ∀ v, v ≤ 100000 → ((hi < nI v) ↔ hn ≤ v)) {b : Nat} (hb : b ≤ n) : ∀ (f a v : Nat) (M : xr_M), dend tb n a = a + f → v ≤ 100000 → tX M tb n → rC M n (.inl a) → M 0 1 4 = nI b → ∃ M', xr_Run (d + 1) 87 40 [xP 0 1, xI (nI lo), xI hi, xI (nI v)] [] ([], w) (xs S M) = some (.inl (some (nI (dval tb f a v))), ([], w), xs S M') ∧ kC M M' ∧ rC M' n (if lo ≤ dval tb f a v ∧ dval tb f a v < hn then .inl (a + f) else .inr (2, b)) ∧ M' 0 1 4 = nI b := by
  intro f
  induction f with
  | zero =>
    intro a v M he hv X R e4
    obtain ⟨x1, x2, x3, x4⟩ := id X
    obtain ⟨r1, r2, r3, r4⟩ := id R
    have ne := trun_end (p := tdig) (tb := tb) (n := n) n a (by omega)
    rw [show trun tdig tb n n a = dend tb n a from rfl, he, Nat.add_zero] at ne
    rw [dval]
    have hh := hhi v hv
    obtain ⟨M2, q2, K2, R2, e42, _⟩ := tc83 (d := d) (w := w) (S := xs S M) (k := 2) (p := b) (by omega) hb R
    rw [xs_xs] at q2
    rw [xm_xs] at K2 e42
    have fin : ∃ M', (if nI v < nI lo then (xr_cV ([], w) (xr_Call (d + 1) 83 [xP 0 1, xI (nI 2), xI (nI b)] ([], w) (xs S M)) (fun S5 => (some (.inl (some (nI v)), ([], w), S5)))) else (if hi < nI v then (xr_cV ([], w) (xr_Call (d + 1) 83 [xP 0 1, xI (nI 2), xI (nI b)] ([], w) (xs S M)) (fun S6 => (some (.inl (some (nI v)), ([], w), S6)))) else (some (.inl (some (nI v)), ([], w), xs S M)))) = some (.inl (some (nI v)), ([], w), xs S M') ∧ kC M M' ∧ rC M' n (if lo ≤ v ∧ v < hn then .inl (a + 0) else .inr (2, b)) ∧ M' 0 1 4 = nI b := by
      by_cases q : v < lo
      · refine ⟨M2, ?_, K2, ?_, e42.trans e4⟩
        · rw [if_pos (by rw [xn_lt (by omega) (by omega)]; exact q), q2, xr_cV_s]
        · rw [if_neg (by omega)]; exact R2
      · by_cases q3 : hn ≤ v
        · refine ⟨M2, ?_, K2, ?_, e42.trans e4⟩
          · rw [if_neg (by rw [xn_lt (by omega) (by omega)]; exact q), if_pos (hh.mpr q3), q2, xr_cV_s]
          · rw [if_neg (by omega)]; exact R2
        · refine ⟨M, ?_, kC_rf _, ?_, e4⟩
          · rw [if_neg (by rw [xn_lt (by omega) (by omega)]; exact q), if_neg (fun h => q3 (hh.mp h))]
          · rw [if_pos (by omega)]; exact R
    obtain ⟨M', h1, h2⟩ := fin
    refine ⟨M', ?_, h2⟩
    rw [← h1]
    refine (xg87_40 _ _ _ _ _ _).trans ?_
    by_cases q : a < n
    · have hd : tdig (tb a) = false := by
        cases hc : tdig (tb a) with
        | false => rfl
        | true => exact absurd ⟨q, hc⟩ ne
      rw [xm_xs, if_pos (by rw [r3, x3, xn_lt (by omega) (by omega)]; exact q), r3, xi_t (by omega) (by omega), xn_k (by omega), x4 a q, tc85 (x2 a), hd]
      simp only [cond_true, cond_false, xr_cI_s, if_true, xm_xs, e4]
    · rw [xm_xs, if_neg (by rw [r3, x3, xn_lt (by omega) (by omega)]; exact q), e4]
  | succ f ih =>
    intro a v M he hv X R e4
    obtain ⟨x1, x2, x3, x4⟩ := id X
    obtain ⟨r1, r2, r3, r4⟩ := id R
    have hg := (trun_ge (p := tdig) (tb := tb) (n := n) n a).2.2 a (Nat.le_refl _) (by rw [show trun tdig tb n n a = dend tb n a from rfl, he]; omega)
    have hd := tdig_b hg.2
    have he2 : dend tb n (a + 1) = a + 1 + f := by
      unfold dend at he ⊢
      rw [← trun_s hg, he]; omega
    obtain ⟨M', h1, K1, R1, e1⟩ := ih (a + 1) (min 100000 (10 * v + (tb a - 48))) (xw M 0 1 3 (nI (a + 1))) he2 (by omega) (tX_k (kC_w M (by omega) _) X) ⟨by rw [xw_n (by omega)]; exact r1, by rw [xw_n (by omega)]; exact r2, xw_y (by omega), by omega⟩ (by rw [xw_n (by omega)]; exact e4)
    refine ⟨M', ?_, kC_tr (kC_w M (by omega) _) K1, ?_, e1⟩
    · rw [dval, ← h1]
      refine (xg87_40 _ _ _ _ _ _).trans ?_
      have x5 := x4 a hg.1
      rw [xm_xs, if_pos (by rw [r3, x3, xn_lt (by omega) (by omega)]; exact hg.1), r3, xi_t (by omega) (by omega), xn_k (by omega), x5, tc85 (x2 a), hg.2]
      simp (disch := omega) only [cond_true, xr_cI_s, xn_eq, if_neg, xm_xs, r3, xi_t, xn_k, x5, xn_mul, xn_add, xn_sub, xn_lt, xs_xs]
      rw [show v * 10 + tb a - 48 = 10 * v + (tb a - 48) by omega]
      by_cases q : 10 * v + (tb a - 48) < 100000
      · rw [if_pos q, Nat.min_eq_right (by omega)]
      · rw [if_neg q, Nat.min_eq_left (by omega)]
    · rw [dval, show a + (f + 1) = a + 1 + f by omega]; exact R1
theorem tc87 {lo hn : Nat} {hi : Int32} (hlo : lo ≤ 100000) (hhi : ∀ v, v ≤ 100000 → ((hi < nI v) ↔ hn ≤ v)) (X : tX (xm S) tb n) (R : rC (xm S) n r) : ∃ M v, xr_Call (d + 2) 87 [xP 0 1, xI (nI lo), xI hi] ([], w) S = some (.inl (some v), ([], w), xs S M) ∧ kC (xm S) M ∧ rC M n (pNum tb n lo hn r).2 ∧ ∀ a0 a1, r = .inl a0 → (pNum tb n lo hn r).2 = .inl a1 → v = nI (pNum tb n lo hn r).1 ∧ M 0 1 4 = nI (sk tb n a0) := by
  cases r with
  | inr q =>
    refine ⟨xm S, -1, ?_, kC_rf _, R, fun a0 a1 h => (nomatch h)⟩
    rw [xe87, tc82 R, xr_cI_s, if_pos (show rso (.inr q) = nI 0 from rfl), xs_xm]
  | inl a =>
    obtain ⟨r1, r2, r3, r4⟩ := id R
    have hl := sk_le (tb := tb) r4
    have X1 : tX (xw (xm S) 0 1 3 (nI (sk tb n a))) tb n := tX_k (kC_w _ (by omega) _) X
    have R1 : rC (xw (xm S) 0 1 3 (nI (sk tb n a))) n (.inl (sk tb n a)) := ⟨by rw [xw_n (by omega)]; exact r1, by rw [xw_n (by omega)]; exact r2, xw_y (by omega), hl⟩
    have b3 := X.1
    by_cases q : sk tb n a < n ∧ tdig (tb (sk tb n a)) = true
    · have X2 : tX (xw (xw (xm S) 0 1 3 (nI (sk tb n a))) 0 1 4 (nI (sk tb n a))) tb n := tX_k (kC_w _ (by omega) _) X1
      have hge := (trun_ge (p := tdig) (tb := tb) (n := n) n (sk tb n a)).1
      obtain ⟨M', h1, K1, R2, e1⟩ := tc87L (d := d) (w := w) (S := S) hlo hhi hl (dend tb n (sk tb n a) - sk tb n a) (sk tb n a) 0 (xw (xw (xm S) 0 1 3 (nI (sk tb n a))) 0 1 4 (nI (sk tb n a))) (by unfold dend; omega) (by omega) X2 (rC_w4 R1 _) (xw_y (by omega))
      rw [show sk tb n a + (dend tb n (sk tb n a) - sk tb n a) = dend tb n (sk tb n a) by unfold dend; omega] at R2
      refine ⟨M', nI (dval tb (dend tb n (sk tb n a) - sk tb n a) (sk tb n a) 0), ?_, kC_tr (kC_tr (kC_w _ (by omega) _) (kC_w _ (by omega) _)) K1, ?_, ?_⟩
      · rw [xe87, tc82 R, xr_cI_s, if_neg (by rw [rso_l, xn_eq (by omega) (by omega)]; omega), tc84 X r4 r3, xr_cI_s, tc85v X.2.1, xr_cI_s, decide_eq_true q.1, q.2, if_neg (by show ¬ nI 1 = nI 0; rw [xn_eq (by omega) (by omega)]; omega), xm_xs, xs_xs, xw_y (by omega), h1]
      · by_cases q2 : lo ≤ dval tb (dend tb n (sk tb n a) - sk tb n a) (sk tb n a) 0 ∧ dval tb (dend tb n (sk tb n a) - sk tb n a) (sk tb n a) 0 < hn
        · rw [pNum_y q q2]; rw [if_pos q2] at R2; exact R2
        · rw [pNum_n q q2]; rw [if_neg q2] at R2; exact R2
      · intro a0 a1 e0 e2
        cases e0
        by_cases q2 : lo ≤ dval tb (dend tb n (sk tb n a) - sk tb n a) (sk tb n a) 0 ∧ dval tb (dend tb n (sk tb n a) - sk tb n a) (sk tb n a) 0 < hn
        · rw [pNum_y q q2]; exact ⟨rfl, e1⟩
        · rw [pNum_n q q2] at e2; cases e2
    · rw [pNum_d q]
      obtain ⟨M2, q2, K2, R2, _, _⟩ := tc83 (d := d) (w := w) (S := xs S (xw (xm S) 0 1 3 (nI (sk tb n a)))) (k := 1) (p := sk tb n a) (by omega) hl R1
      rw [xs_xs] at q2
      rw [xm_xs] at K2
      refine ⟨M2, -1, ?_, kC_tr (kC_w _ (by omega) _) K2, R2, fun a0 a1 _ h => (nomatch h)⟩
      have eb : (decide (sk tb n a < n) && tdig (tb (sk tb n a))) = false := by
        cases h1 : decide (sk tb n a < n) with
        | false => rfl
        | true =>
          cases h2 : tdig (tb (sk tb n a)) with
          | false => rfl
          | true => exact absurd ⟨of_decide_eq_true h1, h2⟩ q
      rw [xe87, tc82 R, xr_cI_s, if_neg (by rw [rso_l, xn_eq (by omega) (by omega)]; omega), tc84 X r4 r3, xr_cI_s, tc85v X.2.1, xr_cI_s, eb, cond_false, if_pos rfl, xm_xs, xw_y (by omega), q2, xr_cV_s]
/-- takeWord -/
theorem tc88 (X : tX (xm S) tb n) (R : rC (xm S) n r) : ∃ M b e, xr_Call (d + 2) 88 [xP 0 1] ([], w) S = some (.inl none, ([], w), xs S M) ∧ kC (xm S) M ∧ rC M n (rwd tb n r) ∧ M 0 1 4 = nI b ∧ M 0 1 3 = nI e ∧ (b ≤ e ∧ e ≤ n) ∧ (∀ a, r = .inl a → b = sk tb n a ∧ e = wend tb n b) ∧ ∀ q, r = .inr q → b = e := by
  obtain ⟨M1, v, b, r1, K1, R1, _, _, e3, hb, ev⟩ := tc84r (d := d) (w := w) X R
  have X1 := tX_k K1 X
  have x0 := X.1
  cases r with
  | inr q =>
    have R2 : rC (xm (xs S (xw M1 0 1 4 (nI b)))) n (.inr q) := rC_w4 R1 _
    refine ⟨xw M1 0 1 4 (nI b), b, b, ?_, kC_tr K1 (kC_w _ (by omega) _), R2, xw_y (by omega), by rw [xw_n (by omega)]; exact e3, ⟨Nat.le_refl _, hb⟩, fun a h => (nomatch h), fun _ _ => rfl⟩
    rw [xe88, r1, xr_cI_s, xm_xs, xs_xs, e3]
    refine (xg88_13 _ _ _).trans ?_
    rw [tc82 R2, xr_cI_s, if_pos (show rso (.inr q) = nI 0 from rfl)]
  | inl a =>
    have eb : b = sk tb n a := by
      have := R1.2.2.1
      rw [e3, xn_eq (by omega) (by have := R1.2.2.2; omega)] at this
      exact this
    subst eb
    have L : ∀ (f a' : Nat) (M : xr_M), wend tb n a' = a' + f → tX M tb n → rC M n (.inl a') → ∃ M', xr_Run (d + 1) 88 13 [xP 0 1] [] ([], w) (xs S M) = some (.inl none, ([], w), xs S M') ∧ kC M M' ∧ rC M' n (.inl (a' + f)) ∧ M' 0 1 4 = M 0 1 4 := by
      intro f
      induction f with
      | zero =>
        intro a' M he X R
        obtain ⟨x1, x2, x3, x4⟩ := id X
        obtain ⟨s1, s2, s3, s4⟩ := id R
        have ne := trun_end (p := tlet) (tb := tb) (n := n) n a' (by omega)
        rw [show trun tlet tb n n a' = wend tb n a' from rfl, he, Nat.add_zero] at ne
        refine ⟨M, ?_, kC_rf _, R, rfl⟩
        refine (xg88_13 _ _ _).trans ?_
        rw [tc82 (S := xs S M) R, xr_cI_s, if_neg (by rw [rso_l, xn_eq (by omega) (by omega)]; omega), xm_xs, s3, x3]
        by_cases q : a' < n
        · have hd : tlet (tb a') = false := by
            cases hc : tlet (tb a') with
            | false => rfl
            | true => exact absurd ⟨q, hc⟩ ne
          rw [if_pos (by rw [xn_lt (by omega) (by omega)]; exact q), xi_t (by omega) (by omega), cond_true, xn_k (by omega), x4 a' q, tc86 (x2 a'), hd, cond_false, xr_cI_s, if_pos rfl]
        · rw [if_neg (by rw [xn_lt (by omega) (by omega)]; exact q)]
      | succ f ih =>
        intro a' M he X R
        obtain ⟨x1, x2, x3, x4⟩ := id X
        obtain ⟨s1, s2, s3, s4⟩ := id R
        have hg := (trun_ge (p := tlet) (tb := tb) (n := n) n a').2.2 a' (Nat.le_refl _) (by rw [show trun tlet tb n n a' = wend tb n a' from rfl, he]; omega)
        have he2 : wend tb n (a' + 1) = a' + 1 + f := by
          unfold wend at he ⊢
          rw [← trun_s hg, he]; omega
        obtain ⟨M', h1, K', R', e'⟩ := ih (a' + 1) (xw M 0 1 3 (nI (a' + 1))) he2 (tX_k (kC_w M (by omega) _) X) ⟨by rw [xw_n (by omega)]; exact s1, by rw [xw_n (by omega)]; exact s2, xw_y (by omega), by omega⟩
        refine ⟨M', ?_, kC_tr (kC_w M (by omega) _) K', by rw [show a' + (f + 1) = a' + 1 + f by omega]; exact R', by rw [e', xw_n (by omega)]⟩
        rw [← h1]
        refine (xg88_13 _ _ _).trans ?_
        rw [tc82 (S := xs S M) R, xr_cI_s, if_neg (by rw [rso_l, xn_eq (by omega) (by omega)]; omega), xm_xs, s3, x3, if_pos (by rw [xn_lt (by omega) (by omega)]; exact hg.1), xi_t (by omega) (by omega), cond_true, xn_k (by omega), x4 a' hg.1, tc86 (x2 a'), hg.2, cond_true, xr_cI_s, if_neg (by rw [xn_eq (by omega) (by omega)]; omega), xm_xs, xs_xs, s3, xn_add]
    have hge := trun_ge (p := tlet) (tb := tb) (n := n) n (sk tb n a)
    obtain ⟨M', h1, K', R', e'⟩ := L (wend tb n (sk tb n a) - sk tb n a) (sk tb n a) (xw M1 0 1 4 (nI (sk tb n a))) (by unfold wend; omega) (tX_k (kC_w M1 (by omega) _) X1) (rC_w4 R1 _)
    rw [show sk tb n a + (wend tb n (sk tb n a) - sk tb n a) = wend tb n (sk tb n a) by unfold wend; omega] at R'
    refine ⟨M', sk tb n a, wend tb n (sk tb n a), ?_, kC_tr (kC_tr K1 (kC_w _ (by omega) _)) K', R', by rw [e', xw_y (by omega)], R'.2.2.1, ⟨hge.1, hge.2.1 hb⟩, fun a2 h => (by cases h; exact ⟨rfl, rfl⟩), fun q h => (nomatch h)⟩
    rw [xe88, r1, xr_cI_s, xm_xs, xs_xs, e3, h1]
end
/-! the JDK's strings -/
theorem xsh0 (a : Int32) : a >>> (nI 0 &&& 31) = a := by
  rw [show (nI 0 &&& 31 : Int32) = 0 by decide, Int32.shiftRight_zero]
theorem xch {c : Nat} (hc : c ≤ 255) : (((nI c) &&& nI 255).toUInt32 % 65536).toInt32 = nI c := by
  have : ∀ c : Fin 256, (((nI c.val) &&& nI 255).toUInt32 % 65536).toInt32 = nI c.val := by decide +kernel
  exact this ⟨c, by omega⟩
theorem xok3 {c : Nat} (hc : c ≤ 255) : xr_ok 3 (nI c) = true := by
  unfold xr_ok
  rw [nI_toInt (by omega)]
  exact decide_eq_true (by omega)
theorem xby_le {k : Nat} (hk : k < 22) (i : Nat) : (xr_by k).getD i 0 ≤ 255 ∧ (xr_by k).length ≤ 34 := by
  have h1 : ∀ k : Fin 22, (∀ c ∈ xr_by k.val, c ≤ 255) ∧ (xr_by k.val).length ≤ 34 := by decide +kernel
  obtain ⟨h2, h3⟩ := h1 ⟨k, hk⟩
  refine ⟨?_, h3⟩
  rw [List.getD_eq_getElem?_getD]
  cases hq : (xr_by k)[i]? with
  | none => exact Nat.zero_le _
  | some c => exact h2 c (List.mem_of_getElem? hq)
section
variable {d : Nat} {w : List Nat} {S : xr_S} {tb : Nat → Nat} {n : Nat}
theorem tj274 (k : Nat) : xr_Call (d + 2) 274 [xP k 3000] ([], w) S = some (.inl (some (nI (xr_by k).length)), ([], w), S) := by
  rw [xe274, xe276, if_neg (by rw [xn_eq (by omega) (by omega)]; omega), xr_cI_s, xsh0]
theorem tj275 {k i : Nat} (hk : k < 22) (hi : i < (xr_by k).length) : xr_Call (d + 4) 275 [xP k 3000, xI (nI i)] ([], w) S = some (.inl (some (nI ((xr_by k).getD i 0))), ([], w), S) := by
  obtain ⟨h1, h2⟩ := xby_le hk i
  rw [xe275, xe277, if_neg (by rw [xn_eq (by omega) (by omega)]; omega), if_pos rfl, xr_cI_s, if_neg (by rw [xn_eq (by omega) (by omega)]; omega), xe279, xe278, xe281, if_neg (by rw [xn_lt (by omega) (by omega)]; omega), if_pos (by rw [xn_lt (by omega) (by omega)]; exact hi), xr_cI_s, xr_cV_s, xi_t hi (by omega), cond_true, xn_k (by omega), xch h1, xok3 h1, cond_true, xr_cI_s, xok3 h1, cond_true]
theorem tc89 {k b e : Nat} (hk : k < 22) (X : tX (xm S) tb n) (e4 : xm S 0 1 4 = nI b) (e3 : xm S 0 1 3 = nI e) (hbe : b ≤ e ∧ e ≤ n) : xr_Call (d + 5) 89 [xP 0 1, xP k 3000] ([], w) S = some (.inl (some (cond (wis (xr_by k) tb b e) (nI 1) (nI 0))), ([], w), S) := by
  obtain ⟨x1, x2, x3, x4⟩ := X
  have h2 := (xby_le hk 0).2
  rw [xe89, tj274, xr_cI_s, e3, e4, xn_sub hbe.1]
  unfold wis
  by_cases q : e - b = (xr_by k).length
  · rw [if_pos (by rw [q])]
    refine (xl_fst (T := fun i => xr_Run (d + 4) 89 20 [xP 0 1, xP k 3000, xI (nI i)] [] ([], w) S) (R := fun _ => some (.inl (some (nI 0)), ([], w), S)) (c := fun i => !decide (tb (b + i) = (xr_by k).getD i 0)) (n := (xr_by k).length) (fun i hi => ?_)).trans ?_
    · refine (xg89_20 _ _ _ _ _).trans ?_
      have h3 := (xby_le hk i).1
      have x5 := x4 (b + i) (by omega)
      have x6 := x2 (b + i)
      rw [tj274, xr_cI_s, if_pos (by rw [xn_lt (by omega) (by omega)]; exact hi), e4, xn_add, xi_t (by omega) (by omega), cond_true, tj275 hk hi, xr_cI_s, xn_k (by omega), x5, xn_add]
      by_cases q2 : tb (b + i) = (xr_by k).getD i 0
      · rw [if_pos (by rw [q2]), decide_eq_true q2]; rfl
      · rw [if_neg (by rw [xn_eq (by omega) (by omega)]; exact q2), decide_eq_false q2]; rfl
    · cases hx : xfst (fun i => !decide (tb (b + i) = (xr_by k).getD i 0)) (xr_by k).length 0 with
      | some i =>
        obtain ⟨_, g2, g3, _⟩ := xfst_some _ _ _ hx
        rw [decide_eq_false]
        · rfl
        · rintro ⟨_, h9⟩
          have := h9 i (by omega)
          rw [decide_eq_true this] at g3
          cases g3
      | none =>
        rw [decide_eq_true]
        · refine (xg89_20 _ _ _ _ _).trans ?_
          rw [tj274, xr_cI_s, if_neg (by rw [xn_lt (by omega) (by omega)]; omega)]
          rfl
        · refine ⟨q, fun i hi => ?_⟩
          have := xfst_none _ _ hx i (by omega) (by omega)
          cases hq : decide (tb (b + i) = (xr_by k).getD i 0) with
          | true => exact of_decide_eq_true hq
          | false => rw [hq] at this; cases this
  · rw [if_neg (by rw [xn_eq (by omega) (by omega)]; exact q), decide_eq_false (fun h => q h.1)]
    rfl
end
