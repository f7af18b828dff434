/-! TEXTS, 3: the model's reader -/
def wc (tb : Nat → Nat) (b : Nat) : Nat → Nat
  | 0 => 0
  | k + 1 => 27 * wc tb b k + (tb (b + k) - 96)
section
variable {d : Nat} {w : List Nat} {S : xr_S} {tb : Nat → Nat} {n : Nat} {r : tR}
theorem tm157 (Y : tY (xm S) tb n) {k : Nat} (hk : k < 100000) : xr_Call (d + 1) 157 [xP 0 69, xI (nI k)] ([], w) S = some (.inl (some (tv tb n k)), ([], w), S) := by
  obtain ⟨x1, x2, x3, x4⟩ := Y
  rw [xe157]
  unfold tv
  by_cases q : k < n
  · rw [if_pos (by rw [x3, xn_lt (by omega) (by omega)]; exact q), if_pos q, xi_t (by omega) (by omega), cond_true, xn_k (by omega), x4 k q]
  · rw [if_neg (by rw [x3, xn_lt (by omega) (by omega)]; exact q), if_neg q]
theorem tm158 (Y : tY (xm S) tb n) {a : Nat} (ha : a ≤ n) (e : xm S 0 69 4 = nI a) : xr_Call (d + 2) 158 [xP 0 69] ([], w) S = some (.inl none, ([], w), xs S (xw (xm S) 0 69 4 (nI (sk tb n a)))) := by
  have x1 := Y.1
  have L : ∀ (f a : Nat) (M : xr_M), a + f = n → tY M tb n → M 0 69 4 = nI a → xr_Run (d + 1) 158 0 [xP 0 69] [] ([], w) (xs S M) = some (.inl none, ([], w), xs S (xw M 0 69 4 (nI (sk tb n a)))) := by
    intro f
    induction f with
    | zero =>
      intro a M h X e
      refine (xe158 (d + 1) w (xs S M)).trans ?_
      have es : sk tb n a = a := skp_id (by omega) n
      rw [es, xw_id e, xm_xs, e, tm157 (S := xs S M) X (by omega), xr_cI_s, if_neg]
      rw [tv_eq X.2.1 (by omega)]; omega
    | succ f ih =>
      intro a M h X e
      refine (xe158 (d + 1) w (xs S M)).trans ?_
      rw [xm_xs, e, tm157 (S := xs S M) X (by omega), xr_cI_s]
      by_cases q : tb a = 32
      · rw [if_pos (by rw [tv_eq X.2.1 (by omega)]; exact ⟨by omega, q⟩), xm_xs, xs_xs, e, xn_add]
        have := ih (a + 1) (xw M 0 69 4 (nI (a + 1))) (by omega) (tY_k (kM_w M (by omega) _) X) (by rw [xw_y (by omega)])
        rw [xw_xw, ← skp_s ⟨by omega, q⟩] at this
        exact this
      · have es : sk tb n a = a := skp_id (by omega) n
        rw [if_neg (by rw [tv_eq X.2.1 (by omega)]; omega), es, xw_id e]
  have := L (n - a) a (xm S) (by omega) Y e
  rw [xs_xm] at this
  exact this
theorem rM_sk {M : xr_M} {a : Nat} (R : rM M n (.inl a)) {b : Nat} (hb : b ≤ n) : rM (xw M 0 69 4 (nI b)) n (.inl b) := ⟨by rw [xw_n (by omega)]; exact R.1, by rw [xw_n (by omega)]; exact R.2.1, xw_y (by omega), hb⟩
theorem tm159 {k p : Nat} (hk : 1 ≤ k ∧ k ≤ 4) (hp : p ≤ n) (R : rM (xm S) n r) : ∃ M, xr_Call (d + 1) 159 [xP 0 69, xI (nI k), xI (nI p)] ([], w) S = some (.inl none, ([], w), xs S M) ∧ kM (xm S) M ∧ rM M n (pBl k p r) ∧ M 0 69 4 = xm S 0 69 4 := by
  cases r with
  | inl a =>
    obtain ⟨r1, r2, r3, r4⟩ := R
    refine ⟨xw (xw (xm S) 0 69 5 (nI k)) 0 69 6 (nI p), ?_, kM_tr (kM_w _ (by omega) _) (kM_w _ (by omega) _), ⟨?_, hk, ?_, hp, a, r4, ?_⟩, ?_⟩
    · rw [xe159, if_pos r1]
    · rw [xw_n (by omega), xw_y (by omega)]
    · rw [xw_y (by omega)]
    · rw [xw_n (by omega), xw_n (by omega)]; exact r3
    · rw [xw_n (by omega), xw_n (by omega)]
  | inr q =>
    obtain ⟨k', p'⟩ := q
    refine ⟨xm S, ?_, kM_rf _, R, rfl⟩
    obtain ⟨r1, r2, _⟩ := R
    rw [xe159, if_neg (by rw [r1, xn_eq (by omega) (by omega)]; omega), xs_xm]
theorem tm160 (hb : ∀ k, tb k ≤ 255) (k : Nat) : xr_Call (d + 1) 160 [xI (tv tb n k)] ([], w) S = some (.inl (some (cond (decide (k < n) && tdig (tb k)) (nI 1) (nI 0))), ([], w), S) := by
  have h := tc85v (d := d) (w := w) (S := S) (n := n) hb k
  rw [xe85] at h
  rw [xe160]
  exact h
theorem tm161 (hb : ∀ k, tb k ≤ 255) (k : Nat) : xr_Call (d + 1) 161 [xI (tv tb n k)] ([], w) S = some (.inl (some (cond (decide (k < n) && tlet (tb k)) (nI 1) (nI 0))), ([], w), S) := by
  have h := tc86v (d := d) (w := w) (S := S) (n := n) hb k
  rw [xe86] at h
  rw [xe161]
  exact h
theorem band {p : Prop} [Decidable p] {b : Bool} (h : ¬ (p ∧ b = true)) : (decide p && b) = false := by
  by_cases q : p
  · rw [decide_eq_true q, Bool.true_and]
    cases b with
    | false => rfl
    | true => exact absurd ⟨q, rfl⟩ h
  · rw [decide_eq_false q, Bool.false_and]
theorem bandy {p : Prop} [Decidable p] {b : Bool} (h : p ∧ b = true) : (decide p && b) = true := by
  rw [decide_eq_true h.1, h.2]; rfl
/-- the digits' loop -/
theorem tm162L {lo hn : Nat} {hi : Int32} (hlo : lo ≤ 100000) (hhi : ∀ v, v ≤ 100000 → ((hi < nI v) ↔ hn ≤ v)) {b : Nat} (hb : b ≤ n) : ∀ (f a v : Nat) (M : xr_M), dend tb n a = a + f → v ≤ 100000 → tY M tb n → rM M n (.inl a) → ∃ M', xr_Run (d + 1) 162 44 [xP 0 69, xI (nI lo), xI hi, xI (nI b), xI (nI v)] [] ([], w) (xs S M) = some (.inl (some (nI (if lo ≤ dval tb f a v ∧ dval tb f a v < hn then dval tb f a v else 0))), ([], w), xs S M') ∧ kM M M' ∧ rM M' n (if lo ≤ dval tb f a v ∧ dval tb f a v < hn then .inl (a + f) else .inr (2, b)) := by
  intro f
  induction f with
  | zero =>
    intro a v M he hv X R
    obtain ⟨x1, x2, x3, x4⟩ := id X
    obtain ⟨r1, r2, r3, r4⟩ := id R
    have ne := trun_end (p := tdig) (tb := tb) (n := n) n a (by omega)
    rw [show trun tdig tb n n a = dend tb n a from rfl, he, Nat.add_zero] at ne
    rw [dval]
    have hh := hhi v hv
    obtain ⟨M2, q2, K2, R2, _⟩ := tm159 (d := d) (w := w) (S := xs S M) (k := 2) (p := b) (by omega) hb R
    rw [xs_xs] at q2
    rw [xm_xs] at K2
    have R2f : M2 0 69 5 = nI 2 := R2.1
    by_cases q : lo ≤ v ∧ v < hn
    · refine ⟨M, ?_, kM_rf _, by rw [if_pos q]; exact R⟩
      refine (xg162_44 _ _ _ _ _ _ _).trans ?_
      rw [xm_xs, r3, tm157 (S := xs S M) X (by omega), xr_cI_s, tm160 x2, xr_cI_s, band ne, cond_false, if_pos rfl, xe152, if_neg (by rw [xn_lt (by omega) (by omega)]; omega), if_neg (fun h => by have := hh.mp h; omega), xr_cI_s, if_neg (by rw [xn_eq (by omega) (by omega)]; omega), xm_xs, if_pos r1, if_pos q]
    · refine ⟨M2, ?_, K2, by rw [if_neg q]; exact R2⟩
      refine (xg162_44 _ _ _ _ _ _ _).trans ?_
      rw [xm_xs, r3, tm157 (S := xs S M) X (by omega), xr_cI_s, tm160 x2, xr_cI_s, band ne, cond_false, if_pos rfl, xe152, if_neg q]
      by_cases q3 : v < lo
      · rw [if_pos (by rw [xn_lt (by omega) (by omega)]; exact q3), xr_cI_s, if_pos rfl, q2, xr_cV_s, xm_xs, if_neg (by rw [R2f, xn_eq (by omega) (by omega)]; omega)]
      · rw [if_neg (by rw [xn_lt (by omega) (by omega)]; exact q3), if_pos (hh.mpr (by omega)), xr_cI_s, if_pos rfl, q2, xr_cV_s, xm_xs, if_neg (by rw [R2f, xn_eq (by omega) (by omega)]; omega)]
  | succ f ih =>
    intro a v M he hv X R
    obtain ⟨x1, x2, x3, x4⟩ := id X
    obtain ⟨r1, r2, r3, r4⟩ := id R
    have hg := (trun_ge (p := tdig) (tb := tb) (n := n) n a).2.2 a (Nat.le_refl _) (by rw [show trun tdig tb n n a = dend tb n a from rfl, he]; omega)
    have hd := tdig_b hg.2
    have he2 : dend tb n (a + 1) = a + 1 + f := by
      unfold dend at he ⊢
      rw [← trun_s hg, he]; omega
    obtain ⟨M', h1, K1, R1⟩ := ih (a + 1) (min 100000 (10 * v + (tb a - 48))) (xw M 0 69 4 (nI (a + 1))) he2 (by omega) (tY_k (kM_w M (by omega) _) X) (rM_sk R (by omega))
    refine ⟨M', ?_, kM_tr (kM_w M (by omega) _) K1, ?_⟩
    · rw [dval, ← h1]
      refine (xg162_44 _ _ _ _ _ _ _).trans ?_
      have et : tv tb n a = nI (tb a) := if_pos hg.1
      rw [xm_xs, r3, tm157 (S := xs S M) X (by omega), xr_cI_s, tm160 x2, xr_cI_s, bandy hg, cond_true, if_neg (by rw [xn_eq (by omega) (by omega)]; omega), xm_xs, r3, tm157 (S := xs S M) X (by omega), xr_cI_s, et, xn_mul, xn_add, xn_sub (by omega), xm_xs, xs_xs, r3, xn_add]
      rw [show 10 * v + tb a - 48 = 10 * v + (tb a - 48) by omega]
      by_cases q : 100000 < 10 * v + (tb a - 48)
      · rw [if_pos (by rw [xn_lt (by omega) (by omega)]; exact q), Nat.min_eq_left (by omega)]
      · rw [if_neg (by rw [xn_lt (by omega) (by omega)]; exact q), Nat.min_eq_right (by omega)]
    · rw [dval, show a + (f + 1) = a + 1 + f by omega]; exact R1
theorem tm162 {lo hn : Nat} {hi : Int32} (hlo : lo ≤ 100000) (hhi : ∀ v, v ≤ 100000 → ((hi < nI v) ↔ hn ≤ v)) (Y : tY (xm S) tb n) (R : rM (xm S) n r) : ∃ M, xr_Call (d + 3) 162 [xP 0 69, xI (nI lo), xI hi] ([], w) S = some (.inl (some (nI (pNum tb n lo hn r).1)), ([], w), xs S M) ∧ kM (xm S) M ∧ rM M n (pNum tb n lo hn r).2 := by
  cases r with
  | inr q =>
    refine ⟨xm S, ?_, kM_rf _, R⟩
    obtain ⟨k, p⟩ := q
    rw [xe162, if_neg (by rw [R.1, xn_eq (by have := R.2.1; omega) (by omega)]; have := R.2.1; omega), xs_xm]
    rfl
  | inl a =>
    obtain ⟨r1, r2, r3, r4⟩ := id R
    have hl := sk_le (tb := tb) r4
    have x1 := Y.1
    have Y1 : tY (xw (xm S) 0 69 4 (nI (sk tb n a))) tb n := tY_k (kM_w _ (by omega) _) Y
    have R1 := rM_sk R hl
    by_cases q : sk tb n a < n ∧ tdig (tb (sk tb n a)) = true
    · have hge := (trun_ge (p := tdig) (tb := tb) (n := n) n (sk tb n a)).1
      obtain ⟨M', h1, K1, R2⟩ := tm162L (d := d + 1) (w := w) (S := S) hlo hhi hl (dend tb n (sk tb n a) - sk tb n a) (sk tb n a) 0 (xw (xm S) 0 69 4 (nI (sk tb n a))) (by unfold dend; omega) (by omega) Y1 R1
      rw [show sk tb n a + (dend tb n (sk tb n a) - sk tb n a) = dend tb n (sk tb n a) by unfold dend; omega] at R2
      have ec : xr_Call (d + 3) 162 [xP 0 69, xI (nI lo), xI hi] ([], w) S = xr_Run (d + 2) 162 44 [xP 0 69, xI (nI lo), xI hi, xI (nI (sk tb n a)), xI (nI 0)] [] ([], w) (xs S (xw (xm S) 0 69 4 (nI (sk tb n a)))) := by
        rw [xe162, if_pos r1, tm158 Y r4 r3, xr_cV_s, xm_xs, xw_y (by omega), tm157 (S := xs S (xw (xm S) 0 69 4 (nI (sk tb n a)))) Y1 (by omega), xr_cI_s, tm160 Y.2.1, xr_cI_s, bandy q, cond_true, if_neg (by rw [xn_eq (by omega) (by omega)]; omega)]
      refine ⟨M', ?_, kM_tr (kM_w _ (by omega) _) K1, ?_⟩
      · rw [ec, h1]
        by_cases q2 : lo ≤ dval tb (dend tb n (sk tb n a) - sk tb n a) (sk tb n a) 0 ∧ dval tb (dend tb n (sk tb n a) - sk tb n a) (sk tb n a) 0 < hn
        · rw [pNum_y q q2, if_pos q2]
        · rw [pNum_n q q2, if_neg q2]
      · by_cases q2 : lo ≤ dval tb (dend tb n (sk tb n a) - sk tb n a) (sk tb n a) 0 ∧ dval tb (dend tb n (sk tb n a) - sk tb n a) (sk tb n a) 0 < hn
        · rw [pNum_y q q2]; rw [if_pos q2] at R2; exact R2
        · rw [pNum_n q q2]; rw [if_neg q2] at R2; exact R2
    · rw [pNum_d q]
      obtain ⟨M2, q2, K2, R2, e42⟩ := tm159 (d := d + 1) (w := w) (S := xs S (xw (xm S) 0 69 4 (nI (sk tb n a)))) (k := 1) (p := sk tb n a) (by omega) hl R1
      rw [xs_xs] at q2
      rw [xm_xs] at K2 e42
      rw [xw_y (by omega)] at e42
      have Y2 : tY (xm (xs S M2)) tb n := tY_k K2 Y1
      obtain ⟨M3, q3, K3, R3, _⟩ := tm159 (d := d + 1) (w := w) (S := xs S M2) (k := 2) (p := sk tb n a) (by omega) hl R2
      rw [xs_xs] at q3
      rw [xm_xs] at K3
      have f2 : M2 0 69 5 = nI 1 := R2.1
      have f3 : M3 0 69 5 = nI 1 := R3.1
      have pre : xr_Call (d + 3) 162 [xP 0 69, xI (nI lo), xI hi] ([], w) S = xr_cI ([], w) (xr_Call (d + 2) 152 [xI (nI 0), xI (nI lo), xI hi] ([], w) (xs S M2)) (fun x6 S5 => (if x6 = (nI 0) then (xr_cV ([], w) (xr_Call (d + 2) 159 [xP 0 69, xI (nI 2), xI (nI (sk tb n a))] ([], w) S5) (fun S7 => (if ((xm S7) 0 69 5) = (nI 0) then (some (.inl (some (nI 0)), ([], w), S7)) else (some (.inl (some (nI 0)), ([], w), S7))))) else (if ((xm S5) 0 69 5) = (nI 0) then (some (.inl (some (nI 0)), ([], w), S5)) else (some (.inl (some (nI 0)), ([], w), S5))))) := by
        rw [xe162, if_pos r1, tm158 Y r4 r3, xr_cV_s, xm_xs, xw_y (by omega), tm157 (S := xs S (xw (xm S) 0 69 4 (nI (sk tb n a)))) Y1 (by omega), xr_cI_s, tm160 Y.2.1, xr_cI_s, band q, cond_false, if_pos rfl, xm_xs, xw_y (by omega), q2, xr_cV_s]
        refine (xg162_44 _ _ _ _ _ _ _).trans ?_
        rw [xm_xs, e42, tm157 (S := xs S M2) Y2 (by omega), xr_cI_s, tm160 Y.2.1, xr_cI_s, band q, cond_false, if_pos rfl]
      by_cases q5 : nI 0 < nI lo ∨ hi < nI 0
      · refine ⟨M3, ?_, kM_tr (kM_tr (kM_w _ (by omega) _) K2) K3, R3⟩
        rw [pre, xe152]
        have : (if nI 0 < nI lo then some (.inl (some (nI 0)), (([] : List (Nat × Nat × Nat)), w), xs S M2) else (if hi < nI 0 then some (.inl (some (nI 0)), ([], w), xs S M2) else some (.inl (some (nI 1)), ([], w), xs S M2))) = (some (.inl (some (nI 0)), ([], w), xs S M2) : xr_R) := by
          by_cases q6 : nI 0 < nI lo
          · rw [if_pos q6]
          · rw [if_neg q6, if_pos (q5.resolve_left q6)]
        rw [this, xr_cI_s, if_pos rfl, q3, xr_cV_s]
        split <;> rfl
      · refine ⟨M2, ?_, kM_tr (kM_w _ (by omega) _) K2, R2⟩
        rw [pre, xe152, if_neg (fun h => q5 (Or.inl h)), if_neg (fun h => q5 (Or.inr h)), xr_cI_s, if_neg (by rw [xn_eq (by omega) (by omega)]; omega)]
        split <;> rfl
/-- wordHere -/
theorem tm163 (Y : tY (xm S) tb n) {a : Nat} (R : rM (xm S) n (.inl a)) : xr_Call (d + 3) 163 [xP 0 69] ([], w) S = some (.inl (some (if wend tb n (sk tb n a) - sk tb n a ≤ 6 then nI (wc tb (sk tb n a) (wend tb n (sk tb n a) - sk tb n a)) else -1)), ([], w), xs S (xw (xm S) 0 69 4 (nI (sk tb n a)))) := by
  obtain ⟨r1, r2, r3, r4⟩ := id R
  have hl := sk_le (tb := tb) r4
  have x1 := Y.1
  have Y1 : tY (xm (xs S (xw (xm S) 0 69 4 (nI (sk tb n a))))) tb n := tY_k (kM_w _ (by omega) _) Y
  have hge := trun_ge (p := tlet) (tb := tb) (n := n) n (sk tb n a)
  have hend := trun_end (p := tlet) (tb := tb) (n := n) n (sk tb n a) (by omega)
  rw [show trun tlet tb n n (sk tb n a) = wend tb n (sk tb n a) from rfl] at hge hend
  have hw := hge.2.1 hl
  rw [xe163, tm158 Y r4 r3, xr_cV_s]
  refine (xl_up (T := fun k => xr_Run (d + 2) 163 8 [xP 0 69, xI (nI (wc tb (sk tb n a) (min k 6))), xI (nI k)] [] ([], w) (xs S (xw (xm S) 0 69 4 (nI (sk tb n a))))) (n := wend tb n (sk tb n a) - sk tb n a) (fun k hk => ?_)).trans ?_
  · obtain ⟨g1, g2⟩ := hge.2.2 (sk tb n a + k) (by omega) (by omega)
    have et : tv tb n (sk tb n a + k) = nI (tb (sk tb n a + k)) := if_pos g1
    have gl : 97 ≤ tb (sk tb n a + k) ∧ tb (sk tb n a + k) ≤ 122 := of_decide_eq_true g2
    refine (xg163_8 _ _ _ _ _).trans ?_
    rw [xm_xs, xw_y (by omega), xn_add, tm157 Y1 (by omega), xr_cI_s, tm161 Y.2.1, xr_cI_s, bandy ⟨g1, g2⟩, cond_true, if_neg (by rw [xn_eq (by omega) (by omega)]; omega), xm_xs, xw_y (by omega), xn_add, tm157 Y1 (by omega), xr_cI_s, et, xn_add]
    by_cases q : k < 6
    · rw [if_pos (by rw [xn_lt (by omega) (by omega)]; exact q), xn_mul, xn_add, xn_sub (by omega), xn_add, Nat.min_eq_left (show k ≤ 6 by omega), Nat.min_eq_left (show k + 1 ≤ 6 by omega), wc, show 27 * wc tb (sk tb n a) k + tb (sk tb n a + k) - 97 + 1 = 27 * wc tb (sk tb n a) k + (tb (sk tb n a + k) - 96) by omega]
    · rw [if_neg (by rw [xn_lt (by omega) (by omega)]; exact q), Nat.min_eq_right (show 6 ≤ k by omega), Nat.min_eq_right (show 6 ≤ k + 1 by omega)]
  · refine (xg163_8 _ _ _ _ _).trans ?_
    rw [xm_xs, xw_y (by omega), xn_add, tm157 Y1 (by omega), xr_cI_s, tm161 Y.2.1, xr_cI_s, show sk tb n a + (wend tb n (sk tb n a) - sk tb n a) = wend tb n (sk tb n a) by omega, band hend, cond_false, if_pos rfl]
    by_cases q : wend tb n (sk tb n a) - sk tb n a ≤ 6
    · rw [if_neg (by rw [xn_lt (by omega) (by omega)]; omega), if_pos q, Nat.min_eq_left q]
    · rw [if_pos (by rw [xn_lt (by omega) (by omega)]; omega), if_neg q]
end
