/-! THE THUMB: the public call, model; refusal -/
section
variable {d : Nat} {w : List Nat} {S : xr_S} {tb : Nat → Nat} {n : Nat}
theorem uI_0 : uI (0, (fun _ => 0), (fun _ => none)) := ⟨fun k hk => by dsimp only at hk; omega, (fun i v _ h => (by cases h)), rfl⟩
/-- what the model keeps when it reads a thumb -/
def kThu (M M' : xr_M) (s : uS) : Prop := (M' 0 69 0 = nI 0 ∧ M' 0 69 1 = nI 0 ∧ M' 0 69 3 = tPlc s.1) ∧ (∀ b e, ¬ (b = 0 ∧ e = 69) → ¬ e = 1085 → ¬ e = 1084 → M' b e = M b e) ∧ (∀ k, ¬ (k ≤ 8 ∨ k = 35) → M' 0 69 k = M 0 69 k) ∧ (∀ q, s.1 = .inr q → (∀ k, M' k 1084 = M k 1084) ∧ M' 0 69 35 = M 0 69 35) ∧ ∀ a, s.1 = .inl a → M' 0 69 35 = nI s.2.1 ∧ ∀ k, k < s.2.1 → M' k 1084 0 = nI (s.2.2.1 k) ∧ M' k 1084 1 = oI (s.2.2.2 (s.2.2.1 k))
theorem xbt_06 {i : Nat} (hi : i < 6) : xbt (nI 0) i = false := by
  have : ∀ i : Fin 6, xbt (nI 0) i.val = false := by decide
  exact this ⟨i, hi⟩
theorem tm190y (hn : n ≤ 60) {L : Nat} (hL : n ≤ L) (B : tBm (xm S) tb L) : ∃ M, xr_Call (d + 60) 190 [xP 0 69, xI (nI n)] ([], w) S = some (.inl (some (uRes (uAll tb n))), ([], w), xs S M) ∧ kThu (xm S) M (uAll tb n) := by
  obtain ⟨⟨B1, B2⟩, B4, B5⟩ := B
  obtain ⟨T, hT⟩ : ∃ T, T = xs S (xw (xm S) 0 69 0 (nI 0)) := ⟨_, rfl⟩
  have e0 : xm T 0 69 0 = nI 0 := by rw [hT, xm_xs, xw_y (by omega)]
  obtain ⟨M1, q1, Y1, R1, ⟨f1, f7, f8⟩, F1, G1⟩ := tm170 (d := d + 56) (w := w) (S := T) (tb := tb) (n := n) (by omega) B2 (fun k hk => by rw [hT, xm_xs, xw_n (by omega)]; exact B5 k (by omega))
  have hT2 : xm T = xw (xm S) 0 69 0 (nI 0) := by rw [hT, xm_xs]
  have hT3 : ∀ M, xs T M = xs S M := fun M => by rw [hT, xs_xs]
  have C1 : mTh (xm (xs S M1)) n (nI 0) (nI 0) (.inl (sk tb n 0), 0, (fun _ => 0), (fun _ => none)) := ⟨R1, fun _ _ => ⟨rfl, fun i hi => xbt_06 hi, fun k hk => by dsimp only at hk; omega⟩⟩
  obtain ⟨M2, q2, H2⟩ := tm190L (d := d + 56) (w := w) (tb := tb) (n := n) (n0 := nI n) 60 (xs S M1) _ (nI 0) (nI 0) xU xU xU (fun a h => by cases h; exact ⟨by omega, sk_sk _ _ _⟩) uI_0 Y1 C1
  rw [xs_xs, uItr_sk] at q2
  rw [xm_xs, uItr_sk] at H2
  have b1 : xw (xm S) 0 69 0 (nI 0) 0 69 1 = nI L := by rw [xw_n (by omega)]; exact B4
  have b2 : ¬ nI 1 = nI 0 := by rw [xn_eq (by omega) (by omega)]; omega
  have b3 : ¬ nI 60 < nI n := by rw [xn_lt (by omega) (by omega)]; omega
  obtain ⟨h1, h2, h3, h4, h5⟩ := H2
  refine ⟨M2, ?_, ⟨?_, ?_, h1⟩, fun b e p1 p2 p3 => ?_, fun k hk => ?_, fun q hq => ⟨fun k => ?_, ?_⟩, h5⟩
  · rw [xe190, ← hT, b1, show xr_Call (d + 59) 152 [xI (nI n), xI (nI 0), xI (nI L)] ([], w) T = _ from qm152y (Nat.zero_le n) hL (by omega), xr_cI_s, if_neg b2, if_neg b3, show xr_Call (d + 59) 151 [xP 0 69, xI (nI 0), xI (nI 1), xI (nI 1)] ([], w) T = _ from qm151f _ _ e0, xr_cI_s, if_pos rfl, show xr_Call (d + 59) 170 [xP 0 69, xI (nI n)] ([], w) T = _ from q1, xr_cV_s, hT3]
    exact q2
  · rw [h3 0 (by omega), G1 0 (by omega), e0]
  · rw [h3 1 (by omega), f1]
  · rw [h2 b e p1 p2 p3, F1 b e p1, hT2, xw_r p1]
  · rw [h3 k (by omega), G1 k (by omega), hT2, xw_n (by omega)]
  · rw [(h4 q hq).1 k, F1 k 1084 (by omega), hT2, xw_r (by omega)]
  · rw [(h4 q hq).2, G1 35 (by omega), hT2, xw_n (by omega)]
theorem thumb_no {L : Nat} (B : tB (xm S) tb L) {a : Int32} (h : ¬ xrg a 0 (min L 60)) : qNo d 104 190 [xI a] S xIA 1 18 1 := by
  obtain ⟨⟨B1, B2⟩, ⟨B3, _⟩, B4, _⟩ := B
  refine qNo_of (nI 0) (by omega) ?_ (fun T hT => ?_)
  · rw [xe104, xmn (by omega) (by omega) B3, show xr_Call (d + 59) 141 [xP 0 0, xI a, xI (nI 0), xI (nI (min L 60))] xMd S = _ from qc141n (by omega) (by omega) h, xr_cV_e]
  · have e0 : xm (xs T (xw (xm T) 0 69 0 (nI 0))) 0 69 0 = nI 0 := (by rw [xm_xs, xw_y (by omega)])
    have b1 : xw (xm T) 0 69 0 (nI 0) 0 69 1 = nI L := by rw [xw_n (by omega), hT, xw_n (by omega)]; exact B4
    have b2 : ¬ nI 1 = nI 0 := by rw [xn_eq (by omega) (by omega)]; omega
    have b4 := qm151t (d := d + 58) (w := [35, 44, 53, 58, 63, 66]) (t := 1) (r := 1) (by omega) (by omega) (by omega) e0
    rw [xe190, b1]
    by_cases q : xrg a 0 L
    · obtain ⟨k, _, hk, rfl⟩ := q
      have b3 : nI 60 < nI k := by
        rw [xn_lt (by omega) (by omega)]
        refine Nat.lt_of_not_le (fun h2 => h ⟨k, by omega, by omega, rfl⟩)
      rw [show xr_Call (d + 59) 152 [xI (nI k), xI (nI 0), xI (nI L)] xMd (xs T (xw (xm T) 0 69 0 (nI 0))) = _ from qm152y (Nat.zero_le k) hk (by omega), xr_cI_s, if_neg b2, if_pos b3, show xr_Call (d + 59) 151 [xP 0 69, xI (nI 1), xI (nI 1), xI (nI 1)] xMd (xs T (xw (xm T) 0 69 0 (nI 0))) = _ from b4, xr_cI_s, if_neg b2, xs_xs, xm_xs]
    · rw [show xr_Call (d + 59) 152 [xI a, xI (nI 0), xI (nI L)] xMd (xs T (xw (xm T) 0 69 0 (nI 0))) = _ from qm152n (by omega) (by omega) q, xr_cI_s, if_pos rfl, show xr_Call (d + 59) 151 [xP 0 69, xI (nI 1), xI (nI 1), xI (nI 1)] xMd (xs T (xw (xm T) 0 69 0 (nI 0))) = _ from b4, xr_cI_s, if_neg b2, xs_xs, xm_xs]
/-- a thumb read well -/
theorem uItr_I : ∀ (m : Nat) (s : uS), uI s.2 → uI (uItr tb n m s).2
  | 0, _, I => I
  | _ + 1, (.inr _, _), I => I
  | m + 1, (.inl a, X), I => by
    have ei : uItr tb n (m + 1) (.inl a, X) = if sk tb n a < n then uItr tb n m (uStp tb n (sk tb n a) X) else (.inl (sk tb n a), X) := rfl
    rw [ei]
    split
    · exact uItr_I m _ (uFin_I (fun c hc => by
        obtain ⟨u1, u2⟩ := uTwo_a hc
        exact ⟨pNum_b u1, u2⟩) I)
    · exact I
theorem uAll_I : uI (uAll tb n).2 := uItr_I 60 _ uI_0
end
