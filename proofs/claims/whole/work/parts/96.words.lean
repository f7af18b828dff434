/-! TEXTS, 5: each word, as the model asks for it -/
theorem wis_inj {L1 L2 : List Nat} {tb : Nat → Nat} {b e : Nat} (h1 : wis L1 tb b e = true) (h2 : wis L2 tb b e = true) : L1 = L2 := by
  obtain ⟨a1, a2⟩ := of_decide_eq_true h1
  obtain ⟨b1, b2⟩ := of_decide_eq_true h2
  apply List.ext_getElem?
  intro i
  by_cases q : i < L1.length
  · have x1 := a2 i q
    have x2 := b2 i (by omega)
    have q2 : i < L2.length := by omega
    rw [List.getD_eq_getElem?_getD, List.getElem?_eq_getElem q] at x1
    rw [List.getD_eq_getElem?_getD, List.getElem?_eq_getElem q2] at x2
    rw [List.getElem?_eq_getElem q, List.getElem?_eq_getElem q2]
    simp only [Option.getD_some] at x1 x2
    rw [← x1, ← x2]
  · rw [List.getElem?_eq_none (by omega), List.getElem?_eq_none (by omega)]
theorem wis_no {k b : Nat} {tb : Nat → Nat} (hk : 1 ≤ k ∧ k ≤ 20) : wis (xr_by k) tb b b = false := by
  have : ∀ k : Fin 21, 1 ≤ k.val → 0 < (xr_by k.val).length := by decide +kernel
  have h1 := this ⟨k, by omega⟩ hk.1
  exact decide_eq_false (fun h => by have := h.1; dsimp only at h1; omega)
section
variable {d : Nat} {w : List Nat} {S : xr_S} {tb : Nat → Nat} {n : Nat}
theorem tm165g {a1 a2 a3 a4 a5 a6 : Int32} {q : Nat × Nat} (R : rM (xm S) n (.inr q)) : xr_Call (d + 1) 165 [xP 0 69, xI a1, xI a2, xI a3, xI a4, xI a5, xI a6] ([], w) S = some (.inl (some (nI 0)), ([], w), S) := by
  obtain ⟨k, p⟩ := q
  rw [xe165, if_neg (by rw [R.1, xn_eq (by have := R.2.1; omega) (by omega)]; have := R.2.1; omega)]
theorem xby1 : xr_by 1 = [112, 101, 114, 115, 111, 110] := by decide
theorem mw1 {a : Nat} (Y : tY (xm S) tb n) (R : rM (xm S) n (.inl a)) : xr_Call (d + 4) 165 [xP 0 69, xI (nI 16), xI (nI 5), xI (nI 18), xI (nI 19), xI (nI 15), xI (nI 14)] ([], w) S = some (.inl (some (cond (wis (xr_by 1) tb (sk tb n a) (wend tb n (sk tb n a))) (nI 1) (nI 0))), ([], w), xs S (xw (xm S) 0 69 4 (nI (sk tb n a)))) := by
  rw [xby1]
  exact tm165_6 (l1 := 112) (l2 := 101) (l3 := 114) (l4 := 115) (l5 := 111) (l6 := 110) (by omega) (by omega) (by omega) (by omega) (by omega) (by omega) Y R
theorem xby2 : xr_by 2 = [112, 111, 116] := by decide
theorem mw2 {a : Nat} (Y : tY (xm S) tb n) (R : rM (xm S) n (.inl a)) : xr_Call (d + 4) 165 [xP 0 69, xI (nI 16), xI (nI 15), xI (nI 20), xI (nI 0), xI (nI 0), xI (nI 0)] ([], w) S = some (.inl (some (cond (wis (xr_by 2) tb (sk tb n a) (wend tb n (sk tb n a))) (nI 1) (nI 0))), ([], w), xs S (xw (xm S) 0 69 4 (nI (sk tb n a)))) := by
  rw [xby2]
  exact tm165_3 (l1 := 112) (l2 := 111) (l3 := 116) (by omega) (by omega) (by omega) Y R
theorem xby3 : xr_by 3 = [104, 101, 97, 112] := by decide
theorem mw3 {a : Nat} (Y : tY (xm S) tb n) (R : rM (xm S) n (.inl a)) : xr_Call (d + 4) 165 [xP 0 69, xI (nI 8), xI (nI 5), xI (nI 1), xI (nI 16), xI (nI 0), xI (nI 0)] ([], w) S = some (.inl (some (cond (wis (xr_by 3) tb (sk tb n a) (wend tb n (sk tb n a))) (nI 1) (nI 0))), ([], w), xs S (xw (xm S) 0 69 4 (nI (sk tb n a)))) := by
  rw [xby3]
  exact tm165_4 (l1 := 104) (l2 := 101) (l3 := 97) (l4 := 112) (by omega) (by omega) (by omega) (by omega) Y R
theorem xby4 : xr_by 4 = [99, 104, 105, 112, 115] := by decide
theorem mw4 {a : Nat} (Y : tY (xm S) tb n) (R : rM (xm S) n (.inl a)) : xr_Call (d + 4) 165 [xP 0 69, xI (nI 3), xI (nI 8), xI (nI 9), xI (nI 16), xI (nI 19), xI (nI 0)] ([], w) S = some (.inl (some (cond (wis (xr_by 4) tb (sk tb n a) (wend tb n (sk tb n a))) (nI 1) (nI 0))), ([], w), xs S (xw (xm S) 0 69 4 (nI (sk tb n a)))) := by
  rw [xby4]
  exact tm165_5 (l1 := 99) (l2 := 104) (l3 := 105) (l4 := 112) (l5 := 115) (by omega) (by omega) (by omega) (by omega) (by omega) Y R
theorem xby5 : xr_by 5 = [115, 116, 101, 101, 112] := by decide
theorem mw5 {a : Nat} (Y : tY (xm S) tb n) (R : rM (xm S) n (.inl a)) : xr_Call (d + 4) 165 [xP 0 69, xI (nI 19), xI (nI 20), xI (nI 5), xI (nI 5), xI (nI 16), xI (nI 0)] ([], w) S = some (.inl (some (cond (wis (xr_by 5) tb (sk tb n a) (wend tb n (sk tb n a))) (nI 1) (nI 0))), ([], w), xs S (xw (xm S) 0 69 4 (nI (sk tb n a)))) := by
  rw [xby5]
  exact tm165_5 (l1 := 115) (l2 := 116) (l3 := 101) (l4 := 101) (l5 := 112) (by omega) (by omega) (by omega) (by omega) (by omega) Y R
theorem xby6 : xr_by 6 = [101, 110, 100] := by decide
theorem mw6 {a : Nat} (Y : tY (xm S) tb n) (R : rM (xm S) n (.inl a)) : xr_Call (d + 4) 165 [xP 0 69, xI (nI 5), xI (nI 14), xI (nI 4), xI (nI 0), xI (nI 0), xI (nI 0)] ([], w) S = some (.inl (some (cond (wis (xr_by 6) tb (sk tb n a) (wend tb n (sk tb n a))) (nI 1) (nI 0))), ([], w), xs S (xw (xm S) 0 69 4 (nI (sk tb n a)))) := by
  rw [xby6]
  exact tm165_3 (l1 := 101) (l2 := 110) (l3 := 100) (by omega) (by omega) (by omega) Y R
theorem xby7 : xr_by 7 = [100, 101, 112, 116, 104] := by decide
theorem mw7 {a : Nat} (Y : tY (xm S) tb n) (R : rM (xm S) n (.inl a)) : xr_Call (d + 4) 165 [xP 0 69, xI (nI 4), xI (nI 5), xI (nI 16), xI (nI 20), xI (nI 8), xI (nI 0)] ([], w) S = some (.inl (some (cond (wis (xr_by 7) tb (sk tb n a) (wend tb n (sk tb n a))) (nI 1) (nI 0))), ([], w), xs S (xw (xm S) 0 69 4 (nI (sk tb n a)))) := by
  rw [xby7]
  exact tm165_5 (l1 := 100) (l2 := 101) (l3 := 112) (l4 := 116) (l5 := 104) (by omega) (by omega) (by omega) (by omega) (by omega) Y R
theorem mt7 {a : Nat} (Y : tY (xm S) tb n) (R : rM (xm S) n (.inl a)) : xr_Call (d + 5) 167 [xP 0 69, xI (nI 4), xI (nI 5), xI (nI 16), xI (nI 20), xI (nI 8), xI (nI 0)] ([], w) S = some (.inl (some (cond (wis (xr_by 7) tb (sk tb n a) (wend tb n (sk tb n a))) (nI 1) (nI 0))), ([], w), xs S (xw (xm S) 0 69 4 (nI (cond (wis (xr_by 7) tb (sk tb n a) (wend tb n (sk tb n a))) (wend tb n (sk tb n a)) (sk tb n a))))) := by
  rw [xe167, mw7 Y R, xr_cI_s]
  have hl := sk_le (tb := tb) R.2.2.2
  cases wis (xr_by 7) tb (sk tb n a) (wend tb n (sk tb n a)) with
  | false => rw [cond_false, if_pos rfl, xok0]; rfl
  | true =>
    have Y1 : tY (xm (xs S (xw (xm S) 0 69 4 (nI (sk tb n a))))) tb n := tY_k (kM_w _ (by omega) _) Y
    have R1 : rM (xm (xs S (xw (xm S) 0 69 4 (nI (sk tb n a))))) n (.inl (sk tb n a)) := rM_sk R hl
    rw [cond_true, if_neg (by rw [xn_eq (by omega) (by omega)]; omega), (tm166 (d := d + 2) Y1 R1).1, xr_cV_s, xok1, cond_true, xm_xs, xs_xs, xw_xw]
    rfl
theorem xby8 : xr_by 8 = [112, 108, 97, 99, 101] := by decide
theorem mw8 {a : Nat} (Y : tY (xm S) tb n) (R : rM (xm S) n (.inl a)) : xr_Call (d + 4) 165 [xP 0 69, xI (nI 16), xI (nI 12), xI (nI 1), xI (nI 3), xI (nI 5), xI (nI 0)] ([], w) S = some (.inl (some (cond (wis (xr_by 8) tb (sk tb n a) (wend tb n (sk tb n a))) (nI 1) (nI 0))), ([], w), xs S (xw (xm S) 0 69 4 (nI (sk tb n a)))) := by
  rw [xby8]
  exact tm165_5 (l1 := 112) (l2 := 108) (l3 := 97) (l4 := 99) (l5 := 101) (by omega) (by omega) (by omega) (by omega) (by omega) Y R
theorem mt8 {a : Nat} (Y : tY (xm S) tb n) (R : rM (xm S) n (.inl a)) : xr_Call (d + 5) 167 [xP 0 69, xI (nI 16), xI (nI 12), xI (nI 1), xI (nI 3), xI (nI 5), xI (nI 0)] ([], w) S = some (.inl (some (cond (wis (xr_by 8) tb (sk tb n a) (wend tb n (sk tb n a))) (nI 1) (nI 0))), ([], w), xs S (xw (xm S) 0 69 4 (nI (cond (wis (xr_by 8) tb (sk tb n a) (wend tb n (sk tb n a))) (wend tb n (sk tb n a)) (sk tb n a))))) := by
  rw [xe167, mw8 Y R, xr_cI_s]
  have hl := sk_le (tb := tb) R.2.2.2
  cases wis (xr_by 8) tb (sk tb n a) (wend tb n (sk tb n a)) with
  | false => rw [cond_false, if_pos rfl, xok0]; rfl
  | true =>
    have Y1 : tY (xm (xs S (xw (xm S) 0 69 4 (nI (sk tb n a))))) tb n := tY_k (kM_w _ (by omega) _) Y
    have R1 : rM (xm (xs S (xw (xm S) 0 69 4 (nI (sk tb n a))))) n (.inl (sk tb n a)) := rM_sk R hl
    rw [cond_true, if_neg (by rw [xn_eq (by omega) (by omega)]; omega), (tm166 (d := d + 2) Y1 R1).1, xr_cV_s, xok1, cond_true, xm_xs, xs_xs, xw_xw]
    rfl
theorem xby9 : xr_by 9 = [104, 97, 108, 102] := by decide
theorem mw9 {a : Nat} (Y : tY (xm S) tb n) (R : rM (xm S) n (.inl a)) : xr_Call (d + 4) 165 [xP 0 69, xI (nI 8), xI (nI 1), xI (nI 12), xI (nI 6), xI (nI 0), xI (nI 0)] ([], w) S = some (.inl (some (cond (wis (xr_by 9) tb (sk tb n a) (wend tb n (sk tb n a))) (nI 1) (nI 0))), ([], w), xs S (xw (xm S) 0 69 4 (nI (sk tb n a)))) := by
  rw [xby9]
  exact tm165_4 (l1 := 104) (l2 := 97) (l3 := 108) (l4 := 102) (by omega) (by omega) (by omega) (by omega) Y R
theorem mt9 {a : Nat} (Y : tY (xm S) tb n) (R : rM (xm S) n (.inl a)) : xr_Call (d + 5) 167 [xP 0 69, xI (nI 8), xI (nI 1), xI (nI 12), xI (nI 6), xI (nI 0), xI (nI 0)] ([], w) S = some (.inl (some (cond (wis (xr_by 9) tb (sk tb n a) (wend tb n (sk tb n a))) (nI 1) (nI 0))), ([], w), xs S (xw (xm S) 0 69 4 (nI (cond (wis (xr_by 9) tb (sk tb n a) (wend tb n (sk tb n a))) (wend tb n (sk tb n a)) (sk tb n a))))) := by
  rw [xe167, mw9 Y R, xr_cI_s]
  have hl := sk_le (tb := tb) R.2.2.2
  cases wis (xr_by 9) tb (sk tb n a) (wend tb n (sk tb n a)) with
  | false => rw [cond_false, if_pos rfl, xok0]; rfl
  | true =>
    have Y1 : tY (xm (xs S (xw (xm S) 0 69 4 (nI (sk tb n a))))) tb n := tY_k (kM_w _ (by omega) _) Y
    have R1 : rM (xm (xs S (xw (xm S) 0 69 4 (nI (sk tb n a))))) n (.inl (sk tb n a)) := rM_sk R hl
    rw [cond_true, if_neg (by rw [xn_eq (by omega) (by omega)]; omega), (tm166 (d := d + 2) Y1 R1).1, xr_cV_s, xok1, cond_true, xm_xs, xs_xs, xw_xw]
    rfl
theorem xby10 : xr_by 10 = [121, 101, 97, 114] := by decide
theorem mw10 {a : Nat} (Y : tY (xm S) tb n) (R : rM (xm S) n (.inl a)) : xr_Call (d + 4) 165 [xP 0 69, xI (nI 25), xI (nI 5), xI (nI 1), xI (nI 18), xI (nI 0), xI (nI 0)] ([], w) S = some (.inl (some (cond (wis (xr_by 10) tb (sk tb n a) (wend tb n (sk tb n a))) (nI 1) (nI 0))), ([], w), xs S (xw (xm S) 0 69 4 (nI (sk tb n a)))) := by
  rw [xby10]
  exact tm165_4 (l1 := 121) (l2 := 101) (l3 := 97) (l4 := 114) (by omega) (by omega) (by omega) (by omega) Y R
theorem mt10 {a : Nat} (Y : tY (xm S) tb n) (R : rM (xm S) n (.inl a)) : xr_Call (d + 5) 167 [xP 0 69, xI (nI 25), xI (nI 5), xI (nI 1), xI (nI 18), xI (nI 0), xI (nI 0)] ([], w) S = some (.inl (some (cond (wis (xr_by 10) tb (sk tb n a) (wend tb n (sk tb n a))) (nI 1) (nI 0))), ([], w), xs S (xw (xm S) 0 69 4 (nI (cond (wis (xr_by 10) tb (sk tb n a) (wend tb n (sk tb n a))) (wend tb n (sk tb n a)) (sk tb n a))))) := by
  rw [xe167, mw10 Y R, xr_cI_s]
  have hl := sk_le (tb := tb) R.2.2.2
  cases wis (xr_by 10) tb (sk tb n a) (wend tb n (sk tb n a)) with
  | false => rw [cond_false, if_pos rfl, xok0]; rfl
  | true =>
    have Y1 : tY (xm (xs S (xw (xm S) 0 69 4 (nI (sk tb n a))))) tb n := tY_k (kM_w _ (by omega) _) Y
    have R1 : rM (xm (xs S (xw (xm S) 0 69 4 (nI (sk tb n a))))) n (.inl (sk tb n a)) := rM_sk R hl
    rw [cond_true, if_neg (by rw [xn_eq (by omega) (by omega)]; omega), (tm166 (d := d + 2) Y1 R1).1, xr_cV_s, xok1, cond_true, xm_xs, xs_xs, xw_xw]
    rfl
theorem xby11 : xr_by 11 = [97, 103, 101] := by decide
theorem mw11 {a : Nat} (Y : tY (xm S) tb n) (R : rM (xm S) n (.inl a)) : xr_Call (d + 4) 165 [xP 0 69, xI (nI 1), xI (nI 7), xI (nI 5), xI (nI 0), xI (nI 0), xI (nI 0)] ([], w) S = some (.inl (some (cond (wis (xr_by 11) tb (sk tb n a) (wend tb n (sk tb n a))) (nI 1) (nI 0))), ([], w), xs S (xw (xm S) 0 69 4 (nI (sk tb n a)))) := by
  rw [xby11]
  exact tm165_3 (l1 := 97) (l2 := 103) (l3 := 101) (by omega) (by omega) (by omega) Y R
theorem mt11 {a : Nat} (Y : tY (xm S) tb n) (R : rM (xm S) n (.inl a)) : xr_Call (d + 5) 167 [xP 0 69, xI (nI 1), xI (nI 7), xI (nI 5), xI (nI 0), xI (nI 0), xI (nI 0)] ([], w) S = some (.inl (some (cond (wis (xr_by 11) tb (sk tb n a) (wend tb n (sk tb n a))) (nI 1) (nI 0))), ([], w), xs S (xw (xm S) 0 69 4 (nI (cond (wis (xr_by 11) tb (sk tb n a) (wend tb n (sk tb n a))) (wend tb n (sk tb n a)) (sk tb n a))))) := by
  rw [xe167, mw11 Y R, xr_cI_s]
  have hl := sk_le (tb := tb) R.2.2.2
  cases wis (xr_by 11) tb (sk tb n a) (wend tb n (sk tb n a)) with
  | false => rw [cond_false, if_pos rfl, xok0]; rfl
  | true =>
    have Y1 : tY (xm (xs S (xw (xm S) 0 69 4 (nI (sk tb n a))))) tb n := tY_k (kM_w _ (by omega) _) Y
    have R1 : rM (xm (xs S (xw (xm S) 0 69 4 (nI (sk tb n a))))) n (.inl (sk tb n a)) := rM_sk R hl
    rw [cond_true, if_neg (by rw [xn_eq (by omega) (by omega)]; omega), (tm166 (d := d + 2) Y1 R1).1, xr_cV_s, xok1, cond_true, xm_xs, xs_xs, xw_xw]
    rfl
theorem xby12 : xr_by 12 = [100, 117, 101] := by decide
theorem mw12 {a : Nat} (Y : tY (xm S) tb n) (R : rM (xm S) n (.inl a)) : xr_Call (d + 4) 165 [xP 0 69, xI (nI 4), xI (nI 21), xI (nI 5), xI (nI 0), xI (nI 0), xI (nI 0)] ([], w) S = some (.inl (some (cond (wis (xr_by 12) tb (sk tb n a) (wend tb n (sk tb n a))) (nI 1) (nI 0))), ([], w), xs S (xw (xm S) 0 69 4 (nI (sk tb n a)))) := by
  rw [xby12]
  exact tm165_3 (l1 := 100) (l2 := 117) (l3 := 101) (by omega) (by omega) (by omega) Y R
theorem mt12 {a : Nat} (Y : tY (xm S) tb n) (R : rM (xm S) n (.inl a)) : xr_Call (d + 5) 167 [xP 0 69, xI (nI 4), xI (nI 21), xI (nI 5), xI (nI 0), xI (nI 0), xI (nI 0)] ([], w) S = some (.inl (some (cond (wis (xr_by 12) tb (sk tb n a) (wend tb n (sk tb n a))) (nI 1) (nI 0))), ([], w), xs S (xw (xm S) 0 69 4 (nI (cond (wis (xr_by 12) tb (sk tb n a) (wend tb n (sk tb n a))) (wend tb n (sk tb n a)) (sk tb n a))))) := by
  rw [xe167, mw12 Y R, xr_cI_s]
  have hl := sk_le (tb := tb) R.2.2.2
  cases wis (xr_by 12) tb (sk tb n a) (wend tb n (sk tb n a)) with
  | false => rw [cond_false, if_pos rfl, xok0]; rfl
  | true =>
    have Y1 : tY (xm (xs S (xw (xm S) 0 69 4 (nI (sk tb n a))))) tb n := tY_k (kM_w _ (by omega) _) Y
    have R1 : rM (xm (xs S (xw (xm S) 0 69 4 (nI (sk tb n a))))) n (.inl (sk tb n a)) := rM_sk R hl
    rw [cond_true, if_neg (by rw [xn_eq (by omega) (by omega)]; omega), (tm166 (d := d + 2) Y1 R1).1, xr_cV_s, xok1, cond_true, xm_xs, xs_xs, xw_xw]
    rfl
theorem xby13 : xr_by 13 = [108, 101, 97, 115, 116] := by decide
theorem mw13 {a : Nat} (Y : tY (xm S) tb n) (R : rM (xm S) n (.inl a)) : xr_Call (d + 4) 165 [xP 0 69, xI (nI 12), xI (nI 5), xI (nI 1), xI (nI 19), xI (nI 20), xI (nI 0)] ([], w) S = some (.inl (some (cond (wis (xr_by 13) tb (sk tb n a) (wend tb n (sk tb n a))) (nI 1) (nI 0))), ([], w), xs S (xw (xm S) 0 69 4 (nI (sk tb n a)))) := by
  rw [xby13]
  exact tm165_5 (l1 := 108) (l2 := 101) (l3 := 97) (l4 := 115) (l5 := 116) (by omega) (by omega) (by omega) (by omega) (by omega) Y R
theorem xby14 : xr_by 14 = [109, 111, 115, 116] := by decide
theorem mw14 {a : Nat} (Y : tY (xm S) tb n) (R : rM (xm S) n (.inl a)) : xr_Call (d + 4) 165 [xP 0 69, xI (nI 13), xI (nI 15), xI (nI 19), xI (nI 20), xI (nI 0), xI (nI 0)] ([], w) S = some (.inl (some (cond (wis (xr_by 14) tb (sk tb n a) (wend tb n (sk tb n a))) (nI 1) (nI 0))), ([], w), xs S (xw (xm S) 0 69 4 (nI (sk tb n a)))) := by
  rw [xby14]
  exact tm165_4 (l1 := 109) (l2 := 111) (l3 := 115) (l4 := 116) (by omega) (by omega) (by omega) (by omega) Y R
theorem xby15 : xr_by 15 = [112, 97, 121] := by decide
theorem mw15 {a : Nat} (Y : tY (xm S) tb n) (R : rM (xm S) n (.inl a)) : xr_Call (d + 4) 165 [xP 0 69, xI (nI 16), xI (nI 1), xI (nI 25), xI (nI 0), xI (nI 0), xI (nI 0)] ([], w) S = some (.inl (some (cond (wis (xr_by 15) tb (sk tb n a) (wend tb n (sk tb n a))) (nI 1) (nI 0))), ([], w), xs S (xw (xm S) 0 69 4 (nI (sk tb n a)))) := by
  rw [xby15]
  exact tm165_3 (l1 := 112) (l2 := 97) (l3 := 121) (by omega) (by omega) (by omega) Y R
theorem xby16 : xr_by 16 = [103, 105, 118, 101] := by decide
theorem mw16 {a : Nat} (Y : tY (xm S) tb n) (R : rM (xm S) n (.inl a)) : xr_Call (d + 4) 165 [xP 0 69, xI (nI 7), xI (nI 9), xI (nI 22), xI (nI 5), xI (nI 0), xI (nI 0)] ([], w) S = some (.inl (some (cond (wis (xr_by 16) tb (sk tb n a) (wend tb n (sk tb n a))) (nI 1) (nI 0))), ([], w), xs S (xw (xm S) 0 69 4 (nI (sk tb n a)))) := by
  rw [xby16]
  exact tm165_4 (l1 := 103) (l2 := 105) (l3 := 118) (l4 := 101) (by omega) (by omega) (by omega) (by omega) Y R
theorem xby17 : xr_by 17 = [116, 104, 114, 111, 119] := by decide
theorem mw17 {a : Nat} (Y : tY (xm S) tb n) (R : rM (xm S) n (.inl a)) : xr_Call (d + 4) 165 [xP 0 69, xI (nI 20), xI (nI 8), xI (nI 18), xI (nI 15), xI (nI 23), xI (nI 0)] ([], w) S = some (.inl (some (cond (wis (xr_by 17) tb (sk tb n a) (wend tb n (sk tb n a))) (nI 1) (nI 0))), ([], w), xs S (xw (xm S) 0 69 4 (nI (sk tb n a)))) := by
  rw [xby17]
  exact tm165_5 (l1 := 116) (l2 := 104) (l3 := 114) (l4 := 111) (l5 := 119) (by omega) (by omega) (by omega) (by omega) (by omega) Y R
theorem xby18 : xr_by 18 = [100, 105, 103] := by decide
theorem mw18 {a : Nat} (Y : tY (xm S) tb n) (R : rM (xm S) n (.inl a)) : xr_Call (d + 4) 165 [xP 0 69, xI (nI 4), xI (nI 9), xI (nI 7), xI (nI 0), xI (nI 0), xI (nI 0)] ([], w) S = some (.inl (some (cond (wis (xr_by 18) tb (sk tb n a) (wend tb n (sk tb n a))) (nI 1) (nI 0))), ([], w), xs S (xw (xm S) 0 69 4 (nI (sk tb n a)))) := by
  rw [xby18]
  exact tm165_3 (l1 := 100) (l2 := 105) (l3 := 103) (by omega) (by omega) (by omega) Y R
theorem xby19 : xr_by 19 = [121, 101, 97, 114] := by decide
theorem mw19 {a : Nat} (Y : tY (xm S) tb n) (R : rM (xm S) n (.inl a)) : xr_Call (d + 4) 165 [xP 0 69, xI (nI 25), xI (nI 5), xI (nI 1), xI (nI 18), xI (nI 0), xI (nI 0)] ([], w) S = some (.inl (some (cond (wis (xr_by 19) tb (sk tb n a) (wend tb n (sk tb n a))) (nI 1) (nI 0))), ([], w), xs S (xw (xm S) 0 69 4 (nI (sk tb n a)))) := by
  rw [xby19]
  exact tm165_4 (l1 := 121) (l2 := 101) (l3 := 97) (l4 := 114) (by omega) (by omega) (by omega) (by omega) Y R
theorem xby20 : xr_by 20 = [97, 103, 97, 105, 110] := by decide
theorem mw20 {a : Nat} (Y : tY (xm S) tb n) (R : rM (xm S) n (.inl a)) : xr_Call (d + 4) 165 [xP 0 69, xI (nI 1), xI (nI 7), xI (nI 1), xI (nI 9), xI (nI 14), xI (nI 0)] ([], w) S = some (.inl (some (cond (wis (xr_by 20) tb (sk tb n a) (wend tb n (sk tb n a))) (nI 1) (nI 0))), ([], w), xs S (xw (xm S) 0 69 4 (nI (sk tb n a)))) := by
  rw [xby20]
  exact tm165_5 (l1 := 97) (l2 := 103) (l3 := 97) (l4 := 105) (l5 := 110) (by omega) (by omega) (by omega) (by omega) (by omega) Y R
end
