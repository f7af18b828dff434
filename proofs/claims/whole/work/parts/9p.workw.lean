/-! THE WORK'S TEXT: its words -/
def wKnd (tb : Nat → Nat) (b e : Nat) : Option Nat := cond (wis (xr_by 15) tb b e) (some 0) (cond (wis (xr_by 16) tb b e) (some 1) (cond (wis (xr_by 17) tb b e) (some 2) (cond (wis (xr_by 18) tb b e) (some 3) (cond (wis (xr_by 19) tb b e) (some 4) (cond (wis (xr_by 20) tb b e) (some 5) none)))))
section
variable {d : Nat} {w : List Nat} {S : xr_S} {tb : Nat → Nat} {n : Nat}
theorem wKnd_le {b e k : Nat} (h : wKnd tb b e = some k) : k ≤ 5 := by
  revert h
  unfold wKnd
  cases wis (xr_by 15) tb b e <;> cases wis (xr_by 16) tb b e <;> cases wis (xr_by 17) tb b e <;> cases wis (xr_by 18) tb b e <;> cases wis (xr_by 19) tb b e <;> cases wis (xr_by 20) tb b e <;> intro h <;> cases h <;> omega
theorem wKnd_no {b : Nat} : wKnd tb b b = none := by
  unfold wKnd
  rw [wis_no (by omega), wis_no (by omega), wis_no (by omega), wis_no (by omega), wis_no (by omega), wis_no (by omega)]
  rfl
theorem tc78 {b e : Nat} (X : tX (xm S) tb n) (e4 : xm S 0 1 4 = nI b) (e3 : xm S 0 1 3 = nI e) (hbe : b ≤ e ∧ e ≤ n) : xr_Call (d + 6) 78 [xP 0 21, xP 0 1] ([], w) S = some (.inl (some (lKI (wKnd tb b e))), ([], w), S) := by
  have z : ¬ nI 1 = nI 0 := by decide
  rw [xe78]
  unfold wKnd
  rw [tc89 (k := 15) (by omega) X e4 e3 hbe, xr_cI_s]
  cases wis (xr_by 15) tb b e with
  | true => rw [cond_true, if_neg z]; rfl
  | false =>
  rw [cond_false, if_pos rfl, tc89 (k := 16) (by omega) X e4 e3 hbe, xr_cI_s, cond_false]
  cases wis (xr_by 16) tb b e with
  | true => rw [cond_true, if_neg z]; rfl
  | false =>
  rw [cond_false, if_pos rfl, tc89 (k := 17) (by omega) X e4 e3 hbe, xr_cI_s, cond_false]
  cases wis (xr_by 17) tb b e with
  | true => rw [cond_true, if_neg z]; rfl
  | false =>
  rw [cond_false, if_pos rfl, tc89 (k := 18) (by omega) X e4 e3 hbe, xr_cI_s, cond_false]
  cases wis (xr_by 18) tb b e with
  | true => rw [cond_true, if_neg z]; rfl
  | false =>
  rw [cond_false, if_pos rfl, tc89 (k := 19) (by omega) X e4 e3 hbe, xr_cI_s, cond_false]
  cases wis (xr_by 19) tb b e with
  | true => rw [cond_true, if_neg z]; rfl
  | false =>
  rw [cond_false, if_pos rfl, tc89 (k := 20) (by omega) X e4 e3 hbe, xr_cI_s, cond_false]
  cases wis (xr_by 20) tb b e with
  | true => rw [cond_true, if_neg z]; rfl
  | false =>
  rw [cond_false, if_pos rfl]; rfl
theorem tm188 {b : Nat} (hb : sk tb n b = b) (Y : tY (xm S) tb n) (R : rM (xm S) n (.inl b)) : xr_Call (d + 5) 188 [xP 0 69] ([], w) S = some (.inl (some (lKI (wKnd tb b (wend tb n b)))), ([], w), S) := by
  have z : ¬ nI 1 = nI 0 := by decide
  have e4 := R.2.2.1
  have m15 := mw15 (d := d) (w := w) Y R
  have m16 := mw16 (d := d) (w := w) Y R
  have m17 := mw17 (d := d) (w := w) Y R
  have m18 := mw18 (d := d) (w := w) Y R
  have m19 := mw19 (d := d) (w := w) Y R
  have m20 := mw20 (d := d) (w := w) Y R
  rw [hb, xw_id e4, xs_xm] at m15 m16 m17 m18 m19 m20
  unfold wKnd
  rw [xe188, m15, xr_cI_s]
  cases wis (xr_by 15) tb b (wend tb n b) with
  | true => rw [cond_true, if_neg z]; rfl
  | false =>
  rw [cond_false, if_pos rfl, m16, xr_cI_s, cond_false]
  cases wis (xr_by 16) tb b (wend tb n b) with
  | true => rw [cond_true, if_neg z]; rfl
  | false =>
  rw [cond_false, if_pos rfl, m17, xr_cI_s, cond_false]
  cases wis (xr_by 17) tb b (wend tb n b) with
  | true => rw [cond_true, if_neg z]; rfl
  | false =>
  rw [cond_false, if_pos rfl, m18, xr_cI_s, cond_false]
  cases wis (xr_by 18) tb b (wend tb n b) with
  | true => rw [cond_true, if_neg z]; rfl
  | false =>
  rw [cond_false, if_pos rfl, m19, xr_cI_s, cond_false]
  cases wis (xr_by 19) tb b (wend tb n b) with
  | true => rw [cond_true, if_neg z]; rfl
  | false =>
  rw [cond_false, if_pos rfl, m20, xr_cI_s, cond_false]
  cases wis (xr_by 20) tb b (wend tb n b) with
  | true => rw [cond_true, if_neg z]; rfl
  | false =>
  rw [cond_false, if_pos rfl]; rfl
theorem tm188r {q : Nat × Nat} (R : rM (xm S) n (.inr q)) : xr_Call (d + 2) 188 [xP 0 69] ([], w) S = some (.inl (some (-1)), ([], w), S) := by
  rw [xe188, tm165g R, xr_cI_s, if_pos rfl, tm165g R, xr_cI_s, if_pos rfl, tm165g R, xr_cI_s, if_pos rfl, tm165g R, xr_cI_s, if_pos rfl, tm165g R, xr_cI_s, if_pos rfl, tm165g R, xr_cI_s, if_pos rfl]
end
