/-! THE WORK'S TEXT: the model, 8: levels -/
/-- one step with L more levels below -/
def wF (tb : Nat → Nat) (n np nq : Nat) : Nat → Nat → wX → wS
  | 0 => wStp tb n np nq true id
  | L + 1 => wStp tb n np nq false (wIn tb n np nq L)
section
variable {w : List Nat} {tb : Nat → Nat} {n np nq : Nat}
theorem wIn_F : ∀ L, wIn tb n np nq L = wItr tb n (wF tb n np nq L) false 150
  | 0 => rfl
  | _ + 1 => rfl
theorem wF_inv : ∀ L b X, b ≤ n → 5 * X.1 ≤ b → wInv n (wF tb n np nq L b X)
  | 0, b, X, hb, hX => wStp_inv (fun h => by cases h) hb hX
  | L + 1, b, X, hb, hX => wStp_inv (fun _ => wIn_inv L) hb hX
theorem wF_mon : ∀ L b X a', b ≤ n → (wF tb n np nq L b X).1 = .inl a' → b + 5 ≤ a'
  | 0, b, X, a', hb, h => wStp_mon (fun h => by cases h) (fun h => by cases h) hb h
  | L + 1, b, X, a', hb, h => wStp_mon (fun _ => wIn_mon L) (fun _ q X => wIn_r L) hb h
theorem msF (hn : n < 400) (hp : np ≤ 8 ∧ nq ≤ 8) : ∀ L, L ≤ 6 → MS w tb n np nq (L + 6) (6 - L) (wF tb n np nq L)
  | 0, _ => tm189 (kk := 0) (full := true) (sr := id) (F := wF tb n np nq 0) hn hp (by decide) (by omega) (fun h => by cases h) (fun h => by cases h) (fun h => by cases h) (fun h => by cases h)
  | L + 1, h => by
    have ih := msF hn hp L (by omega)
    have e : 6 - L = 6 - (L + 1) + 1 := by omega
    rw [e] at ih
    have t := tm189 (w := w) (tb := tb) (kk := L + 1) (full := false) (sr := wIn tb n np nq L) (F := wF tb n np nq L) (o := 6 - (L + 1)) hn hp (decide_eq_false (by omega)).symm (by omega) (fun _ => wIn_F L) (fun _ => ih) (fun _ => wF_inv L) (fun _ => wF_mon L)
    exact t
end
