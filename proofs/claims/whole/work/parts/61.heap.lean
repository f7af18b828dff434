/-! THE HEAP, the class's: heights h, shards s -/
def xh_C (M : xr_M) (c : Nat) (h : Nat → Nat) (s : Nat → Nat → Int32) : Prop := (∀ x, x < 8 → M 0 (c + 1) x = nI (h x) ∧ h x ≤ 80) ∧ ∀ x k, x < 8 → k < h x → M 0 (c + 2) (x * 81 + k) = s x k
def xh_up (h : Nat → Nat) (x n : Nat) : Nat → Nat := fun y => if y = x then n else h y
def xh_us (s : Nat → Nat → Int32) (x k : Nat) (v : Int32) : Nat → Nat → Int32 := fun y j => if y = x ∧ j = k then v else s y j
section
variable {w : List Nat} {S : xr_S} {c : Nat} {h : Nat → Nat} {s : Nat → Nat → Int32} {d : Nat}
theorem xc29 (hc : c = 9 ∨ c = 18 ∨ c = 31) (H : xh_C (xm S) c h s) {x : Nat} (hx : x < 8) (hh : h x < 81) (v : Int32) : ∃ M, xr_Call (d + 1) 29 [xP 0 c, xI (nI x), xI v] ([], w) S = some (.inl none, ([], w), xs S M) ∧ M = xw (xw (xm S) 0 (c + 2) (x * 81 + h x) v) 0 (c + 1) x (nI (h x + 1)) := by
  refine ⟨_, ?_, rfl⟩
  show xr_Run d 29 0 [xP 0 c, xI (nI x), xI v] [] ([], w) S = _
  rw [xg29_0 d w S c hc]
  have h1 := (H.1 x hx).1
  have h2 := (H.1 x hx).2
  simp (disch := omega) only [xn_in, xn_k, h1, xn_lt, xn_mul, xn_add, hx, hh, decide_true, cond_true, if_true, xw_ap]
  trace_state
  sorry
end
