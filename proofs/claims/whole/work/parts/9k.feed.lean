/-! THE FEED: bytes -/
def fby (v : Int32) (s : Nat) : Nat := ((v >>> (nI s &&& 31)) &&& nI 255).toBitVec.toNat
theorem fby_le (v : Int32) (s : Nat) : fby v s ≤ 255 := by
  unfold fby
  rw [Int32.toBitVec_and, BitVec.toNat_and]
  exact Nat.le_trans Nat.and_le_right (by decide)
theorem fby_m (v : Int32) (s : Nat) : (v >>> (nI s &&& 31)) &&& nI 255 = nI (fby v s) := by
  apply Int32.toBitVec_inj.mp
  apply BitVec.eq_of_toNat_eq
  have h := fby_le v s
  show fby v s = (nI (fby v s)).toBitVec.toNat
  generalize fby v s = k at h
  have : ∀ k : Fin 256, k.val = (nI k.val).toBitVec.toNat := by decide +kernel
  exact this ⟨k, by omega⟩
theorem fby_c (v : Int32) {s : Nat} (hs : s ≤ 24) : ((v.toUInt32 >>> ((nI s).toUInt32 &&& Int32.toUInt32 31)).toInt32) &&& nI 255 = nI (fby v s) := by
  rw [← fby_m]
  apply Int32.toBitVec_inj.mp
  rw [Int32.toBitVec_and, Int32.toBitVec_and]
  apply BitVec.eq_of_getLsbD_eq
  intro i hi
  rw [BitVec.getLsbD_and, BitVec.getLsbD_and]
  by_cases q : i < 8
  · have e : ((nI s &&& 31 : Int32).toBitVec.smod 32).toNat = s := by
      have : ∀ k : Fin 31, ((nI k.val &&& 31 : Int32).toBitVec.smod 32).toNat = k.val := by decide +kernel
      exact this ⟨s, by omega⟩
    have e2 : (((nI s).toUInt32 &&& Int32.toUInt32 31 : UInt32).toBitVec % 32).toNat = s := by
      have : ∀ k : Fin 31, (((nI k.val).toUInt32 &&& Int32.toUInt32 31 : UInt32).toBitVec % 32).toNat = k.val := by decide +kernel
      exact this ⟨s, by omega⟩
    have l : ((v.toUInt32 >>> ((nI s).toUInt32 &&& Int32.toUInt32 31)).toInt32).toBitVec.getLsbD i = v.toBitVec.getLsbD (s + i) := by
      show (v.toUInt32 >>> ((nI s).toUInt32 &&& Int32.toUInt32 31)).toBitVec.getLsbD i = _
      rw [UInt32.toBitVec_shiftRight]
      show (v.toBitVec >>> (((nI s).toUInt32 &&& Int32.toUInt32 31 : UInt32).toBitVec % 32).toNat).getLsbD i = _
      rw [BitVec.getLsbD_ushiftRight, e2]
    have r : (v >>> (nI s &&& 31)).toBitVec.getLsbD i = v.toBitVec.getLsbD (s + i) := by
      rw [Int32.toBitVec_shiftRight]
      show (v.toBitVec.sshiftRight ((nI s &&& 31 : Int32).toBitVec.smod 32).toNat).getLsbD i = _
      rw [BitVec.getLsbD_sshiftRight, e, if_pos (by omega), decide_eq_false (by omega)]
      rfl
    rw [l, r]
  · have : ∀ i : Fin 32, ¬ i.val < 8 → (nI 255).toBitVec.getLsbD i.val = false := by decide +kernel
    rw [this ⟨i, hi⟩ q, Bool.and_false, Bool.and_false]
/-- the twenty bytes of a feed -/
def fbs (a1 a2 a3 a4 a5 : Int32) (j : Nat) : Nat := fby (if j < 4 then a1 else if j < 8 then a2 else if j < 12 then a3 else if j < 16 then a4 else a5) (24 - 8 * (j % 4))
def fup (tb : Nat → Nat) (L : Nat) (f : Nat → Nat) (m : Nat) : Nat → Nat := fun k => if L ≤ k ∧ k < L + m then f (k - L) else tb k
section
variable {d : Nat} {w : List Nat}
theorem tc80 {S : xr_S} {L : Nat} (v : Int32) (hL : L + 4 ≤ 600) (e : xm S 0 1 1 = nI L) : ∃ M, xr_Call (d + 1) 80 [xP 0 1, xI v] ([], w) S = some (.inl none, ([], w), xs S M) ∧ M 0 1 1 = nI (L + 4) ∧ (∀ b e, ¬ (b = 0 ∧ (e = 1 ∨ e = 2)) → M b e = xm S b e) ∧ (∀ k, ¬ k = 1 → M 0 1 k = xm S 0 1 k) ∧ (∀ j, j < 4 → M 0 2 (L + j) = nI (fby v (24 - 8 * j))) ∧ ∀ k, k < L → M 0 2 k = xm S 0 2 k := by
  have st : ∀ (j : Nat) (M : xr_M) (x : Int32), j < 4 → x = nI (24 - 8 * j) → M 0 1 1 = nI (L + j) → xr_Run d 80 3 [xP 0 1, xI v, xI x] [] ([], w) (xs S M) = xr_Run d 80 3 [xP 0 1, xI v, xI (x + (-8 : Int32))] [] ([], w) (xs S (xw (xw M 0 2 (L + j) (nI (fby v (24 - 8 * j)))) 0 1 1 (nI (L + (j + 1))))) := by
    intro j M x hj hx h1
    refine (xg80_3 _ _ _ _ _).trans ?_
    have e9 : xw M 0 2 (L + j) (nI (fby v (24 - 8 * j))) 0 1 1 = nI (L + j) := by rw [xw_n (by omega)]; exact h1
    rw [hx, fby_c v (by omega)]
    simp (disch := omega) only [xi_t, xn_k, xn_lt, xn_eq, xn_mul, xn_add, xn_sub, xn_dec, xn_m1, xn_1m, if_pos, if_neg, if_true, if_false, cond_true, cond_false, true_and, and_true, false_and, and_false, xr_cI_s, xr_cV_s, xr_cI_e, xr_cV_e, xm_xs, xs_xs, h1, e9, Nat.add_assoc]
  have lp : ∀ m, m ≤ 4 → ∃ M x, xr_Run d 80 3 [xP 0 1, xI v, xI (nI 24)] [] ([], w) S = xr_Run d 80 3 [xP 0 1, xI v, xI x] [] ([], w) (xs S M) ∧ (m < 4 → x = nI (24 - 8 * m)) ∧ (m = 4 → x < nI 0) ∧ M 0 1 1 = nI (L + m) ∧ (∀ b e, ¬ (b = 0 ∧ (e = 1 ∨ e = 2)) → M b e = xm S b e) ∧ (∀ k, ¬ k = 1 → M 0 1 k = xm S 0 1 k) ∧ (∀ j, j < m → M 0 2 (L + j) = nI (fby v (24 - 8 * j))) ∧ ∀ k, k < L → M 0 2 k = xm S 0 2 k := by
    intro m
    induction m with
    | zero => intro _; exact ⟨xm S, nI 24, by rw [xs_xm], fun _ => rfl, fun h => by omega, e, fun _ _ _ => rfl, fun _ _ => rfl, fun j hj => by omega, fun _ _ => rfl⟩
    | succ m ih =>
      intro hm
      obtain ⟨M, x, h1, h2, h3, h4, h5, h6, h7, h8⟩ := ih (by omega)
      have hx := h2 (by omega)
      have ex : ∀ m, m < 4 → (m + 1 < 4 → nI (24 - 8 * m) + (-8 : Int32) = nI (24 - 8 * (m + 1))) ∧ (m + 1 = 4 → nI (24 - 8 * m) + (-8 : Int32) < nI 0) := fun m hm => by
        have : m = 0 ∨ m = 1 ∨ m = 2 ∨ m = 3 := by omega
        rcases this with rfl | rfl | rfl | rfl <;> decide
      refine ⟨_, _, by rw [h1]; exact st m M x (by omega) hx h4, fun h => by rw [hx]; exact (ex m (by omega)).1 h, fun h => by rw [hx]; exact (ex m (by omega)).2 h, xw_y (by omega), fun b c h => ?_, fun k hk => ?_, fun j hj => ?_, fun k hk => ?_⟩
      · rw [xw_r (by omega), xw_r (by omega)]; exact h5 b c h
      · rw [xw_n (by omega), xw_n (by omega)]; exact h6 k hk
      · rw [xw_n (by omega)]
        by_cases q : j = m
        · subst q; rw [xw_y (by omega)]
        · rw [xw_n (by omega)]; exact h7 j (by omega)
      · rw [xw_n (by omega), xw_n (by omega)]; exact h8 k hk
  obtain ⟨M, x, h1, h2, h3, h4, h5, h6, h7, h8⟩ := lp 4 (Nat.le_refl _)
  refine ⟨M, ?_, h4, h5, h6, h7, h8⟩
  rw [xe80, h1]
  refine (xg80_3 _ _ _ _ _).trans ?_
  rw [if_pos (h3 rfl)]
end
