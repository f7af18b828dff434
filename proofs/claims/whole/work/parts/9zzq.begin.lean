/-! THE START, 2: what the constructors leave -/
def cZ (M : xr_M) : Prop := (M 0 0 14 = nI 0 ∧ M 0 0 15 = -1 ∧ M 0 0 16 = nI 0 ∧ M 0 0 17 = nI 0 ∧ M 0 0 18 = nI 0) ∧ (M 0 1 1 = nI 0 ∧ M 0 3 0 = nI 0 ∧ ∀ x, M 0 10 x = nI 0) ∧ (M 0 35 0 = nI 0 ∧ M 0 35 1 = nI 0 ∧ M 0 35 2 = nI 2 ∧ M 0 35 3 = nI 2) ∧ (M 0 53 4 = nI 0 ∧ M 0 63 2 = nI 0 ∧ ∀ i, i < 6 → M 0 64 i = -1) ∧ (M 0 69 1 = nI 0 ∧ M 0 71 0 = nI 0 ∧ M 0 71 1 = nI 0)
section
variable {d a k : Nat} {D : xr_D}
set_option maxRecDepth 20000 in
theorem start99 : ∃ M a' k', xr_Call (d + 3) 99 [xP 0 0] (xr_sf 0 0 (xr_sh 0 0).2.2 ++ [], [0, 0, 0, 0, 0, 0]) (a, k, (0, 1), none, (fun _ _ _ => 0), D) = some (.inl none, xMd, (a', k', (0, 69), none, M, D)) ∧ a' = a + 68 ∧ k' = k + 4864 ∧ cZ M := by
  refine ⟨_, _, _, st99_0, rfl, rfl, ⟨rfl, rfl, rfl, rfl, rfl⟩, ⟨rfl, rfl, fun _ => rfl⟩, ⟨rfl, rfl, rfl, rfl⟩, ⟨rfl, rfl, ?_⟩, rfl, rfl, rfl⟩
  intro i hi
  match i, hi with
  | 0, _ => rfl
  | 1, _ => rfl
  | 2, _ => rfl
  | 3, _ => rfl
  | 4, _ => rfl
  | 5, _ => rfl
  | n + 6, h => exact absurd h (by omega)
theorem hInv0 : hInv hY0 := ⟨⟨by decide, by decide, by decide, by decide, by decide⟩, fun p h => absurd h (Nat.not_lt_zero p), fun p i h => absurd h (Nat.not_lt_zero p), fun x => by show 0 ≤ 9; omega⟩
theorem hI0 : hI (fun _ => 0) (fun _ _ => 0) := ⟨fun x _ => ⟨Nat.zero_le _, Nat.zero_le _⟩, by show xsN (fun _ => 0) 8 ≤ _; simp [xsN]⟩
set_option maxRecDepth 20000 in
theorem start148 {M : xr_M} (Z : cZ M) : ∃ M' a' k', xr_Call (d + 3) 148 [xP 0 69] (xr_sf 0 69 (xr_sh 0 69).2.2 ++ [], [35, 44, 53, 58, 63, 66]) (a, k, (0, 70), none, M, D) = some (.inl none, xMd, (a', k', (0, 95), none, M', D)) ∧ a' = a + 488 ∧ k' = k + 57250 ∧ ∀ A K, gInv 0 (A, K, (1, 0), none, M', (fun _ _ => none)) := by
  obtain ⟨⟨z0, z1, z2, z3, z4⟩, ⟨y0, y1, y2⟩, ⟨w0, w1, w2, w3⟩, ⟨v0, v1, v2⟩, u0, u1, u2⟩ := Z
  obtain ⟨a', ha⟩ : ∃ a', a' = a + 488 := ⟨_, rfl⟩
  obtain ⟨k', hk⟩ : ∃ k', k' = k + 57250 := ⟨_, rfl⟩
  obtain ⟨S0, hS0⟩ : ∃ S0 : xr_S, S0 = (a', k', (0, 95), none, (xw M 0 69 3 (-1 : Int32)), D) := ⟨_, rfl⟩
  obtain ⟨M1, e1, ⟨p0, p1, p2, p3⟩, p8, F1⟩ := tm149 (d := d + 1) (w := [35, 44, 53, 58, 63, 66]) (S := S0)
  obtain ⟨M2, e2, ⟨g0, g1, g2, g3, g4, g5, g6, g7, g8⟩, ⟨q0, q1, q2, q3, q4⟩, F2, F3⟩ := tm178 (d := d) (w := [35, 44, 53, 58, 63, 66]) (S := xs S0 M1) (Y := hY0) hInv0 ⟨⟨p0, p1, p2, p3⟩, fun p h => absurd h (Nat.not_lt_zero p), fun p h => absurd h (Nat.not_lt_zero p), fun p i h => absurd h (Nat.not_lt_zero p), fun x hx => p8 x hx⟩
  have eS : xm S0 = xw M 0 69 3 (-1) := by rw [hS0]; rfl
  have hh : ∀ e, e < 69 ∨ e = 71 → M2 0 e = M 0 e := fun e he => by
    rw [F2 0 e (by omega) (by omega), xm_xs, F1 0 e (by omega), eS, xw_r (by omega)]
  have hf : ∀ j, ¬ (j = 21 ∨ (35 ≤ j ∧ j ≤ 38)) → M2 0 69 j = xw M 0 69 3 (-1) 0 69 j := fun j hj => by
    rw [F3 j hj, xm_xs, F1 0 69 (by omega), eS]
  refine ⟨M2, a', k', ?_, ha, hk, fun A K => ⟨rfl, 0, 0, 2, 2, (fun _ => 0), (fun _ => 0), (fun _ => 0), (fun _ _ => 0), 0, (fun _ => 0), (fun _ => 0), M2 0 89, (fun _ => 0), (fun _ _ => 0), 0, (fun _ => 0), (fun _ => none), (fun _ => 0), 0, 0, 0, ?_, ?_, ?_, ?_⟩⟩
  · refine (st148 (d := d + 2)).trans ?_
    have e1 : xr_Call (d + 2) 149 [xP 0 69] xMd S0 = some (.inl none, xMd, xs S0 M1) := e1
    have e2 : xr_Call (d + 2) 178 [xP 0 69] xMd (xs S0 M1) = some (.inl none, xMd, xs S0 M2) := e2
    have eq : S0 = (a + 1 + 1 + 1 + 1 + 1 + 1 + 1 + 1 + (1 + 8) + (1 + 8) + (1 + 8) + (1 + 8) + (1 + 160) + (1 + 160) + (1 + 6) + (1 + 6) + 1 + 1 + (1 + 80) + 1 + 1 + (1 + 16) + (1 + 3) + 1 + 1, k + 600 + 2 + 4 + 4 + 8 + 8 + 8 + 8 + (8 + 8 * 5) + (8 + 8 * 5) + (8 + 8 * 6) + (8 + 8 * 6) + (160 + 160 * 2) + (160 + 160 * 2) + (6 + 6 * 2) + (6 + 6 * 2) + 160 + 6 + (80 + 80 * 5) + 793 + 793 + (16 + 16 * 793) + (3 + 3 * 13482) + 8 + 11, (0, 95), none, (xw M 0 69 3 (-1 : Int32)), D) := by
      rw [hS0, ha, hk]
    rw [← eq, e1, xr_cV_s, e2, xr_cV_s, hS0]
    rfl
  · refine ⟨⟨⟨?_, ?_, ?_, ?_⟩, ⟨?_, ?_, ?_, ?_⟩, ⟨by omega, by omega, by omega, by omega, by omega⟩, fun p h => absurd h (Nat.not_lt_zero p), fun p i h => absurd h (Nat.not_lt_zero p)⟩, ⟨⟨?_, fun j h => absurd h (Nat.not_lt_zero j), fun j h => absurd h (Nat.not_lt_zero j)⟩, ⟨?_, fun j h => absurd h (Nat.not_lt_zero j)⟩, by omega, fun j h => absurd h (Nat.not_lt_zero j)⟩, ⟨rfl, ⟨?_, fun j h => absurd h (Nat.not_lt_zero j), fun j h => absurd h (Nat.not_lt_zero j), fun j h => absurd h (Nat.not_lt_zero j), fun j h => absurd h (Nat.not_lt_zero j), fun j i h => absurd h (Nat.not_lt_zero j)⟩, fun j h => absurd h (Nat.not_lt_zero j), fun j i h => absurd h (Nat.not_lt_zero j)⟩, ⟨⟨fun x hx => ?_, fun x j _ h => absurd h (Nat.not_lt_zero j)⟩, ⟨fun x hx => g7 x hx, fun x j _ h => absurd h (Nat.not_lt_zero j)⟩, hI0⟩, ⟨?_, ?_, by omega⟩, fun i hi => ⟨?_, fun v h => by cases h⟩, fun j h => absurd h (Nat.not_lt_zero j), fun i v _ h => by cases h⟩
    · show M2 0 35 0 = _; rw [hh 35 (by omega)]; exact w0
    · show M2 0 35 1 = _; rw [hh 35 (by omega)]; exact w1
    · show M2 0 35 2 = _; rw [hh 35 (by omega)]; exact w2
    · show M2 0 35 3 = _; rw [hh 35 (by omega)]; exact w3
    · exact (g0 0 (by omega)).trans p0
    · exact (g0 1 (by omega)).trans p1
    · exact (g0 2 (by omega)).trans p2
    · exact (g0 3 (by omega)).trans p3
    · show M2 0 53 4 = _; rw [hh 53 (by omega)]; exact v0
    · exact q0
    · show M2 0 3 0 = M2 0 89 144; rw [hh 3 (by omega), y1, g6 144 (by omega)]
    · show M2 0 10 x = _; rw [hh 10 (by omega)]; exact y2 x
    · show M2 0 63 2 = _; rw [hh 63 (by omega)]; exact v1
    · exact q1
    · show M2 0 64 i = _; rw [hh 64 (by omega)]; exact v2 i hi
  · refine ⟨⟨by omega, fun _ => Nat.zero_le _⟩, ⟨?_, fun j h => absurd h (Nat.not_lt_zero j)⟩, ?_, fun j h => absurd h (Nat.not_lt_zero j)⟩
    · show M2 0 1 1 = _; rw [hh 1 (by omega)]; exact y0
    · show M2 0 69 1 = _; rw [hf 1 (by omega), xw_n (by omega)]; exact u0
  · refine ⟨?_, ?_, ?_, ?_⟩
    · show M2 0 0 15 = M2 0 69 3; rw [hh 0 (by omega), z1, hf 3 (by omega), xw_y (by omega)]
    · show M2 0 0 16 = M2 0 69 37; rw [hh 0 (by omega), z2, q3]
    · show M2 0 0 17 = M2 0 71 0; rw [hh 0 (by omega), z3, hh 71 (by omega), u1]
    · show M2 0 0 18 = M2 0 71 1; rw [hh 0 (by omega), z4, hh 71 (by omega), u2]
  · refine ⟨⟨by omega, by omega⟩, ⟨q2, q4, ?_⟩, rfl, fun j h => absurd h (Nat.not_lt_zero j)⟩
    show M2 0 0 14 = _; rw [hh 0 (by omega)]; exact z0
end
