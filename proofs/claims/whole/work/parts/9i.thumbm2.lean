/-! THE THUMB'S TEXT: the model, 2 -/
def kThm (M M' : xr_M) (s : uS) : Prop := M' 0 69 3 = tPlc s.1 ∧ (∀ b e, ¬ (b = 0 ∧ e = 69) → ¬ e = 1085 → ¬ e = 1084 → M' b e = M b e) ∧ (∀ k, ¬ (k = 3 ∨ k = 4 ∨ k = 5 ∨ k = 6 ∨ k = 35) → M' 0 69 k = M 0 69 k) ∧ (∀ q, s.1 = .inr q → (∀ k, M' k 1084 = M k 1084) ∧ M' 0 69 35 = M 0 69 35) ∧ ∀ a, s.1 = .inl a → M' 0 69 35 = nI s.2.1 ∧ ∀ k, k < s.2.1 → M' k 1084 0 = nI (s.2.2.1 k) ∧ M' k 1084 1 = oI (s.2.2.2 (s.2.2.1 k))
theorem kThm_U {M M1 M' : xr_M} {s : uS} (K : kU M M1) (H : kThm M1 M' s) : kThm M M' s := by
  obtain ⟨h1, h2, h3, h4, h5⟩ := H
  exact ⟨h1, fun b e q1 q2 q3 => by rw [h2 b e q1 q2 q3, K.1 b e q1 q2], fun k hk => by rw [h3 k hk, K.2 k (by omega)], fun q hq => ⟨fun k => by rw [(h4 q hq).1 k, K.1 k 1084 (by omega) (by omega)], by rw [(h4 q hq).2, K.2 35 (by omega)]⟩, h5⟩
section
variable {d : Nat} {w : List Nat} {tb : Nat → Nat} {n : Nat}
theorem uFin_a {r : tR} {v1 : Nat} {X : uX} {b : Nat} (h : (uFin tb n r v1 X).1 = .inl b) : ∃ a, r = .inl a ∧ a + 2 ≤ b := by
  unfold uFin at h
  split at h
  · rename_i c hc
    cases h
    obtain ⟨e, he, l1⟩ := pSgn_a hc
    cases r with
    | inr q => cases he
    | inl a => exact ⟨a, rfl, by have := pNum_a he; omega⟩
  · cases h
theorem uTwo_a {b c : Nat} {fl : Nat → Option Nat} (h : uTwo tb n b fl = .inl c) : (pNum tb n 0 6 (.inl b)).2 = .inl c ∧ fl (pNum tb n 0 6 (.inl b)).1 = none := by
  unfold uTwo at h
  split at h
  · rename_i e he
    by_cases q : fl (pNum tb n 0 6 (.inl b)).1 = none
    · rw [if_pos q] at h; cases h; exact ⟨he, q⟩
    · rw [if_neg q] at h; cases h
  · cases h
theorem tm190r {S : xr_S} {n0 v2 v3 : Int32} {x y z : xr_V} {q : Nat × Nat} {X : uX} (R : rM (xm S) n (.inr q)) : ∃ M, xr_Run (d + 3) 190 48 [xP 0 69, xI n0, xI v2, xI v3, x, y, z] [] ([], w) S = some (.inl (some (uRes (.inr q, X))), ([], w), xs S M) ∧ kThm (xm S) M (.inr q, X) := by
  obtain ⟨k, p⟩ := q
  refine ⟨xw (xm S) 0 69 3 (nI p), ?_, xw_y (by omega), fun b e h _ _ => by rw [xw_r h], fun k hk => by rw [xw_n (by omega)], fun q _ => ⟨fun k => by rw [xw_r (by omega)], by rw [xw_n (by omega)]⟩, fun a h => nomatch h⟩
  refine (xg190_48 _ _ _ _ _ _ _ _ _).trans ?_
  rw [if_neg (rM_5 R), if_neg (rM_5 R), show xr_Call (d + 3) 171 [xP 0 69] ([], w) S = _ from tm171 R, xr_cI_s]
  rfl
theorem tm190e {S : xr_S} {n0 v2 v3 : Int32} {x y z : xr_V} {a : Nat} {X : uX} (hX : X.1 ≤ 6) (hn : n ≤ 600) (ha : ¬ a < n) (Y : tY (xm S) tb n) (C : mTh (xm S) n v2 v3 (.inl a, X)) : ∃ M, xr_Run (d + 3) 190 48 [xP 0 69, xI n0, xI v2, xI v3, x, y, z] [] ([], w) S = some (.inl (some (uRes (.inl a, X))), ([], w), xs S M) ∧ kThm (xm S) M (.inl a, X) := by
  obtain ⟨⟨r1, r2, r3, r4⟩, C2⟩ := C
  obtain ⟨rfl, _, c3⟩ := C2 a rfl
  dsimp only at c3
  obtain ⟨M, q, h1, F⟩ := gm176d (d := d + 2) (w := w) (S := xs S (xw (xw (xm S) 0 69 3 (-1 : Int32)) 0 69 35 (nI X.1))) (n := X.1) hX
  rw [xs_xs] at q
  refine ⟨M, ?_, ?_, fun b e h2 h3 h4 => ?_, fun k hk => ?_, (fun q h => nomatch h), fun _ _ => ⟨?_, fun k hk => ?_⟩⟩
  · refine (xg190_48 _ _ _ _ _ _ _ _ _).trans ?_
    rw [if_pos r1, if_pos r1, r3, Y.2.2.1, if_neg (by rw [xn_lt (by omega) (by omega)]; exact ha), show xr_Call (d + 3) 176 [xP 0 85, xP 0 84, xI (nI X.1)] ([], w) (xs S (xw (xw (xm S) 0 69 3 (-1 : Int32)) 0 69 35 (nI X.1))) = _ from q, xr_cV_s]
    rfl
  · rw [F 0 69 (by omega), xm_xs, xw_n (by omega), xw_y (by omega)]; rfl
  · rw [F b e h4, xm_xs, xw_r h2, xw_r h2]
  · rw [F 0 69 (by omega), xm_xs, xw_n (by omega), xw_n (by omega)]
  · rw [F 0 69 (by omega), xm_xs, xw_y (by omega)]
  · dsimp only at hk ⊢
    rw [h1 k 0 hk (by omega), h1 k 1 hk (by omega), xm_xs, xw_n (by omega), xw_n (by omega), xw_n (by omega), xw_n (by omega)]
    exact c3 k hk
theorem uItr_sk {b : Nat} {X : uX} (m : Nat) : uItr tb n (m + 1) (.inl (sk tb n b), X) = uItr tb n (m + 1) (.inl b, X) := by
  unfold uItr
  rw [sk_sk]
theorem tm190L {n0 : Int32} : ∀ (m : Nat) (S : xr_S) (s : uS) (v2 v3 : Int32) (x y z : xr_V), (∀ a, s.1 = .inl a → n < a + 2 * m ∧ sk tb n a = a) → uI s.2 → tY (xm S) tb n → mTh (xm S) n v2 v3 s → ∃ M, xr_Run (d + 3) 190 48 [xP 0 69, xI n0, xI v2, xI v3, x, y, z] [] ([], w) S = some (.inl (some (uRes (uItr tb n m s))), ([], w), xs S M) ∧ kThm (xm S) M (uItr tb n m s)
  | m, S, (.inr q, X), v2, v3, x, y, z, hm, I, Y, C => by
    rw [uItr_r]
    exact tm190r C.1
  | 0, S, (.inl a, X), v2, v3, x, y, z, hm, I, Y, C => by
    have := (hm a rfl).1
    have := C.1.2.2.2
    omega
  | m + 1, S, (.inl a, X), v2, v3, x, y, z, hm, I, Y, C => by
    obtain ⟨hm1, hsk⟩ := hm a rfl
    have hX : X.1 ≤ 6 := by rw [← I.2.2]; exact ucnt_le _ 6
    have hn := Y.1
    have ei : uItr tb n (m + 1) (.inl a, X) = if sk tb n a < n then uItr tb n m (uStp tb n (sk tb n a) X) else (.inl (sk tb n a), X) := rfl
    rw [hsk] at ei
    by_cases ha : a < n
    · rw [if_pos ha] at ei
      obtain ⟨⟨r1, r2, r3, r4⟩, C2⟩ := id C
      obtain ⟨rfl, c2, c3⟩ := C2 a rfl
      dsimp only at c2 c3
      obtain ⟨M1, q1, K1, R1⟩ := tm162 (d := d) (w := w) (lo := 0) (hn := 6) (by omega) (hi9 (c := 5) (by omega)) Y (show rM (xm S) n (.inl a) from ⟨r1, r2, r3, r4⟩)
      have Y1 : tY (xm (xs S M1)) tb n := tY_U (kM_U K1) Y
      obtain ⟨v1, hv1⟩ : ∃ v1, v1 = (pNum tb n 0 6 (.inl a)).1 := ⟨_, rfl⟩
      have fin : ∀ (r : tR) (M3 : xr_M) (v2' v3' z' : Int32), uTwo tb n a X.2.2 = r → kU (xm S) M3 → mTh M3 n v2' v3' (pSk tb n (uFin tb n r v1 X).1, (uFin tb n r v1 X).2) → ∃ M, xr_Run (d + 3) 190 48 [xP 0 69, xI n0, xI v2', xI v3', xI (xm S 0 69 4), xI (nI v1), xI z'] [] ([], w) (xs S M3) = some (.inl (some (uRes (uItr tb n (m + 1) (.inl a, X)))), ([], w), xs S M) ∧ kThm (xm S) M (uItr tb n (m + 1) (.inl a, X)) := by
        intro r M3 v2' v3' z' hr K3 C3
        have I3 : uI (uFin tb n r v1 X).2 := uFin_I (fun c hc => by
          rw [hc] at hr
          obtain ⟨u1, u2⟩ := uTwo_a hr
          rw [hv1]
          exact ⟨pNum_b u1, u2⟩) I
        have ei : uItr tb n (m + 1) (.inl a, X) = uItr tb n m (uFin tb n r v1 X) := by rw [ei, ← hr, hv1]; rfl
        have es : uItr tb n m (pSk tb n (uFin tb n r v1 X).1, (uFin tb n r v1 X).2) = uItr tb n m (uFin tb n r v1 X) ∧ ∀ c, pSk tb n (uFin tb n r v1 X).1 = .inl c → n < c + 2 * m ∧ sk tb n c = c := by
          rcases hu : uFin tb n r v1 X with ⟨rr, X'⟩
          cases rr with
          | inr q => exact ⟨rfl, fun c h => nomatch h⟩
          | inl b =>
            have hb : (uFin tb n r v1 X).1 = .inl b := by rw [hu]
            obtain ⟨c, rfl, l1⟩ := uFin_a hb
            have l2 := (pNum_a (uTwo_a hr).1).1
            have l3 := sk_ge tb n b
            have l4 : sk tb n b ≤ n := by
              have := C3.1
              rw [hu] at this
              exact this.2.2.2
            obtain ⟨m', rfl⟩ : ∃ m', m = m' + 1 := ⟨m - 1, by omega⟩
            refine ⟨uItr_sk m', fun c' h => ?_⟩
            cases h
            exact ⟨by omega, sk_sk _ _ _⟩
        obtain ⟨M4, q4, H4⟩ := tm190L m (xs S M3) (pSk tb n (uFin tb n r v1 X).1, (uFin tb n r v1 X).2) v2' v3' (xI (xm S 0 69 4)) (xI (nI v1)) (xI z') es.2 I3 (tY_U K3 Y) C3
        rw [xs_xs, es.1] at q4
        rw [xm_xs, es.1] at H4
        rw [ei]
        exact ⟨M4, q4, kThm_U K3 H4⟩
      have hlt : nI a < nI n := by rw [xn_lt (by omega) (by omega)]; exact ha
      rw [← hv1] at q1
      rcases h2 : (pNum tb n 0 6 (.inl a)).2 with b1 | q
      · rw [h2] at R1
        have hb1 := pNum_b h2
        rw [← hv1] at hb1
        rcases h3 : X.2.2 v1 with _ | u
        · have hX6 : X.1 < 6 := by rw [← I.2.2]; exact ucnt_lt h3 6 hb1
          have nb : ¬ ((v3 >>> (nI v1 &&& 31)) &&& nI 1) = nI 1 := fun h => by
            have := (xbt_t (by omega)).mp h
            rw [c2 v1 hb1, h3] at this
            cases this
          obtain ⟨M3, v2', v3', z', q3, K3, C3⟩ := tm190g (d := d) (w := w) (S := xs S M1) (r := .inl b1) (v1 := v1) (v2 := nI X.1) (v3 := v3) (x2 := nI v1) (p4 := xm S 0 69 4) (n0 := n0) (X := X) (fun _ _ => ⟨rfl, hb1, h3, rfl, hX6⟩) I Y1 ⟨R1, fun _ _ => ⟨rfl, c2, fun k hk => by rw [xm_xs, K1.1 k 1085 (by omega)]; exact c3 k hk⟩⟩
          rw [xs_xs] at q3
          obtain ⟨M4, q4, H4⟩ := fin (.inl b1) M3 v2' v3' z' (by unfold uTwo; rw [h2, ← hv1]; exact if_pos h3) (kU_tr (kM_U K1) K3) C3
          refine ⟨M4, ?_, H4⟩
          refine (xg190_48 _ _ _ _ _ _ _ _ _).trans ?_
          rw [if_pos r1, Y.2.2.1, if_pos (by rw [r3]; exact hlt), q1, xr_cI_s, if_pos (show xm (xs S M1) 0 69 5 = nI 0 from R1.1), if_neg nb, if_pos (show xm (xs S M1) 0 69 5 = nI 0 from R1.1), if_neg (show ¬ nI X.1 = nI 6 by rw [xn_eq (by omega) (by omega)]; omega)]
          exact q3.trans q4
        · have nb : ((v3 >>> (nI v1 &&& 31)) &&& nI 1) = nI 1 := (xbt_t (by omega)).mpr (by rw [c2 v1 hb1, h3]; rfl)
          obtain ⟨M2, q2, K2, R2, _⟩ := tm159 (d := d + 2) (w := w) (S := xs S M1) (n := n) (r := .inl b1) (k := 2) (p := a) (by omega) r4 R1
          rw [xs_xs] at q2
          rw [xm_xs] at K2
          have q2' : xr_Call (d + 3) 159 [xP 0 69, xI (nI 2), xI (xm S 0 69 4)] ([], w) (xs S M1) = some (.inl none, ([], w), xs S M2) := by rw [r3]; exact q2
          have R2 : rM M2 n (.inr (2, a)) := R2
          have K2' := kM_U (kM_tr K1 K2)
          obtain ⟨M3, v2', v3', z', q3, K3, C3⟩ := tm190g (d := d) (w := w) (S := xs S M2) (r := .inr (2, a)) (v1 := v1) (v2 := nI X.1) (v3 := v3) (x2 := nI v1) (p4 := xm S 0 69 4) (n0 := n0) (X := X) (fun _ h => nomatch h) I (tY_U K2' Y) ⟨R2, fun _ h => nomatch h⟩
          rw [xs_xs] at q3
          obtain ⟨M4, q4, H4⟩ := fin (.inr (2, a)) M3 v2' v3' z' (by unfold uTwo; rw [h2, ← hv1]; exact if_neg (by rw [h3]; exact fun h => nomatch h)) (kU_tr K2' K3) C3
          refine ⟨M4, ?_, H4⟩
          refine (xg190_48 _ _ _ _ _ _ _ _ _).trans ?_
          rw [if_pos r1, Y.2.2.1, if_pos (by rw [r3]; exact hlt), q1, xr_cI_s, if_pos (show xm (xs S M1) 0 69 5 = nI 0 from R1.1), if_pos nb, q2', xr_cV_s, if_neg (show ¬ xm (xs S M2) 0 69 5 = nI 0 from rM_5 R2)]
          exact q3.trans q4
      · rw [h2] at R1
        obtain ⟨M3, v2', v3', z', q3, K3, C3⟩ := tm190g (d := d) (w := w) (S := xs S M1) (r := .inr q) (v1 := v1) (v2 := nI X.1) (v3 := v3) (x2 := nI v1) (p4 := xm S 0 69 4) (n0 := n0) (X := X) (fun _ h => nomatch h) I Y1 ⟨R1, fun _ h => nomatch h⟩
        rw [xs_xs] at q3
        obtain ⟨M4, q4, H4⟩ := fin (.inr q) M3 v2' v3' z' (by unfold uTwo; rw [h2]) (kU_tr (kM_U K1) K3) C3
        refine ⟨M4, ?_, H4⟩
        refine (xg190_48 _ _ _ _ _ _ _ _ _).trans ?_
        rw [if_pos r1, Y.2.2.1, if_pos (by rw [r3]; exact hlt), q1, xr_cI_s, if_neg (show ¬ xm (xs S M1) 0 69 5 = nI 0 from rM_5 R1), if_neg (show ¬ xm (xs S M1) 0 69 5 = nI 0 from rM_5 R1)]
        exact q3.trans q4
    · rw [if_neg ha] at ei
      rw [ei]
      exact tm190e hX hn ha Y C
end
