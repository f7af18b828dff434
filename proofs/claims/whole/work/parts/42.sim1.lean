/-! FROM THE NAMED CELLS TO xq, 1 -/
def xr_bs (b : Nat) : Nat := match b with
  | 0 => 95
  | _ + 1 => 10
def xr_dom (nx : xr_A) (z : xr_A) : Prop := (z.2 < 1000 ∧ ((z.1 = nx.1 ∧ z.2 < nx.2) ∨ (z.1 < nx.1 ∧ z.2 < xr_bs z.1))) ∨ ((1000 ≤ z.2 ∧ z.2 < 2000) ∧ ((xr_sh 0 (z.2 - 1000)).1 = 2 ∧ z.1 < (xr_sh 0 (z.2 - 1000)).2.1) ∧ ((0 = nx.1 ∧ z.2 - 1000 < nx.2) ∨ (0 < nx.1 ∧ z.2 - 1000 < 95))) ∨ ((z.2 = 3000 ∨ z.2 = 4000) ∧ z.1 < 22)
abbrev xr_nx (S : xr_S) : xr_A := S.2.2.1
def xr_rf (adr : xr_A → Nat) (q : Option Nat) : Value := match q with
  | some q => .ref (adr (q, 0))
  | none => .null
def xr_frel (adr : xr_A → Nat) (m : xr_N) (S : xr_S) (b c k e : Nat) (fl : List Value) : Prop :=
  (10 ≤ e → (b, c, k) ∉ m.1 → fl[k]? = some (.ref (adr (b, c + (e - 10)))) ∧ xr_dom (xr_nx S) (b, c + (e - 10))) ∧ (e = 0 → fl[k]? = some (.int (xm S b c k))) ∧ (e = 9 → fl[k]? = some (.int 0)) ∧
  (e = 1 → b = 0 → c = 0 → fl[k]? = some (xr_rf adr (xr_past S))) ∧ (e = 2 → c = 0 → 0 < b → fl[k]? = some (xr_rf adr (xr_d S b 0))) ∧ (3 ≤ e → e < 9 → b = 0 → c = 0 → ∀ q : Nat, m.2[e - 3]? = some q → q ≠ 0 → fl[k]? = some (.ref (adr (0, q))))
def xr_crel (adr : xr_A → Nat) (m : xr_N) (S : xr_S) (z : xr_A) (e : xq_E) : Prop :=
  ((xr_sh z.1 z.2).1 = 0 → e = .inl (0, (xr_sh z.1 z.2).2.1, .inl (xm S z.1 z.2))) ∧
  ((xr_sh z.1 z.2).1 = 2 → z.1 = 0 → z.2 < 1000 → ∃ h, e = .inl (2, (xr_sh z.1 z.2).2.1, .inr (.inr (.inr (.inr h)))) ∧ ∀ j, j < (xr_sh z.1 z.2).2.1 → h j = some (adr (j, 1000 + z.2))) ∧
  ((xr_sh z.1 z.2).1 = 3 → z.1 = 0 → z.2 = 34 → ∃ h, e = .inl (3, (xr_sh z.1 z.2).2.1, .inr (.inr (.inr (.inr h)))) ∧ ∀ j, j < (xr_sh z.1 z.2).2.1 → h j = (xr_d S 0 j).map (fun q => adr (q, 0))) ∧
  ((xr_sh z.1 z.2).1 = 8 → ∃ g, e = .inl (8, (xr_sh z.1 z.2).2.1, .inl g) ∧ ∀ j, j < (xr_sh z.1 z.2).2.1 → g j = Int32.ofNat ((xr_by z.1).getD j 0)) ∧
  (100 ≤ (xr_sh z.1 z.2).1 → ∃ fl, e = .inr ((xr_sh z.1 z.2).1 - 100, fl) ∧ fl.length = (xr_sh z.1 z.2).2.1 ∧ ∀ (k c : Nat), (xr_sh z.1 z.2).2.2[k]? = some c → k < fl.length ∧ xr_frel adr m S z.1 z.2 k c fl)
/-- the real state X holds the named state (m, S); cell z lies at adr z -/
def xr_Rep (adr : xr_A → Nat) (m : xr_N) (S : xr_S) (X : xq_X) : Prop :=
  (X.1 = S.1 ∧ X.2.1 = S.2.1) ∧ (∀ z, xr_dom (xr_nx S) z → adr z < X.1 ∧ ∃ e, xq_h X (adr z) = some e ∧ xr_crel adr m S z e) ∧ (∀ z z', xr_dom (xr_nx S) z → xr_dom (xr_nx S) z' → z.2 < 2000 → adr z = adr z' → z = z') ∧ (∀ k, k < 22 → X.2.2.2.1 k = adr (k, 3000)) ∧
  ((∀ q, xr_past S = some q → 0 < q ∧ xr_dom (xr_nx S) (q, 0)) ∧ (∀ b k q, xr_d S b k = some q → 0 < q ∧ xr_dom (xr_nx S) (q, 0)) ∧ (∀ (j q : Nat), m.2[j]? = some q → q ≠ 0 → xr_dom (xr_nx S) (0, q))) ∧
  (∀ b c k, c < 2000 → ¬ xr_dom (xr_nx S) (b, c) → xm S b c k = 0) ∧ (∀ b k, ¬ xr_dom (xr_nx S) (b, cond (Nat.beq b 0) 34 0) → xr_d S b k = none)
def xr_vrel (adr : xr_A → Nat) (nx : xr_A) (v : xr_V) (w : Value) : Prop := match v with
  | .inl x => w = .int x
  | .inr none => w = .retAddr 0
  | .inr (some none) => w = .null
  | .inr (some (some z)) => (z = (0, 5000) ∧ (w = .null ∨ ∃ a, w = .ref a)) ∨ (z ≠ (0, 5000) ∧ xr_dom nx z ∧ w = .ref (adr z))
def xr_vs (adr : xr_A → Nat) (nx : xr_A) : List xr_V → List Value → Prop
  | [], [] => True
  | v :: r, w :: r' => xr_vrel adr nx v w ∧ xr_vs adr nx r r'
  | _, _ => False
section
variable {adr : xr_A → Nat} {nx : xr_A}
theorem xr_vs_cons {v : xr_V} {r : List xr_V} {l : List Value} (h : xr_vs adr nx (v :: r) l) : ∃ w r', l = w :: r' ∧ xr_vrel adr nx v w ∧ xr_vs adr nx r r' := by
  cases l with
  | nil => exact h.elim
  | cons w r' => exact ⟨w, r', rfl, h.1, h.2⟩
theorem xr_vs_nil {l : List Value} (h : xr_vs adr nx [] l) : l = [] := by
  cases l with
  | nil => rfl
  | cons w r' => exact h.elim
theorem xr_vs_len : ∀ {L : List xr_V} {L' : List Value}, xr_vs adr nx L L' → L'.length = L.length
  | [], l, h => by rw [xr_vs_nil h]; rfl
  | v :: r, l, h => by
    obtain ⟨w, r', rfl, h1, h2⟩ := xr_vs_cons h
    simp [xr_vs_len h2]
theorem xr_vs_get : ∀ {L : List xr_V} {L' : List Value} (k : Nat) {v : xr_V}, xr_vs adr nx L L' → L[k]? = some v → ∃ w, L'[k]? = some w ∧ xr_vrel adr nx v w
  | [], _, k, v, _, h => by simp at h
  | v :: r, l, 0, u, hv, h => by
    obtain ⟨w, r', rfl, h1, h2⟩ := xr_vs_cons hv
    simp at h; subst h
    exact ⟨w, rfl, h1⟩
  | v :: r, l, k + 1, u, hv, h => by
    obtain ⟨w, r', rfl, h1, h2⟩ := xr_vs_cons hv
    simp at h
    obtain ⟨w2, g1, g2⟩ := xr_vs_get k h2 h
    exact ⟨w2, by simpa using g1, g2⟩
theorem xr_vs_set : ∀ {L : List xr_V} {L' : List Value} (k : Nat) {v : xr_V} {w : Value}, xr_vs adr nx L L' → xr_vrel adr nx v w → xr_vs adr nx (L.set k v) (L'.set k w)
  | [], l, k, v, w, hv, _ => by rw [xr_vs_nil hv]; exact trivial
  | u :: r, l, 0, v, w, hv, h => by
    obtain ⟨w2, r', rfl, h1, h2⟩ := xr_vs_cons hv
    exact ⟨h, h2⟩
  | u :: r, l, k + 1, v, w, hv, h => by
    obtain ⟨w2, r', rfl, h1, h2⟩ := xr_vs_cons hv
    exact ⟨h1, xr_vs_set k h2 h⟩
theorem xr_vs_app : ∀ {L : List xr_V} {L' : List Value} {R : List xr_V} {R' : List Value}, xr_vs adr nx L L' → xr_vs adr nx R R' → xr_vs adr nx (L ++ R) (L' ++ R')
  | [], l, R, R', h, h2 => by rw [xr_vs_nil h]; exact h2
  | u :: r, l, R, R', h, h2 => by
    obtain ⟨w2, r', rfl, h1, h3⟩ := xr_vs_cons h
    exact ⟨h1, xr_vs_app h3 h2⟩
theorem xr_vs_rev : ∀ {L : List xr_V} {L' : List Value}, xr_vs adr nx L L' → xr_vs adr nx L.reverse L'.reverse
  | [], l, h => by rw [xr_vs_nil h]; exact trivial
  | u :: r, l, h => by
    obtain ⟨w2, r', rfl, h1, h3⟩ := xr_vs_cons h
    rw [List.reverse_cons, List.reverse_cons]
    exact xr_vs_app (xr_vs_rev h3) ⟨h1, trivial⟩
theorem xr_vs_take : ∀ (k : Nat) {L : List xr_V} {L' : List Value}, xr_vs adr nx L L' → xr_vs adr nx (L.take k) (L'.take k)
  | 0, L, L', _ => by simp [xr_vs]
  | k + 1, [], l, h => by rw [xr_vs_nil h]; exact trivial
  | k + 1, u :: r, l, h => by
    obtain ⟨w2, r', rfl, h1, h3⟩ := xr_vs_cons h
    exact ⟨h1, xr_vs_take k h3⟩
theorem xr_vs_drop : ∀ (k : Nat) {L : List xr_V} {L' : List Value}, xr_vs adr nx L L' → xr_vs adr nx (L.drop k) (L'.drop k)
  | 0, L, L', h => h
  | k + 1, [], l, h => by rw [xr_vs_nil h]; exact trivial
  | k + 1, u :: r, l, h => by
    obtain ⟨w2, r', rfl, h1, h3⟩ := xr_vs_cons h
    exact xr_vs_drop k h3
theorem xr_vs_rep : ∀ n, xr_vs adr nx (List.replicate n xU) (List.replicate n (.retAddr 0))
  | 0 => trivial
  | n + 1 => ⟨rfl, xr_vs_rep n⟩
theorem xr_vs_mono {adr' : xr_A → Nat} {nx' : xr_A} (he : ∀ z, xr_dom nx z → xr_dom nx' z ∧ adr' z = adr z) : ∀ {L : List xr_V} {L' : List Value}, xr_vs adr nx L L' → xr_vs adr' nx' L L'
  | [], l, h => by rw [xr_vs_nil h]; exact trivial
  | u :: r, l, h => by
    obtain ⟨w2, r', rfl, h1, h3⟩ := xr_vs_cons h
    refine ⟨?_, xr_vs_mono he h3⟩
    rcases u with x | (_ | (_ | z))
    · exact h1
    · exact h1
    · exact h1
    · rcases h1 with h1 | ⟨h1, h2, h4⟩
      · exact Or.inl h1
      · exact Or.inr ⟨h1, (he z h2).1, by rw [(he z h2).2]; exact h4⟩
theorem xr_vs_isl : ∀ {L : List xr_V} {L' : List Value}, xr_vs adr nx L L' → L.all xr_isl = true → L'.all xq_isl = true
  | [], l, h, _ => by rw [xr_vs_nil h]; rfl
  | u :: r, l, h, ha => by
    obtain ⟨w2, r', rfl, h1, h3⟩ := xr_vs_cons h
    rw [List.all_cons] at ha ⊢
    obtain ⟨ha, hb⟩ := xq_and ha
    rw [xr_vs_isl h3 hb, Bool.and_true]
    rcases u with x | (_ | (_ | z))
    · rw [show w2 = .int x from h1]; rfl
    · cases ha
    · rw [show w2 = .null from h1]; rfl
    · rcases h1 with ⟨h1, h2 | ⟨a, h2⟩⟩ | ⟨h1, h2, h4⟩
      · rw [h2]; rfl
      · rw [h2]; rfl
      · rw [h4]; rfl
theorem xr_vs_sum : ∀ {L : List xr_V} {L' : List Value}, xr_vs adr nx L L' → (L'.map fun v => v.category).sum = L.length
  | [], l, h => by rw [xr_vs_nil h]; rfl
  | u :: r, l, h => by
    obtain ⟨w2, r', rfl, h1, h3⟩ := xr_vs_cons h
    rw [List.map_cons, List.sum_cons, xr_vs_sum h3, List.length_cons]
    have : w2.category = 1 := by
      rcases u with x | (_ | (_ | z))
      · rw [show w2 = .int x from h1]; rfl
      · rw [show w2 = .retAddr 0 from h1]; rfl
      · rw [show w2 = .null from h1]; rfl
      · rcases h1 with ⟨h1, h2 | ⟨a, h2⟩⟩ | ⟨h1, h2, h4⟩
        · rw [h2]; rfl
        · rw [h2]; rfl
        · rw [h4]; rfl
    rw [this]; omega
theorem xr_vs_room {L : List xr_V} {L' : List Value} (h : xr_vs adr nx L L') (hl : Nat.ble L.length 8 = true) : xq_room L' = true := by
  unfold xq_room
  rw [xr_vs_sum h]; exact hl
/-- an int on the stack -/
theorem xr_vs_int {x : Int32} {r : List xr_V} {l : List Value} (h : xr_vs adr nx (.inl x :: r) l) : ∃ r', l = .int x :: r' ∧ xr_vs adr nx r r' := by
  obtain ⟨w, r', rfl, h1, h2⟩ := xr_vs_cons h
  exact ⟨r', by rw [show w = .int x from h1], h2⟩
theorem xr_vs_null {r : List xr_V} {l : List Value} (h : xr_vs adr nx (.inr (some none) :: r) l) : ∃ r', l = .null :: r' ∧ xr_vs adr nx r r' := by
  obtain ⟨w, r', rfl, h1, h2⟩ := xr_vs_cons h
  exact ⟨r', by rw [show w = .null from h1], h2⟩
theorem xr_vs_ref {z : xr_A} (hz : z ≠ (0, 5000)) {r : List xr_V} {l : List Value} (h : xr_vs adr nx (.inr (some (some z)) :: r) l) : ∃ r', l = .ref (adr z) :: r' ∧ xr_dom nx z ∧ xr_vs adr nx r r' := by
  obtain ⟨w, r', rfl, h1, h2⟩ := xr_vs_cons h
  rcases h1 with ⟨h1, -⟩ | ⟨-, h3, h4⟩
  · exact absurd h1 hz
  · exact ⟨r', by rw [h4], h3, h2⟩
/-- a reference of any kind on the stack -/
theorem xr_vs_any {z : Option xr_A} {r : List xr_V} {l : List Value} (h : xr_vs adr nx (.inr (some z) :: r) l) : ∃ w r', l = w :: r' ∧ (w = .null ∨ ∃ a, w = .ref a) ∧ xr_vrel adr nx (.inr (some z)) w ∧ xr_vs adr nx r r' := by
  obtain ⟨w, r', rfl, h1, h2⟩ := xr_vs_cons h
  refine ⟨w, r', rfl, ?_, h1, h2⟩
  rcases z with _ | z
  · exact Or.inl h1
  · rcases h1 with ⟨-, h3⟩ | ⟨-, -, h4⟩
    · exact h3
    · exact Or.inr ⟨_, h4⟩
end
theorem xr_bin_xq {I : xq_I} {f : Int32 → Int32 → Int32} (h : xr_bin I.1 = some f) (L : List Value) (x y : Int32) (r : List Value) (X : xq_X) : xq_pure I L (.int y :: .int x :: r) X = some (L, .int (f x y) :: r) := by
  obtain ⟨ins, len, v, p0, p1, p2, p3⟩ := I
  unfold xr_bin at h
  dsimp only at h
  split at h <;> first | (cases h; rfl) | cases h
theorem xr_dom_str {nx : xr_A} {k : Nat} (h : k < 22) : xr_dom nx (k, 3000) := Or.inr (Or.inr ⟨Or.inl rfl, h⟩)
set_option maxHeartbeats 2000000 in
theorem xr_pure_sim {adr : xr_A → Nat} {nx : xr_A} {I : xq_I} {L st L1 st1 : List xr_V} {L' st' : List Value} {X : xq_X} (hs : ∀ k, k < 22 → X.2.2.2.1 k = adr (k, 3000)) (h : xr_pure I L st = some (L1, st1)) (hL : xr_vs adr nx L L') (hst : xr_vs adr nx st st') :
    ∃ L1' st1', xq_pure I L' st' X = some (L1', st1') ∧ xr_vs adr nx L1 L1' ∧ xr_vs adr nx st1 st1' := by
  obtain ⟨ins, len, v, p0, p1, p2, p3⟩ := I
  unfold xr_pure at h
  dsimp only [xq_p0, xq_p1, xq_v] at h
  have hlen := xr_vs_len hL
  split at h
  · cases h; exact ⟨_, _, rfl, hL, rfl, hst⟩
  · cases h; exact ⟨_, _, rfl, hL, rfl, hst⟩
  · cases h; exact ⟨_, _, rfl, hL, rfl, hst⟩
  · cases hb : Nat.beq p0 0 with
    | true =>
      rw [hb] at h; cases h
      exact ⟨L', .int v :: st', by unfold xq_pure; dsimp only [xq_p0]; rw [hb]; rfl, hL, rfl, hst⟩
    | false =>
      rw [hb] at h
      cases hc : Nat.blt p1 22 with
      | true =>
        rw [hc] at h; cases h
        have h22 : p1 < 22 := Nat.le_of_ble_eq_true hc
        refine ⟨L', .ref (X.2.2.2.1 p1) :: st', by unfold xq_pure; dsimp only [xq_p0]; rw [hb]; rfl, hL, Or.inr ⟨fun h9 => ?_, xr_dom_str h22, ?_⟩, hst⟩
        · cases h9
        · show Value.ref (X.2.2.2.1 p1) = _
          rw [hs p1 h22]
      | false => rw [hc] at h; cases h
  · cases hb : Nat.beq p0 0 with
    | true =>
      rw [hb] at h; cases h
      exact ⟨L', .int v :: st', by unfold xq_pure; dsimp only [xq_p0]; rw [hb]; rfl, hL, rfl, hst⟩
    | false => rw [hb] at h; cases h
  · cases h; exact ⟨_, _, rfl, hL, rfl, hst⟩
  · split at h
    · rename_i x hx
      cases h
      obtain ⟨w, g1, g2⟩ := xr_vs_get p0 hL hx
      cases (show w = .int x from g2)
      exact ⟨L', .int x :: st', by unfold xq_pure; dsimp only [xq_p0]; rw [g1], hL, rfl, hst⟩
    · cases h
  · split at h
    · rename_i x hx
      cases h
      obtain ⟨w, g1, g2⟩ := xr_vs_get p0 hL hx
      cases (show w = .int x from g2)
      exact ⟨L', .int x :: st', by unfold xq_pure; dsimp only [xq_p0]; rw [g1], hL, rfl, hst⟩
    · cases h
  · split at h
    · rename_i z hx
      cases h
      obtain ⟨w, g1, g2⟩ := xr_vs_get p0 hL hx
      obtain ⟨w2, r2, e1, e2, e3, -⟩ := xr_vs_any (r := []) (l := [w]) ⟨g2, trivial⟩
      cases e1
      rcases e2 with rfl | ⟨a, rfl⟩
      · exact ⟨L', .null :: st', by unfold xq_pure; dsimp only [xq_p0]; rw [g1], hL, g2, hst⟩
      · exact ⟨L', .ref a :: st', by unfold xq_pure; dsimp only [xq_p0]; rw [g1], hL, g2, hst⟩
    · cases h
  · split at h
    · rename_i z hx
      cases h
      obtain ⟨w, g1, g2⟩ := xr_vs_get p0 hL hx
      obtain ⟨w2, r2, e1, e2, e3, -⟩ := xr_vs_any (r := []) (l := [w]) ⟨g2, trivial⟩
      cases e1
      rcases e2 with rfl | ⟨a, rfl⟩
      · exact ⟨L', .null :: st', by unfold xq_pure; dsimp only [xq_p0]; rw [g1], hL, g2, hst⟩
      · exact ⟨L', .ref a :: st', by unfold xq_pure; dsimp only [xq_p0]; rw [g1], hL, g2, hst⟩
    · cases h
  · split at h
    · rename_i x r
      obtain ⟨r', rfl, hr⟩ := xr_vs_int hst
      cases hb : Nat.blt p0 L.length with
      | true => rw [hb] at h; cases h; exact ⟨L'.set p0 (.int x), r', by unfold xq_pure; dsimp only [xq_p0]; rw [hlen, hb]; rfl, xr_vs_set p0 hL rfl, hr⟩
      | false => rw [hb] at h; cases h
    · cases h
  · split at h
    · rename_i x r
      obtain ⟨r', rfl, hr⟩ := xr_vs_int hst
      cases hb : Nat.blt p0 L.length with
      | true => rw [hb] at h; cases h; exact ⟨L'.set p0 (.int x), r', by unfold xq_pure; dsimp only [xq_p0]; rw [hlen, hb]; rfl, xr_vs_set p0 hL rfl, hr⟩
      | false => rw [hb] at h; cases h
    · cases h
  · split at h
    · rename_i z r
      obtain ⟨w, r', rfl, e2, e3, hr⟩ := xr_vs_any hst
      cases hb : Nat.blt p0 L.length with
      | true =>
        rw [hb] at h; cases h
        rcases e2 with rfl | ⟨a, rfl⟩
        · exact ⟨L'.set p0 .null, r', by unfold xq_pure; dsimp only [xq_p0]; rw [hlen, hb]; rfl, xr_vs_set p0 hL e3, hr⟩
        · exact ⟨L'.set p0 (.ref a), r', by unfold xq_pure; dsimp only [xq_p0]; rw [hlen, hb]; rfl, xr_vs_set p0 hL e3, hr⟩
      | false => rw [hb] at h; cases h
    · cases h
  · split at h
    · rename_i z r
      obtain ⟨w, r', rfl, e2, e3, hr⟩ := xr_vs_any hst
      cases hb : Nat.blt p0 L.length with
      | true =>
        rw [hb] at h; cases h
        rcases e2 with rfl | ⟨a, rfl⟩
        · exact ⟨L'.set p0 .null, r', by unfold xq_pure; dsimp only [xq_p0]; rw [hlen, hb]; rfl, xr_vs_set p0 hL e3, hr⟩
        · exact ⟨L'.set p0 (.ref a), r', by unfold xq_pure; dsimp only [xq_p0]; rw [hlen, hb]; rfl, xr_vs_set p0 hL e3, hr⟩
      | false => rw [hb] at h; cases h
    · cases h
  · split at h
    · rename_i x hx
      cases h
      obtain ⟨w, g1, g2⟩ := xr_vs_get p0 hL hx
      cases (show w = .int x from g2)
      exact ⟨L'.set p0 (.int (x + v)), st', by unfold xq_pure; dsimp only [xq_p0, xq_v]; rw [g1], xr_vs_set p0 hL rfl, hst⟩
    · cases h
  · split at h
    · rename_i x r
      obtain ⟨r', rfl, hr⟩ := xr_vs_int hst
      cases h; exact ⟨_, _, rfl, hL, rfl, hr⟩
    · cases h
  · split at h
    · rename_i x r
      obtain ⟨r', rfl, hr⟩ := xr_vs_int hst
      cases h; exact ⟨_, _, rfl, hL, rfl, hr⟩
    · cases h
  · split at h
    · rename_i x r
      obtain ⟨r', rfl, hr⟩ := xr_vs_int hst
      cases h; exact ⟨_, _, rfl, hL, rfl, rfl, hr⟩
    · rename_i z r
      by_cases hz : z = (0, 5000)
      · subst hz; cases h
      · cases h50 : Nat.beq z.2 5000 with
        | true => rw [h50] at h; cases h
        | false =>
        rw [h50] at h
        obtain ⟨r', rfl, hd, hr⟩ := xr_vs_ref hz hst
        cases h; exact ⟨_, _, rfl, hL, Or.inr ⟨hz, hd, rfl⟩, Or.inr ⟨hz, hd, rfl⟩, hr⟩
    · cases h
  · split at h
    · rename_i x r
      obtain ⟨r', rfl, hr⟩ := xr_vs_int hst
      cases h; exact ⟨_, _, rfl, hL, hr⟩
    · rename_i z r
      by_cases hz : z = (0, 5000)
      · subst hz; cases h
      · cases h50 : Nat.beq z.2 5000 with
        | true => rw [h50] at h; cases h
        | false =>
        rw [h50] at h
        obtain ⟨r', rfl, hd, hr⟩ := xr_vs_ref hz hst
        cases h; exact ⟨_, _, rfl, hL, hr⟩
    · cases h
  · split at h
    · rename_i x z r
      obtain ⟨r1, rfl, hr1⟩ := xr_vs_int hst
      by_cases hz : z = (0, 5000)
      · subst hz; cases h
      · cases h50 : Nat.beq z.2 5000 with
        | true => rw [h50] at h; cases h
        | false =>
        rw [h50] at h
        obtain ⟨r', rfl, hd, hr⟩ := xr_vs_ref hz hr1
        cases h; exact ⟨_, _, rfl, hL, rfl, Or.inr ⟨hz, hd, rfl⟩, rfl, Or.inr ⟨hz, hd, rfl⟩, hr⟩
    · cases h
  · split at h
    · rename_i f hf
      split at h
      · rename_i y x r
        obtain ⟨r1, rfl, hr1⟩ := xr_vs_int hst
        obtain ⟨r', rfl, hr⟩ := xr_vs_int hr1
        cases h
        exact ⟨_, _, xr_bin_xq hf _ _ _ _ _, hL, rfl, hr⟩
      · cases h
    · cases h
