/-! SOUNDNESS, 2: the frame, and the rows that can't fail -/
/-- a frame of method i with d frames left, begun at X0 -/
def xq_Fr (B : Nat) (dC : Nat → ClassId) (dI : Nat → Nat → Nat) (ac : Nat → ClassId) (p : Program) (l : Launch) (R : Room) (s : State) (m : MethodId) (args : Array Value) (meth : Method) (c : Code) (i d : Nat) (X0 : xq_X) : Prop :=
  (p.tables.exec = Jvm.exec ∧ c.code = xq_by i ∧ c.maxLocals = xq_loc i ∧ meth.sig.returnType = xq_ret i) ∧ ((∀ w ∈ xq_g, w.before args s = true) ∧ s.vm.findClass (xq_on (xq_mo i)) = some m.cls ∧ meth.locks = false ∧ (xq_kd i = 2 → meth.name = "<init>")) ∧
  (c.exceptionTable.toList = tableOf (xq_hh i) ∧ l.stackTraces = false ∧ d + 10 ≤ R.frames ∧ 41 * d + 500 ≤ R.locals) ∧ (va_K (dC, dI) vwCl (xq_tl ac) s ∧ xq_G B X0.2.2.2 s s.heap ∧ B ≤ s.heap.size ∧ s.heap.size = X0.1)
section
variable {B : Nat} {dC : Nat → ClassId} {dI : Nat → Nat → Nat} {ac : Nat → ClassId}
variable {p : Program} {l : Launch} {e : Env} {R : Room} {s : State} {m : MethodId} {args : Array Value} {below : List Frame} {meth : Method} {c : Code} {H : Heap} {locs : List Loc} {cells slots : Nat} {Q : State → Prop} {i d pc : Nat} {X0 X : xq_X} {I : xq_I}
theorem xq_and {a b : Bool} (h : (a && b) = true) : a = true ∧ b = true := Bool.and_eq_true_iff.mp h
theorem xq_beq {a b : Nat} (h : Nat.beq a b = true) : a = b := Nat.eq_of_beq_eq_true h
set_option maxHeartbeats 4000000 in
theorem xq_pure_W (hF : xq_Fr B dC dI ac p l R s m args meth c i d X0) (hX : X.2.2.2 = X0.2.2.2) (hd : decode (xq_by i) pc = .ok (I.1, I.2.1)) (ha : xq_ask i pc I = true) {L L' st st' : List Value} (hp : xq_pure I L st X = some (L', st')) {ls : Array Slot} (hl : xq_lv ls L)
    (k : ∀ ls' : Array Slot, xq_lv ls' L' → W p l e R s m args below meth c H locs cells slots Q (F0 m (pc + I.2.1) ls' st')) : W p l e R s m args below meth c H locs cells slots Q (F0 m pc ls st) := by
  obtain ⟨⟨hx, hb, hml, hr⟩, ⟨hts, hown, hlocks, hname⟩, -, ⟨hK, hG, hB, hN⟩⟩ := hF
  obtain ⟨ins, len, v, p0, p1, p2, p3⟩ := I
  dsimp only at hd k
  cases ins
  case iconst n =>
    obtain ⟨h1, h2⟩ := xq_and ha
    cases xq_beq h2
    cases hp
    exact lv_iconst hx hb hd (of_decide_eq_true h1) (k ls hl)
  case bipush n =>
    obtain ⟨h1, h2⟩ := xq_and ha
    cases xq_beq h2
    cases hp
    exact lv_bipush hx hb hd (of_decide_eq_true h1) (k ls hl)
  case sipush n =>
    obtain ⟨h1, h2⟩ := xq_and ha
    cases xq_beq h2
    cases hp
    exact lv_sipush hx hb hd (of_decide_eq_true h1) (k ls hl)
  case ldc n =>
    obtain ⟨h1, h2⟩ := xq_and ha
    cases xq_beq h1
    dsimp only [xq_pure, xq_p0, xq_p1, xq_v] at hp h2
    cases h0 : Nat.beq p0 0 with
    | true =>
      rw [h0] at hp h2
      cases hp
      exact lv_ldc hx hb hown (hts _ (xq_W_kl _ (xq_inK_m h2))) hd (k ls hl)
    | false =>
      rw [h0] at hp h2
      cases hp
      have h3 := of_decide_eq_true h2
      have e1 : (xq_S.map (fun q => (q.1, q.2.1)))[p1]? = some (xq_on (xq_mo i), n) := by rw [xq_S_on, List.getElem?_map, h3]; rfl
      rw [List.getElem?_map] at e1
      cases hq : xq_S[p1]? with
      | none => rw [hq] at e1; cases e1
      | some q =>
        rw [hq] at e1
        obtain ⟨q1, q2, q3⟩ := q
        have e2 := Option.some.inj e1
        dsimp only at e2
        obtain ⟨rfl, rfl⟩ := Prod.mk.inj e2
        have h9 := hG.2.2.2.2.1 p1 _ hq
        refine va_ldcS hx hb hown h9 hd ?_
        rw [← hX]
        exact k ls hl
  case ldc_w n =>
    obtain ⟨h1, h2⟩ := xq_and ha
    obtain ⟨h2, h3⟩ := xq_and h2
    cases xq_beq h1
    dsimp only [xq_pure, xq_p0, xq_p1, xq_v] at hp h2 h3
    rw [h2] at hp
    cases hp
    exact lv_ldcw hx hb hown (hts _ (xq_W_kl _ (xq_inK_m h3))) hd (k ls hl)
  case lconst n =>
    cases xq_beq ha
    cases hp
    exact lv_lconst hx hb hd rfl (k ls hl)
  case aconst_null =>
    cases xq_beq ha
    cases hp
    exact lv_null hx hb hd (k ls hl)
  case iload n =>
    obtain ⟨h1, h2⟩ := xq_and ha
    cases xq_beq h2
    have e1 : n = p0 := xq_beq h1
    subst e1
    dsimp only [xq_pure, xq_p0] at hp
    split at hp
    · rename_i x hx1
      cases hp
      exact lv_iload hx hb hd (hl.2.2 _ _ hx1 rfl) (k ls hl)
    · cases hp
  case iload_n n =>
    obtain ⟨h1, h2⟩ := xq_and ha
    cases xq_beq h2
    dsimp only [xq_pure, xq_p0] at hp
    split at hp
    · rename_i x hx1
      cases hp
      exact lv_iload_n hx hb hd (xq_beq h1) (hl.2.2 _ _ hx1 rfl) (k ls hl)
    · cases hp
  case aload n =>
    obtain ⟨h1, h2⟩ := xq_and ha
    cases xq_beq h2
    have e1 : n = p0 := xq_beq h1
    subst e1
    dsimp only [xq_pure, xq_p0] at hp
    split at hp
    · rename_i x hx1
      cases hp
      exact lv_aload hx hb hd (hl.2.2 _ _ hx1 rfl) (k ls hl)
    · rename_i hx1
      cases hp
      exact lv_aloadN hx hb hd (hl.2.2 _ _ hx1 rfl) (k ls hl)
    · cases hp
  case aload_n n =>
    obtain ⟨h1, h2⟩ := xq_and ha
    cases xq_beq h2
    dsimp only [xq_pure, xq_p0] at hp
    split at hp
    · rename_i x hx1
      cases hp
      exact lv_aload_n hx hb hd (xq_beq h1) (hl.2.2 _ _ hx1 rfl) (k ls hl)
    · rename_i hx1
      cases hp
      exact lv_aload_nN hx hb hd (xq_beq h1) (hl.2.2 _ _ hx1 rfl) (k ls hl)
    · cases hp
  case istore n =>
    obtain ⟨h1, h2⟩ := xq_and ha
    cases xq_beq h2
    have e1 : n = p0 := xq_beq h1
    subst e1
    dsimp only [xq_pure, xq_p0] at hp
    split at hp
    · cases hlt : Nat.blt n L.length with
      | false => rw [hlt] at hp; cases hp
      | true =>
        rw [hlt] at hp
        cases hp
        exact lv_istore hx hb hd hl.has (Nat.le_of_ble_eq_true hlt) rfl (fun ls' h' => k ls' (xq_lv.of h'))
    · cases hp
  case istore_n n =>
    obtain ⟨h1, h2⟩ := xq_and ha
    cases xq_beq h2
    dsimp only [xq_pure, xq_p0] at hp
    split at hp
    · cases hlt : Nat.blt p0 L.length with
      | false => rw [hlt] at hp; cases hp
      | true =>
        rw [hlt] at hp
        cases hp
        exact lv_istore_n hx hb hd (xq_beq h1) hl.has (Nat.le_of_ble_eq_true hlt) rfl (fun ls' h' => k ls' (xq_lv.of h'))
    · cases hp
  case astore n =>
    obtain ⟨h1, h2⟩ := xq_and ha
    cases xq_beq h2
    have e1 : n = p0 := xq_beq h1
    subst e1
    dsimp only [xq_pure, xq_p0] at hp
    split at hp
    · cases hlt : Nat.blt n L.length with
      | false => rw [hlt] at hp; cases hp
      | true =>
        rw [hlt] at hp
        cases hp
        exact lv_astore hx hb hd hl.has (Nat.le_of_ble_eq_true hlt) rfl (fun ls' h' => k ls' (xq_lv.of h'))
    · cases hlt : Nat.blt n L.length with
      | false => rw [hlt] at hp; cases hp
      | true =>
        rw [hlt] at hp
        cases hp
        exact lv_astoreN hx hb hd hl.has (Nat.le_of_ble_eq_true hlt) rfl (fun ls' h' => k ls' (xq_lv.of h'))
    · cases hp
  case astore_n n =>
    obtain ⟨h1, h2⟩ := xq_and ha
    cases xq_beq h2
    dsimp only [xq_pure, xq_p0] at hp
    split at hp
    · cases hlt : Nat.blt p0 L.length with
      | false => rw [hlt] at hp; cases hp
      | true =>
        rw [hlt] at hp
        cases hp
        exact lv_astore_n hx hb hd (xq_beq h1) hl.has (Nat.le_of_ble_eq_true hlt) rfl (fun ls' h' => k ls' (xq_lv.of h'))
    · cases hlt : Nat.blt p0 L.length with
      | false => rw [hlt] at hp; cases hp
      | true =>
        rw [hlt] at hp
        cases hp
        exact lv_astore_nN hx hb hd (xq_beq h1) hl.has (Nat.le_of_ble_eq_true hlt) rfl (fun ls' h' => k ls' (xq_lv.of h'))
    · cases hp
  case iinc n z =>
    obtain ⟨h1, h2⟩ := xq_and ha
    obtain ⟨h2, h3⟩ := xq_and h2
    cases xq_beq h3
    have e1 : n = p0 := xq_beq h1
    subst e1
    dsimp only [xq_pure, xq_p0, xq_v] at hp h2
    split at hp
    · rename_i x hx1
      cases hp
      obtain ⟨j, hj⟩ := List.getElem?_of_mem (xq_lp_m hx1 rfl)
      exact lv_iinc hx hb hd hl.has hj (by rw [of_decide_eq_true h2]) (List.getElem?_eq_some_iff.mp hx1).1 rfl (fun ls' h' => k ls' (xq_lv.of h'))
    · cases hp
  case iadd =>
    cases xq_beq ha
    dsimp only [xq_pure] at hp
    split at hp
    · cases hp; exact lv_iadd hx hb hd (k ls hl)
    · cases hp
  case isub =>
    cases xq_beq ha
    dsimp only [xq_pure] at hp
    split at hp
    · cases hp; exact lv_isub hx hb hd (k ls hl)
    · cases hp
  case imul =>
    cases xq_beq ha
    dsimp only [xq_pure] at hp
    split at hp
    · cases hp; exact lv_imul hx hb hd (k ls hl)
    · cases hp
  case iand =>
    cases xq_beq ha
    dsimp only [xq_pure] at hp
    split at hp
    · cases hp; exact lv_iand hx hb hd (k ls hl)
    · cases hp
  case ior =>
    cases xq_beq ha
    dsimp only [xq_pure] at hp
    split at hp
    · cases hp; exact lv_ior hx hb hd (k ls hl)
    · cases hp
  case ishl =>
    cases xq_beq ha
    dsimp only [xq_pure] at hp
    split at hp
    · cases hp; exact lv_ishl hx hb hd (k ls hl)
    · cases hp
  case ishr =>
    cases xq_beq ha
    dsimp only [xq_pure] at hp
    split at hp
    · cases hp; exact lv_ishr hx hb hd (k ls hl)
    · cases hp
  case iushr =>
    cases xq_beq ha
    dsimp only [xq_pure] at hp
    split at hp
    · cases hp; exact lv_iushr hx hb hd rfl (k ls hl)
    · cases hp
  case ineg =>
    cases xq_beq ha
    dsimp only [xq_pure] at hp
    split at hp
    · cases hp; exact lv_ineg hx hb hd (k ls hl)
    · cases hp
  case i2l =>
    cases xq_beq ha
    dsimp only [xq_pure] at hp
    split at hp
    · cases hp; exact lv_i2l hx hb hd rfl (k ls hl)
    · cases hp
  case i2c =>
    cases xq_beq ha
    dsimp only [xq_pure] at hp
    split at hp
    · cases hp; exact lv_i2c hx hb hd rfl (k ls hl)
    · cases hp
  case lcmp =>
    cases xq_beq ha
    dsimp only [xq_pure] at hp
    split at hp
    · cases hp; exact W.lcmp hx hb hd (k ls hl)
    · cases hp
  case dup =>
    cases xq_beq ha
    dsimp only [xq_pure] at hp
    split at hp
    · cases hp; exact lv_dup hx hb hd rfl (k ls hl)
    · cases hp; exact lv_dup hx hb hd rfl (k ls hl)
    · cases hp
  case pop =>
    cases xq_beq ha
    dsimp only [xq_pure] at hp
    split at hp
    · cases hp; exact lv_pop hx hb hd rfl (k ls hl)
    · cases hp; exact lv_pop hx hb hd rfl (k ls hl)
    · cases hp
  case dup2 =>
    cases xq_beq ha
    dsimp only [xq_pure] at hp
    split at hp
    · cases hp; exact lv_dup2_11 hx hb hd rfl rfl (k ls hl)
    · cases hp
  all_goals (dsimp only [xq_pure] at hp; cases hp)
end
