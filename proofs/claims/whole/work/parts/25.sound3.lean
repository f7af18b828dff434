/-! SOUNDNESS, 3: the classes' words; rows on cells -/
theorem xq_decl : ∀ ci, ci < 12 → ∀ k, ((xq_C ci).2.1 k).1 = (xq_C ci).1
  | 0, _, k => by show (TX0 k).1 = RX0; unfold TX0; split <;> rfl
  | 1, _, k => by show (TX1 k).1 = RX1; unfold TX1; split <;> rfl
  | 2, _, k => by show (TX2 k).1 = RX2; unfold TX2; split <;> rfl
  | 3, _, k => by show (TX3 k).1 = RX3; unfold TX3; split <;> rfl
  | 4, _, k => by show (TX4 k).1 = RX4; unfold TX4; split <;> rfl
  | 5, _, k => by show (TX5 k).1 = RX5; unfold TX5; split <;> rfl
  | 6, _, k => by show (TX6 k).1 = RX6; unfold TX6; split <;> rfl
  | 7, _, k => by show (TX7 k).1 = RX7; unfold TX7; split <;> rfl
  | 8, _, k => by show (TX8 k).1 = RX8; unfold TX8; split <;> rfl
  | 9, _, k => by show (TX9 k).1 = RX9; unfold TX9; split <;> rfl
  | 10, _, k => by show (TX10 k).1 = RX10; unfold TX10; split <;> rfl
  | 11, _, k => by show (TX11 k).1 = RX11; unfold TX11; split <;> rfl
  | n + 12, h, _ => absurd h (by omega)
theorem xq_cl : ∀ ci, ci < 12 → vwCl[ci]? = some (xq_C ci)
  | 0, _ => rfl
  | 1, _ => rfl
  | 2, _ => rfl
  | 3, _ => rfl
  | 4, _ => rfl
  | 5, _ => rfl
  | 6, _ => rfl
  | 7, _ => rfl
  | 8, _ => rfl
  | 9, _ => rfl
  | 10, _ => rfl
  | 11, _ => rfl
  | n + 12, h => absurd h (by omega)
theorem xq_nm : ∀ ci, ci < 12 → ∀ a, a < (xq_C ci).2.2 → ∀ b, b < (xq_C ci).2.2 → a ≠ b → ((xq_C ci).2.1 a).2.1 ≠ ((xq_C ci).2.1 b).2.1
  | 0, _ => nmX0
  | 1, _ => nmX1
  | 2, _ => nmX2
  | 3, _ => nmX3
  | 4, _ => nmX4
  | 5, _ => nmX5
  | 6, _ => nmX6
  | 7, _ => nmX7
  | 8, _ => nmX8
  | 9, _ => nmX9
  | 10, _ => nmX10
  | 11, _ => nmX11
  | n + 12, h => absurd h (by omega)
theorem xq_tyok : ∀ ci, ci < 12 → ∀ k, k < (xq_C ci).2.2 → parseFieldDescriptor ((xq_C ci).2.1 k).2.2.1 = some (xq_tys ci k)
  | 0, _ => tyX0_ok
  | 1, _ => tyX1_ok
  | 2, _ => tyX2_ok
  | 3, _ => tyX3_ok
  | 4, _ => tyX4_ok
  | 5, _ => tyX5_ok
  | 6, _ => tyX6_ok
  | 7, _ => tyX7_ok
  | 8, _ => tyX8_ok
  | 9, _ => tyX9_ok
  | 10, _ => tyX10_ok
  | 11, _ => tyX11_ok
  | n + 12, h => absurd h (by omega)
theorem xq_lay_all : ((List.range 12).all fun ci => (List.range (xq_C ci).2.2).all fun k => xq_in2 xq_L_lay ci k) = true := by decide +kernel
theorem xq_uws {ci : Nat} (h : ci < 12) : ∀ w ∈ u_ws (xq_C ci).1 (xq_C ci).2.1 (xq_C ci).2.2, w ∈ xq_g := by
  intro w hw
  obtain ⟨k, hk, rfl⟩ := List.mem_map.mp hw
  have h1 := List.all_eq_true.mp xq_lay_all ci (List.mem_range.mpr h)
  have h2 := List.all_eq_true.mp h1 k hk
  exact xq_W_lay _ (xq_in2_m h2)
theorem xq_on_C : ∀ ci, ci < 12 → xq_on ci = (xq_C ci).1
  | 0, _ => rfl
  | 1, _ => rfl
  | 2, _ => rfl
  | 3, _ => rfl
  | 4, _ => rfl
  | 5, _ => rfl
  | 6, _ => rfl
  | 7, _ => rfl
  | 8, _ => rfl
  | 9, _ => rfl
  | 10, _ => rfl
  | 11, _ => rfl
  | n + 12, h => absurd h (by omega)
theorem xq_init_all : ((List.range 18).all fun o => xq_in1 xq_L_init o) = true := by decide +kernel
theorem xq_ini {o : Nat} (h : o < 18) : Cond.initialized (xq_on o) ∈ xq_g := xq_W_init _ (xq_in1_m (List.all_eq_true.mp xq_init_all o (List.mem_range.mpr h)))
theorem xq_insta_all : ((List.range 12).all fun o => xq_in1 xq_L_insta o) = true := by decide +kernel
theorem xq_ins {ci : Nat} (h : ci < 12) : Cond.instantiable (xq_C ci).1 (xq_C ci).2.2 ∈ xq_g := xq_W_insta _ (xq_in1_m (List.all_eq_true.mp xq_insta_all ci (List.mem_range.mpr h)))
section
variable {B : Nat} {dC : Nat → ClassId} {dI : Nat → Nat → Nat} {ac : Nat → ClassId}
theorem xq_J.set {X : xq_X} {s : State} {H0 H H1 : Heap} {a : Nat} {e e0 : xq_E} (hJ : xq_J B dC dI ac X s H0 H) (h0 : xq_h X a = some e0) (hr0 : xq_ro e0 = false) (hr : xq_ro e = false) (he : va_at (dC, dI) vwCl (a, xq_cv ac e) H1) (hz : H1.size = H.size) (oq : ∀ q : Nat, q ≠ a → H1[q]? = H[q]?) : xq_J B dC dI ac (xq_set X a e) s H0 H1 := by
  refine ⟨hz.trans hJ.1, fun b e2 h => ?_⟩
  unfold xq_h xq_set at h
  dsimp only at h
  split at h
  · rename_i hb
    cases h
    subst hb
    obtain ⟨h1, h2, h3⟩ := hJ.2 _ _ h0
    exact ⟨h1, fun _ => ⟨(h2 hr0).1, he⟩, fun h9 => by rw [hr] at h9; cases h9⟩
  · rename_i hb
    obtain ⟨h1, h2, h3⟩ := hJ.2 b e2 h
    exact ⟨h1, fun h9 => ⟨(h2 h9).1, (h2 h9).2.kept (oq b hb)⟩, h3⟩
theorem xq_J.push {X : xq_X} {s : State} {H0 H H1 : Heap} {n : Nat} {e : xq_E} (hJ : xq_J B dC dI ac X s H0 H) (hB : B ≤ H.size) (hr : xq_ro e = false) (he : va_at (dC, dI) vwCl (X.1, xq_cv ac e) H1) (hz : H1.size = H.size + 1) (oq : ∀ q : Nat, q < H.size → H1[q]? = H[q]?) : xq_J B dC dI ac (xq_push X n e) s H0 H1 := by
  refine ⟨by rw [hz, hJ.1]; rfl, fun b e2 h => ?_⟩
  unfold xq_h xq_push at h
  dsimp only at h
  split at h
  · rename_i hb
    cases h
    subst hb
    exact ⟨Nat.lt_succ_self _, fun _ => ⟨by rw [← hJ.1]; exact hB, he⟩, fun h9 => by rw [hr] at h9; cases h9⟩
  · obtain ⟨h1, h2, h3⟩ := hJ.2 b e2 h
    exact ⟨Nat.lt_succ_of_lt h1, fun h9 => ⟨(h2 h9).1, (h2 h9).2.kept (oq b (by rw [hJ.1]; exact h1))⟩, h3⟩
variable {p : Program} {l : Launch} {e : Env} {R : Room} {s : State} {m : MethodId} {args : Array Value} {below : List Frame} {meth : Method} {c : Code} {H : Heap} {locs : List Loc} {cells slots : Nat} {Q : State → Prop} {i d pc : Nat} {X0 X : xq_X} {ls : Array Slot} {rest : List Value}
theorem xq_get_W (hF : xq_Fr B dC dI ac p l R s m args meth c i d X0) (hJ : xq_J B dC dI ac X s s.heap H) (hS : va_S (xq_A B) s.heap H locs) {k ci fk ty p3 : Nat} {v0 : Int32} (hd : decode (xq_by i) pc = .ok (.getfield k, 3)) (ha : xq_ask i pc (.getfield k, 3, v0, ci, fk, ty, p3) = true) {a : Nat} {fs : List Value} {v : Value} (hh : xq_h X a = some (.inr (ci, fs))) (hv : fs[fk]? = some v)
    (kk : W p l e R s m args below meth c H locs cells slots Q (F0 m (pc + 3) ls (v :: rest))) : W p l e R s m args below meth c H locs cells slots Q (F0 m pc ls (.ref a :: rest)) := by
  obtain ⟨⟨hx, hb, hml, hr⟩, ⟨hts, hown, hlocks, hname⟩, -, ⟨hK, hG, hB, hN⟩⟩ := hF
  have ha : cond (Nat.beq ci 20) (Nat.beq (xq_mo i) 14 && cond (Nat.beq fk 0) (Nat.beq ty 1 && Nat.beq k 9) (Nat.beq fk 1 && (Nat.beq ty 0 && Nat.beq k 15))) (Nat.blt ci 12 && (Nat.blt fk (xq_C ci).2.2 && xq_in4 xq_L_fl (xq_mo i) k ci fk)) = true := ha
  obtain ⟨h1, h2, h3⟩ := hJ.2 _ _ hh
  cases h20 : Nat.beq ci 20 with
  | true =>
    rw [h20] at ha
    have e20 := xq_beq h20
    subst e20
    obtain ⟨-, w, rfl, hO, hV, hC⟩ := h3 rfl
    have ha : (Nat.beq (xq_mo i) 14 && cond (Nat.beq fk 0) (Nat.beq ty 1 && Nat.beq k 9) (Nat.beq fk 1 && (Nat.beq ty 0 && Nat.beq k 15))) = true := ha
    obtain ⟨ho, ha⟩ := xq_and ha
    have ho := xq_beq ho
    rw [ho] at hown
    cases h0 : Nat.beq fk 0 with
    | true =>
      rw [h0] at ha
      have e0 := xq_beq h0
      subst e0
      cases hv
      obtain ⟨-, hk⟩ := xq_and ha
      have hk := xq_beq hk
      subst hk
      exact vk_getf hx hb hV hS hown (hts _ xq_o_sv) (fun _ h => h) hd kk
    | false =>
      rw [h0] at ha
      obtain ⟨h1, ha⟩ := xq_and ha
      have e1 := xq_beq h1
      subst e1
      cases hv
      obtain ⟨-, hk⟩ := xq_and ha
      have hk := xq_beq hk
      subst hk
      exact vk_getf hx hb hC hS hown (hts _ xq_o_sc) (fun _ h => h) hd kk
  | false =>
    rw [h20] at ha
    obtain ⟨hc, ha⟩ := xq_and ha
    obtain ⟨hf, ha⟩ := xq_and ha
    have hc : ci < 12 := Nat.le_of_ble_eq_true hc
    have hf : fk < (xq_C ci).2.2 := Nat.le_of_ble_eq_true hf
    have hro : xq_ro (.inr (ci, fs)) = false := by
      show Nat.ble 12 ci = false
      cases h9 : Nat.ble 12 ci with
      | false => rfl
      | true => have := Nat.le_of_ble_eq_true h9; omega
    have hP : va_P (dC, dI) vwCl [(a, .inr (ci, fs))] H := fun j q hj => by
      cases j with
      | zero => cases hj; exact (h2 hro).2
      | succ j => simp at hj
    exact va_get (D := (dC, dI)) (ci := ci) (v := v) (C := (xq_C ci).1) (T := (xq_C ci).2.1) (N := (xq_C ci).2.2) hx hb hts (xq_uws hc) hown hK hP 0 rfl (xq_cl ci hc) fk hf (hts _ (xq_W_fl _ (xq_in4_m ha))) (fun x h9 => by rw [xq_decl ci hc fk] at h9; exact h9) hv hd kk
theorem xq_put_W (hF : xq_Fr B dC dI ac p l R s m args meth c i d X0) (hJ : xq_J B dC dI ac X s s.heap H) (hS : va_S (xq_A B) s.heap H locs) {k ci fk ty p3 : Nat} {v0 : Int32} (hd : decode (xq_by i) pc = .ok (.putfield k, 3)) (ha : xq_ask i pc (.putfield k, 3, v0, ci, fk, ty, p3) = true) {a : Nat} {fs : List Value} {v : Value} (hh : xq_h X a = some (.inr (ci, fs))) (hl : fk < fs.length)
    (hv : (ty = 0 ∧ ∃ x, v = .int x) ∨ (Nat.beq ty 0 = false ∧ (v = .null ∨ ∃ x, v = .ref x)))
    (kk : ∀ (H1 : Heap) (locs1 : List Loc), xq_J B dC dI ac (xq_set X a (.inr (ci, fs.set fk v))) s s.heap H1 → va_S (xq_A B) s.heap H1 locs1 → W p l e R s m args below meth c H1 locs1 cells slots Q (F0 m (pc + 3) ls rest)) : W p l e R s m args below meth c H locs cells slots Q (F0 m pc ls (v :: .ref a :: rest)) := by
  obtain ⟨⟨hx, hb, hml, hr⟩, ⟨hts, hown, hlocks, hname⟩, -, ⟨hK, hG, hB, hN⟩⟩ := hF
  have ha : (Nat.blt ci 12 && (Nat.blt fk (xq_C ci).2.2 && (xq_in4 xq_L_fl (xq_mo i) k ci fk && (cond (Nat.beq ty 0) (decide (xq_tys ci fk = .int)) ((xq_tys ci fk).isReference) && cond ((xq_C ci).2.1 fk).2.2.2 (Nat.beq (xq_kd i) 2 && Nat.beq ci (xq_mo i)) true)))) = true := ha
  obtain ⟨hc, ha⟩ := xq_and ha
  obtain ⟨hf, ha⟩ := xq_and ha
  obtain ⟨hlk, ha⟩ := xq_and ha
  obtain ⟨hty, hfin⟩ := xq_and ha
  have hc : ci < 12 := Nat.le_of_ble_eq_true hc
  have hf : fk < (xq_C ci).2.2 := Nat.le_of_ble_eq_true hf
  have hro : ∀ fs' : List Value, xq_ro (.inr (ci, fs')) = false := fun fs' => by
    show Nat.ble 12 ci = false
    cases h9 : Nat.ble 12 ci with
    | false => rfl
    | true => have := Nat.le_of_ble_eq_true h9; omega
  obtain ⟨h1, h2, -⟩ := hJ.2 _ _ hh
  obtain ⟨hBa, hat⟩ := h2 (hro fs)
  have hlink := hts _ (xq_W_fl _ (xq_in4_m hlk))
  have hap := va_apart (own := xq_on (xq_mo i)) hts (xq_uws hc) (xq_tys ci) (xq_tyok ci hc) (xq_nm ci hc) hK (xq_cl ci hc)
  obtain ⟨r, g1, cell, q1, q2, q3, q4⟩ := hat
  have hr9 : r = ((xq_C ci).1, (xq_C ci).2.1, (xq_C ci).2.2) := Option.some.inj (g1.symm.trans (xq_cl ci hc))
  subst hr9
  obtain ⟨hSl, hfc, kC, hkC, hkind⟩ := hK.1 ci _ (xq_cl ci hc)
  obtain ⟨cf, kf, fi, f, hi, hsl⟩ := hSl fk hf
  have hst := (u_facts hfc hkC (u_lays hts (xq_uws hc) hf) hi).1
  have hd0 := xq_tyok ci hc fk hf
  have hnar : narrow (xq_tys ci fk) v = v ∧ fits (xq_tys ci fk) v = true := by
    rcases hv with ⟨rfl, x, rfl⟩ | ⟨hne, hv⟩
    · have : xq_tys ci fk = .int := of_decide_eq_true hty
      rw [this]; exact ⟨rfl, rfl⟩
    · rw [hne] at hty
      have hty : (xq_tys ci fk).isReference = true := hty
      rcases hv with rfl | ⟨x, rfl⟩
      · cases h9 : xq_tys ci fk <;> rw [h9] at hty <;> first | exact ⟨rfl, rfl⟩ | cases hty
      · cases h9 : xq_tys ci fk <;> rw [h9] at hty <;> first | exact ⟨rfl, rfl⟩ | cases hty
  have hi2 : s.fieldFound? (xq_C ci).1 ((xq_C ci).2.1 fk).2.1 ((xq_C ci).2.1 fk).2.2.1 = some (cf, kf, fi, f) := by rw [xq_decl ci hc fk] at hi; exact hi
  have fin : ∀ H' : Heap, H'[a]? = some (cell.setSlot f.slot v) → H'.size = H.size → (∀ q, q ≠ a → H'[q]? = H[q]?) → W p l e R s m args below meth c H' (locs ++ [⟨a, f.slot⟩]) cells slots Q (F0 m (pc + 3) ls rest) := fun H' e1 e2 e3 => by
    rw [hsl] at e1 ⊢
    exact kk H' _ (hJ.set hh (hro fs) (hro _) ⟨_, xq_cl ci hc, t_OB.to (V := updV (vp_V fs) fk v) ⟨_, e1, q2, q3, t_set q4 hap hf v⟩ (fun j _ => vp_updV_set hl v j)⟩ e2 e3) (hS.put e2 e3 hBa)
  have hlay := hts _ (xq_uws hc _ (u_in_lay hf))
  unfold u_lay at hlay
  cases hfn : ((xq_C ci).2.1 fk).2.2.2 with
  | false =>
    rw [if_neg (by rw [hfn]; decide)] at hlay
    have h6 := u_store hfc hkC hkind hlay hi hd0 hnar.1 hnar.2
    exact W.putK hx hb (f := f) ⟨hown, hlink, ⟨_, _, _, hi2⟩, hst⟩ (by rw [q2]; exact h6) q1 q3 (by rw [hsl]; exact k2_hasslot (q4 fk hf)) rfl rfl hd fin
  | true =>
    rw [if_pos hfn] at hlay
    rw [hfn] at hfin
    have hfin : (Nat.beq (xq_kd i) 2 && Nat.beq ci (xq_mo i)) = true := hfin
    obtain ⟨hf1, hf2⟩ := xq_and hfin
    have hf2 := xq_beq hf2
    have hcf : m.cls = cf := by
      obtain ⟨_, _, c', _, _, _, -, -, hf', -, -, -, hown2, -⟩ := Cond.laysFinal_spec hlay
      have e1 : c' = cf := by have := hi.symm.trans hf'; simp at this; exact this.1.symm
      rw [xq_decl ci hc fk, ← xq_on_C ci hc, hf2] at hown2
      rw [← e1]; exact Option.some.inj (hown.symm.trans hown2)
    have h6 := u_fits hfc hkC hkind (Or.inr hlay) hi hd0 hnar.1 hnar.2
    exact W.putFinK hx hb hown hlink hi2 hst hcf (hname (xq_beq hf1)) (by rw [q2]; exact h6) q1 q3 (by rw [hsl]; exact k2_hasslot (q4 fk hf)) rfl rfl hd fin
end
