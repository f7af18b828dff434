/-! WHAT THE TABLES MUST BE: every row of xq_code is the code's own, every link has its word -/
def xq_S : List (String × Nat × String) := [("PotHill", 368, "none such"), ("PotHill$Plan", 94, "person"), ("PotHill$Plan", 100, "pot"), ("PotHill$Plan", 102, "heap"), ("PotHill$Plan", 104, "chips"), ("PotHill$Plan", 105, "steep"), ("PotHill$Plan", 127, "end"), ("PotHill$Law", 87, "depth"), ("PotHill$Law", 93, "place"), ("PotHill$Law", 95, "half"), ("PotHill$Law", 97, "year"), ("PotHill$Law", 99, "age"), ("PotHill$Law", 101, "due"), ("PotHill$Law", 103, "least"), ("PotHill$Law", 105, "most"), ("PotHill$Steps", 88, "pay"), ("PotHill$Steps", 94, "give"), ("PotHill$Steps", 96, "throw"), ("PotHill$Steps", 98, "dig"), ("PotHill$Steps", 100, "year"), ("PotHill$Steps", 102, "again"), ("PotHill", 361, "no such person, pot, half or place")]
def xq_So : List (Nat × Nat) := [(10, 368), (4, 94), (4, 100), (4, 102), (4, 104), (4, 105), (4, 127), (3, 87), (3, 93), (3, 95), (3, 97), (3, 99), (3, 101), (3, 103), (3, 105), (7, 88), (7, 94), (7, 96), (7, 98), (7, 100), (7, 102), (10, 361)]
theorem xq_S_on : xq_S.map (fun q => (q.1, q.2.1)) = xq_So.map (fun q => (xq_on q.1, q.2)) := rfl
def xq_by (i : Nat) : ByteArray := (xq_m i).2.1
def xq_ret (i : Nat) : Option FieldType := (xq_m i).2.2.2.1
def xq_hh (i : Nat) : List (Nat × Nat × Nat × Nat) := (xq_m i).2.2.2.2.1
def xq_na (i : Nat) : Nat := (xq_m i).2.2.2.2.2.1
def xq_kd (i : Nat) : Nat := (xq_m i).2.2.2.2.2.2.1
def xq_mo (i : Nat) : Nat := (xq_m i).2.2.2.2.2.2.2
def xq_in1 (l : List Nat) (a : Nat) : Bool := l.any fun q => Nat.beq q a
def xq_in2 (l : List (Nat × Nat)) (a b : Nat) : Bool := l.any fun q => Nat.beq q.1 a && Nat.beq q.2 b
def xq_in3 (l : List (Nat × Nat × Nat)) (a b c : Nat) : Bool := l.any fun q => Nat.beq q.1 a && (Nat.beq q.2.1 b && Nat.beq q.2.2 c)
def xq_in4 (l : List (Nat × Nat × Nat × Nat)) (a b c d : Nat) : Bool := l.any fun q => Nat.beq q.1 a && (Nat.beq q.2.1 b && (Nat.beq q.2.2.1 c && Nat.beq q.2.2.2 d))
def xq_inK (l : List (Nat × Nat × Int32)) (a b : Nat) (c : Int32) : Bool := l.any fun q => Nat.beq q.1 a && (Nat.beq q.2.1 b && decide (q.2.2 = c))
theorem xq_in1_m {l : List Nat} {a : Nat} (h : xq_in1 l a = true) : a ∈ l := by
  obtain ⟨q, hq, h⟩ := List.any_eq_true.mp h
  rw [← Nat.eq_of_beq_eq_true h]; exact hq
theorem xq_in2_m {l : List (Nat × Nat)} {a b : Nat} (h : xq_in2 l a b = true) : (a, b) ∈ l := by
  obtain ⟨q, hq, h⟩ := List.any_eq_true.mp h
  obtain ⟨h1, h2⟩ := Bool.and_eq_true_iff.mp h
  rw [← Nat.eq_of_beq_eq_true h1, ← Nat.eq_of_beq_eq_true h2]; exact hq
theorem xq_in3_m {l : List (Nat × Nat × Nat)} {a b c : Nat} (h : xq_in3 l a b c = true) : (a, b, c) ∈ l := by
  obtain ⟨q, hq, h⟩ := List.any_eq_true.mp h
  obtain ⟨h1, h⟩ := Bool.and_eq_true_iff.mp h
  obtain ⟨h2, h3⟩ := Bool.and_eq_true_iff.mp h
  rw [← Nat.eq_of_beq_eq_true h1, ← Nat.eq_of_beq_eq_true h2, ← Nat.eq_of_beq_eq_true h3]; exact hq
theorem xq_in4_m {l : List (Nat × Nat × Nat × Nat)} {a b c d : Nat} (h : xq_in4 l a b c d = true) : (a, b, c, d) ∈ l := by
  obtain ⟨q, hq, h⟩ := List.any_eq_true.mp h
  obtain ⟨h1, h⟩ := Bool.and_eq_true_iff.mp h
  obtain ⟨h2, h⟩ := Bool.and_eq_true_iff.mp h
  obtain ⟨h3, h4⟩ := Bool.and_eq_true_iff.mp h
  rw [← Nat.eq_of_beq_eq_true h1, ← Nat.eq_of_beq_eq_true h2, ← Nat.eq_of_beq_eq_true h3, ← Nat.eq_of_beq_eq_true h4]; exact hq
theorem xq_inK_m {l : List (Nat × Nat × Int32)} {a b : Nat} {c : Int32} (h : xq_inK l a b c = true) : (a, b, c) ∈ l := by
  obtain ⟨q, hq, h⟩ := List.any_eq_true.mp h
  obtain ⟨h1, h⟩ := Bool.and_eq_true_iff.mp h
  obtain ⟨h2, h3⟩ := Bool.and_eq_true_iff.mp h
  rw [← Nat.eq_of_beq_eq_true h1, ← Nat.eq_of_beq_eq_true h2, ← of_decide_eq_true h3]; exact hq
/-- what a row asks beside its decoding -/
def xq_ask (i pc : Nat) (I : xq_I) : Bool := match I.1 with
  | .iconst n => decide (Int32.ofInt n = xq_v I) && Nat.beq I.2.1 1
  | .bipush n => decide ((Int8.ofInt n).toInt32 = xq_v I) && Nat.beq I.2.1 2
  | .sipush n => decide ((Int16.ofInt n).toInt32 = xq_v I) && Nat.beq I.2.1 3
  | .ldc k => Nat.beq I.2.1 2 && cond (Nat.beq (xq_p0 I) 0) (xq_inK xq_L_kl (xq_mo i) k (xq_v I)) (decide (xq_So[xq_p1 I]? = some (xq_mo i, k)))
  | .ldc_w k => Nat.beq I.2.1 3 && (Nat.beq (xq_p0 I) 0 && xq_inK xq_L_kl (xq_mo i) k (xq_v I))
  | .iload k => Nat.beq k (xq_p0 I) && Nat.beq I.2.1 2
  | .iload_n k => Nat.beq k (xq_p0 I) && Nat.beq I.2.1 1
  | .aload k => Nat.beq k (xq_p0 I) && Nat.beq I.2.1 2
  | .aload_n k => Nat.beq k (xq_p0 I) && Nat.beq I.2.1 1
  | .istore k => Nat.beq k (xq_p0 I) && Nat.beq I.2.1 2
  | .istore_n k => Nat.beq k (xq_p0 I) && Nat.beq I.2.1 1
  | .astore k => Nat.beq k (xq_p0 I) && Nat.beq I.2.1 2
  | .astore_n k => Nat.beq k (xq_p0 I) && Nat.beq I.2.1 1
  | .iinc k n => Nat.beq k (xq_p0 I) && (decide (Int32.ofInt n = xq_v I) && Nat.beq I.2.1 3)
  | .goto o => decide ((pc : Int) + o = (xq_p0 I : Int)) && Nat.beq I.2.1 3
  | .ifCond _ o => decide ((pc : Int) + o = (xq_p0 I : Int)) && Nat.beq I.2.1 3
  | .if_icmp _ o => decide ((pc : Int) + o = (xq_p0 I : Int)) && Nat.beq I.2.1 3
  | .ifnonnull o => decide ((pc : Int) + o = (xq_p0 I : Int)) && Nat.beq I.2.1 3
  | .tableswitch d _ _ offs => decide (0 ≤ (pc : Int) + d) && offs.toList.all (fun o => decide (0 ≤ (pc : Int) + o))
  | .getfield k => Nat.beq I.2.1 3 && cond (Nat.beq (xq_p0 I) 20)
      (Nat.beq (xq_mo i) 14 && cond (Nat.beq (xq_p1 I) 0) (Nat.beq (xq_p2 I) 1 && Nat.beq k 9) (Nat.beq (xq_p1 I) 1 && (Nat.beq (xq_p2 I) 0 && Nat.beq k 15)))
      (Nat.blt (xq_p0 I) 12 && (Nat.blt (xq_p1 I) (xq_C (xq_p0 I)).2.2 && xq_in4 xq_L_fl (xq_mo i) k (xq_p0 I) (xq_p1 I)))
  | .putfield k => Nat.beq I.2.1 3 && (Nat.blt (xq_p0 I) 12 && (Nat.blt (xq_p1 I) (xq_C (xq_p0 I)).2.2 && (xq_in4 xq_L_fl (xq_mo i) k (xq_p0 I) (xq_p1 I) &&
      (cond (Nat.beq (xq_p2 I) 0) (decide (xq_tys (xq_p0 I) (xq_p1 I) = .int)) ((xq_tys (xq_p0 I) (xq_p1 I)).isReference) && cond ((xq_C (xq_p0 I)).2.1 (xq_p1 I)).2.2.2 (Nat.beq (xq_kd i) 2 && Nat.beq (xq_p0 I) (xq_mo i)) true))))
  | .getstatic k => Nat.beq I.2.1 3 && (Nat.beq (xq_mo i) 14 && cond (Nat.beq (xq_p0 I) 0) (Nat.beq k 38) (Nat.beq k 1053))
  | .newarray t => Nat.beq I.2.1 2 && ((Nat.beq (xq_p0 I) 0 && decide (t = .int)) || (Nat.beq (xq_p0 I) 1 && decide (t = .long)))
  | .anewarray k => Nat.beq I.2.1 3 && (Nat.beq (xq_mo i) 10 && Nat.beq k 47)
  | .multianewarray k n => Nat.beq I.2.1 4 && (Nat.beq n 2 && (Nat.beq (xq_mo i) 11 && Nat.beq k 38))
  | .new k => Nat.beq I.2.1 3 && cond (Nat.blt (xq_p0 I) 12) (Nat.beq (xq_C (xq_p0 I)).2.2 (xq_p1 I) && xq_in3 xq_L_ck (xq_mo i) k (xq_p0 I)) ((Nat.beq i 140 && (Nat.beq pc 19 && Nat.beq (xq_p0 I) 101)) || (Nat.beq i 141 && (Nat.beq pc 20 && Nat.beq (xq_p0 I) 100)))
  | .invokevirtual k => Nat.beq I.2.1 3 && (Nat.blt (xq_p0 I) 310 && (xq_in3 xq_L_ml (xq_mo i) k (xq_p0 I) && (Nat.beq (xq_kd (xq_p0 I)) 1 && (Nat.beq (xq_na (xq_p0 I)) (xq_p1 I) && (decide ((xq_ret (xq_p0 I)).isNone = decide (xq_v I = 0)) && cond (Nat.beq (xq_p2 I) 20) (Nat.beq (xq_mo (xq_p0 I)) 14) (Nat.blt (xq_p2 I) 12 && Nat.beq (xq_mo (xq_p0 I)) (xq_p2 I)))))))
  | .invokespecial k => Nat.beq I.2.1 3 && cond (Nat.beq (xq_p0 I) 900) (Nat.beq (xq_p1 I) 0 && xq_in2 xq_L_ol (xq_mo i) k)
      (Nat.blt (xq_p0 I) 310 && (xq_in3 xq_L_ml (xq_mo i) k (xq_p0 I) && (Nat.beq (xq_kd (xq_p0 I)) 2 && (Nat.beq (xq_na (xq_p0 I)) (xq_p1 I) && (decide (xq_ret (xq_p0 I) = none) && (Nat.blt (xq_p2 I) 12 && Nat.beq (xq_mo (xq_p0 I)) (xq_p2 I)))))))
  | .invokestatic k => Nat.beq I.2.1 3 && cond (Nat.beq (xq_p0 I) 901) (xq_in2 xq_L_al (xq_mo i) k) (cond (Nat.beq (xq_p0 I) 902) (xq_in2 xq_L_mx (xq_mo i) k) (cond (Nat.beq (xq_p0 I) 903) (xq_in2 xq_L_mn (xq_mo i) k) (cond (Nat.beq (xq_p0 I) 904) (xq_in2 xq_L_mb (xq_mo i) k)
      (!(Nat.beq (xq_mo (xq_p0 I)) 13) && (Nat.blt (xq_p0 I) 310 && (xq_in3 xq_L_ml (xq_mo i) k (xq_p0 I) && (Nat.beq (xq_kd (xq_p0 I)) 0 && (Nat.beq (xq_na (xq_p0 I)) (xq_p1 I) && decide ((xq_ret (xq_p0 I)).isNone = decide (xq_v I = 0))))))))))
  | .ireturn => Nat.beq I.2.1 1 && decide (xq_ret i = some (xq_nar (xq_p0 I)))
  | .return_ => Nat.beq I.2.1 1 && decide (xq_ret i = none)
  | _ => Nat.beq I.2.1 1
def xq_chk (i pc : Nat) (I : xq_I) : Bool := decide (decode (xq_by i) pc = .ok (I.1, I.2.1)) && xq_ask i pc I
def xq_all (i a n : Nat) : Bool := (List.range n).all fun k => match xq_code i (a + k) with
  | none => true
  | some I => xq_chk i (a + k) I
/-- a method's own words -/
def xq_mok (i : Nat) : Bool := Nat.ble (xq_loc i) 22 && (xq_in1 xq_L_init (xq_mo i) && (cond (xq_hh i).isEmpty (xq_in1 xq_L_code i) (xq_in1 xq_L_codeWith i && Nat.beq (xq_kd i) 0) && (cond (Nat.beq (xq_kd i) 0) (xq_in1 xq_L_static i) (xq_in1 xq_L_inst i) && (cond (Nat.beq (xq_kd i) 1) (xq_in1 xq_L_sel i) true && Nat.ble (xq_na i + cond (Nat.beq (xq_kd i) 0) 0 1) (xq_loc i)))))
theorem xq_moks : ((List.range 310).all xq_mok) = true := by decide +kernel
set_option maxRecDepth 100000 in
theorem xq_own_all : (List.range 311).map (fun i => (xq_m i).1.cls) = (List.range 311).map (fun i => xq_on (xq_mo i)) := rfl
theorem xq_pd0 : ((List.range 100).all fun i => decide ((parseMethodDescriptor (xq_m (i + 0)).1.desc).map (fun d => d.parameters.length) = some (xq_na (i + 0)))) = true := by decide +kernel
theorem xq_pd1 : ((List.range 100).all fun i => decide ((parseMethodDescriptor (xq_m (i + 100)).1.desc).map (fun d => d.parameters.length) = some (xq_na (i + 100)))) = true := by decide +kernel
theorem xq_pd2 : ((List.range 100).all fun i => decide ((parseMethodDescriptor (xq_m (i + 200)).1.desc).map (fun d => d.parameters.length) = some (xq_na (i + 200)))) = true := by decide +kernel
theorem xq_pd3 : ((List.range 10).all fun i => decide ((parseMethodDescriptor (xq_m (i + 300)).1.desc).map (fun d => d.parameters.length) = some (xq_na (i + 300)))) = true := by decide +kernel
