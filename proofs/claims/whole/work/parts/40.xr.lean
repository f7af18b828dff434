/-! A MACHINE WITH NAMED CELLS: a cell is (block, number); block 0: what the law's start makes (0.. PotHill, 69.. the model), block b + 1: the b-th Saved; (j, 1000 + c): row j of the int[][] at (0, c); (k, 3000), (k, 4000): String constant k, its bytes; (0, 5000): what SIOOBE_FORMATTER holds. What a cell is (xr_sh) never changes. A mode: fields of fixed target not yet written; where plan, sparePlan, ruling, spareLaw, touch, spareTouch are. A state: the next address, the slots (as in xq), the next cell, past, the ints, the references to Saveds. -/
abbrev xr_A : Type := Nat × Nat
abbrev xr_V : Type := Int32 ⊕ Option (Option xr_A)
abbrev xI (x : Int32) : xr_V := .inl x
abbrev xP (b c : Nat) : xr_V := .inr (some (some (b, c)))
abbrev xN : xr_V := .inr (some none)
abbrev xU : xr_V := .inr none
abbrev xr_M : Type := Nat → Nat → Nat → Int32
abbrev xr_D : Type := Nat → Nat → Option Nat
abbrev xr_S : Type := Nat × Nat × xr_A × Option Nat × xr_M × xr_D
abbrev xr_N : Type := List (Nat × Nat × Nat) × List Nat
abbrev xr_O : Type := Option Int32 ⊕ String
abbrev xr_R : Type := Option (xr_O × xr_N × xr_S)
def xm (S : xr_S) : xr_M := S.2.2.2.2.1
def xr_d (S : xr_S) : xr_D := S.2.2.2.2.2
def xr_past (S : xr_S) : Option Nat := S.2.2.2.1
def xw (M : xr_M) (b c k : Nat) (v : Int32) : xr_M := fun b' c' k' => if b' = b ∧ c' = c ∧ k' = k then v else M b' c' k'
def xcp (M : xr_M) (b c s b1 c1 t n : Nat) : xr_M := fun b' c' k' => if b' = b1 ∧ c' = c1 ∧ t ≤ k' ∧ k' < t + n then M b c (s + (k' - t)) else M b' c' k'
def xs (S : xr_S) (M : xr_M) : xr_S := (S.1, S.2.1, S.2.2.1, S.2.2.2.1, M, S.2.2.2.2.2)
def xr_sd (S : xr_S) (D : xr_D) : xr_S := (S.1, S.2.1, S.2.2.1, S.2.2.2.1, S.2.2.2.2.1, D)
def xr_sp (S : xr_S) (q : Option Nat) : xr_S := (S.1, S.2.1, S.2.2.1, q, S.2.2.2.2.1, S.2.2.2.2.2)
def xr_al (S : xr_S) (a k : Nat) : xr_S := (S.1 + a, S.2.1 + k, (S.2.2.1.1, S.2.2.1.2 + 1), S.2.2.2.1, S.2.2.2.2.1, S.2.2.2.2.2)
def xr_ex (S : xr_S) : xr_S := (S.1 + 1, S.2.1 + 6, S.2.2.1, S.2.2.2.1, S.2.2.2.2.1, S.2.2.2.2.2)
def xr_in (i : Int32) (n : Nat) : Bool := decide (0 ≤ i.toInt ∧ i.toInt < n)
def xk (i : Int32) : Nat := i.toInt.toNat
def xr_up (D : xr_D) (b k : Nat) (q : Option Nat) : xr_D := fun b' k' => if b' = b ∧ k' = k then q else D b' k'
def xr_isl (v : xr_V) : Bool := match v with
  | .inl _ => true
  | .inr (some _) => true
  | .inr none => false
def xr_bin (i : Instr) : Option (Int32 → Int32 → Int32) := match i with
  | .iadd => some (fun x y => x + y)
  | .isub => some (fun x y => x - y)
  | .imul => some (fun x y => x * y)
  | .iand => some (fun x y => x &&& y)
  | .ior => some (fun x y => x ||| y)
  | .ishl => some (fun x y => x <<< (y &&& 31))
  | .ishr => some (fun x y => x >>> (y &&& 31))
  | .iushr => some (fun x y => (x.toUInt32 >>> (y.toUInt32 &&& Int32.toUInt32 31)).toInt32)
  | _ => none
def xr_pure (I : xq_I) (ls st : List xr_V) : Option (List xr_V × List xr_V) := match I.1 with
  | .iconst _ => some (ls, xI (xq_v I) :: st)
  | .bipush _ => some (ls, xI (xq_v I) :: st)
  | .sipush _ => some (ls, xI (xq_v I) :: st)
  | .ldc _ => cond (Nat.beq (xq_p0 I) 0) (some (ls, xI (xq_v I) :: st)) (cond (Nat.blt (xq_p1 I) 22) (some (ls, xP (xq_p1 I) 3000 :: st)) none)
  | .ldc_w _ => cond (Nat.beq (xq_p0 I) 0) (some (ls, xI (xq_v I) :: st)) none
  | .aconst_null => some (ls, xN :: st)
  | .iload _ => match ls[xq_p0 I]? with
    | some (.inl x) => some (ls, xI x :: st)
    | _ => none
  | .iload_n _ => match ls[xq_p0 I]? with
    | some (.inl x) => some (ls, xI x :: st)
    | _ => none
  | .aload _ => match ls[xq_p0 I]? with
    | some (.inr (some z)) => some (ls, .inr (some z) :: st)
    | _ => none
  | .aload_n _ => match ls[xq_p0 I]? with
    | some (.inr (some z)) => some (ls, .inr (some z) :: st)
    | _ => none
  | .istore _ => match st with
    | .inl x :: r => cond (Nat.blt (xq_p0 I) ls.length) (some (ls.set (xq_p0 I) (xI x), r)) none
    | _ => none
  | .istore_n _ => match st with
    | .inl x :: r => cond (Nat.blt (xq_p0 I) ls.length) (some (ls.set (xq_p0 I) (xI x), r)) none
    | _ => none
  | .astore _ => match st with
    | .inr (some z) :: r => cond (Nat.blt (xq_p0 I) ls.length) (some (ls.set (xq_p0 I) (.inr (some z)), r)) none
    | _ => none
  | .astore_n _ => match st with
    | .inr (some z) :: r => cond (Nat.blt (xq_p0 I) ls.length) (some (ls.set (xq_p0 I) (.inr (some z)), r)) none
    | _ => none
  | .iinc _ _ => match ls[xq_p0 I]? with
    | some (.inl x) => some (ls.set (xq_p0 I) (xI (x + xq_v I)), st)
    | _ => none
  | .ineg => match st with
    | .inl x :: r => some (ls, xI (-x) :: r)
    | _ => none
  | .i2c => match st with
    | .inl x :: r => some (ls, xI ((x.toUInt32 % 65536).toInt32) :: r)
    | _ => none
  | .dup => match st with
    | .inl x :: r => some (ls, xI x :: xI x :: r)
    | .inr (some (some z)) :: r => cond (Nat.beq z.2 5000) none (some (ls, .inr (some (some z)) :: .inr (some (some z)) :: r))
    | _ => none
  | .pop => match st with
    | .inl _ :: r => some (ls, r)
    | .inr (some (some z)) :: r => cond (Nat.beq z.2 5000) none (some (ls, r))
    | _ => none
  | .dup2 => match st with
    | .inl x :: .inr (some (some z)) :: r => cond (Nat.beq z.2 5000) none (some (ls, xI x :: .inr (some (some z)) :: xI x :: .inr (some (some z)) :: r))
    | _ => none
  | _ => match xr_bin I.1 with
    | some f => (match st with
      | .inl y :: .inl x :: r => some (ls, xI (f x y) :: r)
      | _ => none)
    | none => none
def xr_br (c : ClassFile.Cond) (x y : Int32) (t f : xr_R) : xr_R := match c with
  | .eq => if x = y then t else f
  | .ne => if x = y then f else t
  | .lt => if x < y then t else f
  | .ge => if x < y then f else t
  | .gt => if y < x then t else f
  | .le => if y < x then f else t
/-- a field, by its code e: 0 an int; 1 past; 2 a Saved's earlier; 3.. those of the mode; 9 a String's coder; 10 + o: the cell o behind the object's own. ty: 0 an int, 1 an object, 2 an object or null -/
def xr_fld (m : xr_N) (S : xr_S) (b c k ty e : Nat) (f : xr_V → xr_R) : xr_R := cond (Nat.ble 10 e) (cond (Nat.beq ty 1 && m.1.all (fun q => !(q == (b, c, k)))) (f (xP b (c + (e - 10)))) none)
  (cond (Nat.beq e 0) (cond (Nat.beq ty 0) (f (xI (xm S b c k))) none) (cond (Nat.beq e 9) (cond (Nat.beq ty 0) (f (xI 0)) none)
  (cond (Nat.beq e 1) (cond (Nat.beq ty 2 && (Nat.beq b 0 && Nat.beq c 0)) (match xr_past S with
    | some q => f (xP q 0)
    | none => f xN) none)
  (cond (Nat.beq e 2) (cond (Nat.beq ty 2 && (Nat.beq c 0 && Nat.blt 0 b)) (match xr_d S b 0 with
    | some q => f (xP q 0)
    | none => f xN) none)
  (match m.2[e - 3]? with
    | some q => cond (Nat.beq q 0 || !(Nat.beq ty 1 && (Nat.beq b 0 && Nat.beq c 0))) none (f (xP 0 q))
    | none => none)))))
def xr_get (m : xr_N) (S : xr_S) (b c ci k ty : Nat) (f : xr_V → xr_R) : xr_R := cond (Nat.beq (xr_sh b c).1 (100 + ci)) (match (xr_sh b c).2.2[k]? with
  | some e => xr_fld m S b c k ty e f
  | none => none) none
/-- writing a field -/
def xr_put (m : xr_N) (S : xr_S) (b c ci k ty : Nat) (v : xr_V) (f : xr_N → xr_S → xr_R) : xr_R := cond (Nat.blt ci 12 && Nat.beq (xr_sh b c).1 (100 + ci)) (match (xr_sh b c).2.2[k]? with
  | some e => cond (Nat.ble 10 e)
    (match v with
      | .inr (some (some z)) => (match m.1 with
        | q :: u => if q = (b, c, k) ∧ z = (b, c + (e - 10)) then cond (Nat.beq ty 1 && Nat.blt z.2 1000) (f (u, m.2) S) none else none
        | [] => none)
      | _ => none)
    (cond (Nat.beq e 0)
      (match v with
      | .inl x => cond (Nat.beq ty 0) (f m (xs S (xw (xm S) b c k x))) none
      | _ => none)
    (cond (Nat.beq e 1)
      (match v with
      | .inr (some (some (q + 1, 0))) => cond (Nat.beq ty 2 && (Nat.beq b 0 && Nat.beq c 0)) (f m (xr_sp S (some (q + 1)))) none
      | .inr (some none) => cond (Nat.beq ty 2 && (Nat.beq b 0 && Nat.beq c 0)) (f m (xr_sp S none)) none
      | _ => none)
    (cond (Nat.beq e 2)
      (match v with
      | .inr (some (some (q + 1, 0))) => cond (Nat.beq ty 2 && (Nat.beq c 0 && Nat.blt 0 b)) (f m (xr_sd S (xr_up (xr_d S) b 0 (some (q + 1))))) none
      | .inr (some none) => cond (Nat.beq ty 2 && (Nat.beq c 0 && Nat.blt 0 b)) (f m (xr_sd S (xr_up (xr_d S) b 0 none))) none
      | _ => none)
    (cond (Nat.blt 2 e && Nat.blt e 9)
      (match v with
      | .inr (some (some (0, q + 1))) => cond (Nat.beq ty 1 && ((Nat.beq b 0 && Nat.beq c 0) && Nat.blt q 999)) (f (m.1, m.2.set (e - 3) (q + 1)) S) none
      | _ => none) none))))
  | none => none) none
def xr_iald (S : xr_S) (b c : Nat) (i : Int32) (f : Int32 → xr_R) : xr_R := cond (Nat.beq (xr_sh b c).1 0) (cond (xr_in i (xr_sh b c).2.1) (f (xm S b c (xk i))) none) none
def xr_bald (b c : Nat) (i : Int32) (f : Int32 → xr_R) : xr_R := cond (Nat.beq (xr_sh b c).1 8) (cond (xr_in i (xr_sh b c).2.1) (f (Int32.ofNat ((xr_by b).getD (xk i) 0))) none) none
def xr_aald (S : xr_S) (b c : Nat) (i : Int32) (f : xr_V → xr_R) : xr_R := cond (xr_in i (xr_sh b c).2.1) (cond (Nat.beq (xr_sh b c).1 2 && (Nat.beq b 0 && Nat.blt c 1000)) (f (xP (xk i) (1000 + c))) (cond (Nat.beq (xr_sh b c).1 3 && (Nat.beq b 0 && Nat.beq c 34)) (match xr_d S 0 (xk i) with
  | some q => f (xP q 0)
  | none => f xN) none)) none
def xr_iast (S : xr_S) (b c : Nat) (i x : Int32) (f : xr_S → xr_R) : xr_R := cond (Nat.beq (xr_sh b c).1 0) (cond (xr_in i (xr_sh b c).2.1) (f (xs S (xw (xm S) b c (xk i) x))) none) none
def xr_aast (S : xr_S) (b c : Nat) (i : Int32) (v : xr_V) (f : xr_S → xr_R) : xr_R := cond (Nat.beq (xr_sh b c).1 3 && (Nat.beq b 0 && Nat.beq c 34)) (cond (xr_in i (xr_sh b c).2.1) (match v with
  | .inr (some (some (q + 1, 0))) => f (xr_sd S (xr_up (xr_d S) 0 (xk i) (some (q + 1))))
  | .inr (some none) => f (xr_sd S (xr_up (xr_d S) 0 (xk i) none))
  | _ => none) none) none
def xr_alen (b c : Nat) (f : Int32 → xr_R) : xr_R := cond (Nat.beq (xr_sh b c).1 0 || (Nat.beq (xr_sh b c).1 8 || (Nat.beq (xr_sh b c).1 3 && (Nat.beq b 0 && Nat.beq c 34)))) (f (Int32.ofNat (xr_sh b c).2.1)) none
def xr_newa (S : xr_S) (k : Nat) (n : Int32) (f : xr_V → xr_S → xr_R) : xr_R := cond (Nat.blt S.2.2.1.2 1000 && (Nat.beq (xr_sh S.2.2.1.1 S.2.2.1.2).1 k && (Nat.beq (xr_sh S.2.2.1.1 S.2.2.1.2).2.1 (xk n) && xr_in n 100000))) (f (xP S.2.2.1.1 S.2.2.1.2) (xr_al S 1 (xk n))) none
def xr_mna (S : xr_S) (n k : Int32) (f : xr_V → xr_S → xr_R) : xr_R := cond (Nat.blt S.2.2.1.2 1000 && ((Nat.beq (xr_sh S.2.2.1.1 S.2.2.1.2).1 2 && (Nat.beq (xr_sh S.2.2.1.1 S.2.2.1.2).2.1 (xk n) && (xr_in n 100000 && xr_in k 100000))) && (Nat.beq S.2.2.1.1 0 && (Nat.beq (xr_sh 0 (1000 + S.2.2.1.2)).1 0 && Nat.beq (xr_sh 0 (1000 + S.2.2.1.2)).2.1 (xk k))))) (f (xP S.2.2.1.1 S.2.2.1.2) (xr_al S (1 + xk n) (xk n + xk n * xk k))) none
/-- the fields of fixed target of an object -/
def xr_sf (b c : Nat) (fs : List Nat) : List (Nat × Nat × Nat) := ((List.range fs.length).filter (fun k => Nat.ble 10 (fs.getD k 0))).map (fun k => (b, c, k))
def xr_tok (ci k e : Nat) : Bool := cond (Nat.beq e 0) (match xq_tys ci k with
  | .int => true
  | _ => false) (cond (Nat.beq e 2) (match xq_tys ci k with
  | .object _ => true
  | _ => false) (Nat.ble 10 e))
def xr_new (m : xr_N) (S : xr_S) (ci n : Nat) (f : xr_V → xr_N → xr_S → xr_R) : xr_R := cond (Nat.blt S.2.2.1.2 1000 && (Nat.beq (xr_sh S.2.2.1.1 S.2.2.1.2).1 (100 + ci) && (Nat.blt ci 10 && (Nat.beq (xr_sh S.2.2.1.1 S.2.2.1.2).2.1 n && (Nat.beq (xr_sh S.2.2.1.1 S.2.2.1.2).2.2.length n && (List.range n).all (fun k => xr_tok ci k ((xr_sh S.2.2.1.1 S.2.2.1.2).2.2.getD k 0))))))) (f (xP S.2.2.1.1 S.2.2.1.2) (xr_sf S.2.2.1.1 S.2.2.1.2 (xr_sh S.2.2.1.1 S.2.2.1.2).2.2 ++ m.1, m.2) (xr_al S 1 n)) none
def xr_cok (sp dp n : Int32) (n0 n1 : Nat) : Bool := decide ((0 ≤ sp.toInt ∧ 0 ≤ dp.toInt ∧ 0 ≤ n.toInt) ∧ sp.toInt + n.toInt ≤ n0 ∧ dp.toInt + n.toInt ≤ n1)
def xr_cpy (S : xr_S) (b c : Nat) (sp : Int32) (b1 c1 : Nat) (dp n : Int32) (f : xr_S → xr_R) : xr_R := cond ((Nat.beq (xr_sh b c).1 0 && Nat.beq (xr_sh b1 c1).1 0) && !(Nat.beq b b1 && Nat.beq c c1)) (cond (xr_cok sp dp n (xr_sh b c).2.1 (xr_sh b1 c1).2.1) (f (xs S (xcp (xm S) b c (xk sp) b1 c1 (xk dp) (xk n)))) none) none
def xr_cI (m : xr_N) (res : xr_R) (f : Int32 → xr_S → xr_R) : xr_R := match res with
  | some (.inl (some r), m', S) => if m' = m then f r S else none
  | some (.inr E, m', S) => if m' = m then some (.inr E, m, S) else none
  | _ => none
def xr_cV (m : xr_N) (res : xr_R) (f : xr_S → xr_R) : xr_R := match res with
  | some (.inl none, m', S) => if m' = m then f S else none
  | some (.inr E, m', S) => if m' = m then some (.inr E, m, S) else none
  | _ => none
/-- behind a constructor; a Saved's closes its block -/
def xr_cC (m : xr_N) (ci : Nat) (res : xr_R) (f : xr_S → xr_R) : xr_R := match res with
  | some (.inl none, m', S) => if m' = m then cond (Nat.beq ci 6) (cond (Nat.blt 0 S.2.2.1.1 && Nat.beq S.2.2.1.2 10) (f (S.1, S.2.1, (S.2.2.1.1 + 1, 0), S.2.2.2)) none) (f S) else none
  | _ => none
def xr_ok (p : Nat) (x : Int32) : Bool := match p with
  | 0 => true
  | 1 => decide (x = 0) || decide (x = 1)
  | 2 => decide (x = 0)
  | _ => decide (0 ≤ x.toInt ∧ x.toInt < 256)
def xr_step (i pc : Nat) (I : xq_I) (ls st : List xr_V) (m : xr_N) (S : xr_S) (K : Nat → List xr_V → List xr_V → xr_N → xr_S → xr_R) (C : Nat → List xr_V → xr_N → xr_S → xr_R) : xr_R := match xr_pure I ls st with
  | some r => K (pc + I.2.1) r.1 r.2 m S
  | none => match I.1 with
    | .goto _ => K (xq_p0 I) ls st m S
    | .ifCond c _ => match st with
      | .inl x :: r => xr_br c x 0 (K (xq_p0 I) ls r m S) (K (pc + 3) ls r m S)
      | _ => none
    | .if_icmp c _ => match st with
      | .inl y :: .inl x :: r => xr_br c x y (K (xq_p0 I) ls r m S) (K (pc + 3) ls r m S)
      | _ => none
    | .ifnonnull _ => match st with
      | .inr (some (some z)) :: r => cond (Nat.beq z.2 5000) none (K (xq_p0 I) ls r m S)
      | .inr (some none) :: r => K (pc + 3) ls r m S
      | _ => none
    | .tableswitch d lo hi offs => match st with
      | .inl x :: r => if x.toInt < lo ∨ hi < x.toInt then K ((pc : Int) + d).toNat ls r m S else (match offs[(x.toInt - lo).toNat]? with
        | some o => K ((pc : Int) + o).toNat ls r m S
        | none => none)
      | _ => none
    | .idiv => match st with
      | .inl y :: .inl x :: r => if y = 0 then none else K (pc + 1) ls (xI (x / y) :: r) m S
      | _ => none
    | .irem => match st with
      | .inl y :: .inl x :: r => if y = 0 then none else K (pc + 1) ls (xI (x - x / y * y) :: r) m S
      | _ => none
    | .getfield _ => match st with
      | .inr (some (some (b, c))) :: r => xr_get m S b c (xq_p0 I) (xq_p1 I) (xq_p2 I) (fun v => K (pc + 3) ls (v :: r) m S)
      | _ => none
    | .putfield _ => match st with
      | v :: .inr (some (some (b, c))) :: r => xr_put m S b c (xq_p0 I) (xq_p1 I) (xq_p2 I) v (fun m1 S1 => K (pc + 3) ls r m1 S1)
      | _ => none
    | .getstatic _ => cond (Nat.beq (xq_p0 I) 0) (K (pc + 3) ls (xI 1 :: st) m S) (K (pc + 3) ls (xP 0 5000 :: st) m S)
    | .iaload => match st with
      | .inl j :: .inr (some (some (b, c))) :: r => xr_iald S b c j (fun x => K (pc + 1) ls (xI x :: r) m S)
      | _ => none
    | .baload => match st with
      | .inl j :: .inr (some (some (b, c))) :: r => xr_bald b c j (fun x => K (pc + 1) ls (xI x :: r) m S)
      | _ => none
    | .aaload => match st with
      | .inl j :: .inr (some (some (b, c))) :: r => xr_aald S b c j (fun v => K (pc + 1) ls (v :: r) m S)
      | _ => none
    | .iastore => match st with
      | .inl x :: .inl j :: .inr (some (some (b, c))) :: r => xr_iast S b c j x (fun S1 => K (pc + 1) ls r m S1)
      | _ => none
    | .aastore => match st with
      | v :: .inl j :: .inr (some (some (b, c))) :: r => xr_aast S b c j v (fun S1 => K (pc + 1) ls r m S1)
      | _ => none
    | .arraylength => match st with
      | .inr (some (some (b, c))) :: r => xr_alen b c (fun n => K (pc + 1) ls (xI n :: r) m S)
      | _ => none
    | .newarray _ => match st with
      | .inl n :: r => cond (Nat.beq (xq_p0 I) 0) (xr_newa S 0 n (fun v S1 => K (pc + 2) ls (v :: r) m S1)) none
      | _ => none
    | .anewarray _ => match st with
      | .inl n :: r => xr_newa S 3 n (fun v S1 => K (pc + 3) ls (v :: r) m S1)
      | _ => none
    | .multianewarray _ _ => match st with
      | .inl k :: .inl n :: r => xr_mna S n k (fun v S1 => K (pc + 4) ls (v :: r) m S1)
      | _ => none
    | .new _ => cond (Nat.beq (xq_p0 I) 100) (match st with
        | [] => some (.inr "java/lang/IllegalArgumentException", m, xr_ex S)
        | _ => none)
      (cond (Nat.beq (xq_p0 I) 101) (match st with
        | [] => some (.inr "java/util/NoSuchElementException", m, xr_ex S)
        | _ => none)
      (xr_new m S (xq_p0 I) (xq_p1 I) (fun v m1 S1 => K (pc + 3) ls (v :: st) m1 S1)))
    | .invokevirtual _ => match st.drop (xq_p1 I) with
      | .inr (some (some (b, c))) :: r => cond ((Nat.beq (xr_sh b c).1 (100 + xq_p2 I) && (xq_ht i).isEmpty) && (Nat.ble r.length 8 && (st.take (xq_p1 I)).all xr_isl)) (match xq_v I with
        | 0 => xr_cV m (C (xq_p0 I) (xP b c :: (st.take (xq_p1 I)).reverse) m S) (fun S1 => K (pc + 3) ls r m S1)
        | _ => xr_cI m (C (xq_p0 I) (xP b c :: (st.take (xq_p1 I)).reverse) m S) (fun x S1 => K (pc + 3) ls (xI x :: r) m S1)) none
      | _ => none
    | .invokespecial _ => match st.drop (xq_p1 I) with
      | .inr (some (some (b, c))) :: r => cond (Nat.beq (xq_p0 I) 900) (cond (Nat.ble r.length 8 && !(Nat.beq c 5000)) (K (pc + 3) ls r m S) none) (cond (Nat.beq (xr_sh b c).1 (100 + xq_p2 I) && (Nat.ble r.length 8 && (st.take (xq_p1 I)).all xr_isl))
          (xr_cC (m.1.drop (xr_sf b c (xr_sh b c).2.2).length, m.2) (xq_p2 I) (C (xq_p0 I) (xP b c :: (st.take (xq_p1 I)).reverse) m S) (fun S1 => K (pc + 3) ls r (m.1.drop (xr_sf b c (xr_sh b c).2.2).length, m.2) S1)) none)
      | _ => none
    | .invokestatic _ => cond (Nat.beq (xq_p0 I) 901)
        (match st with
        | .inl n :: .inl dp :: .inr (some (some (b1, c1))) :: .inl sp :: .inr (some (some (b, c))) :: r => cond (Nat.ble r.length 8) (xr_cpy S b c sp b1 c1 dp n (fun S1 => K (pc + 3) ls r m S1)) none
        | _ => none)
        (cond (Nat.beq (xq_p0 I) 902) (match st with
        | .inl y :: .inl x :: r => cond (Nat.ble r.length 8) (K (pc + 3) ls (xI (if x < y then y else x) :: r) m S) none
        | _ => none)
        (cond (Nat.beq (xq_p0 I) 903) (match st with
        | .inl y :: .inl x :: r => cond (Nat.ble r.length 8) (K (pc + 3) ls (xI (if y < x then y else x) :: r) m S) none
        | _ => none)
        (cond (Nat.beq (xq_p0 I) 904) (match st with
        | .inl x :: r => cond (Nat.ble r.length 8) (K (pc + 3) ls (xI (if 0 ≤ x then x else 0 - x) :: r) m S) none
        | _ => none)
        (cond ((Nat.ble (st.drop (xq_p1 I)).length 8 && (xq_ht i).isEmpty) && (Nat.ble (xq_p1 I) st.length && (st.take (xq_p1 I)).all xr_isl)) (match xq_v I with
        | 0 => xr_cV m (C (xq_p0 I) (st.take (xq_p1 I)).reverse m S) (fun S1 => K (pc + 3) ls (st.drop (xq_p1 I)) m S1)
        | _ => xr_cI m (C (xq_p0 I) (st.take (xq_p1 I)).reverse m S) (fun x S1 => K (pc + 3) ls (xI x :: st.drop (xq_p1 I)) m S1)) none))))
    | .ireturn => match st with
      | [.inl x] => cond (xr_ok (xq_p0 I) x) (some (.inl (some x), m, S)) none
      | _ => none
    | .return_ => match st with
      | [] => some (.inl none, m, S)
      | _ => none
    | _ => none
def xr_entry (j : Nat) (As : List xr_V) : List xr_V := As ++ List.replicate (xq_loc j - As.length) xU
def xr_run : Nat → Nat → Nat → Nat → List xr_V → List xr_V → xr_N → xr_S → xr_R
  | 0, _, _, _, _, _, _, _ => none
  | n + 1, d, i, pc, ls, st, m, S => match xq_code i pc with
    | none => none
    | some I => xr_step i pc I ls st m S (xr_run n d i) (fun j As m1 S1 => match d with
      | 0 => none
      | d' + 1 => xr_run n d' j 0 (xr_entry j As) [] m1 S1)
