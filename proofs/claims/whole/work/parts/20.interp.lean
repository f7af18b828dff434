/-! THE INTERPRETER. A cell: an array (its kind: 0 int[], 1 long[], 2 int[][], 3 Saved[]; 8 a constant's bytes, 9 the script: never written) or an object (its class's number in vwCl; 20: a String constant). A state: the next address, the slots, the cells by address, where the String constants lie, what SIOOBE_FORMATTER holds. -/
abbrev xq_E : Type := (Nat × vp_A) ⊕ (Nat × List Value)
abbrev xq_X : Type := Nat × Nat × (Nat → Option xq_E) × (Nat → Nat) × Option Nat
def xq_isl (v : Value) : Bool := match v with
  | .int _ => true
  | .ref _ => true
  | .null => true
  | _ => false
abbrev xq_O : Type := Option Value ⊕ String
abbrev xq_R : Type := Option (xq_O × xq_X)
def xq_h (X : xq_X) (a : Nat) : Option xq_E := X.2.2.1 a
def xq_set (X : xq_X) (a : Nat) (e : xq_E) : xq_X := (X.1, X.2.1, (fun b => if b = a then some e else X.2.2.1 b), X.2.2.2)
def xq_push (X : xq_X) (n : Nat) (e : xq_E) : xq_X := (X.1 + 1, X.2.1 + n, (fun b => if b = X.1 then some e else X.2.2.1 b), X.2.2.2)
/-- constants, locals, stack, arithmetic that can't fail -/
def xq_pure (I : xq_I) (ls st : List Value) (X : xq_X) : Option (List Value × List Value) := match I.1 with
  | .iconst _ => some (ls, .int (xq_v I) :: st)
  | .bipush _ => some (ls, .int (xq_v I) :: st)
  | .sipush _ => some (ls, .int (xq_v I) :: st)
  | .ldc _ => cond (Nat.beq (xq_p0 I) 0) (some (ls, .int (xq_v I) :: st)) (some (ls, .ref (X.2.2.2.1 (xq_p1 I)) :: st))
  | .ldc_w _ => cond (Nat.beq (xq_p0 I) 0) (some (ls, .int (xq_v I) :: st)) none
  | .lconst n => some (ls, .long (Int64.ofNat (n : Nat)) :: st)
  | .aconst_null => some (ls, .null :: st)
  | .iload _ => match ls[xq_p0 I]? with
    | some (.int x) => some (ls, .int x :: st)
    | _ => none
  | .iload_n _ => match ls[xq_p0 I]? with
    | some (.int x) => some (ls, .int x :: st)
    | _ => none
  | .aload _ => match ls[xq_p0 I]? with
    | some (.ref x) => some (ls, .ref x :: st)
    | some .null => some (ls, .null :: st)
    | _ => none
  | .aload_n _ => match ls[xq_p0 I]? with
    | some (.ref x) => some (ls, .ref x :: st)
    | some .null => some (ls, .null :: st)
    | _ => none
  | .istore _ => match st with
    | .int x :: r => cond (Nat.blt (xq_p0 I) ls.length) (some (ls.set (xq_p0 I) (.int x), r)) none
    | _ => none
  | .istore_n _ => match st with
    | .int x :: r => cond (Nat.blt (xq_p0 I) ls.length) (some (ls.set (xq_p0 I) (.int x), r)) none
    | _ => none
  | .astore _ => match st with
    | .ref x :: r => cond (Nat.blt (xq_p0 I) ls.length) (some (ls.set (xq_p0 I) (.ref x), r)) none
    | .null :: r => cond (Nat.blt (xq_p0 I) ls.length) (some (ls.set (xq_p0 I) .null, r)) none
    | _ => none
  | .astore_n _ => match st with
    | .ref x :: r => cond (Nat.blt (xq_p0 I) ls.length) (some (ls.set (xq_p0 I) (.ref x), r)) none
    | .null :: r => cond (Nat.blt (xq_p0 I) ls.length) (some (ls.set (xq_p0 I) .null, r)) none
    | _ => none
  | .iinc _ _ => match ls[xq_p0 I]? with
    | some (.int x) => some (ls.set (xq_p0 I) (.int (x + xq_v I)), st)
    | _ => none
  | .iadd => match st with
    | .int y :: .int x :: r => some (ls, .int (x + y) :: r)
    | _ => none
  | .isub => match st with
    | .int y :: .int x :: r => some (ls, .int (x - y) :: r)
    | _ => none
  | .imul => match st with
    | .int y :: .int x :: r => some (ls, .int (x * y) :: r)
    | _ => none
  | .iand => match st with
    | .int y :: .int x :: r => some (ls, .int (x &&& y) :: r)
    | _ => none
  | .ior => match st with
    | .int y :: .int x :: r => some (ls, .int (x ||| y) :: r)
    | _ => none
  | .ishl => match st with
    | .int y :: .int x :: r => some (ls, .int (x <<< (y &&& 31)) :: r)
    | _ => none
  | .ishr => match st with
    | .int y :: .int x :: r => some (ls, .int (x >>> (y &&& 31)) :: r)
    | _ => none
  | .iushr => match st with
    | .int y :: .int x :: r => some (ls, .int ((x.toUInt32 >>> (y.toUInt32 &&& Int32.toUInt32 31)).toInt32) :: r)
    | _ => none
  | .ineg => match st with
    | .int x :: r => some (ls, .int (-x) :: r)
    | _ => none
  | .i2l => match st with
    | .int x :: r => some (ls, .long x.toInt64 :: r)
    | _ => none
  | .i2c => match st with
    | .int x :: r => some (ls, .int ((x.toUInt32 % 65536).toInt32) :: r)
    | _ => none
  | .lcmp => match st with
    | .long y :: .long x :: r => some (ls, .int (lg_cmp x y) :: r)
    | _ => none
  | .dup => match st with
    | .int x :: r => some (ls, .int x :: .int x :: r)
    | .ref x :: r => some (ls, .ref x :: .ref x :: r)
    | _ => none
  | .pop => match st with
    | .int x :: r => some (ls, r)
    | .ref x :: r => some (ls, r)
    | _ => none
  | .dup2 => match st with
    | .int x :: .ref a :: r => some (ls, .int x :: .ref a :: .int x :: .ref a :: r)
    | _ => none
  | _ => none
def xq_br (c : ClassFile.Cond) (x y : Int32) (t f : xq_R) : xq_R := match c with
  | .eq => if x = y then t else f
  | .ne => if x = y then f else t
  | .lt => if x < y then t else f
  | .ge => if x < y then f else t
  | .gt => if y < x then t else f
  | .le => if y < x then f else t
/-- an int field -/
def xq_getI (X : xq_X) (a ci k : Nat) (f : Int32 → xq_R) : xq_R := match xq_h X a with
  | some (.inr (c, fs)) => if c = ci then (match fs[k]? with
    | some (.int x) => f x
    | _ => none) else none
  | _ => none
/-- a field that holds an object -/
def xq_getR (X : xq_X) (a ci k : Nat) (f : Nat → xq_R) : xq_R := match xq_h X a with
  | some (.inr (c, fs)) => if c = ci then (match fs[k]? with
    | some (.ref x) => f x
    | _ => none) else none
  | _ => none
/-- a field that holds an object or null -/
def xq_getQ (X : xq_X) (a ci k : Nat) (f : Nat → xq_R) (g : xq_R) : xq_R := match xq_h X a with
  | some (.inr (c, fs)) => if c = ci then (match fs[k]? with
    | some (.ref x) => f x
    | some .null => g
    | _ => none) else none
  | _ => none
def xq_put (X : xq_X) (a ci k : Nat) (v : Value) (f : xq_X → xq_R) : xq_R := match xq_h X a with
  | some (.inr (c, fs)) => if c = ci ∧ k < fs.length then f (xq_set X a (.inr (c, fs.set k v))) else none
  | _ => none
def xq_iald (X : xq_X) (a : Nat) (i : Int32) (f : Int32 → xq_R) : xq_R := match xq_h X a with
  | some (.inl (k, n, .inl g)) => if (k = 0 ∨ k = 9) ∧ ¬ (i < 0 ∨ n ≤ i.toNatClampNeg) then f (g i.toNatClampNeg) else none
  | _ => none
def xq_bald (X : xq_X) (a : Nat) (i : Int32) (f : Int32 → xq_R) : xq_R := match xq_h X a with
  | some (.inl (k, n, .inl g)) => if k = 8 ∧ ¬ (i < 0 ∨ n ≤ i.toNatClampNeg) then f (g i.toNatClampNeg) else none
  | _ => none
def xq_lald (X : xq_X) (a : Nat) (i : Int32) (f : Int64 → xq_R) : xq_R := match xq_h X a with
  | some (.inl (k, n, .inr (.inl g))) => if k = 1 ∧ ¬ (i < 0 ∨ n ≤ i.toNatClampNeg) then f (g i.toNatClampNeg) else none
  | _ => none
/-- a row of an int[][]; a place of a Saved[]: an object, or null -/
def xq_aald (X : xq_X) (a : Nat) (i : Int32) (f : Nat → xq_R) (g : xq_R) : xq_R := match xq_h X a with
  | some (.inl (k, n, .inr (.inr (.inr (.inr h))))) => if (k = 2 ∨ k = 3) ∧ ¬ (i < 0 ∨ n ≤ i.toNatClampNeg) then (match h i.toNatClampNeg with
    | some q => f q
    | none => g) else none
  | _ => none
def xq_iast (X : xq_X) (a : Nat) (i x : Int32) (f : xq_X → xq_R) : xq_R := match xq_h X a with
  | some (.inl (k, n, .inl g)) => if k = 0 ∧ ¬ (i < 0 ∨ n ≤ i.toNatClampNeg) then f (xq_set X a (.inl (k, n, .inl (upd g i.toNatClampNeg x)))) else none
  | _ => none
def xq_last (X : xq_X) (a : Nat) (i : Int32) (x : Int64) (f : xq_X → xq_R) : xq_R := match xq_h X a with
  | some (.inl (k, n, .inr (.inl g))) => if k = 1 ∧ ¬ (i < 0 ∨ n ≤ i.toNatClampNeg) then f (xq_set X a (.inl (k, n, .inr (.inl (vp_updL g i.toNatClampNeg x))))) else none
  | _ => none
def xq_isS (X : xq_X) (r : Option Nat) : Bool := match r with
  | none => true
  | some q => match xq_h X q with
    | some (.inr (c, _)) => Nat.beq c 6
    | _ => false
def xq_aast (X : xq_X) (a : Nat) (i : Int32) (r : Option Nat) (f : xq_X → xq_R) : xq_R := match xq_h X a with
  | some (.inl (k, n, .inr (.inr (.inr (.inr h))))) => if (k = 3 ∧ xq_isS X r = true) ∧ ¬ (i < 0 ∨ n ≤ i.toNatClampNeg) then f (xq_set X a (.inl (k, n, .inr (.inr (.inr (.inr (va_up h i.toNatClampNeg r))))))) else none
  | _ => none
def xq_alen (X : xq_X) (a : Nat) (f : Int32 → xq_R) : xq_R := match xq_h X a with
  | some (.inl (_, n, _)) => f (Int32.ofNat n)
  | _ => none
/-- new int[n], new long[n] (kinds 0, 1), new Saved[n] (kind 3) -/
def xq_zero (k : Nat) : (Nat → Int32) ⊕ (Nat → Int64) ⊕ (Nat → UInt32) ⊕ (Nat → UInt64) ⊕ (Nat → Option Nat) := match k with
  | 0 => .inl (fun _ => 0)
  | 1 => .inr (.inl (fun _ => 0))
  | _ => .inr (.inr (.inr (.inr (fun _ => none))))
def xq_newa (X : xq_X) (k : Nat) (n : Int32) (f : xq_X → xq_R) : xq_R := if n < 0 ∨ 1000000 < n.toNatClampNeg then none else f (xq_push X n.toNatClampNeg (.inl (k, n.toNatClampNeg, xq_zero k)))
/-- new int[n][m] -/
def xq_grid (X : xq_X) (n m : Nat) : xq_X := (X.1 + 1 + n, X.2.1 + n + n * m, (fun b => if b = X.1 then some (.inl (2, n, .inr (.inr (.inr (.inr (fun j => if j < n then some (X.1 + 1 + j) else none)))))) else if X.1 < b ∧ b ≤ X.1 + n then some (.inl (0, m, .inl (fun _ => 0))) else X.2.2.1 b), X.2.2.2)
def xq_mna (X : xq_X) (n m : Int32) (f : xq_X → xq_R) : xq_R := if (n < 0 ∨ 1000000 < n.toNatClampNeg) ∨ (m < 0 ∨ 1000000 < m.toNatClampNeg) then none else f (xq_grid X n.toNatClampNeg m.toNatClampNeg)
def xq_cpy (X : xq_X) (a : Nat) (sp : Int32) (b : Nat) (dp n : Int32) (f : xq_X → xq_R) : xq_R := match xq_h X a, xq_h X b with
  | some (.inl (k, n0, .inl g)), some (.inl (k', n1, .inl h)) => if (k = 0 ∧ k' = 0 ∧ a ≠ b) ∧ ¬ (sp < 0 ∨ dp < 0 ∨ n < 0) ∧ sp.toNatClampNeg + n.toNatClampNeg ≤ n0 ∧ dp.toNatClampNeg + n.toNatClampNeg ≤ n1 then f (xq_set X b (.inl (k', n1, .inl (va_cpy g h sp.toNatClampNeg dp.toNatClampNeg n.toNatClampNeg)))) else none
  | _, _ => none
def xq_cI (res : xq_R) (f : Int32 → xq_X → xq_R) (g : String → xq_X → xq_R) : xq_R := match res with
  | some (.inl (some (.int r)), X) => f r X
  | some (.inr s, X) => g s X
  | _ => none
def xq_cV (res : xq_R) (f : xq_X → xq_R) (g : String → xq_X → xq_R) : xq_R := match res with
  | some (.inl none, X) => f X
  | some (.inr s, X) => g s X
  | _ => none
def xq_is (X : xq_X) (b ci : Nat) (f : xq_R) : xq_R := match xq_h X b with
  | some (.inr (c, _)) => if c = ci then f else none
  | _ => none
def xq_find (pc : Nat) (s : String) : List (Nat × Nat × Nat × Nat × String) → Option (Nat × Nat)
  | [] => none
  | (a, b, h, k, t) :: r => cond (Nat.ble a pc && Nat.blt pc b) (if t = s then some (h, k) else xq_find pc s r) (xq_find pc s r)
/-- an exception out of a call at pc: its handler's second row, or it goes on -/
def xq_exc (i pc : Nat) (ls : List Value) (K : Nat → List Value → List Value → xq_X → xq_R) (s : String) (X : xq_X) : xq_R := match xq_find pc s (xq_ht i) with
  | some (h, k) => K h (ls.set k (.retAddr 0)) [] X
  | none => some (.inr s, X)
def xq_room (st : List Value) : Bool := Nat.ble ((st.map fun v => v.category).sum) 8
def xq_dflt (ci n : Nat) : List Value := (List.range n).map (fun k => defaultValue (xq_tys ci k))
def xq_step (i pc : Nat) (I : xq_I) (ls st : List Value) (X : xq_X) (K : Nat → List Value → List Value → xq_X → xq_R) (C : Nat → List Value → xq_X → xq_R) : xq_R := match xq_pure I ls st X with
  | some r => K (pc + I.2.1) r.1 r.2 X
  | none => match I.1 with
    | .goto _ => K (xq_p0 I) ls st X
    | .ifCond c _ => match st with
      | .int x :: r => xq_br c x 0 (K (xq_p0 I) ls r X) (K (pc + 3) ls r X)
      | _ => none
    | .if_icmp c _ => match st with
      | .int y :: .int x :: r => xq_br c x y (K (xq_p0 I) ls r X) (K (pc + 3) ls r X)
      | _ => none
    | .ifnonnull _ => match st with
      | .ref _ :: r => K (xq_p0 I) ls r X
      | .null :: r => K (pc + 3) ls r X
      | _ => none
    | .tableswitch d lo hi offs => match st with
      | .int x :: r => if x.toInt < lo ∨ hi < x.toInt then K ((pc : Int) + d).toNat ls r X else (match offs[(x.toInt - lo).toNat]? with
        | some o => K ((pc : Int) + o).toNat ls r X
        | none => none)
      | _ => none
    | .idiv => match st with
      | .int y :: .int x :: r => if y = 0 then none else K (pc + 1) ls (.int (x / y) :: r) X
      | _ => none
    | .irem => match st with
      | .int y :: .int x :: r => if y = 0 then none else K (pc + 1) ls (.int (x - x / y * y) :: r) X
      | _ => none
    | .getfield _ => match st with
      | .ref a :: r => (match xq_p2 I with
        | 0 => xq_getI X a (xq_p0 I) (xq_p1 I) (fun x => K (pc + 3) ls (.int x :: r) X)
        | 1 => xq_getR X a (xq_p0 I) (xq_p1 I) (fun x => K (pc + 3) ls (.ref x :: r) X)
        | _ => xq_getQ X a (xq_p0 I) (xq_p1 I) (fun x => K (pc + 3) ls (.ref x :: r) X) (K (pc + 3) ls (.null :: r) X))
      | _ => none
    | .putfield _ => match st with
      | .int x :: .ref a :: r => cond (Nat.beq (xq_p2 I) 0) (xq_put X a (xq_p0 I) (xq_p1 I) (.int x) (fun X1 => K (pc + 3) ls r X1)) none
      | .ref x :: .ref a :: r => cond (Nat.beq (xq_p2 I) 0) none (xq_put X a (xq_p0 I) (xq_p1 I) (.ref x) (fun X1 => K (pc + 3) ls r X1))
      | .null :: .ref a :: r => cond (Nat.beq (xq_p2 I) 2) (xq_put X a (xq_p0 I) (xq_p1 I) .null (fun X1 => K (pc + 3) ls r X1)) none
      | _ => none
    | .getstatic _ => cond (Nat.beq (xq_p0 I) 0) (K (pc + 3) ls (.int 1 :: st) X) (match X.2.2.2.2 with
      | some a => K (pc + 3) ls (.ref a :: st) X
      | none => K (pc + 3) ls (.null :: st) X)
    | .iaload => match st with
      | .int j :: .ref a :: r => xq_iald X a j (fun x => K (pc + 1) ls (.int x :: r) X)
      | _ => none
    | .baload => match st with
      | .int j :: .ref a :: r => xq_bald X a j (fun x => K (pc + 1) ls (.int x :: r) X)
      | _ => none
    | .laload => match st with
      | .int j :: .ref a :: r => xq_lald X a j (fun x => K (pc + 1) ls (.long x :: r) X)
      | _ => none
    | .aaload => match st with
      | .int j :: .ref a :: r => xq_aald X a j (fun q => K (pc + 1) ls (.ref q :: r) X) (K (pc + 1) ls (.null :: r) X)
      | _ => none
    | .iastore => match st with
      | .int x :: .int j :: .ref a :: r => xq_iast X a j x (fun X1 => K (pc + 1) ls r X1)
      | _ => none
    | .lastore => match st with
      | .long x :: .int j :: .ref a :: r => xq_last X a j x (fun X1 => K (pc + 1) ls r X1)
      | _ => none
    | .aastore => match st with
      | .ref q :: .int j :: .ref a :: r => xq_aast X a j (some q) (fun X1 => K (pc + 1) ls r X1)
      | .null :: .int j :: .ref a :: r => xq_aast X a j none (fun X1 => K (pc + 1) ls r X1)
      | _ => none
    | .arraylength => match st with
      | .ref a :: r => xq_alen X a (fun n => K (pc + 1) ls (.int n :: r) X)
      | _ => none
    | .newarray _ => match st with
      | .int n :: r => xq_newa X (xq_p0 I) n (fun X1 => K (pc + 2) ls (.ref X.1 :: r) X1)
      | _ => none
    | .anewarray _ => match st with
      | .int n :: r => xq_newa X 3 n (fun X1 => K (pc + 3) ls (.ref X.1 :: r) X1)
      | _ => none
    | .multianewarray _ _ => match st with
      | .int m :: .int n :: r => xq_mna X n m (fun X1 => K (pc + 4) ls (.ref X.1 :: r) X1)
      | _ => none
    | .new _ => match xq_p0 I with
      | 100 => match st with
        | [] => some (.inr "java/lang/IllegalArgumentException", (X.1 + 1, X.2.1 + 6, X.2.2))
        | _ => none
      | 101 => match st with
        | [] => some (.inr "java/util/NoSuchElementException", (X.1 + 1, X.2.1 + 6, X.2.2))
        | _ => none
      | ci => K (pc + 3) ls (.ref X.1 :: st) (xq_push X (xq_p1 I) (.inr (ci, xq_dflt ci (xq_p1 I))))
    | .invokevirtual _ => match st.drop (xq_p1 I) with
      | .ref b :: r => xq_is X b (xq_p2 I) (cond (xq_room r && (st.take (xq_p1 I)).all xq_isl) (match xq_v I with
        | 0 => xq_cV (C (xq_p0 I) (.ref b :: (st.take (xq_p1 I)).reverse) X) (fun X1 => K (pc + 3) ls r X1) (xq_exc i pc ls K)
        | _ => xq_cI (C (xq_p0 I) (.ref b :: (st.take (xq_p1 I)).reverse) X) (fun x X1 => K (pc + 3) ls (.int x :: r) X1) (xq_exc i pc ls K)) none)
      | _ => none
    | .invokespecial _ => match st.drop (xq_p1 I) with
      | .ref b :: r => cond (Nat.beq (xq_p0 I) 900) (cond (xq_room r) (K (pc + 3) ls r X) none) (xq_is X b (xq_p2 I) (cond (xq_room r && (st.take (xq_p1 I)).all xq_isl) (xq_cV (C (xq_p0 I) (.ref b :: (st.take (xq_p1 I)).reverse) X) (fun X1 => K (pc + 3) ls r X1) (fun _ _ => none)) none))
      | _ => none
    | .invokestatic _ => cond (Nat.beq (xq_p0 I) 901)
        (match st with
        | .int n :: .int dp :: .ref b :: .int sp :: .ref a :: r => cond (xq_room r) (xq_cpy X a sp b dp n (fun X1 => K (pc + 3) ls r X1)) none
        | _ => none)
        (cond (Nat.beq (xq_p0 I) 902) (match st with
        | .int y :: .int x :: r => cond (xq_room r) (K (pc + 3) ls (.int (if x < y then y else x) :: r) X) none
        | _ => none)
        (cond (Nat.beq (xq_p0 I) 903) (match st with
        | .int y :: .int x :: r => cond (xq_room r) (K (pc + 3) ls (.int (if y < x then y else x) :: r) X) none
        | _ => none)
        (cond (Nat.beq (xq_p0 I) 904) (match st with
        | .int x :: r => cond (xq_room r) (K (pc + 3) ls (.int (if 0 ≤ x then x else 0 - x) :: r) X) none
        | _ => none)
        (cond (xq_room (st.drop (xq_p1 I)) && (Nat.ble (xq_p1 I) st.length && (st.take (xq_p1 I)).all xq_isl)) (match xq_v I with
        | 0 => xq_cV (C (xq_p0 I) (st.take (xq_p1 I)).reverse X) (fun X1 => K (pc + 3) ls (st.drop (xq_p1 I)) X1) (xq_exc i pc ls K)
        | _ => xq_cI (C (xq_p0 I) (st.take (xq_p1 I)).reverse X) (fun x X1 => K (pc + 3) ls (.int x :: st.drop (xq_p1 I)) X1) (xq_exc i pc ls K)) none))))
    | .ireturn => match st with
      | [.int x] => cond (Nat.beq (xq_p0 I) 0) (some (.inl (some (.int x)), X)) (if narrow (xq_nar (xq_p0 I)) (.int x) = .int x then some (.inl (some (.int x)), X) else none)
      | _ => none
    | .return_ => match st with
      | [] => some (.inl none, X)
      | _ => none
    | _ => none

/-- a callee's locals -/
def xq_entry (j : Nat) (As : List Value) : List Value := As ++ List.replicate (xq_loc j - As.length) (.retAddr 0)
def xq_run : Nat → Nat → Nat → Nat → List Value → List Value → xq_X → xq_R
  | 0, _, _, _, _, _, _ => none
  | n + 1, d, i, pc, ls, st, X => match xq_code i pc with
    | none => none
    | some I => xq_step i pc I ls st X (xq_run n d i) (fun j As X1 => match d with
      | 0 => none
      | d' + 1 => xq_run n d' j 0 (xq_entry j As) [] X1)
