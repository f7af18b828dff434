/-! THE LAW'S WRAPPERS AND ARMS (printed by wip/whole/law.py) -/
set_option maxRecDepth 200000 in
theorem lw282_a (d : Nat) (X : xq_X) (p o : Nat) (a1 : Int32) : xq_Run d 282 0 [.ref p, .int a1, .ref o, .retAddr 0] [] X = xq_is X p 10 (xq_cI (xq_Call d 101 [.ref p, .int a1] X) (fun r X1 => xq_Run d 282 7 [.ref p, .int a1, .ref o, .retAddr 0] [.int r, .int 0, .ref o] X1) (xq_exc 282 4 [.ref p, .int a1, .ref o, .retAddr 0] (xq_Run d 282))) := ((xq_exec_eq (fun q => Nat.beq q 4) d 282 20 0 [.ref p, .int a1, .ref o, .retAddr 0] [] X).symm).trans (xq_Run_eq d 282 4 [.ref p, .int a1, .ref o, .retAddr 0] [.int a1, .ref p, .int 0, .ref o] X)
set_option maxRecDepth 200000 in
theorem lw282_t (d : Nat) (X : xq_X) (p o : Nat) (a1 : Int32) (r : Int32) : xq_Run d 282 7 [.ref p, .int a1, .ref o, .retAddr 0] [.int r, .int 0, .ref o] X = xq_last X o 0 r.toInt64 (fun X2 => some (.inl (some (.int 0)), X2)) := (xq_exec_eq (fun _ => false) d 282 20 7 _ _ X).symm
set_option maxRecDepth 200000 in
theorem lw282_h1 (d : Nat) (X : xq_X) (p o : Nat) (a1 : Int32) : xq_Run d 282 13 [.ref p, .int a1, .ref o, .retAddr 0] [] X = some (.inl (some (.int (nI 1))), X) := (xq_exec_eq (fun _ => false) d 282 20 13 _ _ X).symm
theorem lw282_ok : wOk Int32.toInt64 282 101 1 0 1 := by
  intro d X p o l hl hp
  match l, hl with
  | [a1], _ => exact w_run (lw282_a d X p o a1) (fun r X1 => lw282_t d X1 p o a1 r) (fun h => absurd h (by decide)) (fun _ => ⟨13, 3, by decide +kernel, fun X => lw282_h1 d X p o a1⟩) hp
set_option maxRecDepth 200000 in
theorem lw283_a (d : Nat) (X : xq_X) (p o : Nat) (a1 : Int32) : xq_Run d 283 0 [.ref p, .int a1, .ref o, .retAddr 0] [] X = xq_is X p 10 (xq_cI (xq_Call d 102 [.ref p, .int a1] X) (fun r X1 => xq_Run d 283 7 [.ref p, .int a1, .ref o, .retAddr 0] [.int r, .int 0, .ref o] X1) (xq_exc 283 4 [.ref p, .int a1, .ref o, .retAddr 0] (xq_Run d 283))) := ((xq_exec_eq (fun q => Nat.beq q 4) d 283 20 0 [.ref p, .int a1, .ref o, .retAddr 0] [] X).symm).trans (xq_Run_eq d 283 4 [.ref p, .int a1, .ref o, .retAddr 0] [.int a1, .ref p, .int 0, .ref o] X)
set_option maxRecDepth 200000 in
theorem lw283_t (d : Nat) (X : xq_X) (p o : Nat) (a1 : Int32) (r : Int32) : xq_Run d 283 7 [.ref p, .int a1, .ref o, .retAddr 0] [.int r, .int 0, .ref o] X = xq_last X o 0 r.toInt64 (fun X2 => some (.inl (some (.int 0)), X2)) := (xq_exec_eq (fun _ => false) d 283 20 7 _ _ X).symm
set_option maxRecDepth 200000 in
theorem lw283_h1 (d : Nat) (X : xq_X) (p o : Nat) (a1 : Int32) : xq_Run d 283 13 [.ref p, .int a1, .ref o, .retAddr 0] [] X = some (.inl (some (.int (nI 1))), X) := (xq_exec_eq (fun _ => false) d 283 20 13 _ _ X).symm
theorem lw283_ok : wOk Int32.toInt64 283 102 1 0 1 := by
  intro d X p o l hl hp
  match l, hl with
  | [a1], _ => exact w_run (lw283_a d X p o a1) (fun r X1 => lw283_t d X1 p o a1 r) (fun h => absurd h (by decide)) (fun _ => ⟨13, 3, by decide +kernel, fun X => lw283_h1 d X p o a1⟩) hp
set_option maxRecDepth 200000 in
theorem lw284_a (d : Nat) (X : xq_X) (p o : Nat) (a1 : Int32) : xq_Run d 284 0 [.ref p, .int a1, .ref o, .retAddr 0] [] X = xq_is X p 10 (xq_cI (xq_Call d 103 [.ref p, .int a1] X) (fun r X1 => xq_Run d 284 7 [.ref p, .int a1, .ref o, .retAddr 0] [.int r, .int 0, .ref o] X1) (xq_exc 284 4 [.ref p, .int a1, .ref o, .retAddr 0] (xq_Run d 284))) := ((xq_exec_eq (fun q => Nat.beq q 4) d 284 20 0 [.ref p, .int a1, .ref o, .retAddr 0] [] X).symm).trans (xq_Run_eq d 284 4 [.ref p, .int a1, .ref o, .retAddr 0] [.int a1, .ref p, .int 0, .ref o] X)
set_option maxRecDepth 200000 in
theorem lw284_t (d : Nat) (X : xq_X) (p o : Nat) (a1 : Int32) (r : Int32) : xq_Run d 284 7 [.ref p, .int a1, .ref o, .retAddr 0] [.int r, .int 0, .ref o] X = xq_last X o 0 r.toInt64 (fun X2 => some (.inl (some (.int 0)), X2)) := (xq_exec_eq (fun _ => false) d 284 20 7 _ _ X).symm
set_option maxRecDepth 200000 in
theorem lw284_h1 (d : Nat) (X : xq_X) (p o : Nat) (a1 : Int32) : xq_Run d 284 13 [.ref p, .int a1, .ref o, .retAddr 0] [] X = some (.inl (some (.int (nI 1))), X) := (xq_exec_eq (fun _ => false) d 284 20 13 _ _ X).symm
theorem lw284_ok : wOk Int32.toInt64 284 103 1 0 1 := by
  intro d X p o l hl hp
  match l, hl with
  | [a1], _ => exact w_run (lw284_a d X p o a1) (fun r X1 => lw284_t d X1 p o a1 r) (fun h => absurd h (by decide)) (fun _ => ⟨13, 3, by decide +kernel, fun X => lw284_h1 d X p o a1⟩) hp
set_option maxRecDepth 200000 in
theorem lw285_a (d : Nat) (X : xq_X) (p o : Nat) (a1 : Int32) : xq_Run d 285 0 [.ref p, .int a1, .ref o, .retAddr 0] [] X = xq_is X p 10 (xq_cI (xq_Call d 104 [.ref p, .int a1] X) (fun r X1 => xq_Run d 285 7 [.ref p, .int a1, .ref o, .retAddr 0] [.int r, .int 0, .ref o] X1) (xq_exc 285 4 [.ref p, .int a1, .ref o, .retAddr 0] (xq_Run d 285))) := ((xq_exec_eq (fun q => Nat.beq q 4) d 285 20 0 [.ref p, .int a1, .ref o, .retAddr 0] [] X).symm).trans (xq_Run_eq d 285 4 [.ref p, .int a1, .ref o, .retAddr 0] [.int a1, .ref p, .int 0, .ref o] X)
set_option maxRecDepth 200000 in
theorem lw285_t (d : Nat) (X : xq_X) (p o : Nat) (a1 : Int32) (r : Int32) : xq_Run d 285 7 [.ref p, .int a1, .ref o, .retAddr 0] [.int r, .int 0, .ref o] X = xq_last X o 0 r.toInt64 (fun X2 => some (.inl (some (.int 0)), X2)) := (xq_exec_eq (fun _ => false) d 285 20 7 _ _ X).symm
set_option maxRecDepth 200000 in
theorem lw285_h1 (d : Nat) (X : xq_X) (p o : Nat) (a1 : Int32) : xq_Run d 285 13 [.ref p, .int a1, .ref o, .retAddr 0] [] X = some (.inl (some (.int (nI 1))), X) := (xq_exec_eq (fun _ => false) d 285 20 13 _ _ X).symm
theorem lw285_ok : wOk Int32.toInt64 285 104 1 0 1 := by
  intro d X p o l hl hp
  match l, hl with
  | [a1], _ => exact w_run (lw285_a d X p o a1) (fun r X1 => lw285_t d X1 p o a1 r) (fun h => absurd h (by decide)) (fun _ => ⟨13, 3, by decide +kernel, fun X => lw285_h1 d X p o a1⟩) hp
set_option maxRecDepth 200000 in
theorem lw286_a (d : Nat) (X : xq_X) (p o : Nat) (a1 : Int32) : xq_Run d 286 0 [.ref p, .int a1, .ref o, .retAddr 0] [] X = xq_is X p 10 (xq_cI (xq_Call d 107 [.ref p, .int a1] X) (fun r X1 => xq_Run d 286 7 [.ref p, .int a1, .ref o, .retAddr 0] [.int r, .int 0, .ref o] X1) (xq_exc 286 4 [.ref p, .int a1, .ref o, .retAddr 0] (xq_Run d 286))) := ((xq_exec_eq (fun q => Nat.beq q 4) d 286 20 0 [.ref p, .int a1, .ref o, .retAddr 0] [] X).symm).trans (xq_Run_eq d 286 4 [.ref p, .int a1, .ref o, .retAddr 0] [.int a1, .ref p, .int 0, .ref o] X)
set_option maxRecDepth 200000 in
theorem lw286_t (d : Nat) (X : xq_X) (p o : Nat) (a1 : Int32) (r : Int32) : xq_Run d 286 7 [.ref p, .int a1, .ref o, .retAddr 0] [.int r, .int 0, .ref o] X = xq_last X o 0 r.toInt64 (fun X2 => some (.inl (some (.int 0)), X2)) := (xq_exec_eq (fun _ => false) d 286 20 7 _ _ X).symm
set_option maxRecDepth 200000 in
theorem lw286_h1 (d : Nat) (X : xq_X) (p o : Nat) (a1 : Int32) : xq_Run d 286 13 [.ref p, .int a1, .ref o, .retAddr 0] [] X = some (.inl (some (.int (nI 1))), X) := (xq_exec_eq (fun _ => false) d 286 20 13 _ _ X).symm
theorem lw286_ok : wOk Int32.toInt64 286 107 1 0 1 := by
  intro d X p o l hl hp
  match l, hl with
  | [a1], _ => exact w_run (lw286_a d X p o a1) (fun r X1 => lw286_t d X1 p o a1 r) (fun h => absurd h (by decide)) (fun _ => ⟨13, 3, by decide +kernel, fun X => lw286_h1 d X p o a1⟩) hp
set_option maxRecDepth 200000 in
theorem lw287_a (d : Nat) (X : xq_X) (p o : Nat) (a1 : Int32) : xq_Run d 287 0 [.ref p, .int a1, .ref o, .retAddr 0] [] X = xq_is X p 10 (xq_cI (xq_Call d 108 [.ref p, .int a1] X) (fun r X1 => xq_Run d 287 7 [.ref p, .int a1, .ref o, .retAddr 0] [.int r, .int 0, .ref o] X1) (xq_exc 287 4 [.ref p, .int a1, .ref o, .retAddr 0] (xq_Run d 287))) := ((xq_exec_eq (fun q => Nat.beq q 4) d 287 20 0 [.ref p, .int a1, .ref o, .retAddr 0] [] X).symm).trans (xq_Run_eq d 287 4 [.ref p, .int a1, .ref o, .retAddr 0] [.int a1, .ref p, .int 0, .ref o] X)
set_option maxRecDepth 200000 in
theorem lw287_t (d : Nat) (X : xq_X) (p o : Nat) (a1 : Int32) (r : Int32) : xq_Run d 287 7 [.ref p, .int a1, .ref o, .retAddr 0] [.int r, .int 0, .ref o] X = xq_last X o 0 r.toInt64 (fun X2 => some (.inl (some (.int 0)), X2)) := (xq_exec_eq (fun _ => false) d 287 20 7 _ _ X).symm
set_option maxRecDepth 200000 in
theorem lw287_h1 (d : Nat) (X : xq_X) (p o : Nat) (a1 : Int32) : xq_Run d 287 13 [.ref p, .int a1, .ref o, .retAddr 0] [] X = some (.inl (some (.int (nI 1))), X) := (xq_exec_eq (fun _ => false) d 287 20 13 _ _ X).symm
theorem lw287_ok : wOk Int32.toInt64 287 108 1 1 0 := by
  intro d X p o l hl hp
  match l, hl with
  | [a1], _ => exact w_run (lw287_a d X p o a1) (fun r X1 => lw287_t d X1 p o a1 r) (fun _ => ⟨13, 3, by decide +kernel, fun X => lw287_h1 d X p o a1⟩) (fun h => absurd h (by decide)) hp
set_option maxRecDepth 200000 in
theorem lw288_a (d : Nat) (X : xq_X) (p o : Nat) (a1 a2 : Int32) : xq_Run d 288 0 [.ref p, .int a1, .int a2, .ref o, .retAddr 0] [] X = xq_is X p 10 (xq_cI (xq_Call d 109 [.ref p, .int a1, .int a2] X) (fun r X1 => xq_Run d 288 8 [.ref p, .int a1, .int a2, .ref o, .retAddr 0] [.int r, .int 0, .ref o] X1) (xq_exc 288 5 [.ref p, .int a1, .int a2, .ref o, .retAddr 0] (xq_Run d 288))) := ((xq_exec_eq (fun q => Nat.beq q 5) d 288 20 0 [.ref p, .int a1, .int a2, .ref o, .retAddr 0] [] X).symm).trans (xq_Run_eq d 288 5 [.ref p, .int a1, .int a2, .ref o, .retAddr 0] [.int a2, .int a1, .ref p, .int 0, .ref o] X)
set_option maxRecDepth 200000 in
theorem lw288_t (d : Nat) (X : xq_X) (p o : Nat) (a1 a2 : Int32) (r : Int32) : xq_Run d 288 8 [.ref p, .int a1, .int a2, .ref o, .retAddr 0] [.int r, .int 0, .ref o] X = xq_last X o 0 r.toInt64 (fun X2 => some (.inl (some (.int 0)), X2)) := (xq_exec_eq (fun _ => false) d 288 20 8 _ _ X).symm
set_option maxRecDepth 200000 in
theorem lw288_h1 (d : Nat) (X : xq_X) (p o : Nat) (a1 a2 : Int32) : xq_Run d 288 15 [.ref p, .int a1, .int a2, .ref o, .retAddr 0] [] X = some (.inl (some (.int (nI 1))), X) := (xq_exec_eq (fun _ => false) d 288 20 15 _ _ X).symm
set_option maxRecDepth 200000 in
theorem lw288_h2 (d : Nat) (X : xq_X) (p o : Nat) (a1 a2 : Int32) : xq_Run d 288 19 [.ref p, .int a1, .int a2, .ref o, .retAddr 0] [] X = some (.inl (some (.int (nI 2))), X) := (xq_exec_eq (fun _ => false) d 288 20 19 _ _ X).symm
theorem lw288_ok : wOk Int32.toInt64 288 109 2 1 2 := by
  intro d X p o l hl hp
  match l, hl with
  | [a1, a2], _ => exact w_run (lw288_a d X p o a1 a2) (fun r X1 => lw288_t d X1 p o a1 a2 r) (fun _ => ⟨15, 4, by decide +kernel, fun X => lw288_h1 d X p o a1 a2⟩) (fun _ => ⟨19, 4, by decide +kernel, fun X => lw288_h2 d X p o a1 a2⟩) hp
set_option maxRecDepth 200000 in
theorem lw289_a (d : Nat) (X : xq_X) (p o : Nat) (a1 a2 a3 : Int32) : xq_Run d 289 0 [.ref p, .int a1, .int a2, .int a3, .ref o, .retAddr 0] [] X = xq_is X p 10 (xq_cI (xq_Call d 110 [.ref p, .int a1, .int a2, .int a3] X) (fun r X1 => xq_Run d 289 10 [.ref p, .int a1, .int a2, .int a3, .ref o, .retAddr 0] [.int r, .int 0, .ref o] X1) (xq_exc 289 7 [.ref p, .int a1, .int a2, .int a3, .ref o, .retAddr 0] (xq_Run d 289))) := ((xq_exec_eq (fun q => Nat.beq q 7) d 289 20 0 [.ref p, .int a1, .int a2, .int a3, .ref o, .retAddr 0] [] X).symm).trans (xq_Run_eq d 289 7 [.ref p, .int a1, .int a2, .int a3, .ref o, .retAddr 0] [.int a3, .int a2, .int a1, .ref p, .int 0, .ref o] X)
set_option maxRecDepth 200000 in
theorem lw289_t (d : Nat) (X : xq_X) (p o : Nat) (a1 a2 a3 : Int32) (r : Int32) : xq_Run d 289 10 [.ref p, .int a1, .int a2, .int a3, .ref o, .retAddr 0] [.int r, .int 0, .ref o] X = xq_last X o 0 r.toInt64 (fun X2 => some (.inl (some (.int 0)), X2)) := (xq_exec_eq (fun _ => false) d 289 20 10 _ _ X).symm
set_option maxRecDepth 200000 in
theorem lw289_h1 (d : Nat) (X : xq_X) (p o : Nat) (a1 a2 a3 : Int32) : xq_Run d 289 17 [.ref p, .int a1, .int a2, .int a3, .ref o, .retAddr 0] [] X = some (.inl (some (.int (nI 1))), X) := (xq_exec_eq (fun _ => false) d 289 20 17 _ _ X).symm
theorem lw289_ok : wOk Int32.toInt64 289 110 3 1 0 := by
  intro d X p o l hl hp
  match l, hl with
  | [a1, a2, a3], _ => exact w_run (lw289_a d X p o a1 a2 a3) (fun r X1 => lw289_t d X1 p o a1 a2 a3 r) (fun _ => ⟨17, 5, by decide +kernel, fun X => lw289_h1 d X p o a1 a2 a3⟩) (fun h => absurd h (by decide)) hp
set_option maxRecDepth 200000 in
theorem lw290_a (d : Nat) (X : xq_X) (p o : Nat) (a1 a2 a3 a4 a5 a6 : Int32) : xq_Run d 290 0 [.ref p, .int a1, .int a2, .int a3, .int a4, .int a5, .int a6, .ref o, .retAddr 0] [] X = xq_is X p 10 (xq_cI (xq_Call d 111 [.ref p, .int a1, .int a2, .int a3, .int a4, .int a5, .int a6] X) (fun r X1 => xq_Run d 290 16 [.ref p, .int a1, .int a2, .int a3, .int a4, .int a5, .int a6, .ref o, .retAddr 0] [.int r, .int 0, .ref o] X1) (xq_exc 290 13 [.ref p, .int a1, .int a2, .int a3, .int a4, .int a5, .int a6, .ref o, .retAddr 0] (xq_Run d 290))) := ((xq_exec_eq (fun q => Nat.beq q 13) d 290 20 0 [.ref p, .int a1, .int a2, .int a3, .int a4, .int a5, .int a6, .ref o, .retAddr 0] [] X).symm).trans (xq_Run_eq d 290 13 [.ref p, .int a1, .int a2, .int a3, .int a4, .int a5, .int a6, .ref o, .retAddr 0] [.int a6, .int a5, .int a4, .int a3, .int a2, .int a1, .ref p, .int 0, .ref o] X)
set_option maxRecDepth 200000 in
theorem lw290_t (d : Nat) (X : xq_X) (p o : Nat) (a1 a2 a3 a4 a5 a6 : Int32) (r : Int32) : xq_Run d 290 16 [.ref p, .int a1, .int a2, .int a3, .int a4, .int a5, .int a6, .ref o, .retAddr 0] [.int r, .int 0, .ref o] X = xq_last X o 0 r.toInt64 (fun X2 => some (.inl (some (.int 0)), X2)) := (xq_exec_eq (fun _ => false) d 290 20 16 _ _ X).symm
set_option maxRecDepth 200000 in
theorem lw290_h1 (d : Nat) (X : xq_X) (p o : Nat) (a1 a2 a3 a4 a5 a6 : Int32) : xq_Run d 290 23 [.ref p, .int a1, .int a2, .int a3, .int a4, .int a5, .int a6, .ref o, .retAddr 0] [] X = some (.inl (some (.int (nI 1))), X) := (xq_exec_eq (fun _ => false) d 290 20 23 _ _ X).symm
theorem lw290_ok : wOk Int32.toInt64 290 111 6 0 1 := by
  intro d X p o l hl hp
  match l, hl with
  | [a1, a2, a3, a4, a5, a6], _ => exact w_run (lw290_a d X p o a1 a2 a3 a4 a5 a6) (fun r X1 => lw290_t d X1 p o a1 a2 a3 a4 a5 a6 r) (fun h => absurd h (by decide)) (fun _ => ⟨23, 8, by decide +kernel, fun X => lw290_h1 d X p o a1 a2 a3 a4 a5 a6⟩) hp
set_option maxRecDepth 200000 in
theorem lw291_a (d : Nat) (X : xq_X) (p o : Nat) (a1 : Int32) : xq_Run d 291 0 [.ref p, .int a1, .ref o, .retAddr 0] [] X = xq_is X p 10 (xq_cI (xq_Call d 112 [.ref p, .int a1] X) (fun r X1 => xq_Run d 291 7 [.ref p, .int a1, .ref o, .retAddr 0] [.int r, .int 0, .ref o] X1) (xq_exc 291 4 [.ref p, .int a1, .ref o, .retAddr 0] (xq_Run d 291))) := ((xq_exec_eq (fun q => Nat.beq q 4) d 291 20 0 [.ref p, .int a1, .ref o, .retAddr 0] [] X).symm).trans (xq_Run_eq d 291 4 [.ref p, .int a1, .ref o, .retAddr 0] [.int a1, .ref p, .int 0, .ref o] X)
set_option maxRecDepth 200000 in
theorem lw291_t (d : Nat) (X : xq_X) (p o : Nat) (a1 : Int32) (r : Int32) : xq_Run d 291 7 [.ref p, .int a1, .ref o, .retAddr 0] [.int r, .int 0, .ref o] X = xq_last X o 0 (fvZ r) (fun X2 => some (.inl (some (.int 0)), X2)) := by
  have e : xq_Run d 291 7 [.ref p, .int a1, .ref o, .retAddr 0] [.int r, .int 0, .ref o] X = xq_br .eq r 0 (xq_last X o 0 (Int64.ofNat 0) (fun X2 => some (.inl (some (.int 0)), X2))) (xq_last X o 0 (Int64.ofNat 1) (fun X2 => some (.inl (some (.int 0)), X2))) := (xq_exec_eq (fun _ => false) d 291 20 7 _ _ X).symm
  rw [e]
  unfold fvZ
  show (if r = 0 then _ else _) = _
  split <;> rfl
set_option maxRecDepth 200000 in
theorem lw291_h1 (d : Nat) (X : xq_X) (p o : Nat) (a1 : Int32) : xq_Run d 291 20 [.ref p, .int a1, .ref o, .retAddr 0] [] X = some (.inl (some (.int (nI 1))), X) := (xq_exec_eq (fun _ => false) d 291 20 20 _ _ X).symm
theorem lw291_ok : wOk fvZ 291 112 1 1 0 := by
  intro d X p o l hl hp
  match l, hl with
  | [a1], _ => exact w_run (lw291_a d X p o a1) (fun r X1 => lw291_t d X1 p o a1 r) (fun _ => ⟨20, 3, by decide +kernel, fun X => lw291_h1 d X p o a1⟩) (fun h => absurd h (by decide)) hp
set_option maxRecDepth 200000 in
theorem lw292_a (d : Nat) (X : xq_X) (p o : Nat) (a1 : Int32) : xq_Run d 292 0 [.ref p, .int a1, .ref o, .retAddr 0] [] X = xq_is X p 10 (xq_cI (xq_Call d 113 [.ref p, .int a1] X) (fun r X1 => xq_Run d 292 7 [.ref p, .int a1, .ref o, .retAddr 0] [.int r, .int 0, .ref o] X1) (xq_exc 292 4 [.ref p, .int a1, .ref o, .retAddr 0] (xq_Run d 292))) := ((xq_exec_eq (fun q => Nat.beq q 4) d 292 20 0 [.ref p, .int a1, .ref o, .retAddr 0] [] X).symm).trans (xq_Run_eq d 292 4 [.ref p, .int a1, .ref o, .retAddr 0] [.int a1, .ref p, .int 0, .ref o] X)
set_option maxRecDepth 200000 in
theorem lw292_t (d : Nat) (X : xq_X) (p o : Nat) (a1 : Int32) (r : Int32) : xq_Run d 292 7 [.ref p, .int a1, .ref o, .retAddr 0] [.int r, .int 0, .ref o] X = xq_last X o 0 r.toInt64 (fun X2 => some (.inl (some (.int 0)), X2)) := (xq_exec_eq (fun _ => false) d 292 20 7 _ _ X).symm
set_option maxRecDepth 200000 in
theorem lw292_h1 (d : Nat) (X : xq_X) (p o : Nat) (a1 : Int32) : xq_Run d 292 13 [.ref p, .int a1, .ref o, .retAddr 0] [] X = some (.inl (some (.int (nI 1))), X) := (xq_exec_eq (fun _ => false) d 292 20 13 _ _ X).symm
theorem lw292_ok : wOk Int32.toInt64 292 113 1 1 0 := by
  intro d X p o l hl hp
  match l, hl with
  | [a1], _ => exact w_run (lw292_a d X p o a1) (fun r X1 => lw292_t d X1 p o a1 r) (fun _ => ⟨13, 3, by decide +kernel, fun X => lw292_h1 d X p o a1⟩) (fun h => absurd h (by decide)) hp
set_option maxRecDepth 200000 in
theorem lw293_a (d : Nat) (X : xq_X) (p o : Nat) (a1 a2 : Int32) : xq_Run d 293 0 [.ref p, .int a1, .int a2, .ref o, .retAddr 0] [] X = xq_is X p 10 (xq_cI (xq_Call d 114 [.ref p, .int a1, .int a2] X) (fun r X1 => xq_Run d 293 8 [.ref p, .int a1, .int a2, .ref o, .retAddr 0] [.int r, .int 0, .ref o] X1) (xq_exc 293 5 [.ref p, .int a1, .int a2, .ref o, .retAddr 0] (xq_Run d 293))) := ((xq_exec_eq (fun q => Nat.beq q 5) d 293 20 0 [.ref p, .int a1, .int a2, .ref o, .retAddr 0] [] X).symm).trans (xq_Run_eq d 293 5 [.ref p, .int a1, .int a2, .ref o, .retAddr 0] [.int a2, .int a1, .ref p, .int 0, .ref o] X)
set_option maxRecDepth 200000 in
theorem lw293_t (d : Nat) (X : xq_X) (p o : Nat) (a1 a2 : Int32) (r : Int32) : xq_Run d 293 8 [.ref p, .int a1, .int a2, .ref o, .retAddr 0] [.int r, .int 0, .ref o] X = xq_last X o 0 r.toInt64 (fun X2 => some (.inl (some (.int 0)), X2)) := (xq_exec_eq (fun _ => false) d 293 20 8 _ _ X).symm
set_option maxRecDepth 200000 in
theorem lw293_h1 (d : Nat) (X : xq_X) (p o : Nat) (a1 a2 : Int32) : xq_Run d 293 15 [.ref p, .int a1, .int a2, .ref o, .retAddr 0] [] X = some (.inl (some (.int (nI 1))), X) := (xq_exec_eq (fun _ => false) d 293 20 15 _ _ X).symm
theorem lw293_ok : wOk Int32.toInt64 293 114 2 1 0 := by
  intro d X p o l hl hp
  match l, hl with
  | [a1, a2], _ => exact w_run (lw293_a d X p o a1 a2) (fun r X1 => lw293_t d X1 p o a1 a2 r) (fun _ => ⟨15, 4, by decide +kernel, fun X => lw293_h1 d X p o a1 a2⟩) (fun h => absurd h (by decide)) hp
set_option maxRecDepth 200000 in
theorem lw294_a (d : Nat) (X : xq_X) (p o : Nat) (a1 : Int32) : xq_Run d 294 0 [.ref p, .int a1, .ref o, .retAddr 0] [] X = xq_is X p 10 (xq_cI (xq_Call d 115 [.ref p, .int a1] X) (fun r X1 => xq_Run d 294 7 [.ref p, .int a1, .ref o, .retAddr 0] [.int r, .int 0, .ref o] X1) (xq_exc 294 4 [.ref p, .int a1, .ref o, .retAddr 0] (xq_Run d 294))) := ((xq_exec_eq (fun q => Nat.beq q 4) d 294 20 0 [.ref p, .int a1, .ref o, .retAddr 0] [] X).symm).trans (xq_Run_eq d 294 4 [.ref p, .int a1, .ref o, .retAddr 0] [.int a1, .ref p, .int 0, .ref o] X)
set_option maxRecDepth 200000 in
theorem lw294_t (d : Nat) (X : xq_X) (p o : Nat) (a1 : Int32) (r : Int32) : xq_Run d 294 7 [.ref p, .int a1, .ref o, .retAddr 0] [.int r, .int 0, .ref o] X = xq_last X o 0 r.toInt64 (fun X2 => some (.inl (some (.int 0)), X2)) := (xq_exec_eq (fun _ => false) d 294 20 7 _ _ X).symm
set_option maxRecDepth 200000 in
theorem lw294_h1 (d : Nat) (X : xq_X) (p o : Nat) (a1 : Int32) : xq_Run d 294 13 [.ref p, .int a1, .ref o, .retAddr 0] [] X = some (.inl (some (.int (nI 1))), X) := (xq_exec_eq (fun _ => false) d 294 20 13 _ _ X).symm
theorem lw294_ok : wOk Int32.toInt64 294 115 1 0 1 := by
  intro d X p o l hl hp
  match l, hl with
  | [a1], _ => exact w_run (lw294_a d X p o a1) (fun r X1 => lw294_t d X1 p o a1 r) (fun h => absurd h (by decide)) (fun _ => ⟨13, 3, by decide +kernel, fun X => lw294_h1 d X p o a1⟩) hp
set_option maxRecDepth 200000 in
theorem lw295_a (d : Nat) (X : xq_X) (p o : Nat) (a1 a2 : Int32) : xq_Run d 295 0 [.ref p, .int a1, .int a2, .ref o, .retAddr 0] [] X = xq_is X p 10 (xq_cI (xq_Call d 116 [.ref p, .int a1, .int a2] X) (fun r X1 => xq_Run d 295 8 [.ref p, .int a1, .int a2, .ref o, .retAddr 0] [.int r, .int 0, .ref o] X1) (xq_exc 295 5 [.ref p, .int a1, .int a2, .ref o, .retAddr 0] (xq_Run d 295))) := ((xq_exec_eq (fun q => Nat.beq q 5) d 295 20 0 [.ref p, .int a1, .int a2, .ref o, .retAddr 0] [] X).symm).trans (xq_Run_eq d 295 5 [.ref p, .int a1, .int a2, .ref o, .retAddr 0] [.int a2, .int a1, .ref p, .int 0, .ref o] X)
set_option maxRecDepth 200000 in
theorem lw295_t (d : Nat) (X : xq_X) (p o : Nat) (a1 a2 : Int32) (r : Int32) : xq_Run d 295 8 [.ref p, .int a1, .int a2, .ref o, .retAddr 0] [.int r, .int 0, .ref o] X = xq_last X o 0 r.toInt64 (fun X2 => some (.inl (some (.int 0)), X2)) := (xq_exec_eq (fun _ => false) d 295 20 8 _ _ X).symm
set_option maxRecDepth 200000 in
theorem lw295_h1 (d : Nat) (X : xq_X) (p o : Nat) (a1 a2 : Int32) : xq_Run d 295 15 [.ref p, .int a1, .int a2, .ref o, .retAddr 0] [] X = some (.inl (some (.int (nI 1))), X) := (xq_exec_eq (fun _ => false) d 295 20 15 _ _ X).symm
theorem lw295_ok : wOk Int32.toInt64 295 116 2 0 1 := by
  intro d X p o l hl hp
  match l, hl with
  | [a1, a2], _ => exact w_run (lw295_a d X p o a1 a2) (fun r X1 => lw295_t d X1 p o a1 a2 r) (fun h => absurd h (by decide)) (fun _ => ⟨15, 4, by decide +kernel, fun X => lw295_h1 d X p o a1 a2⟩) hp
set_option maxRecDepth 200000 in
theorem lw296_a (d : Nat) (X : xq_X) (p o : Nat) (a1 a2 : Int32) : xq_Run d 296 0 [.ref p, .int a1, .int a2, .ref o, .retAddr 0] [] X = xq_is X p 10 (xq_cI (xq_Call d 118 [.ref p, .int a1, .int a2] X) (fun r X1 => xq_Run d 296 8 [.ref p, .int a1, .int a2, .ref o, .retAddr 0] [.int r, .int 0, .ref o] X1) (xq_exc 296 5 [.ref p, .int a1, .int a2, .ref o, .retAddr 0] (xq_Run d 296))) := ((xq_exec_eq (fun q => Nat.beq q 5) d 296 20 0 [.ref p, .int a1, .int a2, .ref o, .retAddr 0] [] X).symm).trans (xq_Run_eq d 296 5 [.ref p, .int a1, .int a2, .ref o, .retAddr 0] [.int a2, .int a1, .ref p, .int 0, .ref o] X)
set_option maxRecDepth 200000 in
theorem lw296_t (d : Nat) (X : xq_X) (p o : Nat) (a1 a2 : Int32) (r : Int32) : xq_Run d 296 8 [.ref p, .int a1, .int a2, .ref o, .retAddr 0] [.int r, .int 0, .ref o] X = xq_last X o 0 r.toInt64 (fun X2 => some (.inl (some (.int 0)), X2)) := (xq_exec_eq (fun _ => false) d 296 20 8 _ _ X).symm
set_option maxRecDepth 200000 in
theorem lw296_h1 (d : Nat) (X : xq_X) (p o : Nat) (a1 a2 : Int32) : xq_Run d 296 15 [.ref p, .int a1, .int a2, .ref o, .retAddr 0] [] X = some (.inl (some (.int (nI 1))), X) := (xq_exec_eq (fun _ => false) d 296 20 15 _ _ X).symm
theorem lw296_ok : wOk Int32.toInt64 296 118 2 0 1 := by
  intro d X p o l hl hp
  match l, hl with
  | [a1, a2], _ => exact w_run (lw296_a d X p o a1 a2) (fun r X1 => lw296_t d X1 p o a1 a2 r) (fun h => absurd h (by decide)) (fun _ => ⟨15, 4, by decide +kernel, fun X => lw296_h1 d X p o a1 a2⟩) hp
set_option maxRecDepth 200000 in
theorem lw297_a (d : Nat) (X : xq_X) (p o : Nat) (a1 : Int32) : xq_Run d 297 0 [.ref p, .int a1, .ref o, .retAddr 0] [] X = xq_is X p 10 (xq_cI (xq_Call d 119 [.ref p, .int a1] X) (fun r X1 => xq_Run d 297 7 [.ref p, .int a1, .ref o, .retAddr 0] [.int r, .int 0, .ref o] X1) (xq_exc 297 4 [.ref p, .int a1, .ref o, .retAddr 0] (xq_Run d 297))) := ((xq_exec_eq (fun q => Nat.beq q 4) d 297 20 0 [.ref p, .int a1, .ref o, .retAddr 0] [] X).symm).trans (xq_Run_eq d 297 4 [.ref p, .int a1, .ref o, .retAddr 0] [.int a1, .ref p, .int 0, .ref o] X)
set_option maxRecDepth 200000 in
theorem lw297_t (d : Nat) (X : xq_X) (p o : Nat) (a1 : Int32) (r : Int32) : xq_Run d 297 7 [.ref p, .int a1, .ref o, .retAddr 0] [.int r, .int 0, .ref o] X = xq_last X o 0 r.toInt64 (fun X2 => some (.inl (some (.int 0)), X2)) := (xq_exec_eq (fun _ => false) d 297 20 7 _ _ X).symm
set_option maxRecDepth 200000 in
theorem lw297_h1 (d : Nat) (X : xq_X) (p o : Nat) (a1 : Int32) : xq_Run d 297 13 [.ref p, .int a1, .ref o, .retAddr 0] [] X = some (.inl (some (.int (nI 1))), X) := (xq_exec_eq (fun _ => false) d 297 20 13 _ _ X).symm
theorem lw297_ok : wOk Int32.toInt64 297 119 1 1 0 := by
  intro d X p o l hl hp
  match l, hl with
  | [a1], _ => exact w_run (lw297_a d X p o a1) (fun r X1 => lw297_t d X1 p o a1 r) (fun _ => ⟨13, 3, by decide +kernel, fun X => lw297_h1 d X p o a1⟩) (fun h => absurd h (by decide)) hp
set_option maxRecDepth 200000 in
theorem lw298_a (d : Nat) (X : xq_X) (p o : Nat) (a1 : Int32) : xq_Run d 298 0 [.ref p, .int a1, .ref o, .retAddr 0] [] X = xq_is X p 10 (xq_cI (xq_Call d 121 [.ref p, .int a1] X) (fun r X1 => xq_Run d 298 7 [.ref p, .int a1, .ref o, .retAddr 0] [.int r, .int 0, .ref o] X1) (xq_exc 298 4 [.ref p, .int a1, .ref o, .retAddr 0] (xq_Run d 298))) := ((xq_exec_eq (fun q => Nat.beq q 4) d 298 20 0 [.ref p, .int a1, .ref o, .retAddr 0] [] X).symm).trans (xq_Run_eq d 298 4 [.ref p, .int a1, .ref o, .retAddr 0] [.int a1, .ref p, .int 0, .ref o] X)
set_option maxRecDepth 200000 in
theorem lw298_t (d : Nat) (X : xq_X) (p o : Nat) (a1 : Int32) (r : Int32) : xq_Run d 298 7 [.ref p, .int a1, .ref o, .retAddr 0] [.int r, .int 0, .ref o] X = xq_last X o 0 r.toInt64 (fun X2 => some (.inl (some (.int 0)), X2)) := (xq_exec_eq (fun _ => false) d 298 20 7 _ _ X).symm
set_option maxRecDepth 200000 in
theorem lw298_h1 (d : Nat) (X : xq_X) (p o : Nat) (a1 : Int32) : xq_Run d 298 13 [.ref p, .int a1, .ref o, .retAddr 0] [] X = some (.inl (some (.int (nI 1))), X) := (xq_exec_eq (fun _ => false) d 298 20 13 _ _ X).symm
theorem lw298_ok : wOk Int32.toInt64 298 121 1 0 1 := by
  intro d X p o l hl hp
  match l, hl with
  | [a1], _ => exact w_run (lw298_a d X p o a1) (fun r X1 => lw298_t d X1 p o a1 r) (fun h => absurd h (by decide)) (fun _ => ⟨13, 3, by decide +kernel, fun X => lw298_h1 d X p o a1⟩) hp
set_option maxRecDepth 200000 in
theorem lw299_a (d : Nat) (X : xq_X) (p o : Nat) (a1 : Int32) : xq_Run d 299 0 [.ref p, .int a1, .ref o, .retAddr 0] [] X = xq_is X p 10 (xq_cI (xq_Call d 123 [.ref p, .int a1] X) (fun r X1 => xq_Run d 299 7 [.ref p, .int a1, .ref o, .retAddr 0] [.int r, .int 0, .ref o] X1) (xq_exc 299 4 [.ref p, .int a1, .ref o, .retAddr 0] (xq_Run d 299))) := ((xq_exec_eq (fun q => Nat.beq q 4) d 299 20 0 [.ref p, .int a1, .ref o, .retAddr 0] [] X).symm).trans (xq_Run_eq d 299 4 [.ref p, .int a1, .ref o, .retAddr 0] [.int a1, .ref p, .int 0, .ref o] X)
set_option maxRecDepth 200000 in
theorem lw299_t (d : Nat) (X : xq_X) (p o : Nat) (a1 : Int32) (r : Int32) : xq_Run d 299 7 [.ref p, .int a1, .ref o, .retAddr 0] [.int r, .int 0, .ref o] X = xq_last X o 0 r.toInt64 (fun X2 => some (.inl (some (.int 0)), X2)) := (xq_exec_eq (fun _ => false) d 299 20 7 _ _ X).symm
set_option maxRecDepth 200000 in
theorem lw299_h1 (d : Nat) (X : xq_X) (p o : Nat) (a1 : Int32) : xq_Run d 299 13 [.ref p, .int a1, .ref o, .retAddr 0] [] X = some (.inl (some (.int (nI 1))), X) := (xq_exec_eq (fun _ => false) d 299 20 13 _ _ X).symm
theorem lw299_ok : wOk Int32.toInt64 299 123 1 0 1 := by
  intro d X p o l hl hp
  match l, hl with
  | [a1], _ => exact w_run (lw299_a d X p o a1) (fun r X1 => lw299_t d X1 p o a1 r) (fun h => absurd h (by decide)) (fun _ => ⟨13, 3, by decide +kernel, fun X => lw299_h1 d X p o a1⟩) hp
set_option maxRecDepth 200000 in
theorem lw300_a (d : Nat) (X : xq_X) (p o : Nat) (a1 a2 : Int32) : xq_Run d 300 0 [.ref p, .int a1, .int a2, .ref o, .retAddr 0] [] X = xq_is X p 10 (xq_cI (xq_Call d 124 [.ref p, .int a1, .int a2] X) (fun r X1 => xq_Run d 300 8 [.ref p, .int a1, .int a2, .ref o, .retAddr 0] [.int r, .int 0, .ref o] X1) (xq_exc 300 5 [.ref p, .int a1, .int a2, .ref o, .retAddr 0] (xq_Run d 300))) := ((xq_exec_eq (fun q => Nat.beq q 5) d 300 20 0 [.ref p, .int a1, .int a2, .ref o, .retAddr 0] [] X).symm).trans (xq_Run_eq d 300 5 [.ref p, .int a1, .int a2, .ref o, .retAddr 0] [.int a2, .int a1, .ref p, .int 0, .ref o] X)
set_option maxRecDepth 200000 in
theorem lw300_t (d : Nat) (X : xq_X) (p o : Nat) (a1 a2 : Int32) (r : Int32) : xq_Run d 300 8 [.ref p, .int a1, .int a2, .ref o, .retAddr 0] [.int r, .int 0, .ref o] X = xq_last X o 0 r.toInt64 (fun X2 => some (.inl (some (.int 0)), X2)) := (xq_exec_eq (fun _ => false) d 300 20 8 _ _ X).symm
set_option maxRecDepth 200000 in
theorem lw300_h1 (d : Nat) (X : xq_X) (p o : Nat) (a1 a2 : Int32) : xq_Run d 300 15 [.ref p, .int a1, .int a2, .ref o, .retAddr 0] [] X = some (.inl (some (.int (nI 1))), X) := (xq_exec_eq (fun _ => false) d 300 20 15 _ _ X).symm
theorem lw300_ok : wOk Int32.toInt64 300 124 2 1 0 := by
  intro d X p o l hl hp
  match l, hl with
  | [a1, a2], _ => exact w_run (lw300_a d X p o a1 a2) (fun r X1 => lw300_t d X1 p o a1 a2 r) (fun _ => ⟨15, 4, by decide +kernel, fun X => lw300_h1 d X p o a1 a2⟩) (fun h => absurd h (by decide)) hp
set_option maxRecDepth 200000 in
theorem lw301_a (d : Nat) (X : xq_X) (p o : Nat) (a1 : Int32) : xq_Run d 301 0 [.ref p, .int a1, .ref o, .retAddr 0] [] X = xq_is X p 10 (xq_cI (xq_Call d 125 [.ref p, .int a1] X) (fun r X1 => xq_Run d 301 7 [.ref p, .int a1, .ref o, .retAddr 0] [.int r, .int 0, .ref o] X1) (xq_exc 301 4 [.ref p, .int a1, .ref o, .retAddr 0] (xq_Run d 301))) := ((xq_exec_eq (fun q => Nat.beq q 4) d 301 20 0 [.ref p, .int a1, .ref o, .retAddr 0] [] X).symm).trans (xq_Run_eq d 301 4 [.ref p, .int a1, .ref o, .retAddr 0] [.int a1, .ref p, .int 0, .ref o] X)
set_option maxRecDepth 200000 in
theorem lw301_t (d : Nat) (X : xq_X) (p o : Nat) (a1 : Int32) (r : Int32) : xq_Run d 301 7 [.ref p, .int a1, .ref o, .retAddr 0] [.int r, .int 0, .ref o] X = xq_last X o 0 r.toInt64 (fun X2 => some (.inl (some (.int 0)), X2)) := (xq_exec_eq (fun _ => false) d 301 20 7 _ _ X).symm
set_option maxRecDepth 200000 in
theorem lw301_h1 (d : Nat) (X : xq_X) (p o : Nat) (a1 : Int32) : xq_Run d 301 13 [.ref p, .int a1, .ref o, .retAddr 0] [] X = some (.inl (some (.int (nI 1))), X) := (xq_exec_eq (fun _ => false) d 301 20 13 _ _ X).symm
theorem lw301_ok : wOk Int32.toInt64 301 125 1 1 0 := by
  intro d X p o l hl hp
  match l, hl with
  | [a1], _ => exact w_run (lw301_a d X p o a1) (fun r X1 => lw301_t d X1 p o a1 r) (fun _ => ⟨13, 3, by decide +kernel, fun X => lw301_h1 d X p o a1⟩) (fun h => absurd h (by decide)) hp
set_option maxRecDepth 200000 in
theorem lw302_a (d : Nat) (X : xq_X) (p o : Nat) (a1 : Int32) : xq_Run d 302 0 [.ref p, .int a1, .ref o, .retAddr 0] [] X = xq_is X p 10 (xq_cI (xq_Call d 127 [.ref p, .int a1] X) (fun r X1 => xq_Run d 302 7 [.ref p, .int a1, .ref o, .retAddr 0] [.int r, .int 0, .ref o] X1) (xq_exc 302 4 [.ref p, .int a1, .ref o, .retAddr 0] (xq_Run d 302))) := ((xq_exec_eq (fun q => Nat.beq q 4) d 302 20 0 [.ref p, .int a1, .ref o, .retAddr 0] [] X).symm).trans (xq_Run_eq d 302 4 [.ref p, .int a1, .ref o, .retAddr 0] [.int a1, .ref p, .int 0, .ref o] X)
set_option maxRecDepth 200000 in
theorem lw302_t (d : Nat) (X : xq_X) (p o : Nat) (a1 : Int32) (r : Int32) : xq_Run d 302 7 [.ref p, .int a1, .ref o, .retAddr 0] [.int r, .int 0, .ref o] X = xq_last X o 0 r.toInt64 (fun X2 => some (.inl (some (.int 0)), X2)) := (xq_exec_eq (fun _ => false) d 302 20 7 _ _ X).symm
set_option maxRecDepth 200000 in
theorem lw302_h1 (d : Nat) (X : xq_X) (p o : Nat) (a1 : Int32) : xq_Run d 302 13 [.ref p, .int a1, .ref o, .retAddr 0] [] X = some (.inl (some (.int (nI 1))), X) := (xq_exec_eq (fun _ => false) d 302 20 13 _ _ X).symm
theorem lw302_ok : wOk Int32.toInt64 302 127 1 1 0 := by
  intro d X p o l hl hp
  match l, hl with
  | [a1], _ => exact w_run (lw302_a d X p o a1) (fun r X1 => lw302_t d X1 p o a1 r) (fun _ => ⟨13, 3, by decide +kernel, fun X => lw302_h1 d X p o a1⟩) (fun h => absurd h (by decide)) hp
set_option maxRecDepth 200000 in
theorem lw303_a (d : Nat) (X : xq_X) (p o : Nat) (a1 : Int32) : xq_Run d 303 0 [.ref p, .int a1, .ref o, .retAddr 0] [] X = xq_is X p 10 (xq_cI (xq_Call d 129 [.ref p, .int a1] X) (fun r X1 => xq_Run d 303 7 [.ref p, .int a1, .ref o, .retAddr 0] [.int r, .int 0, .ref o] X1) (xq_exc 303 4 [.ref p, .int a1, .ref o, .retAddr 0] (xq_Run d 303))) := ((xq_exec_eq (fun q => Nat.beq q 4) d 303 20 0 [.ref p, .int a1, .ref o, .retAddr 0] [] X).symm).trans (xq_Run_eq d 303 4 [.ref p, .int a1, .ref o, .retAddr 0] [.int a1, .ref p, .int 0, .ref o] X)
set_option maxRecDepth 200000 in
theorem lw303_t (d : Nat) (X : xq_X) (p o : Nat) (a1 : Int32) (r : Int32) : xq_Run d 303 7 [.ref p, .int a1, .ref o, .retAddr 0] [.int r, .int 0, .ref o] X = xq_last X o 0 r.toInt64 (fun X2 => some (.inl (some (.int 0)), X2)) := (xq_exec_eq (fun _ => false) d 303 20 7 _ _ X).symm
set_option maxRecDepth 200000 in
theorem lw303_h1 (d : Nat) (X : xq_X) (p o : Nat) (a1 : Int32) : xq_Run d 303 13 [.ref p, .int a1, .ref o, .retAddr 0] [] X = some (.inl (some (.int (nI 1))), X) := (xq_exec_eq (fun _ => false) d 303 20 13 _ _ X).symm
theorem lw303_ok : wOk Int32.toInt64 303 129 1 0 1 := by
  intro d X p o l hl hp
  match l, hl with
  | [a1], _ => exact w_run (lw303_a d X p o a1) (fun r X1 => lw303_t d X1 p o a1 r) (fun h => absurd h (by decide)) (fun _ => ⟨13, 3, by decide +kernel, fun X => lw303_h1 d X p o a1⟩) hp
set_option maxRecDepth 200000 in
theorem lw304_a (d : Nat) (X : xq_X) (p o : Nat) (a1 a2 : Int32) : xq_Run d 304 0 [.ref p, .int a1, .int a2, .ref o, .retAddr 0] [] X = xq_is X p 10 (xq_cI (xq_Call d 130 [.ref p, .int a1, .int a2] X) (fun r X1 => xq_Run d 304 8 [.ref p, .int a1, .int a2, .ref o, .retAddr 0] [.int r, .int 0, .ref o] X1) (xq_exc 304 5 [.ref p, .int a1, .int a2, .ref o, .retAddr 0] (xq_Run d 304))) := ((xq_exec_eq (fun q => Nat.beq q 5) d 304 20 0 [.ref p, .int a1, .int a2, .ref o, .retAddr 0] [] X).symm).trans (xq_Run_eq d 304 5 [.ref p, .int a1, .int a2, .ref o, .retAddr 0] [.int a2, .int a1, .ref p, .int 0, .ref o] X)
set_option maxRecDepth 200000 in
theorem lw304_t (d : Nat) (X : xq_X) (p o : Nat) (a1 a2 : Int32) (r : Int32) : xq_Run d 304 8 [.ref p, .int a1, .int a2, .ref o, .retAddr 0] [.int r, .int 0, .ref o] X = xq_last X o 0 r.toInt64 (fun X2 => some (.inl (some (.int 0)), X2)) := (xq_exec_eq (fun _ => false) d 304 20 8 _ _ X).symm
set_option maxRecDepth 200000 in
theorem lw304_h1 (d : Nat) (X : xq_X) (p o : Nat) (a1 a2 : Int32) : xq_Run d 304 15 [.ref p, .int a1, .int a2, .ref o, .retAddr 0] [] X = some (.inl (some (.int (nI 1))), X) := (xq_exec_eq (fun _ => false) d 304 20 15 _ _ X).symm
set_option maxRecDepth 200000 in
theorem lw304_h2 (d : Nat) (X : xq_X) (p o : Nat) (a1 a2 : Int32) : xq_Run d 304 19 [.ref p, .int a1, .int a2, .ref o, .retAddr 0] [] X = some (.inl (some (.int (nI 2))), X) := (xq_exec_eq (fun _ => false) d 304 20 19 _ _ X).symm
theorem lw304_ok : wOk Int32.toInt64 304 130 2 1 2 := by
  intro d X p o l hl hp
  match l, hl with
  | [a1, a2], _ => exact w_run (lw304_a d X p o a1 a2) (fun r X1 => lw304_t d X1 p o a1 a2 r) (fun _ => ⟨15, 4, by decide +kernel, fun X => lw304_h1 d X p o a1 a2⟩) (fun _ => ⟨19, 4, by decide +kernel, fun X => lw304_h2 d X p o a1 a2⟩) hp
set_option maxRecDepth 200000 in
theorem lw305_a (d : Nat) (X : xq_X) (p o : Nat) (a1 a2 : Int32) : xq_Run d 305 0 [.ref p, .int a1, .int a2, .ref o, .retAddr 0] [] X = xq_is X p 10 (xq_cI (xq_Call d 131 [.ref p, .int a1, .int a2] X) (fun r X1 => xq_Run d 305 8 [.ref p, .int a1, .int a2, .ref o, .retAddr 0] [.int r, .int 0, .ref o] X1) (xq_exc 305 5 [.ref p, .int a1, .int a2, .ref o, .retAddr 0] (xq_Run d 305))) := ((xq_exec_eq (fun q => Nat.beq q 5) d 305 20 0 [.ref p, .int a1, .int a2, .ref o, .retAddr 0] [] X).symm).trans (xq_Run_eq d 305 5 [.ref p, .int a1, .int a2, .ref o, .retAddr 0] [.int a2, .int a1, .ref p, .int 0, .ref o] X)
set_option maxRecDepth 200000 in
theorem lw305_t (d : Nat) (X : xq_X) (p o : Nat) (a1 a2 : Int32) (r : Int32) : xq_Run d 305 8 [.ref p, .int a1, .int a2, .ref o, .retAddr 0] [.int r, .int 0, .ref o] X = xq_last X o 0 r.toInt64 (fun X2 => some (.inl (some (.int 0)), X2)) := (xq_exec_eq (fun _ => false) d 305 20 8 _ _ X).symm
set_option maxRecDepth 200000 in
theorem lw305_h1 (d : Nat) (X : xq_X) (p o : Nat) (a1 a2 : Int32) : xq_Run d 305 15 [.ref p, .int a1, .int a2, .ref o, .retAddr 0] [] X = some (.inl (some (.int (nI 1))), X) := (xq_exec_eq (fun _ => false) d 305 20 15 _ _ X).symm
set_option maxRecDepth 200000 in
theorem lw305_h2 (d : Nat) (X : xq_X) (p o : Nat) (a1 a2 : Int32) : xq_Run d 305 19 [.ref p, .int a1, .int a2, .ref o, .retAddr 0] [] X = some (.inl (some (.int (nI 2))), X) := (xq_exec_eq (fun _ => false) d 305 20 19 _ _ X).symm
theorem lw305_ok : wOk Int32.toInt64 305 131 2 1 2 := by
  intro d X p o l hl hp
  match l, hl with
  | [a1, a2], _ => exact w_run (lw305_a d X p o a1 a2) (fun r X1 => lw305_t d X1 p o a1 a2 r) (fun _ => ⟨15, 4, by decide +kernel, fun X => lw305_h1 d X p o a1 a2⟩) (fun _ => ⟨19, 4, by decide +kernel, fun X => lw305_h2 d X p o a1 a2⟩) hp
set_option maxRecDepth 200000 in
theorem lw306_a (d : Nat) (X : xq_X) (p o : Nat) (a1 a2 : Int32) : xq_Run d 306 0 [.ref p, .int a1, .int a2, .ref o, .retAddr 0] [] X = xq_is X p 10 (xq_cI (xq_Call d 132 [.ref p, .int a1, .int a2] X) (fun r X1 => xq_Run d 306 8 [.ref p, .int a1, .int a2, .ref o, .retAddr 0] [.int r, .int 0, .ref o] X1) (xq_exc 306 5 [.ref p, .int a1, .int a2, .ref o, .retAddr 0] (xq_Run d 306))) := ((xq_exec_eq (fun q => Nat.beq q 5) d 306 20 0 [.ref p, .int a1, .int a2, .ref o, .retAddr 0] [] X).symm).trans (xq_Run_eq d 306 5 [.ref p, .int a1, .int a2, .ref o, .retAddr 0] [.int a2, .int a1, .ref p, .int 0, .ref o] X)
set_option maxRecDepth 200000 in
theorem lw306_t (d : Nat) (X : xq_X) (p o : Nat) (a1 a2 : Int32) (r : Int32) : xq_Run d 306 8 [.ref p, .int a1, .int a2, .ref o, .retAddr 0] [.int r, .int 0, .ref o] X = xq_last X o 0 r.toInt64 (fun X2 => some (.inl (some (.int 0)), X2)) := (xq_exec_eq (fun _ => false) d 306 20 8 _ _ X).symm
set_option maxRecDepth 200000 in
theorem lw306_h1 (d : Nat) (X : xq_X) (p o : Nat) (a1 a2 : Int32) : xq_Run d 306 15 [.ref p, .int a1, .int a2, .ref o, .retAddr 0] [] X = some (.inl (some (.int (nI 1))), X) := (xq_exec_eq (fun _ => false) d 306 20 15 _ _ X).symm
set_option maxRecDepth 200000 in
theorem lw306_h2 (d : Nat) (X : xq_X) (p o : Nat) (a1 a2 : Int32) : xq_Run d 306 19 [.ref p, .int a1, .int a2, .ref o, .retAddr 0] [] X = some (.inl (some (.int (nI 2))), X) := (xq_exec_eq (fun _ => false) d 306 20 19 _ _ X).symm
theorem lw306_ok : wOk Int32.toInt64 306 132 2 1 2 := by
  intro d X p o l hl hp
  match l, hl with
  | [a1, a2], _ => exact w_run (lw306_a d X p o a1 a2) (fun r X1 => lw306_t d X1 p o a1 a2 r) (fun _ => ⟨15, 4, by decide +kernel, fun X => lw306_h1 d X p o a1 a2⟩) (fun _ => ⟨19, 4, by decide +kernel, fun X => lw306_h2 d X p o a1 a2⟩) hp
set_option maxRecDepth 200000 in
theorem lw307_a (d : Nat) (X : xq_X) (p o : Nat) (a1 a2 : Int32) : xq_Run d 307 0 [.ref p, .int a1, .int a2, .ref o, .retAddr 0] [] X = xq_is X p 10 (xq_cI (xq_Call d 133 [.ref p, .int a1, .int a2] X) (fun r X1 => xq_Run d 307 8 [.ref p, .int a1, .int a2, .ref o, .retAddr 0] [.int r, .int 0, .ref o] X1) (xq_exc 307 5 [.ref p, .int a1, .int a2, .ref o, .retAddr 0] (xq_Run d 307))) := ((xq_exec_eq (fun q => Nat.beq q 5) d 307 20 0 [.ref p, .int a1, .int a2, .ref o, .retAddr 0] [] X).symm).trans (xq_Run_eq d 307 5 [.ref p, .int a1, .int a2, .ref o, .retAddr 0] [.int a2, .int a1, .ref p, .int 0, .ref o] X)
set_option maxRecDepth 200000 in
theorem lw307_t (d : Nat) (X : xq_X) (p o : Nat) (a1 a2 : Int32) (r : Int32) : xq_Run d 307 8 [.ref p, .int a1, .int a2, .ref o, .retAddr 0] [.int r, .int 0, .ref o] X = xq_last X o 0 r.toInt64 (fun X2 => some (.inl (some (.int 0)), X2)) := (xq_exec_eq (fun _ => false) d 307 20 8 _ _ X).symm
set_option maxRecDepth 200000 in
theorem lw307_h1 (d : Nat) (X : xq_X) (p o : Nat) (a1 a2 : Int32) : xq_Run d 307 15 [.ref p, .int a1, .int a2, .ref o, .retAddr 0] [] X = some (.inl (some (.int (nI 1))), X) := (xq_exec_eq (fun _ => false) d 307 20 15 _ _ X).symm
theorem lw307_ok : wOk Int32.toInt64 307 133 2 0 1 := by
  intro d X p o l hl hp
  match l, hl with
  | [a1, a2], _ => exact w_run (lw307_a d X p o a1 a2) (fun r X1 => lw307_t d X1 p o a1 a2 r) (fun h => absurd h (by decide)) (fun _ => ⟨15, 4, by decide +kernel, fun X => lw307_h1 d X p o a1 a2⟩) hp
set_option maxRecDepth 200000 in
theorem lw308_a (d : Nat) (X : xq_X) (p o : Nat) (a1 a2 a3 a4 : Int32) : xq_Run d 308 0 [.ref p, .int a1, .int a2, .int a3, .int a4, .ref o, .retAddr 0] [] X = xq_is X p 10 (xq_cI (xq_Call d 134 [.ref p, .int a1, .int a2, .int a3, .int a4] X) (fun r X1 => xq_Run d 308 12 [.ref p, .int a1, .int a2, .int a3, .int a4, .ref o, .retAddr 0] [.int r, .int 0, .ref o] X1) (xq_exc 308 9 [.ref p, .int a1, .int a2, .int a3, .int a4, .ref o, .retAddr 0] (xq_Run d 308))) := ((xq_exec_eq (fun q => Nat.beq q 9) d 308 20 0 [.ref p, .int a1, .int a2, .int a3, .int a4, .ref o, .retAddr 0] [] X).symm).trans (xq_Run_eq d 308 9 [.ref p, .int a1, .int a2, .int a3, .int a4, .ref o, .retAddr 0] [.int a4, .int a3, .int a2, .int a1, .ref p, .int 0, .ref o] X)
set_option maxRecDepth 200000 in
theorem lw308_t (d : Nat) (X : xq_X) (p o : Nat) (a1 a2 a3 a4 : Int32) (r : Int32) : xq_Run d 308 12 [.ref p, .int a1, .int a2, .int a3, .int a4, .ref o, .retAddr 0] [.int r, .int 0, .ref o] X = xq_last X o 0 r.toInt64 (fun X2 => some (.inl (some (.int 0)), X2)) := (xq_exec_eq (fun _ => false) d 308 20 12 _ _ X).symm
set_option maxRecDepth 200000 in
theorem lw308_h1 (d : Nat) (X : xq_X) (p o : Nat) (a1 a2 a3 a4 : Int32) : xq_Run d 308 19 [.ref p, .int a1, .int a2, .int a3, .int a4, .ref o, .retAddr 0] [] X = some (.inl (some (.int (nI 1))), X) := (xq_exec_eq (fun _ => false) d 308 20 19 _ _ X).symm
theorem lw308_ok : wOk Int32.toInt64 308 134 4 0 1 := by
  intro d X p o l hl hp
  match l, hl with
  | [a1, a2, a3, a4], _ => exact w_run (lw308_a d X p o a1 a2 a3 a4) (fun r X1 => lw308_t d X1 p o a1 a2 a3 a4 r) (fun h => absurd h (by decide)) (fun _ => ⟨19, 6, by decide +kernel, fun X => lw308_h1 d X p o a1 a2 a3 a4⟩) hp
set_option maxRecDepth 200000 in
theorem lw309_a (d : Nat) (X : xq_X) (p o : Nat) (a1 a2 a3 a4 a5 a6 : Int32) : xq_Run d 309 0 [.ref p, .int a1, .int a2, .int a3, .int a4, .int a5, .int a6, .ref o, .retAddr 0] [] X = xq_is X p 10 (xq_cI (xq_Call d 135 [.ref p, .int a1, .int a2, .int a3, .int a4, .int a5, .int a6] X) (fun r X1 => xq_Run d 309 16 [.ref p, .int a1, .int a2, .int a3, .int a4, .int a5, .int a6, .ref o, .retAddr 0] [.int r, .int 0, .ref o] X1) (xq_exc 309 13 [.ref p, .int a1, .int a2, .int a3, .int a4, .int a5, .int a6, .ref o, .retAddr 0] (xq_Run d 309))) := ((xq_exec_eq (fun q => Nat.beq q 13) d 309 20 0 [.ref p, .int a1, .int a2, .int a3, .int a4, .int a5, .int a6, .ref o, .retAddr 0] [] X).symm).trans (xq_Run_eq d 309 13 [.ref p, .int a1, .int a2, .int a3, .int a4, .int a5, .int a6, .ref o, .retAddr 0] [.int a6, .int a5, .int a4, .int a3, .int a2, .int a1, .ref p, .int 0, .ref o] X)
set_option maxRecDepth 200000 in
theorem lw309_t (d : Nat) (X : xq_X) (p o : Nat) (a1 a2 a3 a4 a5 a6 : Int32) (r : Int32) : xq_Run d 309 16 [.ref p, .int a1, .int a2, .int a3, .int a4, .int a5, .int a6, .ref o, .retAddr 0] [.int r, .int 0, .ref o] X = xq_last X o 0 r.toInt64 (fun X2 => some (.inl (some (.int 0)), X2)) := (xq_exec_eq (fun _ => false) d 309 20 16 _ _ X).symm
set_option maxRecDepth 200000 in
theorem lw309_h1 (d : Nat) (X : xq_X) (p o : Nat) (a1 a2 a3 a4 a5 a6 : Int32) : xq_Run d 309 23 [.ref p, .int a1, .int a2, .int a3, .int a4, .int a5, .int a6, .ref o, .retAddr 0] [] X = some (.inl (some (.int (nI 1))), X) := (xq_exec_eq (fun _ => false) d 309 20 23 _ _ X).symm
theorem lw309_ok : wOk Int32.toInt64 309 135 6 0 1 := by
  intro d X p o l hl hp
  match l, hl with
  | [a1, a2, a3, a4, a5, a6], _ => exact w_run (lw309_a d X p o a1 a2 a3 a4 a5 a6) (fun r X1 => lw309_t d X1 p o a1 a2 a3 a4 a5 a6 r) (fun h => absurd h (by decide)) (fun _ => ⟨23, 8, by decide +kernel, fun X => lw309_h1 d X p o a1 a2 a3 a4 a5 a6⟩) hp
set_option maxRecDepth 200000 in
theorem la0 (d : Nat) (b p q o : Nat) (i : Int32) (v5 v6 : Value) (X : xq_X) : xq_Run d 310 216 [.ref b, .ref p, .ref q, .ref o, .int i, v5, v6] [] X = lawB [1, 2, 3, 4, 5] d 100 156 287 v5 v6 b p q o i X := (xq_exec_eq (fun x => Nat.beq x 2323 || Nat.beq x 287) d 310 100 216 _ _ X).symm
set_option maxRecDepth 200000 in
theorem la1 (d : Nat) (b p q o : Nat) (i : Int32) (v5 v6 : Value) (X : xq_X) : xq_Run d 310 289 [.ref b, .ref p, .ref q, .ref o, .int i, v5, v6] [] X = lawA [1] d 282 175 323 340 cmpI b p q o i X := (xq_exec_eq (fun x => Nat.beq x 2323 || (Nat.beq x 323 || Nat.beq x 340)) d 310 100 289 _ _ X).symm
set_option maxRecDepth 200000 in
theorem la2 (d : Nat) (b p q o : Nat) (i : Int32) (v5 v6 : Value) (X : xq_X) : xq_Run d 310 345 [.ref b, .ref p, .ref q, .ref o, .int i, v5, v6] [] X = lawA [1] d 283 185 379 396 cmpI b p q o i X := (xq_exec_eq (fun x => Nat.beq x 2323 || (Nat.beq x 379 || Nat.beq x 396)) d 310 100 345 _ _ X).symm
set_option maxRecDepth 200000 in
theorem la3 (d : Nat) (b p q o : Nat) (i : Int32) (v5 v6 : Value) (X : xq_X) : xq_Run d 310 401 [.ref b, .ref p, .ref q, .ref o, .int i, v5, v6] [] X = lawA [1] d 284 213 435 452 cmpI b p q o i X := (xq_exec_eq (fun x => Nat.beq x 2323 || (Nat.beq x 435 || Nat.beq x 452)) d 310 100 401 _ _ X).symm
set_option maxRecDepth 200000 in
theorem la4 (d : Nat) (b p q o : Nat) (i : Int32) (v5 v6 : Value) (X : xq_X) : xq_Run d 310 457 [.ref b, .ref p, .ref q, .ref o, .int i, v5, v6] [] X = lawA [1] d 285 190 491 508 cmpI b p q o i X := (xq_exec_eq (fun x => Nat.beq x 2323 || (Nat.beq x 491 || Nat.beq x 508)) d 310 100 457 _ _ X).symm
set_option maxRecDepth 200000 in
theorem la5 (d : Nat) (b p q o : Nat) (i : Int32) (v5 v6 : Value) (X : xq_X) : xq_Run d 310 513 [.ref b, .ref p, .ref q, .ref o, .int i, v5, v6] [] X = lawB [] d 105 191 524 v5 v6 b p q o i X := (xq_exec_eq (fun x => Nat.beq x 2323 || Nat.beq x 524) d 310 100 513 _ _ X).symm
set_option maxRecDepth 200000 in
theorem la6 (d : Nat) (b p q o : Nat) (i : Int32) (v5 v6 : Value) (X : xq_X) : xq_Run d 310 526 [.ref b, .ref p, .ref q, .ref o, .int i, v5, v6] [] X = lawB [] d 106 214 537 v5 v6 b p q o i X := (xq_exec_eq (fun x => Nat.beq x 2323 || Nat.beq x 537) d 310 100 526 _ _ X).symm
set_option maxRecDepth 200000 in
theorem la7 (d : Nat) (b p q o : Nat) (i : Int32) (v5 v6 : Value) (X : xq_X) : xq_Run d 310 539 [.ref b, .ref p, .ref q, .ref o, .int i, v5, v6] [] X = lawA [1] d 286 216 573 590 cmpI b p q o i X := (xq_exec_eq (fun x => Nat.beq x 2323 || (Nat.beq x 573 || Nat.beq x 590)) d 310 100 539 _ _ X).symm
set_option maxRecDepth 200000 in
theorem la8 (d : Nat) (b p q o : Nat) (i : Int32) (v5 v6 : Value) (X : xq_X) : xq_Run d 310 595 [.ref b, .ref p, .ref q, .ref o, .int i, v5, v6] [] X = lawA [1] d 287 221 629 646 cmpI b p q o i X := (xq_exec_eq (fun x => Nat.beq x 2323 || (Nat.beq x 629 || Nat.beq x 646)) d 310 100 595 _ _ X).symm
set_option maxRecDepth 200000 in
theorem la9 (d : Nat) (b p q o : Nat) (i : Int32) (v5 v6 : Value) (X : xq_X) : xq_Run d 310 651 [.ref b, .ref p, .ref q, .ref o, .int i, v5, v6] [] X = lawA [1, 2] d 288 222 697 714 cmpI b p q o i X := (xq_exec_eq (fun x => Nat.beq x 2323 || (Nat.beq x 697 || Nat.beq x 714)) d 310 100 651 _ _ X).symm
set_option maxRecDepth 200000 in
theorem la10 (d : Nat) (b p q o : Nat) (i : Int32) (v5 v6 : Value) (X : xq_X) : xq_Run d 310 719 [.ref b, .ref p, .ref q, .ref o, .int i, v5, v6] [] X = lawA [1, 2, 3] d 289 223 777 794 cmpI b p q o i X := (xq_exec_eq (fun x => Nat.beq x 2323 || (Nat.beq x 777 || Nat.beq x 794)) d 310 100 719 _ _ X).symm
set_option maxRecDepth 200000 in
theorem la11 (d : Nat) (b p q o : Nat) (i : Int32) (v5 v6 : Value) (X : xq_X) : xq_Run d 310 799 [.ref b, .ref p, .ref q, .ref o, .int i, v5, v6] [] X = lawA [1, 2, 3, 4, 5, 6] d 290 224 895 912 cmpI b p q o i X := (xq_exec_eq (fun x => Nat.beq x 2323 || (Nat.beq x 895 || Nat.beq x 912)) d 310 100 799 _ _ X).symm
set_option maxRecDepth 200000 in
theorem la12 (d : Nat) (b p q o : Nat) (i : Int32) (v5 v6 : Value) (X : xq_X) : xq_Run d 310 917 [.ref b, .ref p, .ref q, .ref o, .int i, v5, v6] [] X = lawA [1] d 291 227 951 975 cmpZ b p q o i X := (xq_exec_eq (fun x => Nat.beq x 2323 || (Nat.beq x 951 || Nat.beq x 975)) d 310 100 917 _ _ X).symm
set_option maxRecDepth 200000 in
theorem la13 (d : Nat) (b p q o : Nat) (i : Int32) (v5 v6 : Value) (X : xq_X) : xq_Run d 310 980 [.ref b, .ref p, .ref q, .ref o, .int i, v5, v6] [] X = lawA [1] d 292 228 1014 1031 cmpI b p q o i X := (xq_exec_eq (fun x => Nat.beq x 2323 || (Nat.beq x 1014 || Nat.beq x 1031)) d 310 100 980 _ _ X).symm
set_option maxRecDepth 200000 in
theorem la14 (d : Nat) (b p q o : Nat) (i : Int32) (v5 v6 : Value) (X : xq_X) : xq_Run d 310 1036 [.ref b, .ref p, .ref q, .ref o, .int i, v5, v6] [] X = lawA [1, 2] d 293 230 1082 1099 cmpI b p q o i X := (xq_exec_eq (fun x => Nat.beq x 2323 || (Nat.beq x 1082 || Nat.beq x 1099)) d 310 100 1036 _ _ X).symm
set_option maxRecDepth 200000 in
theorem la15 (d : Nat) (b p q o : Nat) (i : Int32) (v5 v6 : Value) (X : xq_X) : xq_Run d 310 1104 [.ref b, .ref p, .ref q, .ref o, .int i, v5, v6] [] X = lawA [1] d 294 238 1138 1155 cmpI b p q o i X := (xq_exec_eq (fun x => Nat.beq x 2323 || (Nat.beq x 1138 || Nat.beq x 1155)) d 310 100 1104 _ _ X).symm
set_option maxRecDepth 200000 in
theorem la16 (d : Nat) (b p q o : Nat) (i : Int32) (v5 v6 : Value) (X : xq_X) : xq_Run d 310 1160 [.ref b, .ref p, .ref q, .ref o, .int i, v5, v6] [] X = lawA [1, 2] d 295 239 1206 1223 cmpI b p q o i X := (xq_exec_eq (fun x => Nat.beq x 2323 || (Nat.beq x 1206 || Nat.beq x 1223)) d 310 100 1160 _ _ X).symm
set_option maxRecDepth 200000 in
theorem la17 (d : Nat) (b p q o : Nat) (i : Int32) (v5 v6 : Value) (X : xq_X) : xq_Run d 310 1228 [.ref b, .ref p, .ref q, .ref o, .int i, v5, v6] [] X = lawB [] d 117 241 1239 v5 v6 b p q o i X := (xq_exec_eq (fun x => Nat.beq x 2323 || Nat.beq x 1239) d 310 100 1228 _ _ X).symm
set_option maxRecDepth 200000 in
theorem la18 (d : Nat) (b p q o : Nat) (i : Int32) (v5 v6 : Value) (X : xq_X) : xq_Run d 310 1241 [.ref b, .ref p, .ref q, .ref o, .int i, v5, v6] [] X = lawA [1, 2] d 296 242 1287 1304 cmpI b p q o i X := (xq_exec_eq (fun x => Nat.beq x 2323 || (Nat.beq x 1287 || Nat.beq x 1304)) d 310 100 1241 _ _ X).symm
set_option maxRecDepth 200000 in
theorem la19 (d : Nat) (b p q o : Nat) (i : Int32) (v5 v6 : Value) (X : xq_X) : xq_Run d 310 1309 [.ref b, .ref p, .ref q, .ref o, .int i, v5, v6] [] X = lawA [1] d 297 243 1343 1360 cmpI b p q o i X := (xq_exec_eq (fun x => Nat.beq x 2323 || (Nat.beq x 1343 || Nat.beq x 1360)) d 310 100 1309 _ _ X).symm
set_option maxRecDepth 200000 in
theorem la20 (d : Nat) (b p q o : Nat) (i : Int32) (v5 v6 : Value) (X : xq_X) : xq_Run d 310 1365 [.ref b, .ref p, .ref q, .ref o, .int i, v5, v6] [] X = lawB [] d 120 245 1376 v5 v6 b p q o i X := (xq_exec_eq (fun x => Nat.beq x 2323 || Nat.beq x 1376) d 310 100 1365 _ _ X).symm
set_option maxRecDepth 200000 in
theorem la21 (d : Nat) (b p q o : Nat) (i : Int32) (v5 v6 : Value) (X : xq_X) : xq_Run d 310 1378 [.ref b, .ref p, .ref q, .ref o, .int i, v5, v6] [] X = lawA [1] d 298 246 1412 1429 cmpI b p q o i X := (xq_exec_eq (fun x => Nat.beq x 2323 || (Nat.beq x 1412 || Nat.beq x 1429)) d 310 100 1378 _ _ X).symm
set_option maxRecDepth 200000 in
theorem la22 (d : Nat) (b p q o : Nat) (i : Int32) (v5 v6 : Value) (X : xq_X) : xq_Run d 310 1434 [.ref b, .ref p, .ref q, .ref o, .int i, v5, v6] [] X = lawB [] d 122 249 1445 v5 v6 b p q o i X := (xq_exec_eq (fun x => Nat.beq x 2323 || Nat.beq x 1445) d 310 100 1434 _ _ X).symm
set_option maxRecDepth 200000 in
theorem la23 (d : Nat) (b p q o : Nat) (i : Int32) (v5 v6 : Value) (X : xq_X) : xq_Run d 310 1447 [.ref b, .ref p, .ref q, .ref o, .int i, v5, v6] [] X = lawA [1] d 299 252 1481 1498 cmpI b p q o i X := (xq_exec_eq (fun x => Nat.beq x 2323 || (Nat.beq x 1481 || Nat.beq x 1498)) d 310 100 1447 _ _ X).symm
set_option maxRecDepth 200000 in
theorem la24 (d : Nat) (b p q o : Nat) (i : Int32) (v5 v6 : Value) (X : xq_X) : xq_Run d 310 1503 [.ref b, .ref p, .ref q, .ref o, .int i, v5, v6] [] X = lawA [1, 2] d 300 254 1549 1566 cmpI b p q o i X := (xq_exec_eq (fun x => Nat.beq x 2323 || (Nat.beq x 1549 || Nat.beq x 1566)) d 310 100 1503 _ _ X).symm
set_option maxRecDepth 200000 in
theorem la25 (d : Nat) (b p q o : Nat) (i : Int32) (v5 v6 : Value) (X : xq_X) : xq_Run d 310 1571 [.ref b, .ref p, .ref q, .ref o, .int i, v5, v6] [] X = lawA [1] d 301 255 1605 1622 cmpI b p q o i X := (xq_exec_eq (fun x => Nat.beq x 2323 || (Nat.beq x 1605 || Nat.beq x 1622)) d 310 100 1571 _ _ X).symm
set_option maxRecDepth 200000 in
theorem la26 (d : Nat) (b p q o : Nat) (i : Int32) (v5 v6 : Value) (X : xq_X) : xq_Run d 310 1627 [.ref b, .ref p, .ref q, .ref o, .int i, v5, v6] [] X = lawB [] d 126 258 1638 v5 v6 b p q o i X := (xq_exec_eq (fun x => Nat.beq x 2323 || Nat.beq x 1638) d 310 100 1627 _ _ X).symm
set_option maxRecDepth 200000 in
theorem la27 (d : Nat) (b p q o : Nat) (i : Int32) (v5 v6 : Value) (X : xq_X) : xq_Run d 310 1640 [.ref b, .ref p, .ref q, .ref o, .int i, v5, v6] [] X = lawA [1] d 302 232 1674 1691 cmpI b p q o i X := (xq_exec_eq (fun x => Nat.beq x 2323 || (Nat.beq x 1674 || Nat.beq x 1691)) d 310 100 1640 _ _ X).symm
set_option maxRecDepth 200000 in
theorem la28 (d : Nat) (b p q o : Nat) (i : Int32) (v5 v6 : Value) (X : xq_X) : xq_Run d 310 1696 [.ref b, .ref p, .ref q, .ref o, .int i, v5, v6] [] X = lawB [] d 128 233 1707 v5 v6 b p q o i X := (xq_exec_eq (fun x => Nat.beq x 2323 || Nat.beq x 1707) d 310 100 1696 _ _ X).symm
set_option maxRecDepth 200000 in
theorem la29 (d : Nat) (b p q o : Nat) (i : Int32) (v5 v6 : Value) (X : xq_X) : xq_Run d 310 1709 [.ref b, .ref p, .ref q, .ref o, .int i, v5, v6] [] X = lawA [1] d 303 235 1743 1760 cmpI b p q o i X := (xq_exec_eq (fun x => Nat.beq x 2323 || (Nat.beq x 1743 || Nat.beq x 1760)) d 310 100 1709 _ _ X).symm
set_option maxRecDepth 200000 in
theorem la30 (d : Nat) (b p q o : Nat) (i : Int32) (v5 v6 : Value) (X : xq_X) : xq_Run d 310 1765 [.ref b, .ref p, .ref q, .ref o, .int i, v5, v6] [] X = lawA [1, 2] d 304 237 1811 1828 cmpI b p q o i X := (xq_exec_eq (fun x => Nat.beq x 2323 || (Nat.beq x 1811 || Nat.beq x 1828)) d 310 100 1765 _ _ X).symm
set_option maxRecDepth 200000 in
theorem la31 (d : Nat) (b p q o : Nat) (i : Int32) (v5 v6 : Value) (X : xq_X) : xq_Run d 310 1833 [.ref b, .ref p, .ref q, .ref o, .int i, v5, v6] [] X = lawA [1, 2] d 305 225 1879 1896 cmpI b p q o i X := (xq_exec_eq (fun x => Nat.beq x 2323 || (Nat.beq x 1879 || Nat.beq x 1896)) d 310 100 1833 _ _ X).symm
set_option maxRecDepth 200000 in
theorem la32 (d : Nat) (b p q o : Nat) (i : Int32) (v5 v6 : Value) (X : xq_X) : xq_Run d 310 1901 [.ref b, .ref p, .ref q, .ref o, .int i, v5, v6] [] X = lawA [1, 2] d 306 226 1947 1964 cmpI b p q o i X := (xq_exec_eq (fun x => Nat.beq x 2323 || (Nat.beq x 1947 || Nat.beq x 1964)) d 310 100 1901 _ _ X).symm
set_option maxRecDepth 200000 in
theorem la33 (d : Nat) (b p q o : Nat) (i : Int32) (v5 v6 : Value) (X : xq_X) : xq_Run d 310 1969 [.ref b, .ref p, .ref q, .ref o, .int i, v5, v6] [] X = lawA [1, 2] d 307 259 2015 2032 cmpI b p q o i X := (xq_exec_eq (fun x => Nat.beq x 2323 || (Nat.beq x 2015 || Nat.beq x 2032)) d 310 100 1969 _ _ X).symm
set_option maxRecDepth 200000 in
theorem la34 (d : Nat) (b p q o : Nat) (i : Int32) (v5 v6 : Value) (X : xq_X) : xq_Run d 310 2037 [.ref b, .ref p, .ref q, .ref o, .int i, v5, v6] [] X = lawA [1, 2, 3, 4] d 308 263 2107 2124 cmpI b p q o i X := (xq_exec_eq (fun x => Nat.beq x 2323 || (Nat.beq x 2107 || Nat.beq x 2124)) d 310 100 2037 _ _ X).symm
set_option maxRecDepth 200000 in
theorem la35 (d : Nat) (b p q o : Nat) (i : Int32) (v5 v6 : Value) (X : xq_X) : xq_Run d 310 2129 [.ref b, .ref p, .ref q, .ref o, .int i, v5, v6] [] X = lawA [1, 2, 3, 4, 5, 6] d 309 264 2225 2242 cmpI b p q o i X := (xq_exec_eq (fun x => Nat.beq x 2323 || (Nat.beq x 2225 || Nat.beq x 2242)) d 310 100 2129 _ _ X).symm
set_option maxRecDepth 200000 in
theorem la36 (d : Nat) (b p q o : Nat) (i : Int32) (v5 v6 : Value) (X : xq_X) : xq_Run d 310 2247 [.ref b, .ref p, .ref q, .ref o, .int i, v5, v6] [] X = lawB [] d 136 267 2258 v5 v6 b p q o i X := (xq_exec_eq (fun x => Nat.beq x 2323 || Nat.beq x 2258) d 310 100 2247 _ _ X).symm
set_option maxRecDepth 200000 in
theorem la37 (d : Nat) (b p q o : Nat) (i : Int32) (v5 v6 : Value) (X : xq_X) : xq_Run d 310 2260 [.ref b, .ref p, .ref q, .ref o, .int i, v5, v6] [] X = lawB [] d 137 268 2271 v5 v6 b p q o i X := (xq_exec_eq (fun x => Nat.beq x 2323 || Nat.beq x 2271) d 310 100 2260 _ _ X).symm
set_option maxRecDepth 200000 in
theorem la38 (d : Nat) (b p q o : Nat) (i : Int32) (v5 v6 : Value) (X : xq_X) : xq_Run d 310 2273 [.ref b, .ref p, .ref q, .ref o, .int i, v5, v6] [] X = lawB [1] d 138 269 2296 v5 v6 b p q o i X := (xq_exec_eq (fun x => Nat.beq x 2323 || Nat.beq x 2296) d 310 100 2273 _ _ X).symm
set_option maxRecDepth 200000 in
theorem la39 (d : Nat) (b p q o : Nat) (i : Int32) (v5 v6 : Value) (X : xq_X) : xq_Run d 310 2298 [.ref b, .ref p, .ref q, .ref o, .int i, v5, v6] [] X = lawB [1] d 139 270 2321 v5 v6 b p q o i X := (xq_exec_eq (fun x => Nat.beq x 2323 || Nat.beq x 2321) d 310 100 2298 _ _ X).symm
