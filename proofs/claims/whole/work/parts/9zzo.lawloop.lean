/-! THE LAW'S LOOP, 3 (printed by wip/whole/law2.py) -/
set_option maxRecDepth 200000 in
theorem l310_23 (d : Nat) (b p q o : Nat) (i : Int32) (v5 v6 : Value) (X : xq_X) : xq_Run d 310 23 [.ref b, .ref p, .ref q, .ref o, .int i, v5, v6] [] X = xq_alen X b (fun n => xq_br .gt i (n - nI 7) (xq_Run d 310 2329 [.ref b, .ref p, .ref q, .ref o, .int i, v5, v6] [] X) (xq_iald X b i (fun c => xq_Run d 310 40 [.ref b, .ref p, .ref q, .ref o, .int i, v5, v6] [.int (c &&& 63)] X))) := (xq_exec_eq (fun x => Nat.beq x 2329 || Nat.beq x 40) d 310 100 23 _ _ X).symm
set_option maxRecDepth 200000 in
theorem l310_2329 (d : Nat) (b p q o : Nat) (i : Int32) (v5 v6 : Value) (X : xq_X) : xq_Run d 310 2329 [.ref b, .ref p, .ref q, .ref o, .int i, v5, v6] [] X = some (.inl (some (.int 1)), X) := (xq_exec_eq (fun _ => false) d 310 100 2329 _ _ X).symm
set_option maxRecDepth 200000 in
theorem l310_2323 (d : Nat) (b p q o : Nat) (i : Int32) (v5 v6 : Value) (X : xq_X) : xq_Run d 310 2323 [.ref b, .ref p, .ref q, .ref o, .int i, v5, v6] [] X = xq_Run d 310 23 [.ref b, .ref p, .ref q, .ref o, .int (i + nI 7), v5, v6] [] X := (xq_exec_eq (fun x => Nat.beq x 23) d 310 100 2323 _ _ X).symm
set_option maxRecDepth 200000 in
theorem l310_else (d : Nat) (b p q o : Nat) (i : Int32) (v5 v6 : Value) (X : xq_X) (x : Int32) (h : x.toInt < 0 ∨ 39 < x.toInt) : xq_Run d 310 40 [.ref b, .ref p, .ref q, .ref o, .int i, v5, v6] [.int x] X = xq_Run d 310 2323 [.ref b, .ref p, .ref q, .ref o, .int i, v5, v6] [] X := (xq_exec_eq (fun _ => true) d 310 1 40 _ _ X).symm.trans (if_pos h)
set_option maxRecDepth 200000 in
theorem ls0 (d : Nat) (b p q o : Nat) (i : Int32) (v5 v6 : Value) (X : xq_X) : xq_Run d 310 40 [.ref b, .ref p, .ref q, .ref o, .int i, v5, v6] [.int (nI 0)] X = xq_Run d 310 216 [.ref b, .ref p, .ref q, .ref o, .int i, v5, v6] [] X := (xq_exec_eq (fun _ => true) d 310 1 40 _ _ X).symm
set_option maxRecDepth 200000 in
theorem ls1 (d : Nat) (b p q o : Nat) (i : Int32) (v5 v6 : Value) (X : xq_X) : xq_Run d 310 40 [.ref b, .ref p, .ref q, .ref o, .int i, v5, v6] [.int (nI 1)] X = xq_Run d 310 289 [.ref b, .ref p, .ref q, .ref o, .int i, v5, v6] [] X := (xq_exec_eq (fun _ => true) d 310 1 40 _ _ X).symm
set_option maxRecDepth 200000 in
theorem ls2 (d : Nat) (b p q o : Nat) (i : Int32) (v5 v6 : Value) (X : xq_X) : xq_Run d 310 40 [.ref b, .ref p, .ref q, .ref o, .int i, v5, v6] [.int (nI 2)] X = xq_Run d 310 345 [.ref b, .ref p, .ref q, .ref o, .int i, v5, v6] [] X := (xq_exec_eq (fun _ => true) d 310 1 40 _ _ X).symm
set_option maxRecDepth 200000 in
theorem ls3 (d : Nat) (b p q o : Nat) (i : Int32) (v5 v6 : Value) (X : xq_X) : xq_Run d 310 40 [.ref b, .ref p, .ref q, .ref o, .int i, v5, v6] [.int (nI 3)] X = xq_Run d 310 401 [.ref b, .ref p, .ref q, .ref o, .int i, v5, v6] [] X := (xq_exec_eq (fun _ => true) d 310 1 40 _ _ X).symm
set_option maxRecDepth 200000 in
theorem ls4 (d : Nat) (b p q o : Nat) (i : Int32) (v5 v6 : Value) (X : xq_X) : xq_Run d 310 40 [.ref b, .ref p, .ref q, .ref o, .int i, v5, v6] [.int (nI 4)] X = xq_Run d 310 457 [.ref b, .ref p, .ref q, .ref o, .int i, v5, v6] [] X := (xq_exec_eq (fun _ => true) d 310 1 40 _ _ X).symm
set_option maxRecDepth 200000 in
theorem ls5 (d : Nat) (b p q o : Nat) (i : Int32) (v5 v6 : Value) (X : xq_X) : xq_Run d 310 40 [.ref b, .ref p, .ref q, .ref o, .int i, v5, v6] [.int (nI 5)] X = xq_Run d 310 513 [.ref b, .ref p, .ref q, .ref o, .int i, v5, v6] [] X := (xq_exec_eq (fun _ => true) d 310 1 40 _ _ X).symm
set_option maxRecDepth 200000 in
theorem ls6 (d : Nat) (b p q o : Nat) (i : Int32) (v5 v6 : Value) (X : xq_X) : xq_Run d 310 40 [.ref b, .ref p, .ref q, .ref o, .int i, v5, v6] [.int (nI 6)] X = xq_Run d 310 526 [.ref b, .ref p, .ref q, .ref o, .int i, v5, v6] [] X := (xq_exec_eq (fun _ => true) d 310 1 40 _ _ X).symm
set_option maxRecDepth 200000 in
theorem ls7 (d : Nat) (b p q o : Nat) (i : Int32) (v5 v6 : Value) (X : xq_X) : xq_Run d 310 40 [.ref b, .ref p, .ref q, .ref o, .int i, v5, v6] [.int (nI 7)] X = xq_Run d 310 539 [.ref b, .ref p, .ref q, .ref o, .int i, v5, v6] [] X := (xq_exec_eq (fun _ => true) d 310 1 40 _ _ X).symm
set_option maxRecDepth 200000 in
theorem ls8 (d : Nat) (b p q o : Nat) (i : Int32) (v5 v6 : Value) (X : xq_X) : xq_Run d 310 40 [.ref b, .ref p, .ref q, .ref o, .int i, v5, v6] [.int (nI 8)] X = xq_Run d 310 595 [.ref b, .ref p, .ref q, .ref o, .int i, v5, v6] [] X := (xq_exec_eq (fun _ => true) d 310 1 40 _ _ X).symm
set_option maxRecDepth 200000 in
theorem ls9 (d : Nat) (b p q o : Nat) (i : Int32) (v5 v6 : Value) (X : xq_X) : xq_Run d 310 40 [.ref b, .ref p, .ref q, .ref o, .int i, v5, v6] [.int (nI 9)] X = xq_Run d 310 651 [.ref b, .ref p, .ref q, .ref o, .int i, v5, v6] [] X := (xq_exec_eq (fun _ => true) d 310 1 40 _ _ X).symm
set_option maxRecDepth 200000 in
theorem ls10 (d : Nat) (b p q o : Nat) (i : Int32) (v5 v6 : Value) (X : xq_X) : xq_Run d 310 40 [.ref b, .ref p, .ref q, .ref o, .int i, v5, v6] [.int (nI 10)] X = xq_Run d 310 719 [.ref b, .ref p, .ref q, .ref o, .int i, v5, v6] [] X := (xq_exec_eq (fun _ => true) d 310 1 40 _ _ X).symm
set_option maxRecDepth 200000 in
theorem ls11 (d : Nat) (b p q o : Nat) (i : Int32) (v5 v6 : Value) (X : xq_X) : xq_Run d 310 40 [.ref b, .ref p, .ref q, .ref o, .int i, v5, v6] [.int (nI 11)] X = xq_Run d 310 799 [.ref b, .ref p, .ref q, .ref o, .int i, v5, v6] [] X := (xq_exec_eq (fun _ => true) d 310 1 40 _ _ X).symm
set_option maxRecDepth 200000 in
theorem ls12 (d : Nat) (b p q o : Nat) (i : Int32) (v5 v6 : Value) (X : xq_X) : xq_Run d 310 40 [.ref b, .ref p, .ref q, .ref o, .int i, v5, v6] [.int (nI 12)] X = xq_Run d 310 917 [.ref b, .ref p, .ref q, .ref o, .int i, v5, v6] [] X := (xq_exec_eq (fun _ => true) d 310 1 40 _ _ X).symm
set_option maxRecDepth 200000 in
theorem ls13 (d : Nat) (b p q o : Nat) (i : Int32) (v5 v6 : Value) (X : xq_X) : xq_Run d 310 40 [.ref b, .ref p, .ref q, .ref o, .int i, v5, v6] [.int (nI 13)] X = xq_Run d 310 980 [.ref b, .ref p, .ref q, .ref o, .int i, v5, v6] [] X := (xq_exec_eq (fun _ => true) d 310 1 40 _ _ X).symm
set_option maxRecDepth 200000 in
theorem ls14 (d : Nat) (b p q o : Nat) (i : Int32) (v5 v6 : Value) (X : xq_X) : xq_Run d 310 40 [.ref b, .ref p, .ref q, .ref o, .int i, v5, v6] [.int (nI 14)] X = xq_Run d 310 1036 [.ref b, .ref p, .ref q, .ref o, .int i, v5, v6] [] X := (xq_exec_eq (fun _ => true) d 310 1 40 _ _ X).symm
set_option maxRecDepth 200000 in
theorem ls15 (d : Nat) (b p q o : Nat) (i : Int32) (v5 v6 : Value) (X : xq_X) : xq_Run d 310 40 [.ref b, .ref p, .ref q, .ref o, .int i, v5, v6] [.int (nI 15)] X = xq_Run d 310 1104 [.ref b, .ref p, .ref q, .ref o, .int i, v5, v6] [] X := (xq_exec_eq (fun _ => true) d 310 1 40 _ _ X).symm
set_option maxRecDepth 200000 in
theorem ls16 (d : Nat) (b p q o : Nat) (i : Int32) (v5 v6 : Value) (X : xq_X) : xq_Run d 310 40 [.ref b, .ref p, .ref q, .ref o, .int i, v5, v6] [.int (nI 16)] X = xq_Run d 310 1160 [.ref b, .ref p, .ref q, .ref o, .int i, v5, v6] [] X := (xq_exec_eq (fun _ => true) d 310 1 40 _ _ X).symm
set_option maxRecDepth 200000 in
theorem ls17 (d : Nat) (b p q o : Nat) (i : Int32) (v5 v6 : Value) (X : xq_X) : xq_Run d 310 40 [.ref b, .ref p, .ref q, .ref o, .int i, v5, v6] [.int (nI 17)] X = xq_Run d 310 1228 [.ref b, .ref p, .ref q, .ref o, .int i, v5, v6] [] X := (xq_exec_eq (fun _ => true) d 310 1 40 _ _ X).symm
set_option maxRecDepth 200000 in
theorem ls18 (d : Nat) (b p q o : Nat) (i : Int32) (v5 v6 : Value) (X : xq_X) : xq_Run d 310 40 [.ref b, .ref p, .ref q, .ref o, .int i, v5, v6] [.int (nI 18)] X = xq_Run d 310 1241 [.ref b, .ref p, .ref q, .ref o, .int i, v5, v6] [] X := (xq_exec_eq (fun _ => true) d 310 1 40 _ _ X).symm
set_option maxRecDepth 200000 in
theorem ls19 (d : Nat) (b p q o : Nat) (i : Int32) (v5 v6 : Value) (X : xq_X) : xq_Run d 310 40 [.ref b, .ref p, .ref q, .ref o, .int i, v5, v6] [.int (nI 19)] X = xq_Run d 310 1309 [.ref b, .ref p, .ref q, .ref o, .int i, v5, v6] [] X := (xq_exec_eq (fun _ => true) d 310 1 40 _ _ X).symm
set_option maxRecDepth 200000 in
theorem ls20 (d : Nat) (b p q o : Nat) (i : Int32) (v5 v6 : Value) (X : xq_X) : xq_Run d 310 40 [.ref b, .ref p, .ref q, .ref o, .int i, v5, v6] [.int (nI 20)] X = xq_Run d 310 1365 [.ref b, .ref p, .ref q, .ref o, .int i, v5, v6] [] X := (xq_exec_eq (fun _ => true) d 310 1 40 _ _ X).symm
set_option maxRecDepth 200000 in
theorem ls21 (d : Nat) (b p q o : Nat) (i : Int32) (v5 v6 : Value) (X : xq_X) : xq_Run d 310 40 [.ref b, .ref p, .ref q, .ref o, .int i, v5, v6] [.int (nI 21)] X = xq_Run d 310 1378 [.ref b, .ref p, .ref q, .ref o, .int i, v5, v6] [] X := (xq_exec_eq (fun _ => true) d 310 1 40 _ _ X).symm
set_option maxRecDepth 200000 in
theorem ls22 (d : Nat) (b p q o : Nat) (i : Int32) (v5 v6 : Value) (X : xq_X) : xq_Run d 310 40 [.ref b, .ref p, .ref q, .ref o, .int i, v5, v6] [.int (nI 22)] X = xq_Run d 310 1434 [.ref b, .ref p, .ref q, .ref o, .int i, v5, v6] [] X := (xq_exec_eq (fun _ => true) d 310 1 40 _ _ X).symm
set_option maxRecDepth 200000 in
theorem ls23 (d : Nat) (b p q o : Nat) (i : Int32) (v5 v6 : Value) (X : xq_X) : xq_Run d 310 40 [.ref b, .ref p, .ref q, .ref o, .int i, v5, v6] [.int (nI 23)] X = xq_Run d 310 1447 [.ref b, .ref p, .ref q, .ref o, .int i, v5, v6] [] X := (xq_exec_eq (fun _ => true) d 310 1 40 _ _ X).symm
set_option maxRecDepth 200000 in
theorem ls24 (d : Nat) (b p q o : Nat) (i : Int32) (v5 v6 : Value) (X : xq_X) : xq_Run d 310 40 [.ref b, .ref p, .ref q, .ref o, .int i, v5, v6] [.int (nI 24)] X = xq_Run d 310 1503 [.ref b, .ref p, .ref q, .ref o, .int i, v5, v6] [] X := (xq_exec_eq (fun _ => true) d 310 1 40 _ _ X).symm
set_option maxRecDepth 200000 in
theorem ls25 (d : Nat) (b p q o : Nat) (i : Int32) (v5 v6 : Value) (X : xq_X) : xq_Run d 310 40 [.ref b, .ref p, .ref q, .ref o, .int i, v5, v6] [.int (nI 25)] X = xq_Run d 310 1571 [.ref b, .ref p, .ref q, .ref o, .int i, v5, v6] [] X := (xq_exec_eq (fun _ => true) d 310 1 40 _ _ X).symm
set_option maxRecDepth 200000 in
theorem ls26 (d : Nat) (b p q o : Nat) (i : Int32) (v5 v6 : Value) (X : xq_X) : xq_Run d 310 40 [.ref b, .ref p, .ref q, .ref o, .int i, v5, v6] [.int (nI 26)] X = xq_Run d 310 1627 [.ref b, .ref p, .ref q, .ref o, .int i, v5, v6] [] X := (xq_exec_eq (fun _ => true) d 310 1 40 _ _ X).symm
set_option maxRecDepth 200000 in
theorem ls27 (d : Nat) (b p q o : Nat) (i : Int32) (v5 v6 : Value) (X : xq_X) : xq_Run d 310 40 [.ref b, .ref p, .ref q, .ref o, .int i, v5, v6] [.int (nI 27)] X = xq_Run d 310 1640 [.ref b, .ref p, .ref q, .ref o, .int i, v5, v6] [] X := (xq_exec_eq (fun _ => true) d 310 1 40 _ _ X).symm
set_option maxRecDepth 200000 in
theorem ls28 (d : Nat) (b p q o : Nat) (i : Int32) (v5 v6 : Value) (X : xq_X) : xq_Run d 310 40 [.ref b, .ref p, .ref q, .ref o, .int i, v5, v6] [.int (nI 28)] X = xq_Run d 310 1696 [.ref b, .ref p, .ref q, .ref o, .int i, v5, v6] [] X := (xq_exec_eq (fun _ => true) d 310 1 40 _ _ X).symm
set_option maxRecDepth 200000 in
theorem ls29 (d : Nat) (b p q o : Nat) (i : Int32) (v5 v6 : Value) (X : xq_X) : xq_Run d 310 40 [.ref b, .ref p, .ref q, .ref o, .int i, v5, v6] [.int (nI 29)] X = xq_Run d 310 1709 [.ref b, .ref p, .ref q, .ref o, .int i, v5, v6] [] X := (xq_exec_eq (fun _ => true) d 310 1 40 _ _ X).symm
set_option maxRecDepth 200000 in
theorem ls30 (d : Nat) (b p q o : Nat) (i : Int32) (v5 v6 : Value) (X : xq_X) : xq_Run d 310 40 [.ref b, .ref p, .ref q, .ref o, .int i, v5, v6] [.int (nI 30)] X = xq_Run d 310 1765 [.ref b, .ref p, .ref q, .ref o, .int i, v5, v6] [] X := (xq_exec_eq (fun _ => true) d 310 1 40 _ _ X).symm
set_option maxRecDepth 200000 in
theorem ls31 (d : Nat) (b p q o : Nat) (i : Int32) (v5 v6 : Value) (X : xq_X) : xq_Run d 310 40 [.ref b, .ref p, .ref q, .ref o, .int i, v5, v6] [.int (nI 31)] X = xq_Run d 310 1833 [.ref b, .ref p, .ref q, .ref o, .int i, v5, v6] [] X := (xq_exec_eq (fun _ => true) d 310 1 40 _ _ X).symm
set_option maxRecDepth 200000 in
theorem ls32 (d : Nat) (b p q o : Nat) (i : Int32) (v5 v6 : Value) (X : xq_X) : xq_Run d 310 40 [.ref b, .ref p, .ref q, .ref o, .int i, v5, v6] [.int (nI 32)] X = xq_Run d 310 1901 [.ref b, .ref p, .ref q, .ref o, .int i, v5, v6] [] X := (xq_exec_eq (fun _ => true) d 310 1 40 _ _ X).symm
set_option maxRecDepth 200000 in
theorem ls33 (d : Nat) (b p q o : Nat) (i : Int32) (v5 v6 : Value) (X : xq_X) : xq_Run d 310 40 [.ref b, .ref p, .ref q, .ref o, .int i, v5, v6] [.int (nI 33)] X = xq_Run d 310 1969 [.ref b, .ref p, .ref q, .ref o, .int i, v5, v6] [] X := (xq_exec_eq (fun _ => true) d 310 1 40 _ _ X).symm
set_option maxRecDepth 200000 in
theorem ls34 (d : Nat) (b p q o : Nat) (i : Int32) (v5 v6 : Value) (X : xq_X) : xq_Run d 310 40 [.ref b, .ref p, .ref q, .ref o, .int i, v5, v6] [.int (nI 34)] X = xq_Run d 310 2037 [.ref b, .ref p, .ref q, .ref o, .int i, v5, v6] [] X := (xq_exec_eq (fun _ => true) d 310 1 40 _ _ X).symm
set_option maxRecDepth 200000 in
theorem ls35 (d : Nat) (b p q o : Nat) (i : Int32) (v5 v6 : Value) (X : xq_X) : xq_Run d 310 40 [.ref b, .ref p, .ref q, .ref o, .int i, v5, v6] [.int (nI 35)] X = xq_Run d 310 2129 [.ref b, .ref p, .ref q, .ref o, .int i, v5, v6] [] X := (xq_exec_eq (fun _ => true) d 310 1 40 _ _ X).symm
set_option maxRecDepth 200000 in
theorem ls36 (d : Nat) (b p q o : Nat) (i : Int32) (v5 v6 : Value) (X : xq_X) : xq_Run d 310 40 [.ref b, .ref p, .ref q, .ref o, .int i, v5, v6] [.int (nI 36)] X = xq_Run d 310 2247 [.ref b, .ref p, .ref q, .ref o, .int i, v5, v6] [] X := (xq_exec_eq (fun _ => true) d 310 1 40 _ _ X).symm
set_option maxRecDepth 200000 in
theorem ls37 (d : Nat) (b p q o : Nat) (i : Int32) (v5 v6 : Value) (X : xq_X) : xq_Run d 310 40 [.ref b, .ref p, .ref q, .ref o, .int i, v5, v6] [.int (nI 37)] X = xq_Run d 310 2260 [.ref b, .ref p, .ref q, .ref o, .int i, v5, v6] [] X := (xq_exec_eq (fun _ => true) d 310 1 40 _ _ X).symm
set_option maxRecDepth 200000 in
theorem ls38 (d : Nat) (b p q o : Nat) (i : Int32) (v5 v6 : Value) (X : xq_X) : xq_Run d 310 40 [.ref b, .ref p, .ref q, .ref o, .int i, v5, v6] [.int (nI 38)] X = xq_Run d 310 2273 [.ref b, .ref p, .ref q, .ref o, .int i, v5, v6] [] X := (xq_exec_eq (fun _ => true) d 310 1 40 _ _ X).symm
set_option maxRecDepth 200000 in
theorem ls39 (d : Nat) (b p q o : Nat) (i : Int32) (v5 v6 : Value) (X : xq_X) : xq_Run d 310 40 [.ref b, .ref p, .ref q, .ref o, .int i, v5, v6] [.int (nI 39)] X = xq_Run d 310 2298 [.ref b, .ref p, .ref q, .ref o, .int i, v5, v6] [] X := (xq_exec_eq (fun _ => true) d 310 1 40 _ _ X).symm
theorem law_arm {b p q o L : Nat} {sc : Nat → Int32} {S : xr_S} {gg : Nat → Int64} {X : xq_X} {N d a : Nat} (v5 v6 : Value) (I : lI b p q o L sc xMd S gg X) (hL : L ≤ 3584) (ha : a + 7 ≤ L) (H : gInv N S) : ∀ k, k < 40 → ∃ u5 u6 X', xq_Run (d + 61) 310 40 [.ref b, .ref p, .ref q, .ref o, .int (nI a), v5, v6] [.int (nI k)] X = xq_Run (d + 61) 310 2323 [.ref b, .ref p, .ref q, .ref o, .int (nI a), u5, u6] [] X' ∧ lG b p q o L sc S X' := by
  obtain ⟨hN, np, nq, ch, st, du, pl, dy, dp, sz, kd, gv, g, h, s, ln, ti, fl, tb, Lt, w, im, Iq, B, ⟨s1, s2, s3, s4⟩, Hs⟩ := id H
  intro k hk
  match k, hk with
  | 0, _ =>
    obtain ⟨X', e, G⟩ := armB (d := d) (f := _) (v5 := v5) (v6 := v6) (ks := [1, 2, 3, 4, 5]) (by decide) I hL ha (o_feed H (sc (a + 1)) (sc (a + 2)) (sc (a + 3)) (sc (a + 4)) (sc (a + 5)))
    exact ⟨_, _, X', (ls0 _ b p q o _ v5 v6 X).trans ((la0 _ b p q o _ v5 v6 X).trans e), G⟩
  | 1, _ =>
    obtain ⟨t, v, X', e, G⟩ := armA (d := d) (f1 := _) (f2 := _) lw282_ok cmpI_ok (ks := [1]) (by decide) I hL ha (by decide) (o_hill H (sc (a + 1)))
    exact ⟨_, _, X', (ls1 _ b p q o _ v5 v6 X).trans ((la1 _ b p q o _ v5 v6 X).trans e), G⟩
  | 2, _ =>
    obtain ⟨t, v, X', e, G⟩ := armA (d := d) (f1 := _) (f2 := _) lw283_ok cmpI_ok (ks := [1]) (by decide) I hL ha (by decide) (o_law H (sc (a + 1)))
    exact ⟨_, _, X', (ls2 _ b p q o _ v5 v6 X).trans ((la2 _ b p q o _ v5 v6 X).trans e), G⟩
  | 3, _ =>
    obtain ⟨t, v, X', e, G⟩ := armA (d := d) (f1 := _) (f2 := _) lw284_ok cmpI_ok (ks := [1]) (by decide) I hL ha (by decide) (o_work H (sc (a + 1)))
    exact ⟨_, _, X', (ls3 _ b p q o _ v5 v6 X).trans ((la3 _ b p q o _ v5 v6 X).trans e), G⟩
  | 4, _ =>
    obtain ⟨t, v, X', e, G⟩ := armA (d := d) (f1 := _) (f2 := _) lw285_ok cmpI_ok (ks := [1]) (by decide) I hL ha (by decide) (o_thumb H (sc (a + 1)))
    exact ⟨_, _, X', (ls4 _ b p q o _ v5 v6 X).trans ((la4 _ b p q o _ v5 v6 X).trans e), G⟩
  | 5, _ =>
    obtain ⟨X', e, G⟩ := armB (d := d) (f := _) (v5 := v5) (v6 := v6) (ks := []) (by decide) I hL ha (oRt_of (oRes_q H (q_fault s1 )))
    exact ⟨_, _, X', (ls5 _ b p q o _ v5 v6 X).trans ((la5 _ b p q o _ v5 v6 X).trans e), G⟩
  | 6, _ =>
    obtain ⟨X', e, G⟩ := armB (d := d) (f := _) (v5 := v5) (v6 := v6) (ks := []) (by decide) I hL ha (o_undo H )
    exact ⟨_, _, X', (ls6 _ b p q o _ v5 v6 X).trans ((la6 _ b p q o _ v5 v6 X).trans e), G⟩
  | 7, _ =>
    obtain ⟨t, v, X', e, G⟩ := armA (d := d) (f1 := _) (f2 := _) lw286_ok cmpI_ok (ks := [1]) (by decide) I hL ha (by decide) (oRes_q H (q_told Iq s2 (sc (a + 1))))
    exact ⟨_, _, X', (ls7 _ b p q o _ v5 v6 X).trans ((la7 _ b p q o _ v5 v6 X).trans e), G⟩
  | 8, _ =>
    obtain ⟨t, v, X', e, G⟩ := armA (d := d) (f1 := _) (f2 := _) lw287_ok cmpI_ok (ks := [1]) (by decide) I hL ha (by decide) (oRes_q H (q_has Iq (sc (a + 1))))
    exact ⟨_, _, X', (ls8 _ b p q o _ v5 v6 X).trans ((la8 _ b p q o _ v5 v6 X).trans e), G⟩
  | 9, _ =>
    obtain ⟨t, v, X', e, G⟩ := armA (d := d) (f1 := _) (f2 := _) lw288_ok cmpI_ok (ks := [1, 2]) (by decide) I hL ha (by decide) (oRes_q H (q_pot Iq (sc (a + 1)) (sc (a + 2))))
    exact ⟨_, _, X', (ls9 _ b p q o _ v5 v6 X).trans ((la9 _ b p q o _ v5 v6 X).trans e), G⟩
  | 10, _ =>
    obtain ⟨t, v, X', e, G⟩ := armA (d := d) (f1 := _) (f2 := _) lw289_ok cmpI_ok (ks := [1, 2, 3]) (by decide) I hL ha (by decide) (oRes_q H (q_depth Iq (sc (a + 1)) (sc (a + 2)) (sc (a + 3))))
    exact ⟨_, _, X', (ls10 _ b p q o _ v5 v6 X).trans ((la10 _ b p q o _ v5 v6 X).trans e), G⟩
  | 11, _ =>
    obtain ⟨t, v, X', e, G⟩ := armA (d := d) (f1 := _) (f2 := _) lw290_ok cmpI_ok (ks := [1, 2, 3, 4, 5, 6]) (by decide) I hL ha (by decide) (oRes_q H (q_would Iq (sc (a + 1)) (sc (a + 2)) (sc (a + 3)) (sc (a + 4)) (sc (a + 5)) (sc (a + 6))))
    exact ⟨_, _, X', (ls11 _ b p q o _ v5 v6 X).trans ((la11 _ b p q o _ v5 v6 X).trans e), G⟩
  | 12, _ =>
    obtain ⟨t, v, X', e, G⟩ := armA (d := d) (f1 := _) (f2 := _) lw291_ok cmpZ_ok (ks := [1]) (by decide) I hL ha (by decide) (oRes_q H (q_meets Iq (sc (a + 1))))
    exact ⟨_, _, X', (ls12 _ b p q o _ v5 v6 X).trans ((la12 _ b p q o _ v5 v6 X).trans e), G⟩
  | 13, _ =>
    obtain ⟨t, v, X', e, G⟩ := armA (d := d) (f1 := _) (f2 := _) lw292_ok cmpI_ok (ks := [1]) (by decide) I hL ha (by decide) (oRes_q H (q_lasts Iq (sc (a + 1))))
    exact ⟨_, _, X', (ls13 _ b p q o _ v5 v6 X).trans ((la13 _ b p q o _ v5 v6 X).trans e), G⟩
  | 14, _ =>
    obtain ⟨t, v, X', e, G⟩ := armA (d := d) (f1 := _) (f2 := _) lw293_ok cmpI_ok (ks := [1, 2]) (by decide) I hL ha (by decide) (oRes_q H (q_owed Iq (sc (a + 1)) (sc (a + 2))))
    exact ⟨_, _, X', (ls14 _ b p q o _ v5 v6 X).trans ((la14 _ b p q o _ v5 v6 X).trans e), G⟩
  | 15, _ =>
    obtain ⟨t, v, X', e, G⟩ := armA (d := d) (f1 := _) (f2 := _) lw294_ok cmpI_ok (ks := [1]) (by decide) I hL ha (by decide) (oRes_q H (q_height Iq (sc (a + 1))))
    exact ⟨_, _, X', (ls15 _ b p q o _ v5 v6 X).trans ((la15 _ b p q o _ v5 v6 X).trans e), G⟩
  | 16, _ =>
    obtain ⟨t, v, X', e, G⟩ := armA (d := d) (f1 := _) (f2 := _) lw295_ok cmpI_ok (ks := [1, 2]) (by decide) I hL ha (by decide) (oRes_q H (q_shard Iq (sc (a + 1)) (sc (a + 2))))
    exact ⟨_, _, X', (ls16 _ b p q o _ v5 v6 X).trans ((la16 _ b p q o _ v5 v6 X).trans e), G⟩
  | 17, _ =>
    obtain ⟨X', e, G⟩ := armB (d := d) (f := _) (v5 := v5) (v6 := v6) (ks := []) (by decide) I hL ha (oRt_of (oRes_q H (q_safe Iq )))
    exact ⟨_, _, X', (ls17 _ b p q o _ v5 v6 X).trans ((la17 _ b p q o _ v5 v6 X).trans e), G⟩
  | 18, _ =>
    obtain ⟨t, v, X', e, G⟩ := armA (d := d) (f1 := _) (f2 := _) lw296_ok cmpI_ok (ks := [1, 2]) (by decide) I hL ha (by decide) (oRes_q H (q_tossed Iq (sc (a + 1)) (sc (a + 2))))
    exact ⟨_, _, X', (ls18 _ b p q o _ v5 v6 X).trans ((la18 _ b p q o _ v5 v6 X).trans e), G⟩
  | 19, _ =>
    obtain ⟨t, v, X', e, G⟩ := armA (d := d) (f1 := _) (f2 := _) lw297_ok cmpI_ok (ks := [1]) (by decide) I hL ha (by decide) (oRes_q H (q_baskets Iq (sc (a + 1))))
    exact ⟨_, _, X', (ls19 _ b p q o _ v5 v6 X).trans ((la19 _ b p q o _ v5 v6 X).trans e), G⟩
  | 20, _ =>
    obtain ⟨X', e, G⟩ := armB (d := d) (f := _) (v5 := v5) (v6 := v6) (ks := []) (by decide) I hL ha (oRt_of (oRes_q H (q_order Iq )))
    exact ⟨_, _, X', (ls20 _ b p q o _ v5 v6 X).trans ((la20 _ b p q o _ v5 v6 X).trans e), G⟩
  | 21, _ =>
    obtain ⟨t, v, X', e, G⟩ := armA (d := d) (f1 := _) (f2 := _) lw298_ok cmpI_ok (ks := [1]) (by decide) I hL ha (by decide) (oRes_q H (q_mean Iq (sc (a + 1))))
    exact ⟨_, _, X', (ls21 _ b p q o _ v5 v6 X).trans ((la21 _ b p q o _ v5 v6 X).trans e), G⟩
  | 22, _ =>
    obtain ⟨X', e, G⟩ := armB (d := d) (f := _) (v5 := v5) (v6 := v6) (ks := []) (by decide) I hL ha (oRt_of (oRes_q H (q_fits Iq )))
    exact ⟨_, _, X', (ls22 _ b p q o _ v5 v6 X).trans ((la22 _ b p q o _ v5 v6 X).trans e), G⟩
  | 23, _ =>
    obtain ⟨t, v, X', e, G⟩ := armA (d := d) (f1 := _) (f2 := _) lw299_ok cmpI_ok (ks := [1]) (by decide) I hL ha (by decide) (oRes_q H (q_feel Iq (sc (a + 1))))
    exact ⟨_, _, X', (ls23 _ b p q o _ v5 v6 X).trans ((la23 _ b p q o _ v5 v6 X).trans e), G⟩
  | 24, _ =>
    obtain ⟨t, v, X', e, G⟩ := armA (d := d) (f1 := _) (f2 := _) lw300_ok cmpI_ok (ks := [1, 2]) (by decide) I hL ha (by decide) (oRes_q H (q_forge Iq (sc (a + 1)) (sc (a + 2))))
    exact ⟨_, _, X', (ls24 _ b p q o _ v5 v6 X).trans ((la24 _ b p q o _ v5 v6 X).trans e), G⟩
  | 25, _ =>
    obtain ⟨t, v, X', e, G⟩ := armA (d := d) (f1 := _) (f2 := _) lw301_ok cmpI_ok (ks := [1]) (by decide) I hL ha (by decide) (oRes_q H (q_easiest Iq (sc (a + 1))))
    exact ⟨_, _, X', (ls25 _ b p q o _ v5 v6 X).trans ((la25 _ b p q o _ v5 v6 X).trans e), G⟩
  | 26, _ =>
    obtain ⟨X', e, G⟩ := armB (d := d) (f := _) (v5 := v5) (v6 := v6) (ks := []) (by decide) I hL ha (oRt_of (oRes_q H (q_tell Iq )))
    exact ⟨_, _, X', (ls26 _ b p q o _ v5 v6 X).trans ((la26 _ b p q o _ v5 v6 X).trans e), G⟩
  | 27, _ =>
    obtain ⟨t, v, X', e, G⟩ := armA (d := d) (f1 := _) (f2 := _) lw302_ok cmpI_ok (ks := [1]) (by decide) I hL ha (by decide) (oRes_q H (q_net Iq (sc (a + 1))))
    exact ⟨_, _, X', (ls27 _ b p q o _ v5 v6 X).trans ((la27 _ b p q o _ v5 v6 X).trans e), G⟩
  | 28, _ =>
    obtain ⟨X', e, G⟩ := armB (d := d) (f := _) (v5 := v5) (v6 := v6) (ks := []) (by decide) I hL ha (oRt_of (oRes_q H (q_struck Iq )))
    exact ⟨_, _, X', (ls28 _ b p q o _ v5 v6 X).trans ((la28 _ b p q o _ v5 v6 X).trans e), G⟩
  | 29, _ =>
    obtain ⟨t, v, X', e, G⟩ := armA (d := d) (f1 := _) (f2 := _) lw303_ok cmpI_ok (ks := [1]) (by decide) I hL ha (by decide) (oRes_q H (q_ring Iq (sc (a + 1))))
    exact ⟨_, _, X', (ls29 _ b p q o _ v5 v6 X).trans ((la29 _ b p q o _ v5 v6 X).trans e), G⟩
  | 30, _ =>
    obtain ⟨t, v, X', e, G⟩ := armA (d := d) (f1 := _) (f2 := _) lw304_ok cmpI_ok (ks := [1, 2]) (by decide) I hL ha (by decide) (oRes_q H (q_gets Iq (sc (a + 1)) (sc (a + 2))))
    exact ⟨_, _, X', (ls30 _ b p q o _ v5 v6 X).trans ((la30 _ b p q o _ v5 v6 X).trans e), G⟩
  | 31, _ =>
    obtain ⟨t, v, X', e, G⟩ := armA (d := d) (f1 := _) (f2 := _) lw305_ok cmpI_ok (ks := [1, 2]) (by decide) I hL ha (by decide) (oRes_q H (q_holds Iq (sc (a + 1)) (sc (a + 2))))
    exact ⟨_, _, X', (ls31 _ b p q o _ v5 v6 X).trans ((la31 _ b p q o _ v5 v6 X).trans e), G⟩
  | 32, _ =>
    obtain ⟨t, v, X', e, G⟩ := armA (d := d) (f1 := _) (f2 := _) lw306_ok cmpI_ok (ks := [1, 2]) (by decide) I hL ha (by decide) (oRes_q H (q_deep Iq (sc (a + 1)) (sc (a + 2))))
    exact ⟨_, _, X', (ls32 _ b p q o _ v5 v6 X).trans ((la32 _ b p q o _ v5 v6 X).trans e), G⟩
  | 33, _ =>
    obtain ⟨t, v, X', e, G⟩ := armA (d := d) (f1 := _) (f2 := _) lw307_ok cmpI_ok (ks := [1, 2]) (by decide) I hL ha (by decide) (oRes_q H (q_ahead Iq (sc (a + 1)) (sc (a + 2))))
    exact ⟨_, _, X', (ls33 _ b p q o _ v5 v6 X).trans ((la33 _ b p q o _ v5 v6 X).trans e), G⟩
  | 34, _ =>
    obtain ⟨t, v, X', e, G⟩ := armA (d := d) (f1 := _) (f2 := _) lw308_ok cmpI_ok (ks := [1, 2, 3, 4]) (by decide) I hL ha (by decide) (oRes_q H (q_goats Iq (sc (a + 1)) (sc (a + 2)) (sc (a + 3)) (sc (a + 4))))
    exact ⟨_, _, X', (ls34 _ b p q o _ v5 v6 X).trans ((la34 _ b p q o _ v5 v6 X).trans e), G⟩
  | 35, _ =>
    obtain ⟨t, v, X', e, G⟩ := armA (d := d) (f1 := _) (f2 := _) lw309_ok cmpI_ok (ks := [1, 2, 3, 4, 5, 6]) (by decide) I hL ha (by decide) (oRes_q H (q_span Iq (sc (a + 1)) (sc (a + 2)) (sc (a + 3)) (sc (a + 4)) (sc (a + 5)) (sc (a + 6))))
    exact ⟨_, _, X', (ls35 _ b p q o _ v5 v6 X).trans ((la35 _ b p q o _ v5 v6 X).trans e), G⟩
  | 36, _ =>
    obtain ⟨X', e, G⟩ := armB (d := d) (f := _) (v5 := v5) (v6 := v6) (ks := []) (by decide) I hL ha (o_image H )
    exact ⟨_, _, X', (ls36 _ b p q o _ v5 v6 X).trans ((la36 _ b p q o _ v5 v6 X).trans e), G⟩
  | 37, _ =>
    obtain ⟨X', e, G⟩ := armB (d := d) (f := _) (v5 := v5) (v6 := v6) (ks := []) (by decide) I hL ha (o_restore H )
    exact ⟨_, _, X', (ls37 _ b p q o _ v5 v6 X).trans ((la37 _ b p q o _ v5 v6 X).trans e), G⟩
  | 38, _ =>
    obtain ⟨X', e, G⟩ := armB (d := d) (f := _) (v5 := v5) (v6 := v6) (ks := [1]) (by decide) I hL ha (oRt_of (oRes_q H (q_status s3 s4 (sc (a + 1)))))
    exact ⟨_, _, X', (ls38 _ b p q o _ v5 v6 X).trans ((la38 _ b p q o _ v5 v6 X).trans e), G⟩
  | 39, _ =>
    obtain ⟨X', e, G⟩ := armB (d := d) (f := _) (v5 := v5) (v6 := v6) (ks := [1]) (by decide) I hL ha (oRt_of (oRes_q H (q_count B Hs (sc (a + 1)))))
    exact ⟨_, _, X', (ls39 _ b p q o _ v5 v6 X).trans ((la39 _ b p q o _ v5 v6 X).trans e), G⟩
  | n + 40, hk => exact absurd hk (by omega)
theorem alen_b {X : xq_X} {b L : Nat} {sc : Nat → Int32} {f : Int32 → xq_R} (h : xq_h X b = some (.inl (9, L, .inl sc))) : xq_alen X b f = f (nI L) := by
  unfold xq_alen
  rw [h]
  rfl
theorem toInt_nI {a : Nat} (h : a < 2147483648) : (nI a).toInt = a := by
  exact nI_toInt h
theorem sub7 {L : Nat} (h : L ≤ 3584) : (nI L - nI 7).toInt = (L : Int) - 7 := by
  rw [Int32.toInt_sub, toInt_nI (by omega), toInt_nI (by omega)]
  rw [Int.bmod_eq_of_le (by omega) (by omega)]
  rfl
theorem lt7 {L a : Nat} (h : L ≤ 3584) (ha : a ≤ 4000) (h7 : L < a + 7) : nI L - nI 7 < nI a := by
  rw [Int32.lt_iff_toInt_lt, sub7 h, toInt_nI (by omega)]
  omega
theorem ge7 {L a : Nat} (h : L ≤ 3584) (h7 : a + 7 ≤ L) : ¬ nI L - nI 7 < nI a := by
  rw [Int32.lt_iff_toInt_lt, sub7 h, toInt_nI (by omega)]
  omega
theorem law_loop {b p q o L d : Nat} {sc : Nat → Int32} (hL : L ≤ 3584) : ∀ (k a N : Nat) (S : xr_S) (g : Nat → Int64) (X : xq_X) (v5 v6 : Value), a ≤ 4000 → L < a + 7 * k + 7 → lI b p q o L sc xMd S g X → gInv N S → ∃ X', xq_Run (d + 61) 310 23 [.ref b, .ref p, .ref q, .ref o, .int (nI a), v5, v6] [] X = some (.inl (some (.int 1)), X') ∧ X'.1 ≤ X.1 + 10 * k ∧ X'.2.1 ≤ X.2.1 + 812 * k := by
  intro k
  induction k with
  | zero =>
    intro a N S g X v5 v6 ha hk I H
    refine ⟨X, ?_, by omega, by omega⟩
    rw [l310_23, alen_b (lI_b I)]
    show (if (nI L - nI 7) < nI a then _ else _) = _
    rw [if_pos (lt7 (by omega) (by omega) (by omega)), l310_2329]
  | succ k ih =>
    intro a N S g X v5 v6 ha hk I H
    rw [l310_23, alen_b (lI_b I)]
    show ∃ X', (if (nI L - nI 7) < nI a then _ else _) = _ ∧ _
    by_cases h7 : a + 7 ≤ L
    · rw [if_neg (ge7 (by omega) h7), iald_b (lI_b I) hL (by omega)]
      obtain ⟨n1, n2⟩ := lI_n I
      have go : ∀ u5 u6 X1, lG b p q o L sc S X1 → ∃ X', xq_Run (d + 61) 310 2323 [.ref b, .ref p, .ref q, .ref o, .int (nI a), u5, u6] [] X1 = some (.inl (some (.int 1)), X') ∧ X'.1 ≤ X.1 + 10 * (k + 1) ∧ X'.2.1 ≤ X.2.1 + 812 * (k + 1) := by
        intro u5 u6 X1 ⟨S', N', g', I', H', c1, c2⟩
        obtain ⟨m1, m2⟩ := lI_n I'
        obtain ⟨X', e, e1, e2⟩ := ih (a + 7) N' S' g' X1 u5 u6 (by omega) (by omega) I' H'
        refine ⟨X', ?_, by omega, by omega⟩
        rw [l310_2323, xn_add]
        exact e
      by_cases hx : (sc a &&& 63).toInt < 0 ∨ 39 < (sc a &&& 63).toInt
      · rw [l310_else _ b p q o _ v5 v6 X _ hx]
        exact go v5 v6 X ⟨S, N, g, I, H, by omega, by omega⟩
      · obtain ⟨x, hx1, hx2⟩ : ∃ x, x < 40 ∧ (sc a &&& 63) = nI x := by
          refine ⟨(sc a &&& 63).toInt.toNat, by omega, ?_⟩
          apply Int32.toInt_inj.mp
          rw [toInt_nI (by omega)]
          omega
        rw [hx2]
        obtain ⟨u5, u6, X1, e, G⟩ := law_arm (d := d) v5 v6 I hL h7 H x hx1
        rw [e]
        exact go u5 u6 X1 G
    · refine ⟨X, ?_, by omega, by omega⟩
      rw [if_pos (lt7 (by omega) (by omega) (by omega)), l310_2329]
