/-! the little machine: its tables are the program's -/
abbrev iI (n : Int) : Int32 := Int32.ofInt n
/-- how long an instruction is (0: a switch) -/
def jv_len : Instr → Nat
  | .bipush _ => 2 | .sipush _ => 3 | .iload _ => 2 | .lload _ => 2 | .aload _ => 2 | .istore _ => 2 | .lstore _ => 2 | .iinc _ _ => 3
  | .getfield _ => 3 | .putfield _ => 3 | .getstatic _ => 3 | .goto _ => 3 | .ifCond _ _ => 3 | .if_icmp _ _ => 3
  | .invokevirtual _ => 3 | .invokestatic _ => 3 | .ldc _ => 2 | .ldc_w _ => 3 | .ldc2_w _ => 3
  | .tableswitch _ _ _ _ => 0 | .lookupswitch _ _ => 0 | _ => 1
def jv_fl (own : String) (i ci k p : Nat) : Bool :=
  match jv_cls[ci]? with
  | some (_, T, n) => decide (k < n) && decide (lw_tbl[p]? = some (.fieldLink own i (T k).1 (T k).2.1 (T k).2.2.1))
  | none => decide (ci = 7) && decide (lw_tbl[p]? = some (.fieldLink own i "java/lang/String" (if k = 0 then "value" else "coder") (if k = 0 then "[B" else "B")))
def jv_ml (own : String) (i a p : Nat) : Bool :=
  if a = 1000 then decide (lw_tbl[p]? = some (.methodLink own i Lib.Math.max.name))
  else if a = 1001 then decide (lw_tbl[p]? = some (.methodLink own i Lib.Math.min.name))
  else if a = 1002 then decide (lw_tbl[p]? = some (.methodLink own i arraycopyName))
  else match jv_mt[a]? with
    | some m => decide (lw_tbl[p]? = some (.methodLink own i m.1))
    | none => false
def jv_chk (m : jM) (pc : Nat) (e : jE) : Bool :=
  let l := if jv_len e.1 = 0 then e.2.1 - pc else jv_len e.1
  decide (decode m.2.1 pc = .ok (e.1, l)) && decide (e.2.1 = pc + l) &&
  match e.1 with
  | .getfield i => jv_fl m.1.cls i e.2.2.1 e.2.2.2.1 e.2.2.2.2
  | .putfield i => jv_fl m.1.cls i e.2.2.1 e.2.2.2.1 e.2.2.2.2
  | .goto o => decide ((pc : Int) + o = (e.2.2.1 : Int))
  | .ifCond _ o => decide ((pc : Int) + o = (e.2.2.1 : Int))
  | .if_icmp _ o => decide ((pc : Int) + o = (e.2.2.1 : Int))
  | .invokevirtual i => jv_ml m.1.cls i e.2.2.1 e.2.2.2.2
  | .invokestatic i => jv_ml m.1.cls i e.2.2.1 e.2.2.2.2
  | .ldc i => if e.2.2.2.1 = 1 then decide (m.1.cls = "OddBank$Page" ∧ i = 64) else decide (lw_tbl[e.2.2.2.2]? = some (.constant m.1.cls i (Int32.ofNat e.2.2.1)))
  | .ldc_w i => decide (lw_tbl[e.2.2.2.2]? = some (.constant m.1.cls i (Int32.ofNat e.2.2.1)))
  | .ldc2_w i => decide (lw_tbl[e.2.2.2.2]? = some (.constantLong m.1.cls i (Int64.ofNat e.2.2.1)))
  | .getstatic i => if e.2.2.1 = 0 then decide (lw_tbl[e.2.2.2.2]? = some (.fieldLink m.1.cls i "OddBank$Calendar" "MONTHS" "[I")) else decide (lw_tbl[e.2.2.2.2]? = some (.fieldLink m.1.cls i "java/lang/String" "COMPACT_STRINGS" "Z"))
  | .bipush n => decide ((Int8.ofInt n).toInt32 = iI n)
  | .sipush n => decide ((Int16.ofInt n).toInt32 = iI n)
  | .tableswitch d lo hi offs => decide (hi = lo + offs.size - 1) && decide (-1000 ≤ lo ∧ hi ≤ 1000 ∧ lo ≤ hi) && decide (0 ≤ (pc : Int) + d) && offs.toList.all (fun o => decide (0 ≤ (pc : Int) + o))
  | .lookupswitch d ps => (ps.toList.zip (ps.toList.drop 1)).all (fun (a, next) => a.1 < next.1) && decide (0 ≤ (pc : Int) + d) && ps.toList.all (fun o => decide (0 ≤ (pc : Int) + o.2 ∧ -1000000 ≤ o.1 ∧ o.1 ≤ 1000000))
  | _ => true
def jv_ckt (m : jM) : Nat → List (Option jE) → Bool
  | _, [] => true
  | pc, none :: t => jv_ckt m (pc + 1) t
  | pc, some e :: t => jv_chk m pc e && jv_ckt m (pc + 1) t
theorem jk_t0 : ((jv_mt.zip jv_pt).take 1).all (fun q => jv_ckt q.1 0 q.2) = true := by decide +kernel
