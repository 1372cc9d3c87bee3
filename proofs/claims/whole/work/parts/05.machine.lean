/-! the little machine: stores, frames, one step as a predicate transformer, the least fixed point -/
abbrev jSt : Type := (Nat → Nat → Int32) × Int64 × Nat × (Nat → Int32)
abbrev jFr : Type := Nat × Nat × List (Option Value) × List Value × jSt
abbrev jPo : Type := Option Value → jSt → Prop
def jv_a (σ : jSt) (c : Nat) (f : Nat → Int32) : jSt := (fun a => if a = c then f else σ.1 a, σ.2)
def jv_u (σ : jSt) (c k : Nat) (x : Int32) : jSt := jv_a σ c (upd (σ.1 c) k x)
def jv_h (σ : jSt) (x : Int64) : jSt := (σ.1, x, σ.2.2)
def jv_mon (j : Nat) : Int32 := ([31, 28, 31, 30, 31, 30, 31, 31, 30, 31, 30, 31] : List Int32).getD j 0
def jv_byt (j : Nat) : Int32 := ([112, 109, 116, 100, 102] : List Int32).getD j 0
def jv_prog (mi pc : Nat) : Option jE := match jv_pt[mi]? with
  | some t => match t[pc]? with
    | some e => e
    | none => none
  | none => none
def jk_i (st : List Value) (k : Int32 → List Value → Prop) : Prop := match st with
  | .int x :: r => k x r
  | _ => False
def jk_ii (st : List Value) (k : Int32 → Int32 → List Value → Prop) : Prop := match st with
  | .int y :: .int x :: r => k x y r
  | _ => False
def jk_l (st : List Value) (k : Int64 → List Value → Prop) : Prop := match st with
  | .long x :: r => k x r
  | _ => False
def jk_ll (st : List Value) (k : Int64 → Int64 → List Value → Prop) : Prop := match st with
  | .long y :: .long x :: r => k x y r
  | _ => False
def jk_r (st : List Value) (k : Nat → List Value → Prop) : Prop := match st with
  | .ref x :: r => k x r
  | _ => False
def jk_ir (st : List Value) (k : Int32 → Nat → List Value → Prop) : Prop := match st with
  | .int i :: .ref x :: r => k i x r
  | _ => False
def jk_iir (st : List Value) (k : Int32 → Int32 → Nat → List Value → Prop) : Prop := match st with
  | .int v :: .int i :: .ref x :: r => k v i x r
  | _ => False
def jk_li (ls : List (Option Value)) (i : Nat) (k : Int32 → Prop) : Prop := match ls[i]? with
  | some (some (.int x)) => k x
  | _ => False
def jk_ll' (ls : List (Option Value)) (i : Nat) (k : Int64 → Prop) : Prop := match ls[i]? with
  | some (some (.long x)) => k x
  | _ => False
def jk_lr (ls : List (Option Value)) (i : Nat) (k : Nat → Prop) : Prop := match ls[i]? with
  | some (some (.ref x)) => k x
  | _ => False
/-- the slot ahead of place i holds a long: it is gone when i is written -/
def jv_cut (ls : List (Option Value)) (i : Nat) : List (Option Value) := match i with
  | 0 => ls
  | j + 1 => match ls[j]? with
    | some (some (.long _)) => ls.set j none
    | some (some (.double _)) => ls.set j none
    | _ => ls
def jk_st : List (Option Value) → Nat → Value → (List (Option Value) → Prop) → Prop
  | [], _, _, _ => False
  | _ :: r, 0, v, k => k (some v :: r)
  | [_], 1, _, _ => False
  | x :: _ :: r, 1, v, k => (match x with
    | some (.long _) => k (none :: some v :: r)
    | some (.double _) => k (none :: some v :: r)
    | _ => k (x :: some v :: r))
  | x :: r, i + 2, v, k => jk_st r (i + 1) v (fun r => k (x :: r))
def jk_st2 : List (Option Value) → Nat → Value → (List (Option Value) → Prop) → Prop
  | _ :: _ :: r, 0, v, k => k (some v :: none :: r)
  | x :: _ :: _ :: r, 1, v, k => (match x with
    | some (.long _) => k (none :: some v :: none :: r)
    | some (.double _) => k (none :: some v :: none :: r)
    | _ => k (x :: some v :: none :: r))
  | x :: r, i + 2, v, k => jk_st2 r (i + 1) v (fun r => k (x :: r))
  | _, _, _, _ => False
def jv_pop : Nat → List Value → List Value → (List Value → List Value → Prop) → Prop
  | 0, st, acc, k => k acc st
  | n + 1, v :: st, acc, k => jv_pop n st (v :: acc) k
  | _ + 1, [], _, _ => False
/-- a switch: keys and offsets -/
def jv_sw (x : Int32) (lf : Int → Prop) : List (Int × Int) → Int → Prop
  | [], d => lf d
  | (k, o) :: r, d => (x = iI k → lf o) ∧ (¬ x = iI k → jv_sw x lf r d)
def jv_keys : Int → List Int → List (Int × Int)
  | _, [] => []
  | k, o :: r => (k, o) :: jv_keys (k + 1) r
def jv_ald (σ : jSt) (i : Int32) (c : Nat) (k : Int32 → Prop) : Prop := match jv_shp[c]? with
  | some (.inl (n, .int)) => vp_in i n ∧ k (σ.1 c i.toNatClampNeg)
  | some _ => False
  | none => if c = 56 then vp_in i σ.2.2.1 ∧ k (σ.2.2.2 i.toNatClampNeg) else if c = 57 then vp_in i 12 ∧ k (jv_mon i.toNatClampNeg) else False
def jv_ast (σ : jSt) (x i : Int32) (c : Nat) (k : jSt → Prop) : Prop := match jv_shp[c]? with
  | some (.inl (n, .int)) => vp_in i n ∧ k (jv_u σ c i.toNatClampNeg x)
  | _ => False
def jv_bld (σ : jSt) (i : Int32) (c : Nat) (k : Int32 → Prop) : Prop := match jv_shp[c]? with
  | some (.inl (n, .boolean)) => vp_in i n ∧ k (σ.1 c i.toNatClampNeg)
  | some _ => False
  | none => if c = 59 then vp_in i 5 ∧ k (jv_byt i.toNatClampNeg) else False
def jv_bst (σ : jSt) (x i : Int32) (c : Nat) (k : jSt → Prop) : Prop := match jv_shp[c]? with
  | some (.inl (n, .boolean)) => vp_in i n ∧ (x = 0 ∨ x = 1) ∧ k (jv_u σ c i.toNatClampNeg x)
  | _ => False
def jv_aln (σ : jSt) (c : Nat) (k : Int32 → Prop) : Prop := match jv_shp[c]? with
  | some (.inl (n, _)) => k (Int32.ofNat n)
  | some _ => False
  | none => if c = 56 then k (Int32.ofNat σ.2.2.1) else if c = 57 then k (Int32.ofNat 12) else if c = 59 then k (Int32.ofNat 5) else False
def jv_gf (σ : jSt) (c ci j : Nat) (k : Value → Prop) : Prop := match jv_shp[c]? with
  | some (.inr (cj, fs)) => if cj = ci then (match fs[j]? with
    | some 0 => k (.int (σ.1 c j))
    | some 1 => k (.long σ.2.1)
    | some (n + 2) => k (.ref n)
    | none => False) else False
  | some _ => False
  | none => if c = 58 ∧ ci = 7 then (if j = 0 then k (.ref 59) else if j = 1 then k (.int 0) else False) else False
def jv_pf (σ : jSt) (v : Value) (c ci j : Nat) (k : jSt → Prop) : Prop := match jv_shp[c]? with
  | some (.inr (cj, fs)) => if cj = ci then (match fs[j]?, v with
    | some 0, .int x => k (jv_u σ c j x)
    | some 1, .long x => k (jv_h σ x)
    | _, _ => False) else False
  | _ => False
def jv_slots : List Value → List (Option Value)
  | [] => []
  | .long x :: r => some (.long x) :: none :: jv_slots r
  | .double x :: r => some (.double x) :: none :: jv_slots r
  | v :: r => some v :: jv_slots r
def jv_pad (n : Nat) (l : List (Option Value)) : List (Option Value) := l ++ List.replicate (n - l.length) none
def jv_maxL (mi : Nat) : Nat := match jv_mt[mi]? with
  | some m => m.2.2.1
  | none => 0
def jv_en (mi : Nat) (as : List Value) (σ : jSt) : jFr := (mi, 0, jv_pad (jv_maxL mi) (jv_slots as), [], σ)
def jv_rcv (ci : Nat) (as : List Value) : Bool := match as with
  | .ref c :: _ => match jv_shp[c]? with
    | some (.inr (cj, _)) => cj == ci
    | some _ => false
    | none => c == 58 && ci == 7
  | _ => false
def jv_cpy (σ : jSt) (st : List Value) (k : jSt → List Value → Prop) : Prop := match st with
  | .int n :: .int dp :: .ref b :: .int sp :: .ref a :: r => match jv_shp[a]?, jv_shp[b]? with
    | some (.inl (n0, .int)), some (.inl (n1, .int)) => (¬ sp < 0 ∧ ¬ dp < 0 ∧ ¬ n < 0 ∧ sp.toNatClampNeg + n.toNatClampNeg ≤ n0 ∧ dp.toNatClampNeg + n.toNatClampNeg ≤ n1 ∧ (r.map fun v => v.category).sum ≤ 8) ∧ k (jv_a σ b (va_cpy (σ.1 a) (σ.1 b) sp.toNatClampNeg dp.toNatClampNeg n.toNatClampNeg)) r
    | _, _ => False
  | _ => False
def jv_cI (call : Nat → List Value → jSt → jPo → Prop) (a : Nat) (as : List Value) (σ : jSt) (k : Int32 → jSt → Prop) : Prop := call a as σ (fun r σ' => ∃ x, r = some (.int x) ∧ k x σ')
def jv_cL (call : Nat → List Value → jSt → jPo → Prop) (a : Nat) (as : List Value) (σ : jSt) (k : Int64 → jSt → Prop) : Prop := call a as σ (fun r σ' => ∃ x, r = some (.long x) ∧ k x σ')
def jv_cV (call : Nat → List Value → jSt → jPo → Prop) (a : Nat) (as : List Value) (σ : jSt) (k : jSt → Prop) : Prop := call a as σ (fun r σ' => r = none ∧ k σ')
def jv_inv (call : Nat → List Value → jSt → jPo → Prop) (vir : Bool) (a : Nat) (st : List Value) (σ : jSt) (nx : List Value → jSt → Prop) : Prop := match jv_mt[a]? with
  | some (_, _, ml, ret, n, kind, ci, _) => jv_pop n st [] (fun as r =>
    if (kind == 1) == vir && decide (a ≠ 0) && decide ((jv_slots as).length ≤ ml) && decide ((r.map fun v => v.category).sum ≤ 8) && (!vir || jv_rcv ci as) then
      (match ret with
      | none => jv_cV call a as σ (fun σ' => nx r σ')
      | some .long => jv_cL call a as σ (fun x σ' => nx (.long x :: r) σ')
      | some _ => jv_cI call a as σ (fun x σ' => nx (.int x :: r) σ'))
    else False)
  | none => False
def jv_ret (mi : Nat) (post : jPo) (st : List Value) (σ : jSt) : Prop := match jv_mt[mi]?, st with
  | some (_, _, _, some .int, _), [.int x] => post (some (.int x)) σ
  | some (_, _, _, some .boolean, _), [.int x] => (x = 0 ∨ x = 1) ∧ post (some (.int x)) σ
  | some (_, _, _, some .byte, _), [.int x] => x = 0 ∧ post (some (.int x)) σ
  | _, _ => False
def jv_ex (call : Nat → List Value → jSt → jPo → Prop) (leaf : jFr → Prop) (post : jPo) (mi pc : Nat) (e : jE) (ls : List (Option Value)) (st : List Value) (σ : jSt) : Prop := match e.1 with
  | .iconst n => leaf (mi, e.2.1, ls, .int (iI n) :: st, σ)
  | .bipush n => leaf (mi, e.2.1, ls, .int (iI n) :: st, σ)
  | .sipush n => leaf (mi, e.2.1, ls, .int (iI n) :: st, σ)
  | .lconst n => leaf (mi, e.2.1, ls, .long (Int64.ofNat n.val) :: st, σ)
  | .ldc _ => if e.2.2.2.1 = 1 then leaf (mi, e.2.1, ls, .ref 58 :: st, σ) else leaf (mi, e.2.1, ls, .int (Int32.ofNat e.2.2.1) :: st, σ)
  | .ldc_w _ => leaf (mi, e.2.1, ls, .int (Int32.ofNat e.2.2.1) :: st, σ)
  | .ldc2_w _ => leaf (mi, e.2.1, ls, .long (Int64.ofNat e.2.2.1) :: st, σ)
  | .iload_n i => jk_li ls i.val (fun x => leaf (mi, e.2.1, ls, .int x :: st, σ))
  | .iload i => jk_li ls i (fun x => leaf (mi, e.2.1, ls, .int x :: st, σ))
  | .lload_n i => jk_ll' ls i.val (fun x => leaf (mi, e.2.1, ls, .long x :: st, σ))
  | .lload i => jk_ll' ls i (fun x => leaf (mi, e.2.1, ls, .long x :: st, σ))
  | .aload_n i => jk_lr ls i.val (fun x => leaf (mi, e.2.1, ls, .ref x :: st, σ))
  | .istore_n i => jk_i st (fun x r => jk_st ls i.val (.int x) (fun ls => leaf (mi, e.2.1, ls, r, σ)))
  | .istore i => jk_i st (fun x r => jk_st ls i (.int x) (fun ls => leaf (mi, e.2.1, ls, r, σ)))
  | .lstore_n i => jk_l st (fun x r => jk_st2 ls i.val (.long x) (fun ls => leaf (mi, e.2.1, ls, r, σ)))
  | .iinc i n => jk_li ls i (fun x => jk_st ls i (.int (x + iI n)) (fun ls => leaf (mi, e.2.1, ls, st, σ)))
  | .iadd => jk_ii st (fun x y r => leaf (mi, e.2.1, ls, .int (x + y) :: r, σ))
  | .isub => jk_ii st (fun x y r => leaf (mi, e.2.1, ls, .int (x - y) :: r, σ))
  | .imul => jk_ii st (fun x y r => leaf (mi, e.2.1, ls, .int (x * y) :: r, σ))
  | .iand => jk_ii st (fun x y r => leaf (mi, e.2.1, ls, .int (x &&& y) :: r, σ))
  | .ior => jk_ii st (fun x y r => leaf (mi, e.2.1, ls, .int (x ||| y) :: r, σ))
  | .ixor => jk_ii st (fun x y r => leaf (mi, e.2.1, ls, .int (x ^^^ y) :: r, σ))
  | .ishl => jk_ii st (fun x y r => leaf (mi, e.2.1, ls, .int (x <<< (y &&& 31)) :: r, σ))
  | .ishr => jk_ii st (fun x y r => leaf (mi, e.2.1, ls, .int (x >>> (y &&& 31)) :: r, σ))
  | .iushr => jk_ii st (fun x y r => leaf (mi, e.2.1, ls, .int (x.toUInt32 >>> (y.toUInt32 &&& Int32.toUInt32 31)).toInt32 :: r, σ))
  | .idiv => jk_ii st (fun x y r => ¬ y = 0 ∧ leaf (mi, e.2.1, ls, .int (x / y) :: r, σ))
  | .irem => jk_ii st (fun x y r => ¬ y = 0 ∧ leaf (mi, e.2.1, ls, .int (x - x / y * y) :: r, σ))
  | .ladd => jk_ll st (fun x y r => leaf (mi, e.2.1, ls, .long (x + y) :: r, σ))
  | .lmul => jk_ll st (fun x y r => leaf (mi, e.2.1, ls, .long (x * y) :: r, σ))
  | .land => jk_ll st (fun x y r => leaf (mi, e.2.1, ls, .long (x &&& y) :: r, σ))
  | .lcmp => jk_ll st (fun x y r => leaf (mi, e.2.1, ls, .int (lg_cmp x y) :: r, σ))
  | .i2l => jk_i st (fun x r => leaf (mi, e.2.1, ls, .long x.toInt64 :: r, σ))
  | .l2i => jk_l st (fun x r => leaf (mi, e.2.1, ls, .int x.toInt32 :: r, σ))
  | .i2c => jk_i st (fun x r => leaf (mi, e.2.1, ls, .int (x.toUInt32 % 65536).toInt32 :: r, σ))
  | .i2b => jk_i st (fun x r => leaf (mi, e.2.1, ls, .int x.toInt8.toInt32 :: r, σ))
  | .dup => (match st with
    | .int x :: r => leaf (mi, e.2.1, ls, .int x :: .int x :: r, σ)
    | .ref x :: r => leaf (mi, e.2.1, ls, .ref x :: .ref x :: r, σ)
    | _ => False)
  | .pop => jk_i st (fun _ r => leaf (mi, e.2.1, ls, r, σ))
  | .goto _ => leaf (mi, e.2.2.1, ls, st, σ)
  | .ifCond .eq _ => jk_i st (fun x r => (x = 0 → leaf (mi, e.2.2.1, ls, r, σ)) ∧ (¬ x = 0 → leaf (mi, e.2.1, ls, r, σ)))
  | .ifCond .ne _ => jk_i st (fun x r => (¬ x = 0 → leaf (mi, e.2.2.1, ls, r, σ)) ∧ (x = 0 → leaf (mi, e.2.1, ls, r, σ)))
  | .ifCond .lt _ => jk_i st (fun x r => (x < 0 → leaf (mi, e.2.2.1, ls, r, σ)) ∧ (¬ x < 0 → leaf (mi, e.2.1, ls, r, σ)))
  | .ifCond .ge _ => jk_i st (fun x r => (0 ≤ x → leaf (mi, e.2.2.1, ls, r, σ)) ∧ (¬ 0 ≤ x → leaf (mi, e.2.1, ls, r, σ)))
  | .ifCond .gt _ => jk_i st (fun x r => (0 < x → leaf (mi, e.2.2.1, ls, r, σ)) ∧ (¬ 0 < x → leaf (mi, e.2.1, ls, r, σ)))
  | .ifCond .le _ => jk_i st (fun x r => (x ≤ 0 → leaf (mi, e.2.2.1, ls, r, σ)) ∧ (¬ x ≤ 0 → leaf (mi, e.2.1, ls, r, σ)))
  | .if_icmp .eq _ => jk_ii st (fun x y r => (x = y → leaf (mi, e.2.2.1, ls, r, σ)) ∧ (¬ x = y → leaf (mi, e.2.1, ls, r, σ)))
  | .if_icmp .ne _ => jk_ii st (fun x y r => (¬ x = y → leaf (mi, e.2.2.1, ls, r, σ)) ∧ (x = y → leaf (mi, e.2.1, ls, r, σ)))
  | .if_icmp .lt _ => jk_ii st (fun x y r => (x < y → leaf (mi, e.2.2.1, ls, r, σ)) ∧ (¬ x < y → leaf (mi, e.2.1, ls, r, σ)))
  | .if_icmp .ge _ => jk_ii st (fun x y r => (y ≤ x → leaf (mi, e.2.2.1, ls, r, σ)) ∧ (¬ y ≤ x → leaf (mi, e.2.1, ls, r, σ)))
  | .if_icmp .gt _ => jk_ii st (fun x y r => (y < x → leaf (mi, e.2.2.1, ls, r, σ)) ∧ (¬ y < x → leaf (mi, e.2.1, ls, r, σ)))
  | .if_icmp .le _ => jk_ii st (fun x y r => (x ≤ y → leaf (mi, e.2.2.1, ls, r, σ)) ∧ (¬ x ≤ y → leaf (mi, e.2.1, ls, r, σ)))
  | .tableswitch d lo _ offs => jk_i st (fun x r => jv_sw x (fun o => leaf (mi, ((pc : Int) + o).toNat, ls, r, σ)) (jv_keys lo offs.toList) d)
  | .lookupswitch d ps => jk_i st (fun x r => jv_sw x (fun o => leaf (mi, ((pc : Int) + o).toNat, ls, r, σ)) ps.toList d)
  | .getfield _ => jk_r st (fun c r => jv_gf σ c e.2.2.1 e.2.2.2.1 (fun v => leaf (mi, e.2.1, ls, v :: r, σ)))
  | .putfield _ => (match st with
    | v :: .ref c :: r => jv_pf σ v c e.2.2.1 e.2.2.2.1 (fun σ => leaf (mi, e.2.1, ls, r, σ))
    | _ => False)
  | .getstatic _ => if e.2.2.1 = 0 then leaf (mi, e.2.1, ls, .ref 57 :: st, σ) else leaf (mi, e.2.1, ls, .int 1 :: st, σ)
  | .iaload => jk_ir st (fun i c r => jv_ald σ i c (fun x => leaf (mi, e.2.1, ls, .int x :: r, σ)))
  | .iastore => jk_iir st (fun x i c r => jv_ast σ x i c (fun σ => leaf (mi, e.2.1, ls, r, σ)))
  | .baload => jk_ir st (fun i c r => jv_bld σ i c (fun x => leaf (mi, e.2.1, ls, .int x :: r, σ)))
  | .bastore => jk_iir st (fun x i c r => jv_bst σ x i c (fun σ => leaf (mi, e.2.1, ls, r, σ)))
  | .arraylength => jk_r st (fun c r => jv_aln σ c (fun x => leaf (mi, e.2.1, ls, .int x :: r, σ)))
  | .invokevirtual _ => jv_inv call true e.2.2.1 st σ (fun st σ => leaf (mi, e.2.1, ls, st, σ))
  | .invokestatic _ => if e.2.2.1 = 1000 then jk_ii st (fun x y r => (r.map fun v => v.category).sum ≤ 8 ∧ leaf (mi, e.2.1, ls, .int (if x < y then y else x) :: r, σ))
    else if e.2.2.1 = 1001 then jk_ii st (fun x y r => (r.map fun v => v.category).sum ≤ 8 ∧ leaf (mi, e.2.1, ls, .int (if y < x then y else x) :: r, σ))
    else if e.2.2.1 = 1002 then jv_cpy σ st (fun σ r => leaf (mi, e.2.1, ls, r, σ))
    else jv_inv call false e.2.2.1 st σ (fun st σ => leaf (mi, e.2.1, ls, st, σ))
  | .ireturn => jv_ret mi post st σ
  | .lreturn => (match jv_mt[mi]?, st with
    | some (_, _, _, some .long, _), [.long x] => post (some (.long x)) σ
    | _, _ => False)
  | .return_ => (match jv_mt[mi]?, st with
    | some (_, _, _, none, _), [] => post none σ
    | _, _ => False)
  | _ => False
def jv_tr (call : Nat → List Value → jSt → jPo → Prop) (leaf : jFr → Prop) (post : jPo) (fr : jFr) : Prop := match jv_prog fr.1 fr.2.1 with
  | some e => jv_ex call leaf post fr.1 fr.2.1 e fr.2.2.1 fr.2.2.2.1 fr.2.2.2.2
  | none => False
def jv_cl (X : Nat → jPo → jFr → Prop) (d : Nat) : Nat → List Value → jSt → jPo → Prop := fun mi as σ Q => match d with
  | 0 => False
  | d + 1 => X d Q (jv_en mi as σ)
/-- the least X that is closed under a step backwards -/
def jv_wp (d : Nat) (post : jPo) (fr : jFr) : Prop := ∀ X : Nat → jPo → jFr → Prop, (∀ d post fr, jv_tr (jv_cl X d) (X d post) post fr → X d post fr) → X d post fr
/-- steps as many as n, up to a place of 'cuts' -/
def jv_go : Nat → List Nat → Nat → jPo → jFr → Prop
  | 0, _, d, post, fr => jv_wp d post fr
  | n + 1, cuts, d, post, fr => jv_tr (jv_cl jv_wp d) (fun fr' => if cuts.contains fr'.2.1 then jv_wp d post fr' else jv_go n cuts d post fr') post fr
section JM
variable {σ : jSt} {st : List Value} {ls : List (Option Value)} {c ci i j : Nat} {x z : Int32} {v : Value}
theorem jk_i_m {k k' : Int32 → List Value → Prop} (h : ∀ x r, k x r → k' x r) (q : jk_i st k) : jk_i st k' := by
  unfold jk_i at *; split at q
  · exact h _ _ q
  · exact q.elim
theorem jk_ii_m {k k' : Int32 → Int32 → List Value → Prop} (h : ∀ x y r, k x y r → k' x y r) (q : jk_ii st k) : jk_ii st k' := by
  unfold jk_ii at *; split at q
  · exact h _ _ _ q
  · exact q.elim
theorem jk_l_m {k k' : Int64 → List Value → Prop} (h : ∀ x r, k x r → k' x r) (q : jk_l st k) : jk_l st k' := by
  unfold jk_l at *; split at q
  · exact h _ _ q
  · exact q.elim
theorem jk_ll_m {k k' : Int64 → Int64 → List Value → Prop} (h : ∀ x y r, k x y r → k' x y r) (q : jk_ll st k) : jk_ll st k' := by
  unfold jk_ll at *; split at q
  · exact h _ _ _ q
  · exact q.elim
theorem jk_r_m {k k' : Nat → List Value → Prop} (h : ∀ x r, k x r → k' x r) (q : jk_r st k) : jk_r st k' := by
  unfold jk_r at *; split at q
  · exact h _ _ q
  · exact q.elim
theorem jk_ir_m {k k' : Int32 → Nat → List Value → Prop} (h : ∀ x y r, k x y r → k' x y r) (q : jk_ir st k) : jk_ir st k' := by
  unfold jk_ir at *; split at q
  · exact h _ _ _ q
  · exact q.elim
theorem jk_iir_m {k k' : Int32 → Int32 → Nat → List Value → Prop} (h : ∀ x y z r, k x y z r → k' x y z r) (q : jk_iir st k) : jk_iir st k' := by
  unfold jk_iir at *; split at q
  · exact h _ _ _ _ q
  · exact q.elim
theorem jk_li_m {k k' : Int32 → Prop} (h : ∀ x, k x → k' x) (q : jk_li ls i k) : jk_li ls i k' := by
  unfold jk_li at *; split at q
  · exact h _ q
  · exact q.elim
theorem jk_ll'_m {k k' : Int64 → Prop} (h : ∀ x, k x → k' x) (q : jk_ll' ls i k) : jk_ll' ls i k' := by
  unfold jk_ll' at *; split at q
  · exact h _ q
  · exact q.elim
theorem jk_lr_m {k k' : Nat → Prop} (h : ∀ x, k x → k' x) (q : jk_lr ls i k) : jk_lr ls i k' := by
  unfold jk_lr at *; split at q
  · exact h _ q
  · exact q.elim
theorem jk_st_m' {v : Value} : ∀ (ls : List (Option Value)) (i : Nat) (k k' : List (Option Value) → Prop), (∀ x, k x → k' x) → jk_st ls i v k → jk_st ls i v k'
  | [], _, _, _, _, q => q.elim
  | [_], 0, _, _, h, q => h _ q
  | _ :: _ :: _, 0, _, _, h, q => h _ q
  | [_], 1, _, _, _, q => q.elim
  | x :: y :: r, 1, k, k', h, q => by
    simp only [jk_st] at q ⊢
    split at q <;> exact h _ q
  | [x], i + 2, k, k', h, q => (show False from q).elim
  | x :: y :: r, i + 2, k, k', h, q => jk_st_m' (y :: r) (i + 1) (fun r => k (x :: r)) (fun r => k' (x :: r)) (fun _ w => h _ w) q
theorem jk_st_m {k k' : List (Option Value) → Prop} (h : ∀ x, k x → k' x) (q : jk_st ls i v k) : jk_st ls i v k' := jk_st_m' ls i k k' h q
theorem jk_st2_m' {v : Value} : ∀ (ls : List (Option Value)) (i : Nat) (k k' : List (Option Value) → Prop), (∀ x, k x → k' x) → jk_st2 ls i v k → jk_st2 ls i v k'
  | [], 0, _, _, _, q => q.elim
  | [], 1, _, _, _, q => q.elim
  | [], _ + 2, _, _, _, q => q.elim
  | [_], 0, _, _, _, q => q.elim
  | [_, _], 0, _, _, h, q => h _ q
  | _ :: _ :: _ :: _, 0, _, _, h, q => h _ q
  | [_], 1, _, _, _, q => q.elim
  | [_, _], 1, _, _, _, q => q.elim
  | x :: y :: z :: r, 1, k, k', h, q => by
    simp only [jk_st2] at q ⊢
    split at q <;> exact h _ q
  | [x], 2, k, k', h, q => (show False from q).elim
  | [x], i + 3, k, k', h, q => (show False from q).elim
  | [x, y], i + 2, k, k', h, q => jk_st2_m' [y] (i + 1) (fun r => k (x :: r)) (fun r => k' (x :: r)) (fun _ w => h _ w) q
  | x :: y :: z :: r, i + 2, k, k', h, q => jk_st2_m' (y :: z :: r) (i + 1) (fun r => k (x :: r)) (fun r => k' (x :: r)) (fun _ w => h _ w) q
theorem jk_st2_m {k k' : List (Option Value) → Prop} (h : ∀ x, k x → k' x) (q : jk_st2 ls i v k) : jk_st2 ls i v k' := jk_st2_m' ls i k k' h q
theorem jv_pop_m {k k' : List Value → List Value → Prop} (h : ∀ x r, k x r → k' x r) : ∀ (n : Nat) (st acc : List Value), jv_pop n st acc k → jv_pop n st acc k'
  | 0, st, acc, q => h _ _ q
  | n + 1, v :: st, acc, q => jv_pop_m h n st (v :: acc) q
  | _ + 1, [], _, q => q.elim
theorem jv_pop_to {k : List Value → List Value → Prop} : ∀ (n : Nat) (st acc : List Value), jv_pop n st acc k → (st.take n).length = n ∧ k ((st.take n).reverse ++ acc) (st.drop n)
  | 0, st, acc, q => ⟨by simp, by simpa [jv_pop] using q⟩
  | n + 1, v :: st, acc, q => by
    obtain ⟨h1, h2⟩ := jv_pop_to n st (v :: acc) q
    refine ⟨by simpa using h1, ?_⟩
    simpa using h2
  | _ + 1, [], _, q => q.elim
theorem jv_sw_m {lf lf' : Int → Prop} (h : ∀ x, lf x → lf' x) : ∀ (l : List (Int × Int)) (d : Int), jv_sw x lf l d → jv_sw x lf' l d
  | [], d, q => h d q
  | (k, o) :: r, d, q => ⟨fun e => h o (q.1 e), fun e => jv_sw_m h r d (q.2 e)⟩
theorem jv_ald_m {k k' : Int32 → Prop} (h : ∀ x, k x → k' x) (q : jv_ald σ x c k) : jv_ald σ x c k' := by
  unfold jv_ald at *; split at q
  · exact ⟨q.1, h _ q.2⟩
  · exact q.elim
  · split at q
    · next e => rw [if_pos e]; exact ⟨q.1, h _ q.2⟩
    · next e =>
      rw [if_neg e]
      split at q
      · next e => rw [if_pos e]; exact ⟨q.1, h _ q.2⟩
      · exact q.elim
theorem jv_bld_m {k k' : Int32 → Prop} (h : ∀ x, k x → k' x) (q : jv_bld σ x c k) : jv_bld σ x c k' := by
  unfold jv_bld at *; split at q
  · exact ⟨q.1, h _ q.2⟩
  · exact q.elim
  · split at q
    · next e => rw [if_pos e]; exact ⟨q.1, h _ q.2⟩
    · exact q.elim
theorem jv_ast_m {k k' : jSt → Prop} (h : ∀ x, k x → k' x) (q : jv_ast σ z x c k) : jv_ast σ z x c k' := by
  unfold jv_ast at *; split at q
  · exact ⟨q.1, h _ q.2⟩
  · exact q.elim
theorem jv_bst_m {k k' : jSt → Prop} (h : ∀ x, k x → k' x) (q : jv_bst σ z x c k) : jv_bst σ z x c k' := by
  unfold jv_bst at *; split at q
  · exact ⟨q.1, q.2.1, h _ q.2.2⟩
  · exact q.elim
theorem jv_aln_m {k k' : Int32 → Prop} (h : ∀ x, k x → k' x) (q : jv_aln σ c k) : jv_aln σ c k' := by
  unfold jv_aln at *; split at q
  · exact h _ q
  · exact q.elim
  · split at q
    · next e => rw [if_pos e]; exact h _ q
    · next e =>
      rw [if_neg e]
      split at q
      · next e => rw [if_pos e]; exact h _ q
      · next e =>
        rw [if_neg e]
        split at q
        · next e => rw [if_pos e]; exact h _ q
        · exact q.elim
theorem jv_gf_m {k k' : Value → Prop} (h : ∀ x, k x → k' x) (q : jv_gf σ c ci j k) : jv_gf σ c ci j k' := by
  unfold jv_gf at *; split at q
  · split at q
    · next e =>
      rw [if_pos e]
      split at q <;> first | exact h _ q | exact q.elim
    · exact q.elim
  · exact q.elim
  · split at q
    · next e =>
      rw [if_pos e]
      split at q
      · next e => rw [if_pos e]; exact h _ q
      · next e =>
        rw [if_neg e]
        split at q
        · next e => rw [if_pos e]; exact h _ q
        · exact q.elim
    · exact q.elim
theorem jv_pf_m {k k' : jSt → Prop} (h : ∀ x, k x → k' x) (q : jv_pf σ v c ci j k) : jv_pf σ v c ci j k' := by
  unfold jv_pf at *; split at q
  · split at q
    · next e =>
      rw [if_pos e]
      split at q <;> first | exact h _ q | exact q.elim
    · exact q.elim
  · exact q.elim
theorem jv_cpy_m {k k' : jSt → List Value → Prop} (h : ∀ x r, k x r → k' x r) (q : jv_cpy σ st k) : jv_cpy σ st k' := by
  unfold jv_cpy at *; split at q
  · split at q
    · exact ⟨q.1, h _ _ q.2⟩
    · exact q.elim
  · exact q.elim
theorem jv_ret_m {mi : Nat} {k k' : jPo} (h : ∀ x r, k x r → k' x r) (q : jv_ret mi k st σ) : jv_ret mi k' st σ := by
  unfold jv_ret at *; split at q
  · exact h _ _ q
  · exact ⟨q.1, h _ _ q.2⟩
  · exact ⟨q.1, h _ _ q.2⟩
  · exact q.elim
theorem jv_inv_m {call call' : Nat → List Value → jSt → jPo → Prop} {vir : Bool} {a : Nat} {nx nx' : List Value → jSt → Prop} (hc : ∀ (mi : Nat) (as : List Value) (σ : jSt) (Q Q' : jPo), (∀ r σ, Q r σ → Q' r σ) → call mi as σ Q → call' mi as σ Q') (h : ∀ x r, nx x r → nx' x r) (q : jv_inv call vir a st σ nx) : jv_inv call' vir a st σ nx' := by
  unfold jv_inv at *; split at q
  · refine jv_pop_m (fun as r q => ?_) _ _ _ q
    split at q
    · next e =>
      rw [if_pos e]
      split at q
      · exact hc _ _ _ _ _ (fun r σ w => ⟨w.1, h _ _ w.2⟩) q
      · exact hc _ _ _ _ _ (fun r σ w => w.elim fun x w => ⟨x, w.1, h _ _ w.2⟩) q
      · exact hc _ _ _ _ _ (fun r σ w => w.elim fun x w => ⟨x, w.1, h _ _ w.2⟩) q
    · exact q.elim
  · exact q.elim
end JM
set_option maxHeartbeats 4000000 in
theorem jv_ex_m {call call' : Nat → List Value → jSt → jPo → Prop} {leaf leaf' : jFr → Prop} {post post' : jPo} {mi pc : Nat} {e : jE} {ls : List (Option Value)} {st : List Value} {σ : jSt}
    (hc : ∀ (mi : Nat) (as : List Value) (σ : jSt) (Q Q' : jPo), (∀ r σ, Q r σ → Q' r σ) → call mi as σ Q → call' mi as σ Q') (hl : ∀ fr, leaf fr → leaf' fr) (hp : ∀ r σ, post r σ → post' r σ)
    (q : jv_ex call leaf post mi pc e ls st σ) : jv_ex call' leaf' post' mi pc e ls st σ := by
  obtain ⟨i, np, a, b, c⟩ := e
  cases i
  all_goals first
    | exact q.elim
    | exact hl _ q
    | exact jk_li_m (fun _ w => hl _ w) q
    | exact jk_ll'_m (fun _ w => hl _ w) q
    | exact jk_lr_m (fun _ w => hl _ w) q
    | exact jk_i_m (fun _ _ w => hl _ w) q
    | exact jk_i_m (fun _ _ w => jk_st_m (fun _ w => hl _ w) w) q
    | exact jk_l_m (fun _ _ w => hl _ w) q
    | exact jk_l_m (fun _ _ w => jk_st2_m (fun _ w => hl _ w) w) q
    | exact jk_li_m (fun _ w => jk_st_m (fun _ w => hl _ w) w) q
    | exact jk_ii_m (fun _ _ _ w => hl _ w) q
    | exact jk_ii_m (fun _ _ _ w => ⟨w.1, hl _ w.2⟩) q
    | exact jk_ll_m (fun _ _ _ w => hl _ w) q
    | exact jk_i_m (fun _ _ w => jv_sw_m (fun _ w => hl _ w) _ _ w) q
    | exact jk_r_m (fun _ _ w => jv_gf_m (fun _ w => hl _ w) w) q
    | exact jk_ir_m (fun _ _ _ w => jv_ald_m (fun _ w => hl _ w) w) q
    | exact jk_ir_m (fun _ _ _ w => jv_bld_m (fun _ w => hl _ w) w) q
    | exact jk_iir_m (fun _ _ _ _ w => jv_ast_m (fun _ w => hl _ w) w) q
    | exact jk_iir_m (fun _ _ _ _ w => jv_bst_m (fun _ w => hl _ w) w) q
    | exact jk_r_m (fun _ _ w => jv_aln_m (fun _ w => hl _ w) w) q
    | exact jv_inv_m hc (fun _ _ w => hl _ w) q
    | exact jv_ret_m hp q
    | skip
  case if_icmp cd o =>
    cases cd <;> exact jk_ii_m (fun _ _ _ w => ⟨fun e => hl _ (w.1 e), fun e => hl _ (w.2 e)⟩) q
  case ifCond cd o =>
    cases cd <;> exact jk_i_m (fun _ _ w => ⟨fun e => hl _ (w.1 e), fun e => hl _ (w.2 e)⟩) q
  case getstatic =>
    simp only [jv_ex] at q ⊢
    split at q
    · next e => rw [if_pos e]; exact hl _ q
    · next e => rw [if_neg e]; exact hl _ q
  case ldc =>
    simp only [jv_ex] at q ⊢
    split at q
    · next e => rw [if_pos e]; exact hl _ q
    · next e => rw [if_neg e]; exact hl _ q
  case invokestatic =>
    simp only [jv_ex] at q ⊢
    split at q
    · next e => rw [if_pos e]; exact jk_ii_m (fun _ _ _ w => ⟨w.1, hl _ w.2⟩) q
    · next e =>
      rw [if_neg e]
      split at q
      · next e => rw [if_pos e]; exact jk_ii_m (fun _ _ _ w => ⟨w.1, hl _ w.2⟩) q
      · next e =>
        rw [if_neg e]
        split at q
        · next e => rw [if_pos e]; exact jv_cpy_m (fun _ _ w => hl _ w) q
        · next e => rw [if_neg e]; exact jv_inv_m hc (fun _ _ w => hl _ w) q
  all_goals
    simp only [jv_ex] at q ⊢
    repeat' split at q
    all_goals first
      | exact q.elim
      | exact hl _ q
      | exact hp _ _ q
      | exact jv_pf_m (fun _ w => hl _ w) q
      | exact jv_inv_m hc (fun _ _ w => hl _ w) q
theorem jv_tr_m {call call' : Nat → List Value → jSt → jPo → Prop} {leaf leaf' : jFr → Prop} {post post' : jPo} {fr : jFr}
    (hc : ∀ (mi : Nat) (as : List Value) (σ : jSt) (Q Q' : jPo), (∀ r σ, Q r σ → Q' r σ) → call mi as σ Q → call' mi as σ Q') (hl : ∀ fr, leaf fr → leaf' fr) (hp : ∀ r σ, post r σ → post' r σ)
    (q : jv_tr call leaf post fr) : jv_tr call' leaf' post' fr := by
  unfold jv_tr at *
  split at q
  · exact jv_ex_m hc hl hp q
  · exact q.elim
theorem jv_wp_con {d : Nat} {post post' : jPo} {fr : jFr} (h : jv_wp d post fr) (hp : ∀ r σ, post r σ → post' r σ) : jv_wp d post' fr := by
  refine h (fun d post fr => ∀ post' : jPo, (∀ r σ, post r σ → post' r σ) → jv_wp d post' fr) ?_ post' hp
  intro d post fr q post' hp X hX
  refine hX _ _ _ (jv_tr_m ?_ (fun fr w => w post' hp X hX) hp q)
  intro mi as σ Q Q' hQ w
  match d, w with
  | d + 1, w => exact w Q' hQ X hX
theorem jv_wp_tr {d : Nat} {post : jPo} {fr : jFr} (h : jv_tr (jv_cl jv_wp d) (jv_wp d post) post fr) : jv_wp d post fr := by
  intro X hX
  refine hX _ _ _ (jv_tr_m ?_ (fun fr w => w X hX) (fun _ _ w => w) h)
  intro mi as σ Q Q' hQ w
  match d, w with
  | d + 1, w => exact jv_wp_con w hQ X hX
theorem jv_go_ok : ∀ (n : Nat) (cuts : List Nat) (d : Nat) (post : jPo) (fr : jFr), jv_go n cuts d post fr → jv_wp d post fr
  | 0, _, _, _, _, h => h
  | n + 1, cuts, d, post, fr, h => by
    refine jv_wp_tr (jv_tr_m ?_ ?_ (fun _ _ w => w) h)
    · intro mi as σ Q Q' hQ w
      match d, w with
      | d + 1, w => exact jv_wp_con w hQ
    · intro fr w
      split at w
      · exact w
      · exact jv_go_ok n cuts d post fr w
