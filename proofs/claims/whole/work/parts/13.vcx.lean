/-! formulas of the class's methods (printed) -/
theorem jq_L_con {d a : Nat} {as : List Value} {σ : jSt} {k k' : Int64 → jSt → Prop} (h : jq_L d a as σ k) (hk : ∀ x σ, k x σ → k' x σ) : jq_L d a as σ k' := jv_wp_con h (fun r σ q => q.elim fun x q => ⟨x, q.1, hk _ _ q.2⟩)
def vc_X1_run (d : Nat) (post : jPo) (σ : jSt) (v2 : Int32) (v3 : Int32) : Prop :=
 (let s1 : jSt := jv_a σ 33 (va_cpy (σ.1 10) (σ.1 33) (iI 0).toNatClampNeg (iI 0).toNatClampNeg (iI 5).toNatClampNeg)
 (let s2 : jSt := jv_u s1 32 1 (iI 0)
 (let s3 : jSt := jv_u s2 32 2 (iI 0)
 (let s4 : jSt := jv_u s3 32 3 v3
 jv_wp (d + 1) post (6, 32, [some (.ref 32), some (.ref 3), some (.int v2), some (.int v3), some (.int (iI 0))], [], s4)))))
set_option maxRecDepth 100000 in
set_option maxHeartbeats 4000000 in
theorem ok_X1_run {d : Nat} {post : jPo} {σ : jSt} {v2 : Int32} {v3 : Int32} (h : vc_X1_run d post σ v2 v3) : jv_wp (d + 1) post (6, 0, [some (.ref 32), some (.ref 3), some (.int v2), some (.int v3), none], [], σ) := jv_go_ok 20 [32] _ _ _ (show ((¬ (iI 0) < 0 ∧ ¬ (iI 0) < 0 ∧ ¬ (iI 5) < 0 ∧ (iI 0).toNatClampNeg + (iI 5).toNatClampNeg ≤ 5 ∧ (iI 0).toNatClampNeg + (iI 5).toNatClampNeg ≤ 5 ∧ (([] : List Value).map fun v => v.category).sum ≤ 8) ∧ (let s1 : jSt := jv_a σ 33 (va_cpy (σ.1 10) (σ.1 33) (iI 0).toNatClampNeg (iI 0).toNatClampNeg (iI 5).toNatClampNeg)
 (let s2 : jSt := jv_u s1 32 1 (iI 0)
 (let s3 : jSt := jv_u s2 32 2 (iI 0)
 (let s4 : jSt := jv_u s3 32 3 v3
 jv_wp (d + 1) post (6, 32, [some (.ref 32), some (.ref 3), some (.int v2), some (.int v3), some (.int (iI 0))], [], s4)))))) from ⟨⟨by decide +kernel, by decide +kernel, by decide +kernel, by decide +kernel, by decide +kernel, Nat.le_of_ble_eq_true rfl⟩, h⟩)
def vc_X1_run_L32 (d : Nat) (post : jPo) (σ : jSt) (v2 : Int32) (v3 : Int32) (v4 : Int32) : Prop :=
 ((v2 ≤ v4 → post none σ) ∧
 (¬ v2 ≤ v4 → jq_V d 7 [.ref 32, .ref 3, .int ((σ.1 3 11) + v4)] σ (fun s1 =>
 (let x2 : Int32 := (v4 + (iI 1))
 jv_wp (d + 1) post (6, 32, [some (.ref 32), some (.ref 3), some (.int v2), some (.int v3), some (.int x2)], [], s1)))))
set_option maxRecDepth 100000 in
set_option maxHeartbeats 4000000 in
theorem ok_X1_run_L32 {d : Nat} {post : jPo} {σ : jSt} {v2 : Int32} {v3 : Int32} {v4 : Int32} (h : vc_X1_run_L32 d post σ v2 v3 v4) : jv_wp (d + 1) post (6, 32, [some (.ref 32), some (.ref 3), some (.int v2), some (.int v3), some (.int v4)], [], σ) := jv_go_ok 13 [32] _ _ _ h
def vc_X1_passDay (d : Nat) (post : jPo) (σ : jSt) (v2 : Int32) : Prop :=
 jq_I d 8 [.ref 32, .int (σ.1 3 9)] σ (fun x2 s1 =>
 (vp_in x2 5 ∧ (let x3 : Int32 := (s1.1 33 x2.toNatClampNeg)
 jq_I d 41 [.ref 3, .int v2] s1 (fun x5 s4 =>
 jq_I d 50 [.ref 3, .int x2, .int x3, .int v2, .int x5] s4 (fun x7 s6 =>
 ((¬ x7 = 0 → ((¬ x3 = (iI (-1)) → jq_I d 51 [.ref 3, .int x2, .int x3, .int v2] s6 (fun x9 s8 =>
 (let s10 : jSt := jv_u s8 32 1 ((s6.1 32 1) + x9)
 (let s11 : jSt := jv_u s10 32 2 ((s10.1 32 2) + (iI 1))
 (vp_in x2 5 ∧ (let s12 : jSt := jv_u s11 33 x2.toNatClampNeg (iI (-1))
 post none s12)))))) ∧
 (x3 = (iI (-1)) → (vp_in x2 5 ∧ (let s13 : jSt := jv_u s6 33 x2.toNatClampNeg v2
 post none s13))))) ∧
 (x7 = 0 → post none s6)))))))
set_option maxRecDepth 100000 in
set_option maxHeartbeats 4000000 in
theorem ok_X1_passDay {d : Nat} {post : jPo} {σ : jSt} {v2 : Int32} (h : vc_X1_passDay d post σ v2) : jv_wp (d + 1) post (7, 0, [some (.ref 32), some (.ref 3), some (.int v2), none, none], [], σ) := jv_go_ok 44 [] _ _ _ h
def vc_X1_draw (d : Nat) (post : jPo) (σ : jSt) (v1 : Int32) : Prop :=
 (let s1 : jSt := jv_u σ 32 3 (((((Int64.ofNat 1103515245) * ((σ.1 32 3)).toInt64) + (Int64.ofNat 12345)) &&& (Int64.ofNat 2147483647))).toInt32
 ((v1 ≤ 0 → post (some (.int (iI 0))) s1) ∧
 (¬ v1 ≤ 0 → (¬ (Int32.ofNat 65536) = 0 ∧ (¬ v1 = 0 ∧ post (some (.int (((s1.1 32 3) / (Int32.ofNat 65536)) - ((s1.1 32 3) / (Int32.ofNat 65536)) / v1 * v1))) s1)))))
set_option maxRecDepth 100000 in
set_option maxHeartbeats 4000000 in
theorem ok_X1_draw {d : Nat} {post : jPo} {σ : jSt} {v1 : Int32} (h : vc_X1_draw d post σ v1) : jv_wp (d + 1) post (8, 0, [some (.ref 32), some (.int v1)], [], σ) := jv_go_ok 22 [] _ _ _ h
def vc_X2_soonest (d : Nat) (post : jPo) (σ : jSt) (v1 : Int32) : Prop :=
 (vp_in v1 5 ∧ (let x1 : Int32 := (σ.1 10 v1.toNatClampNeg)
 jv_wp (d + 1) post (9, 9, [some (.ref 3), some (.int v1), some (.int x1), some (.int (iI 0)), none], [], σ)))
set_option maxRecDepth 100000 in
set_option maxHeartbeats 4000000 in
theorem ok_X2_soonest {d : Nat} {post : jPo} {σ : jSt} {v1 : Int32} (h : vc_X2_soonest d post σ v1) : jv_wp (d + 1) post (9, 0, [some (.ref 3), some (.int v1), none, none, none], [], σ) := jv_go_ok 8 [9] _ _ _ h
def vc_X2_soonest_L9 (d : Nat) (post : jPo) (σ : jSt) (v1 : Int32) (v2 : Int32) (v3 : Int32) (z4 : Option Value) : Prop :=
 (((iI 70) < v3 → post (some (.int (iI (-1)))) σ) ∧
 (¬ (iI 70) < v3 → ((v2 = (iI (-2)) → post (some (.int (iI (-1)))) σ) ∧
 (¬ v2 = (iI (-2)) → (let x1 : Int32 := ((σ.1 3 11) + v3)
 jq_I d 41 [.ref 3, .int x1] σ (fun x3 s2 =>
 jq_I d 50 [.ref 3, .int v1, .int v2, .int x1, .int x3] s2 (fun x5 s4 =>
 ((x5 = 0 → (let x6 : Int32 := (v3 + (iI 1))
 jv_wp (d + 1) post (9, 9, [some (.ref 3), some (.int v1), some (.int v2), some (.int x6), some (.int x1)], [], s4))) ∧
 (¬ x5 = 0 → ((v2 = (iI (-1)) → (let x7 : Int32 := (v3 + (iI 1))
 jv_wp (d + 1) post (9, 9, [some (.ref 3), some (.int v1), some (.int x1), some (.int x7), some (.int x1)], [], s4))) ∧
 (¬ v2 = (iI (-1)) → post (some (.int v3)) s4)))))))))))
set_option maxRecDepth 100000 in
set_option maxHeartbeats 4000000 in
theorem ok_X2_soonest_L9 {d : Nat} {post : jPo} {σ : jSt} {v1 : Int32} {v2 : Int32} {v3 : Int32} {z4 : Option Value} (h : vc_X2_soonest_L9 d post σ v1 v2 v3 z4) : jv_wp (d + 1) post (9, 9, [some (.ref 3), some (.int v1), some (.int v2), some (.int v3), z4], [], σ) := jv_go_ok 28 [9] _ _ _ h
def vc_X2_bestHomes (d : Nat) (post : jPo) (σ : jSt)  : Prop :=
 (let x1 : Int32 := (((iI 1) <<< ((σ.1 3 8) &&& 31)) - (iI 1))
 jq_I d 42 [.ref 3, .int (σ.1 3 11), .int (iI 0)] σ (fun x3 s2 =>
 jq_I d 42 [.ref 3, .int (s2.1 3 11), .int x1] s2 (fun x5 s4 =>
 jq_I d 42 [.ref 3, .int ((s4.1 3 11) + (iI 1)), .int (iI 0)] s4 (fun x7 s6 =>
 jq_I d 42 [.ref 3, .int ((s6.1 3 11) + (iI 1)), .int x1] s6 (fun x9 s8 =>
 (let x10 : Int32 := (s8.1 3 10)
 jv_wp (d + 1) post (10, 70, [some (.ref 3), some (.int x1), some (.int x3), some (.int x5), some (.int x7), some (.int x9), some (.int x10), some (.int (iI (-1))), some (.int (iI 0)), some (.int (iI 0)), none, none, none, none], [], s8)))))))
set_option maxRecDepth 100000 in
set_option maxHeartbeats 4000000 in
theorem ok_X2_bestHomes {d : Nat} {post : jPo} {σ : jSt} (h : vc_X2_bestHomes d post σ ) : jv_wp (d + 1) post (10, 0, [some (.ref 3), none, none, none, none, none, none, none, none, none, none, none, none, none], [], σ) := jv_go_ok 45 [70] _ _ _ h
def vc_X2_bestHomes_L70 (d : Nat) (post : jPo) (σ : jSt) (v1 : Int32) (v2 : Int32) (v3 : Int32) (v4 : Int32) (v5 : Int32) (v6 : Int32) (v7 : Int32) (v8 : Int32) (v9 : Int32) (z10 : Option Value) (z11 : Option Value) (z12 : Option Value) (z13 : Option Value) : Prop :=
 ((v1 < v9 → post (some (.int v6)) σ) ∧
 (¬ v1 < v9 → (let x1 : Int32 := ((v2 &&& (v9 ^^^ (iI (-1)))) ||| (v3 &&& v9))
 (let x2 : Int32 := ((v4 &&& (v9 ^^^ (iI (-1)))) ||| (v5 &&& v9))
 jq_I d 12 [.ref 3, .int x1, .int x2] σ (fun x4 s3 =>
 jq_I d 143 [.int (v9 ^^^ (s3.1 3 10))] s3 (fun x6 s5 =>
 ((v7 < x4 → (let x7 : Int32 := (v9 + (iI 1))
 jv_wp (d + 1) post (10, 70, [some (.ref 3), some (.int v1), some (.int v2), some (.int v3), some (.int v4), some (.int v5), some (.int v9), some (.int x4), some (.int x6), some (.int x7), some (.int x1), some (.int x2), some (.int x4), some (.int x6)], [], s5))) ∧
 (¬ v7 < x4 → ((¬ x4 = v7 → (let x8 : Int32 := (v9 + (iI 1))
 jv_wp (d + 1) post (10, 70, [some (.ref 3), some (.int v1), some (.int v2), some (.int v3), some (.int v4), some (.int v5), some (.int v6), some (.int v7), some (.int v8), some (.int x8), some (.int x1), some (.int x2), some (.int x4), some (.int x6)], [], s5))) ∧
 (x4 = v7 → ((v8 ≤ x6 → (let x9 : Int32 := (v9 + (iI 1))
 jv_wp (d + 1) post (10, 70, [some (.ref 3), some (.int v1), some (.int v2), some (.int v3), some (.int v4), some (.int v5), some (.int v6), some (.int v7), some (.int v8), some (.int x9), some (.int x1), some (.int x2), some (.int x4), some (.int x6)], [], s5))) ∧
 (¬ v8 ≤ x6 → (let x10 : Int32 := (v9 + (iI 1))
 jv_wp (d + 1) post (10, 70, [some (.ref 3), some (.int v1), some (.int v2), some (.int v3), some (.int v4), some (.int v5), some (.int v9), some (.int x4), some (.int x6), some (.int x10), some (.int x1), some (.int x2), some (.int x4), some (.int x6)], [], s5))))))))))))))
set_option maxRecDepth 100000 in
set_option maxHeartbeats 4000000 in
theorem ok_X2_bestHomes_L70 {d : Nat} {post : jPo} {σ : jSt} {v1 : Int32} {v2 : Int32} {v3 : Int32} {v4 : Int32} {v5 : Int32} {v6 : Int32} {v7 : Int32} {v8 : Int32} {v9 : Int32} {z10 : Option Value} {z11 : Option Value} {z12 : Option Value} {z13 : Option Value} (h : vc_X2_bestHomes_L70 d post σ v1 v2 v3 v4 v5 v6 v7 v8 v9 z10 z11 z12 z13) : jv_wp (d + 1) post (10, 70, [some (.ref 3), some (.int v1), some (.int v2), some (.int v3), some (.int v4), some (.int v5), some (.int v6), some (.int v7), some (.int v8), some (.int v9), z10, z11, z12, z13], [], σ) := jv_go_ok 52 [70] _ _ _ h
def vc_X2_settledByTomorrow (d : Nat) (post : jPo) (σ : jSt) (v1 : Int32) : Prop :=
 jq_I d 42 [.ref 3, .int (σ.1 3 11), .int v1] σ (fun x2 s1 =>
 jq_I d 42 [.ref 3, .int ((s1.1 3 11) + (iI 1)), .int v1] s1 (fun x4 s3 =>
 jq_I d 12 [.ref 3, .int x2, .int x4] s3 (fun x6 s5 =>
 post (some (.int x6)) s5)))
set_option maxRecDepth 100000 in
set_option maxHeartbeats 4000000 in
theorem ok_X2_settledByTomorrow {d : Nat} {post : jPo} {σ : jSt} {v1 : Int32} (h : vc_X2_settledByTomorrow d post σ v1) : jv_wp (d + 1) post (11, 0, [some (.ref 3), some (.int v1)], [], σ) := jv_go_ok 15 [] _ _ _ h
def vc_X2_settledBy (d : Nat) (post : jPo) (σ : jSt) (v1 : Int32) (v2 : Int32) : Prop :=
 jv_wp (d + 1) post (12, 5, [some (.ref 3), some (.int v1), some (.int v2), some (.int (iI 0)), some (.int (iI 0)), none], [], σ)
set_option maxRecDepth 100000 in
set_option maxHeartbeats 4000000 in
theorem ok_X2_settledBy {d : Nat} {post : jPo} {σ : jSt} {v1 : Int32} {v2 : Int32} (h : vc_X2_settledBy d post σ v1 v2) : jv_wp (d + 1) post (12, 0, [some (.ref 3), some (.int v1), some (.int v2), none, none, none], [], σ) := jv_go_ok 5 [5] _ _ _ h
def vc_X2_settledBy_L5 (d : Nat) (post : jPo) (σ : jSt) (v1 : Int32) (v2 : Int32) (v3 : Int32) (v4 : Int32) (z5 : Option Value) : Prop :=
 (((σ.1 3 9) ≤ v4 → post (some (.int v3)) σ) ∧
 (¬ (σ.1 3 9) ≤ v4 → (vp_in v4 5 ∧ ((¬ (σ.1 10 v4.toNatClampNeg) = (iI (-1)) → (let x1 : Int32 := (v4 + (iI 1))
 jv_wp (d + 1) post (12, 5, [some (.ref 3), some (.int v1), some (.int v2), some (.int v3), some (.int x1), some (.int (iI 0))], [], σ))) ∧
 ((σ.1 10 v4.toNatClampNeg) = (iI (-1)) → (vp_in v4 5 ∧ ((¬ ((v1 >>> ((σ.1 7 v4.toNatClampNeg) &&& 31)) &&& (iI 1)) = (iI 1) → (let x5 : Int32 := (v4 + (iI 1))
 jv_wp (d + 1) post (12, 5, [some (.ref 3), some (.int v1), some (.int v2), some (.int v3), some (.int x5), some (.int (iI 0))], [], σ))) ∧
 (((v1 >>> ((σ.1 7 v4.toNatClampNeg) &&& 31)) &&& (iI 1)) = (iI 1) → (vp_in v4 5 ∧ ((¬ ((v2 >>> ((σ.1 8 v4.toNatClampNeg) &&& 31)) &&& (iI 1)) = (iI 1) → (let x10 : Int32 := (v4 + (iI 1))
 jv_wp (d + 1) post (12, 5, [some (.ref 3), some (.int v1), some (.int v2), some (.int v3), some (.int x10), some (.int (iI 1))], [], σ))) ∧
 (((v2 >>> ((σ.1 8 v4.toNatClampNeg) &&& 31)) &&& (iI 1)) = (iI 1) → (let x11 : Int32 := (v3 + (iI 1))
 (let x12 : Int32 := (v4 + (iI 1))
 jv_wp (d + 1) post (12, 5, [some (.ref 3), some (.int v1), some (.int v2), some (.int x11), some (.int x12), some (.int (iI 1))], [], σ))))))))))))))
set_option maxRecDepth 100000 in
set_option maxHeartbeats 4000000 in
theorem ok_X2_settledBy_L5 {d : Nat} {post : jPo} {σ : jSt} {v1 : Int32} {v2 : Int32} {v3 : Int32} {v4 : Int32} {z5 : Option Value} (h : vc_X2_settledBy_L5 d post σ v1 v2 v3 v4 z5) : jv_wp (d + 1) post (12, 5, [some (.ref 3), some (.int v1), some (.int v2), some (.int v3), some (.int v4), z5], [], σ) := jv_go_ok 39 [5] _ _ _ (show (((σ.1 3 9) ≤ v4 → post (some (.int v3)) σ) ∧
 (¬ (σ.1 3 9) ≤ v4 → (vp_in v4 5 ∧ ((¬ (σ.1 10 v4.toNatClampNeg) = (iI (-1)) → (((iI 0) = 0 → (let x1 : Int32 := (v4 + (iI 1))
 jv_wp (d + 1) post (12, 5, [some (.ref 3), some (.int v1), some (.int v2), some (.int v3), some (.int x1), some (.int (iI 0))], [], σ))) ∧
 (¬ (iI 0) = 0 → (vp_in v4 5 ∧ ((¬ ((v2 >>> ((σ.1 8 v4.toNatClampNeg) &&& 31)) &&& (iI 1)) = (iI 1) → (let x2 : Int32 := (v4 + (iI 1))
 jv_wp (d + 1) post (12, 5, [some (.ref 3), some (.int v1), some (.int v2), some (.int v3), some (.int x2), some (.int (iI 0))], [], σ))) ∧
 (((v2 >>> ((σ.1 8 v4.toNatClampNeg) &&& 31)) &&& (iI 1)) = (iI 1) → (let x3 : Int32 := (v3 + (iI 1))
 (let x4 : Int32 := (v4 + (iI 1))
 jv_wp (d + 1) post (12, 5, [some (.ref 3), some (.int v1), some (.int v2), some (.int x3), some (.int x4), some (.int (iI 0))], [], σ))))))))) ∧
 ((σ.1 10 v4.toNatClampNeg) = (iI (-1)) → (vp_in v4 5 ∧ ((¬ ((v1 >>> ((σ.1 7 v4.toNatClampNeg) &&& 31)) &&& (iI 1)) = (iI 1) → (((iI 0) = 0 → (let x5 : Int32 := (v4 + (iI 1))
 jv_wp (d + 1) post (12, 5, [some (.ref 3), some (.int v1), some (.int v2), some (.int v3), some (.int x5), some (.int (iI 0))], [], σ))) ∧
 (¬ (iI 0) = 0 → (vp_in v4 5 ∧ ((¬ ((v2 >>> ((σ.1 8 v4.toNatClampNeg) &&& 31)) &&& (iI 1)) = (iI 1) → (let x6 : Int32 := (v4 + (iI 1))
 jv_wp (d + 1) post (12, 5, [some (.ref 3), some (.int v1), some (.int v2), some (.int v3), some (.int x6), some (.int (iI 0))], [], σ))) ∧
 (((v2 >>> ((σ.1 8 v4.toNatClampNeg) &&& 31)) &&& (iI 1)) = (iI 1) → (let x7 : Int32 := (v3 + (iI 1))
 (let x8 : Int32 := (v4 + (iI 1))
 jv_wp (d + 1) post (12, 5, [some (.ref 3), some (.int v1), some (.int v2), some (.int x7), some (.int x8), some (.int (iI 0))], [], σ))))))))) ∧
 (((v1 >>> ((σ.1 7 v4.toNatClampNeg) &&& 31)) &&& (iI 1)) = (iI 1) → (((iI 1) = 0 → (let x9 : Int32 := (v4 + (iI 1))
 jv_wp (d + 1) post (12, 5, [some (.ref 3), some (.int v1), some (.int v2), some (.int v3), some (.int x9), some (.int (iI 1))], [], σ))) ∧
 (¬ (iI 1) = 0 → (vp_in v4 5 ∧ ((¬ ((v2 >>> ((σ.1 8 v4.toNatClampNeg) &&& 31)) &&& (iI 1)) = (iI 1) → (let x10 : Int32 := (v4 + (iI 1))
 jv_wp (d + 1) post (12, 5, [some (.ref 3), some (.int v1), some (.int v2), some (.int v3), some (.int x10), some (.int (iI 1))], [], σ))) ∧
 (((v2 >>> ((σ.1 8 v4.toNatClampNeg) &&& 31)) &&& (iI 1)) = (iI 1) → (let x11 : Int32 := (v3 + (iI 1))
 (let x12 : Int32 := (v4 + (iI 1))
 jv_wp (d + 1) post (12, 5, [some (.ref 3), some (.int v1), some (.int v2), some (.int x11), some (.int x12), some (.int (iI 1))], [], σ)))))))))))))))) from ⟨fun c3 => ((h).1 c3), fun c3 => ⟨(((h).2 c3)).1, ⟨fun c6 => ⟨fun _ => (((((h).2 c3)).2).1 c6), fun q => absurd q (by decide +kernel)⟩, fun c6 => ⟨((((((h).2 c3)).2).2 c6)).1, ⟨fun c10 => ⟨fun _ => ((((((((h).2 c3)).2).2 c6)).2).1 c10), fun q => absurd q (by decide +kernel)⟩, fun c10 => ⟨fun q => absurd q (by decide +kernel), fun _ => ((((((((h).2 c3)).2).2 c6)).2).2 c10)⟩⟩⟩⟩⟩⟩)
def vc_X2_partsSettled (d : Nat) (post : jPo) (σ : jSt) (v1 : Int32) (v2 : Int32) (v3 : Int32) : Prop :=
 (vp_in v1 5 ∧ (let x1 : Int32 := (σ.1 10 v1.toNatClampNeg)
 (let x2 : Int32 := ((iI 10) - v3)
 ((¬ x1 = (iI (-1)) → (let x3 : Int32 := ((iI 1) - (iI 0))
 jv_wp (d + 1) post (13, 39, [some (.ref 3), some (.int v1), some (.int v2), some (.int v3), some (.int x1), some (.int x2), some (.int (iI 0)), some (.int x3), some (.int (iI 0)), some (.int (iI 0)), none, none, none, none, none], [], σ))) ∧
 (x1 = (iI (-1)) → (let x4 : Int32 := ((iI 1) - (iI 1))
 jv_wp (d + 1) post (13, 39, [some (.ref 3), some (.int v1), some (.int v2), some (.int v3), some (.int x1), some (.int x2), some (.int (iI 1)), some (.int x4), some (.int (iI 0)), some (.int (iI 0)), none, none, none, none, none], [], σ)))))))
set_option maxRecDepth 100000 in
set_option maxHeartbeats 4000000 in
theorem ok_X2_partsSettled {d : Nat} {post : jPo} {σ : jSt} {v1 : Int32} {v2 : Int32} {v3 : Int32} (h : vc_X2_partsSettled d post σ v1 v2 v3) : jv_wp (d + 1) post (13, 0, [some (.ref 3), some (.int v1), some (.int v2), some (.int v3), none, none, none, none, none, none, none, none, none, none, none], [], σ) := jv_go_ok 24 [39] _ _ _ h
def vc_X2_partsSettled_L39 (d : Nat) (post : jPo) (σ : jSt) (v1 : Int32) (v2 : Int32) (v3 : Int32) (v4 : Int32) (v5 : Int32) (v6 : Int32) (v7 : Int32) (v8 : Int32) (v9 : Int32) (z10 : Option Value) (z11 : Option Value) (z12 : Option Value) (z13 : Option Value) (z14 : Option Value) : Prop :=
 ((v2 ≤ v9 → post (some (.int v8)) σ) ∧
 (¬ v2 ≤ v9 → (let x1 : Int32 := ((σ.1 3 11) + v9)
 jq_I d 41 [.ref 3, .int x1] σ (fun x3 s2 =>
 jq_I d 50 [.ref 3, .int v1, .int (iI (-1)), .int x1, .int x3] s2 (fun x5 s4 =>
 ((x5 = 0 → ((¬ v9 = 0 → (let x6 : Int32 := (x1 - (iI 1))
 ((v7 ≤ 0 → (let x7 : Int32 := ((v6 * (iI 10)) - (iI 0))
 (let x8 : Int32 := (((v7 * (iI 10)) + (iI 0)) - (iI 0))
 (let x9 : Int32 := ((v8 * (iI 10)) + (iI 0))
 (let x10 : Int32 := (v9 + (iI 1))
 jv_wp (d + 1) post (13, 39, [some (.ref 3), some (.int v1), some (.int v2), some (.int v3), some (.int v4), some (.int v5), some (.int x7), some (.int x8), some (.int x9), some (.int x10), some (.int x1), some (.int x3), some (.int (iI 0)), some (.int x6), some (.int (iI 0))], [], s4)))))) ∧
 (¬ v7 ≤ 0 → jq_I d 50 [.ref 3, .int v1, .int x6, .int x1, .int x3] s4 (fun x12 s11 =>
 ((x12 = 0 → (let x13 : Int32 := ((v6 * (iI 10)) - (iI 0))
 (let x14 : Int32 := (((v7 * (iI 10)) + (iI 0)) - (iI 0))
 (let x15 : Int32 := ((v8 * (iI 10)) + (iI 0))
 (let x16 : Int32 := (v9 + (iI 1))
 jv_wp (d + 1) post (13, 39, [some (.ref 3), some (.int v1), some (.int v2), some (.int v3), some (.int v4), some (.int v5), some (.int x13), some (.int x14), some (.int x15), some (.int x16), some (.int x1), some (.int x3), some (.int (iI 0)), some (.int x6), some (.int (iI 0))], [], s11)))))) ∧
 (¬ x12 = 0 → (let x17 : Int32 := (v7 * v5)
 (let x18 : Int32 := ((v6 * (iI 10)) - (iI 0))
 (let x19 : Int32 := (((v7 * (iI 10)) + (iI 0)) - x17)
 (let x20 : Int32 := ((v8 * (iI 10)) + x17)
 (let x21 : Int32 := (v9 + (iI 1))
 jv_wp (d + 1) post (13, 39, [some (.ref 3), some (.int v1), some (.int v2), some (.int v3), some (.int v4), some (.int v5), some (.int x18), some (.int x19), some (.int x20), some (.int x21), some (.int x1), some (.int x3), some (.int (iI 0)), some (.int x6), some (.int x17)], [], s11))))))))))))) ∧
 (v9 = 0 → ((v7 ≤ 0 → (let x22 : Int32 := ((v6 * (iI 10)) - (iI 0))
 (let x23 : Int32 := (((v7 * (iI 10)) + (iI 0)) - (iI 0))
 (let x24 : Int32 := ((v8 * (iI 10)) + (iI 0))
 (let x25 : Int32 := (v9 + (iI 1))
 jv_wp (d + 1) post (13, 39, [some (.ref 3), some (.int v1), some (.int v2), some (.int v3), some (.int v4), some (.int v5), some (.int x22), some (.int x23), some (.int x24), some (.int x25), some (.int x1), some (.int x3), some (.int (iI 0)), some (.int v4), some (.int (iI 0))], [], s4)))))) ∧
 (¬ v7 ≤ 0 → jq_I d 50 [.ref 3, .int v1, .int v4, .int x1, .int x3] s4 (fun x27 s26 =>
 ((x27 = 0 → (let x28 : Int32 := ((v6 * (iI 10)) - (iI 0))
 (let x29 : Int32 := (((v7 * (iI 10)) + (iI 0)) - (iI 0))
 (let x30 : Int32 := ((v8 * (iI 10)) + (iI 0))
 (let x31 : Int32 := (v9 + (iI 1))
 jv_wp (d + 1) post (13, 39, [some (.ref 3), some (.int v1), some (.int v2), some (.int v3), some (.int v4), some (.int v5), some (.int x28), some (.int x29), some (.int x30), some (.int x31), some (.int x1), some (.int x3), some (.int (iI 0)), some (.int v4), some (.int (iI 0))], [], s26)))))) ∧
 (¬ x27 = 0 → (let x32 : Int32 := (v7 * v5)
 (let x33 : Int32 := ((v6 * (iI 10)) - (iI 0))
 (let x34 : Int32 := (((v7 * (iI 10)) + (iI 0)) - x32)
 (let x35 : Int32 := ((v8 * (iI 10)) + x32)
 (let x36 : Int32 := (v9 + (iI 1))
 jv_wp (d + 1) post (13, 39, [some (.ref 3), some (.int v1), some (.int v2), some (.int v3), some (.int v4), some (.int v5), some (.int x33), some (.int x34), some (.int x35), some (.int x36), some (.int x1), some (.int x3), some (.int (iI 0)), some (.int v4), some (.int x32)], [], s26)))))))))))))) ∧
 (¬ x5 = 0 → (let x37 : Int32 := (v6 * v5)
 ((¬ v9 = 0 → (let x38 : Int32 := (x1 - (iI 1))
 ((v7 ≤ 0 → (let x39 : Int32 := ((v6 * (iI 10)) - x37)
 (let x40 : Int32 := (((v7 * (iI 10)) + x37) - (iI 0))
 (let x41 : Int32 := ((v8 * (iI 10)) + (iI 0))
 (let x42 : Int32 := (v9 + (iI 1))
 jv_wp (d + 1) post (13, 39, [some (.ref 3), some (.int v1), some (.int v2), some (.int v3), some (.int v4), some (.int v5), some (.int x39), some (.int x40), some (.int x41), some (.int x42), some (.int x1), some (.int x3), some (.int x37), some (.int x38), some (.int (iI 0))], [], s4)))))) ∧
 (¬ v7 ≤ 0 → jq_I d 50 [.ref 3, .int v1, .int x38, .int x1, .int x3] s4 (fun x44 s43 =>
 ((x44 = 0 → (let x45 : Int32 := ((v6 * (iI 10)) - x37)
 (let x46 : Int32 := (((v7 * (iI 10)) + x37) - (iI 0))
 (let x47 : Int32 := ((v8 * (iI 10)) + (iI 0))
 (let x48 : Int32 := (v9 + (iI 1))
 jv_wp (d + 1) post (13, 39, [some (.ref 3), some (.int v1), some (.int v2), some (.int v3), some (.int v4), some (.int v5), some (.int x45), some (.int x46), some (.int x47), some (.int x48), some (.int x1), some (.int x3), some (.int x37), some (.int x38), some (.int (iI 0))], [], s43)))))) ∧
 (¬ x44 = 0 → (let x49 : Int32 := (v7 * v5)
 (let x50 : Int32 := ((v6 * (iI 10)) - x37)
 (let x51 : Int32 := (((v7 * (iI 10)) + x37) - x49)
 (let x52 : Int32 := ((v8 * (iI 10)) + x49)
 (let x53 : Int32 := (v9 + (iI 1))
 jv_wp (d + 1) post (13, 39, [some (.ref 3), some (.int v1), some (.int v2), some (.int v3), some (.int v4), some (.int v5), some (.int x50), some (.int x51), some (.int x52), some (.int x53), some (.int x1), some (.int x3), some (.int x37), some (.int x38), some (.int x49)], [], s43))))))))))))) ∧
 (v9 = 0 → ((v7 ≤ 0 → (let x54 : Int32 := ((v6 * (iI 10)) - x37)
 (let x55 : Int32 := (((v7 * (iI 10)) + x37) - (iI 0))
 (let x56 : Int32 := ((v8 * (iI 10)) + (iI 0))
 (let x57 : Int32 := (v9 + (iI 1))
 jv_wp (d + 1) post (13, 39, [some (.ref 3), some (.int v1), some (.int v2), some (.int v3), some (.int v4), some (.int v5), some (.int x54), some (.int x55), some (.int x56), some (.int x57), some (.int x1), some (.int x3), some (.int x37), some (.int v4), some (.int (iI 0))], [], s4)))))) ∧
 (¬ v7 ≤ 0 → jq_I d 50 [.ref 3, .int v1, .int v4, .int x1, .int x3] s4 (fun x59 s58 =>
 ((x59 = 0 → (let x60 : Int32 := ((v6 * (iI 10)) - x37)
 (let x61 : Int32 := (((v7 * (iI 10)) + x37) - (iI 0))
 (let x62 : Int32 := ((v8 * (iI 10)) + (iI 0))
 (let x63 : Int32 := (v9 + (iI 1))
 jv_wp (d + 1) post (13, 39, [some (.ref 3), some (.int v1), some (.int v2), some (.int v3), some (.int v4), some (.int v5), some (.int x60), some (.int x61), some (.int x62), some (.int x63), some (.int x1), some (.int x3), some (.int x37), some (.int v4), some (.int (iI 0))], [], s58)))))) ∧
 (¬ x59 = 0 → (let x64 : Int32 := (v7 * v5)
 (let x65 : Int32 := ((v6 * (iI 10)) - x37)
 (let x66 : Int32 := (((v7 * (iI 10)) + x37) - x64)
 (let x67 : Int32 := ((v8 * (iI 10)) + x64)
 (let x68 : Int32 := (v9 + (iI 1))
 jv_wp (d + 1) post (13, 39, [some (.ref 3), some (.int v1), some (.int v2), some (.int v3), some (.int v4), some (.int v5), some (.int x65), some (.int x66), some (.int x67), some (.int x68), some (.int x1), some (.int x3), some (.int x37), some (.int v4), some (.int x64)], [], s58)))))))))))))))))))))
set_option maxRecDepth 100000 in
set_option maxHeartbeats 4000000 in
theorem ok_X2_partsSettled_L39 {d : Nat} {post : jPo} {σ : jSt} {v1 : Int32} {v2 : Int32} {v3 : Int32} {v4 : Int32} {v5 : Int32} {v6 : Int32} {v7 : Int32} {v8 : Int32} {v9 : Int32} {z10 : Option Value} {z11 : Option Value} {z12 : Option Value} {z13 : Option Value} {z14 : Option Value} (h : vc_X2_partsSettled_L39 d post σ v1 v2 v3 v4 v5 v6 v7 v8 v9 z10 z11 z12 z13 z14) : jv_wp (d + 1) post (13, 39, [some (.ref 3), some (.int v1), some (.int v2), some (.int v3), some (.int v4), some (.int v5), some (.int v6), some (.int v7), some (.int v8), some (.int v9), z10, z11, z12, z13, z14], [], σ) := jv_go_ok 67 [39] _ _ _ h
def vc_X2_lowestTerms (d : Nat) (post : jPo) (σ : jSt) (v0 : Int32) (v1 : Int32) (v2 : Int32) : Prop :=
 jv_wp (d + 1) post (14, 8, [some (.int v0), some (.int v1), some (.int v2), some (.int v0), some (.int (iI 1)), some (.int (iI 0))], [], σ)
set_option maxRecDepth 100000 in
set_option maxHeartbeats 4000000 in
theorem ok_X2_lowestTerms {d : Nat} {post : jPo} {σ : jSt} {v0 : Int32} {v1 : Int32} {v2 : Int32} (h : vc_X2_lowestTerms d post σ v0 v1 v2) : jv_wp (d + 1) post (14, 0, [some (.int v0), some (.int v1), some (.int v2), none, none, none], [], σ) := jv_go_ok 7 [8, 30] _ _ _ h
def vc_X2_lowestTerms_L8 (d : Nat) (post : jPo) (σ : jSt) (v0 : Int32) (v1 : Int32) (v2 : Int32) (v3 : Int32) (v4 : Int32) (v5 : Int32) : Prop :=
 ((v1 ≤ v5 → jv_wp (d + 1) post (14, 30, [some (.int v0), some (.int v1), some (.int v2), some (.int v3), some (.int v4), some (.int (iI 0))], [], σ)) ∧
 (¬ v1 ≤ v5 → (let x1 : Int32 := (v4 * (iI 10))
 (let x2 : Int32 := (v5 + (iI 1))
 jv_wp (d + 1) post (14, 8, [some (.int v0), some (.int v1), some (.int v2), some (.int v3), some (.int x1), some (.int x2)], [], σ)))))
set_option maxRecDepth 100000 in
set_option maxHeartbeats 4000000 in
theorem ok_X2_lowestTerms_L8 {d : Nat} {post : jPo} {σ : jSt} {v0 : Int32} {v1 : Int32} {v2 : Int32} {v3 : Int32} {v4 : Int32} {v5 : Int32} (h : vc_X2_lowestTerms_L8 d post σ v0 v1 v2 v3 v4 v5) : jv_wp (d + 1) post (14, 8, [some (.int v0), some (.int v1), some (.int v2), some (.int v3), some (.int v4), some (.int v5)], [], σ) := jv_go_ok 10 [8, 30] _ _ _ h
def vc_X2_lowestTerms_L30 (d : Nat) (post : jPo) (σ : jSt) (v0 : Int32) (v1 : Int32) (v2 : Int32) (v3 : Int32) (v4 : Int32) (v5 : Int32) : Prop :=
 ((v1 ≤ v5 → ((v2 = 0 → post (some (.int v4)) σ) ∧
 (¬ v2 = 0 → post (some (.int v3)) σ))) ∧
 (¬ v1 ≤ v5 → ((¬ (v3 - v3 / (iI 2) * (iI 2)) = 0 → ((¬ (v3 - v3 / (iI 5) * (iI 5)) = 0 → (let x1 : Int32 := (v5 + (iI 1))
 jv_wp (d + 1) post (14, 30, [some (.int v0), some (.int v1), some (.int v2), some (.int v3), some (.int v4), some (.int x1)], [], σ))) ∧
 ((v3 - v3 / (iI 5) * (iI 5)) = 0 → (let x2 : Int32 := (v3 / (iI 5))
 (let x3 : Int32 := (v4 / (iI 5))
 (let x4 : Int32 := (v5 + (iI 1))
 jv_wp (d + 1) post (14, 30, [some (.int v0), some (.int v1), some (.int v2), some (.int x2), some (.int x3), some (.int x4)], [], σ))))))) ∧
 ((v3 - v3 / (iI 2) * (iI 2)) = 0 → (let x5 : Int32 := (v3 / (iI 2))
 (let x6 : Int32 := (v4 / (iI 2))
 ((¬ (x5 - x5 / (iI 5) * (iI 5)) = 0 → (let x7 : Int32 := (v5 + (iI 1))
 jv_wp (d + 1) post (14, 30, [some (.int v0), some (.int v1), some (.int v2), some (.int x5), some (.int x6), some (.int x7)], [], σ))) ∧
 ((x5 - x5 / (iI 5) * (iI 5)) = 0 → (let x8 : Int32 := (x5 / (iI 5))
 (let x9 : Int32 := (x6 / (iI 5))
 (let x10 : Int32 := (v5 + (iI 1))
 jv_wp (d + 1) post (14, 30, [some (.int v0), some (.int v1), some (.int v2), some (.int x8), some (.int x9), some (.int x10)], [], σ))))))))))))
set_option maxRecDepth 100000 in
set_option maxHeartbeats 4000000 in
theorem ok_X2_lowestTerms_L30 {d : Nat} {post : jPo} {σ : jSt} {v0 : Int32} {v1 : Int32} {v2 : Int32} {v3 : Int32} {v4 : Int32} {v5 : Int32} (h : vc_X2_lowestTerms_L30 d post σ v0 v1 v2 v3 v4 v5) : jv_wp (d + 1) post (14, 30, [some (.int v0), some (.int v1), some (.int v2), some (.int v3), some (.int v4), some (.int v5)], [], σ) := jv_go_ok 30 [8, 30] _ _ _ (show ((v1 ≤ v5 → ((v2 = 0 → post (some (.int v4)) σ) ∧
 (¬ v2 = 0 → post (some (.int v3)) σ))) ∧
 (¬ v1 ≤ v5 → (¬ (iI 2) = 0 ∧ ((¬ (v3 - v3 / (iI 2) * (iI 2)) = 0 → (¬ (iI 5) = 0 ∧ ((¬ (v3 - v3 / (iI 5) * (iI 5)) = 0 → (let x1 : Int32 := (v5 + (iI 1))
 jv_wp (d + 1) post (14, 30, [some (.int v0), some (.int v1), some (.int v2), some (.int v3), some (.int v4), some (.int x1)], [], σ))) ∧
 ((v3 - v3 / (iI 5) * (iI 5)) = 0 → (¬ (iI 5) = 0 ∧ (let x2 : Int32 := (v3 / (iI 5))
 (¬ (iI 5) = 0 ∧ (let x3 : Int32 := (v4 / (iI 5))
 (let x4 : Int32 := (v5 + (iI 1))
 jv_wp (d + 1) post (14, 30, [some (.int v0), some (.int v1), some (.int v2), some (.int x2), some (.int x3), some (.int x4)], [], σ)))))))))) ∧
 ((v3 - v3 / (iI 2) * (iI 2)) = 0 → (¬ (iI 2) = 0 ∧ (let x5 : Int32 := (v3 / (iI 2))
 (¬ (iI 2) = 0 ∧ (let x6 : Int32 := (v4 / (iI 2))
 (¬ (iI 5) = 0 ∧ ((¬ (x5 - x5 / (iI 5) * (iI 5)) = 0 → (let x7 : Int32 := (v5 + (iI 1))
 jv_wp (d + 1) post (14, 30, [some (.int v0), some (.int v1), some (.int v2), some (.int x5), some (.int x6), some (.int x7)], [], σ))) ∧
 ((x5 - x5 / (iI 5) * (iI 5)) = 0 → (¬ (iI 5) = 0 ∧ (let x8 : Int32 := (x5 / (iI 5))
 (¬ (iI 5) = 0 ∧ (let x9 : Int32 := (x6 / (iI 5))
 (let x10 : Int32 := (v5 + (iI 1))
 jv_wp (d + 1) post (14, 30, [some (.int v0), some (.int v1), some (.int v2), some (.int x8), some (.int x9), some (.int x10)], [], σ)))))))))))))))))) from ⟨fun c15 => ((h).1 c15), fun c15 => ⟨by decide +kernel, ⟨fun c18 => ⟨by decide +kernel, ⟨fun c20 => ((((((h).2 c15)).1 c18)).1 c20), fun c20 => ⟨by decide +kernel, ⟨by decide +kernel, ((((((h).2 c15)).1 c18)).2 c20)⟩⟩⟩⟩, fun c18 => ⟨by decide +kernel, ⟨by decide +kernel, ⟨by decide +kernel, ⟨fun c31 => ((((((h).2 c15)).2 c18)).1 c31), fun c31 => ⟨by decide +kernel, ⟨by decide +kernel, ((((((h).2 c15)).2 c18)).2 c31)⟩⟩⟩⟩⟩⟩⟩⟩⟩)
def vc_X3_append (d : Nat) (post : jPo) (σ : jSt) (v1 : Int32) : Prop :=
 (((σ.1 1 1) < (iI 44) → (vp_in (σ.1 1 1) 44 ∧ (let s1 : jSt := jv_u σ 2 (σ.1 1 1).toNatClampNeg v1
 (let s2 : jSt := jv_u s1 1 1 ((s1.1 1 1) + (iI 1))
 post (some (.int (iI 1))) s2)))) ∧
 (¬ (σ.1 1 1) < (iI 44) → post (some (.int (iI 0))) σ))
set_option maxRecDepth 100000 in
set_option maxHeartbeats 4000000 in
theorem ok_X3_append {d : Nat} {post : jPo} {σ : jSt} {v1 : Int32} (h : vc_X3_append d post σ v1) : jv_wp (d + 1) post (15, 0, [some (.ref 1), some (.int v1)], [], σ) := jv_go_ok 18 [] _ _ _ (show (((σ.1 1 1) < (iI 44) → (vp_in (σ.1 1 1) 44 ∧ (let s1 : jSt := jv_u σ 2 (σ.1 1 1).toNatClampNeg v1
 (let s2 : jSt := jv_u s1 1 1 ((s1.1 1 1) + (iI 1))
 (((iI 1) = 0 ∨ (iI 1) = 1) ∧ post (some (.int (iI 1))) s2))))) ∧
 (¬ (σ.1 1 1) < (iI 44) → (((iI 0) = 0 ∨ (iI 0) = 1) ∧ post (some (.int (iI 0))) σ))) from ⟨fun c37 => ⟨(((h).1 c37)).1, ⟨by decide +kernel, (((h).1 c37)).2⟩⟩, fun c37 => ⟨by decide +kernel, ((h).2 c37)⟩⟩)
def vc_X3_firstFault (d : Nat) (post : jPo) (σ : jSt)  : Prop :=
 jv_wp (d + 1) post (16, 4, [some (.ref 1), some (.int (iI 0)), some (.int (iI 0)), none], [], σ)
set_option maxRecDepth 100000 in
set_option maxHeartbeats 4000000 in
theorem ok_X3_firstFault {d : Nat} {post : jPo} {σ : jSt} (h : vc_X3_firstFault d post σ ) : jv_wp (d + 1) post (16, 0, [some (.ref 1), none, none, none], [], σ) := jv_go_ok 5 [4] _ _ _ h
def vc_X3_firstFault_L4 (d : Nat) (post : jPo) (σ : jSt) (v1 : Int32) (v2 : Int32) (z3 : Option Value) : Prop :=
 (((σ.1 1 1) ≤ v2 → post (some (.int (σ.1 1 1))) σ) ∧
 (¬ (σ.1 1 1) ≤ v2 → ((¬ v1 = 0 → jq_I d 18 [.ref 1, .int v2, .int v1] σ (fun x2 s1 =>
 ((¬ x2 = 0 → (vp_in v2 44 ∧ ((¬ (s1.1 2 v2.toNatClampNeg) = (iI 59) → (let x3 : Int32 := (v2 + (iI 1))
 jv_wp (d + 1) post (16, 4, [some (.ref 1), some (.int v1), some (.int x3), some (.int x2)], [], s1))) ∧
 ((s1.1 2 v2.toNatClampNeg) = (iI 59) → (let x4 : Int32 := ((v2 / (iI 4)) + (iI 1))
 (let x5 : Int32 := (v2 + (iI 1))
 jv_wp (d + 1) post (16, 4, [some (.ref 1), some (.int x4), some (.int x5), some (.int x2)], [], s1))))))) ∧
 (x2 = 0 → post (some (.int v2)) s1)))) ∧
 (v1 = 0 → jq_I d 17 [.ref 1, .int v2] σ (fun x7 s6 =>
 ((¬ x7 = 0 → (vp_in v2 44 ∧ ((¬ (s6.1 2 v2.toNatClampNeg) = (iI 59) → (let x8 : Int32 := (v2 + (iI 1))
 jv_wp (d + 1) post (16, 4, [some (.ref 1), some (.int v1), some (.int x8), some (.int x7)], [], s6))) ∧
 ((s6.1 2 v2.toNatClampNeg) = (iI 59) → (let x9 : Int32 := ((v2 / (iI 4)) + (iI 1))
 (let x10 : Int32 := (v2 + (iI 1))
 jv_wp (d + 1) post (16, 4, [some (.ref 1), some (.int x9), some (.int x10), some (.int x7)], [], s6))))))) ∧
 (x7 = 0 → post (some (.int v2)) s6)))))))
set_option maxRecDepth 100000 in
set_option maxHeartbeats 4000000 in
theorem ok_X3_firstFault_L4 {d : Nat} {post : jPo} {σ : jSt} {v1 : Int32} {v2 : Int32} {z3 : Option Value} (h : vc_X3_firstFault_L4 d post σ v1 v2 z3) : jv_wp (d + 1) post (16, 4, [some (.ref 1), some (.int v1), some (.int v2), z3], [], σ) := jv_go_ok 28 [4] _ _ _ (show (((σ.1 1 1) ≤ v2 → post (some (.int (σ.1 1 1))) σ) ∧
 (¬ (σ.1 1 1) ≤ v2 → ((¬ v1 = 0 → jq_I d 18 [.ref 1, .int v2, .int v1] σ (fun x2 s1 =>
 ((¬ x2 = 0 → (vp_in v2 44 ∧ ((¬ (s1.1 2 v2.toNatClampNeg) = (iI 59) → (let x3 : Int32 := (v2 + (iI 1))
 jv_wp (d + 1) post (16, 4, [some (.ref 1), some (.int v1), some (.int x3), some (.int x2)], [], s1))) ∧
 ((s1.1 2 v2.toNatClampNeg) = (iI 59) → (¬ (iI 4) = 0 ∧ (let x4 : Int32 := ((v2 / (iI 4)) + (iI 1))
 (let x5 : Int32 := (v2 + (iI 1))
 jv_wp (d + 1) post (16, 4, [some (.ref 1), some (.int x4), some (.int x5), some (.int x2)], [], s1)))))))) ∧
 (x2 = 0 → post (some (.int v2)) s1)))) ∧
 (v1 = 0 → jq_I d 17 [.ref 1, .int v2] σ (fun x7 s6 =>
 ((¬ x7 = 0 → (vp_in v2 44 ∧ ((¬ (s6.1 2 v2.toNatClampNeg) = (iI 59) → (let x8 : Int32 := (v2 + (iI 1))
 jv_wp (d + 1) post (16, 4, [some (.ref 1), some (.int v1), some (.int x8), some (.int x7)], [], s6))) ∧
 ((s6.1 2 v2.toNatClampNeg) = (iI 59) → (¬ (iI 4) = 0 ∧ (let x9 : Int32 := ((v2 / (iI 4)) + (iI 1))
 (let x10 : Int32 := (v2 + (iI 1))
 jv_wp (d + 1) post (16, 4, [some (.ref 1), some (.int x9), some (.int x10), some (.int x7)], [], s6)))))))) ∧
 (x7 = 0 → post (some (.int v2)) s6))))))) from ⟨fun c45 => ((h).1 c45), fun c45 => ⟨fun c47 => jq_I_con (((((h).2 c45)).1 c47)) (fun x2 s1 h48 => ⟨fun c49 => ⟨(((h48).1 c49)).1, ⟨fun c51 => (((((h48).1 c49)).2).1 c51), fun c51 => ⟨by decide +kernel, (((((h48).1 c49)).2).2 c51)⟩⟩⟩, fun c49 => ((h48).2 c49)⟩), fun c47 => jq_I_con (((((h).2 c45)).2 c47)) (fun x7 s6 h56 => ⟨fun c57 => ⟨(((h56).1 c57)).1, ⟨fun c59 => (((((h56).1 c57)).2).1 c59), fun c59 => ⟨by decide +kernel, (((((h56).1 c57)).2).2 c59)⟩⟩⟩, fun c57 => ((h56).2 c57)⟩)⟩⟩)
def vc_X3_fitsPeople (d : Nat) (post : jPo) (σ : jSt) (v1 : Int32) : Prop :=
 (vp_in v1 44 ∧ (let x1 : Int32 := (σ.1 2 v1.toNatClampNeg)
 (let x2 : Int32 := ((v1 / (iI 4)) + (iI 1))
 (((v1 - v1 / (iI 4) * (iI 4)) = (iI 0) → jq_I d 22 [.int x1] σ (fun x4 s3 =>
 ((x4 < 0 → post (some (.int (iI 0))) s3) ∧
 (¬ x4 < 0 → post (some (.int (iI 1))) s3)))) ∧
 (¬ (v1 - v1 / (iI 4) * (iI 4)) = (iI 0) → (((v1 - v1 / (iI 4) * (iI 4)) = (iI 1) → ((x1 = (iI 108) → post (some (.int (iI 1))) σ) ∧
 (¬ x1 = (iI 108) → ((¬ x1 = (iI 114) → post (some (.int (iI 0))) σ) ∧
 (x1 = (iI 114) → post (some (.int (iI 1))) σ))))) ∧
 (¬ (v1 - v1 / (iI 4) * (iI 4)) = (iI 1) → (((v1 - v1 / (iI 4) * (iI 4)) = (iI 2) → ((x1 < (iI 48) → post (some (.int (iI 0))) σ) ∧
 (¬ x1 < (iI 48) → (((iI 57) < x1 → post (some (.int (iI 0))) σ) ∧
 (¬ (iI 57) < x1 → post (some (.int (iI 1))) σ))))) ∧
 (¬ (v1 - v1 / (iI 4) * (iI 4)) = (iI 2) → ((¬ x1 = (iI 44) → ((¬ x1 = (iI 59) → post (some (.int (iI 0))) σ) ∧
 (x1 = (iI 59) → ((x2 < (iI 2) → post (some (.int (iI 0))) σ) ∧
 (¬ x2 < (iI 2) → post (some (.int (iI 1))) σ))))) ∧
 (x1 = (iI 44) → ((x2 < (iI 6) → post (some (.int (iI 1))) σ) ∧
 (¬ x2 < (iI 6) → ((¬ x1 = (iI 59) → post (some (.int (iI 0))) σ) ∧
 (x1 = (iI 59) → ((x2 < (iI 2) → post (some (.int (iI 0))) σ) ∧
 (¬ x2 < (iI 2) → post (some (.int (iI 1))) σ)))))))))))))))))
set_option maxRecDepth 100000 in
set_option maxHeartbeats 4000000 in
theorem ok_X3_fitsPeople {d : Nat} {post : jPo} {σ : jSt} {v1 : Int32} (h : vc_X3_fitsPeople d post σ v1) : jv_wp (d + 1) post (17, 0, [some (.ref 1), some (.int v1), none, none], [], σ) := jv_go_ok 30 [] _ _ _ (show (vp_in v1 44 ∧ (let x1 : Int32 := (σ.1 2 v1.toNatClampNeg)
 (¬ (iI 4) = 0 ∧ (let x2 : Int32 := ((v1 / (iI 4)) + (iI 1))
 (¬ (iI 4) = 0 ∧ (((v1 - v1 / (iI 4) * (iI 4)) = (iI 0) → jq_I d 22 [.int x1] σ (fun x4 s3 =>
 ((x4 < 0 → (((iI 0) = 0 ∨ (iI 0) = 1) ∧ post (some (.int (iI 0))) s3)) ∧
 (¬ x4 < 0 → (((iI 1) = 0 ∨ (iI 1) = 1) ∧ post (some (.int (iI 1))) s3))))) ∧
 (¬ (v1 - v1 / (iI 4) * (iI 4)) = (iI 0) → (((v1 - v1 / (iI 4) * (iI 4)) = (iI 1) → ((x1 = (iI 108) → (((iI 1) = 0 ∨ (iI 1) = 1) ∧ post (some (.int (iI 1))) σ)) ∧
 (¬ x1 = (iI 108) → ((¬ x1 = (iI 114) → (((iI 0) = 0 ∨ (iI 0) = 1) ∧ post (some (.int (iI 0))) σ)) ∧
 (x1 = (iI 114) → (((iI 1) = 0 ∨ (iI 1) = 1) ∧ post (some (.int (iI 1))) σ)))))) ∧
 (¬ (v1 - v1 / (iI 4) * (iI 4)) = (iI 1) → (((v1 - v1 / (iI 4) * (iI 4)) = (iI 2) → ((x1 < (iI 48) → (((iI 0) = 0 ∨ (iI 0) = 1) ∧ post (some (.int (iI 0))) σ)) ∧
 (¬ x1 < (iI 48) → (((iI 57) < x1 → (((iI 0) = 0 ∨ (iI 0) = 1) ∧ post (some (.int (iI 0))) σ)) ∧
 (¬ (iI 57) < x1 → (((iI 1) = 0 ∨ (iI 1) = 1) ∧ post (some (.int (iI 1))) σ)))))) ∧
 (¬ (v1 - v1 / (iI 4) * (iI 4)) = (iI 2) → ((¬ x1 = (iI 44) → ((¬ x1 = (iI 59) → (((iI 0) = 0 ∨ (iI 0) = 1) ∧ post (some (.int (iI 0))) σ)) ∧
 (x1 = (iI 59) → ((x2 < (iI 2) → (((iI 0) = 0 ∨ (iI 0) = 1) ∧ post (some (.int (iI 0))) σ)) ∧
 (¬ x2 < (iI 2) → (((iI 1) = 0 ∨ (iI 1) = 1) ∧ post (some (.int (iI 1))) σ)))))) ∧
 (x1 = (iI 44) → ((x2 < (iI 6) → (((iI 1) = 0 ∨ (iI 1) = 1) ∧ post (some (.int (iI 1))) σ)) ∧
 (¬ x2 < (iI 6) → ((¬ x1 = (iI 59) → (((iI 0) = 0 ∨ (iI 0) = 1) ∧ post (some (.int (iI 0))) σ)) ∧
 (x1 = (iI 59) → ((x2 < (iI 2) → (((iI 0) = 0 ∨ (iI 0) = 1) ∧ post (some (.int (iI 0))) σ)) ∧
 (¬ x2 < (iI 2) → (((iI 1) = 0 ∨ (iI 1) = 1) ∧ post (some (.int (iI 1))) σ)))))))))))))))))))) from ⟨(h).1, ⟨by decide +kernel, ⟨by decide +kernel, ⟨fun c69 => jq_I_con ((((h).2).1 c69)) (fun x4 s3 h70 => ⟨fun c71 => ⟨by decide +kernel, ((h70).1 c71)⟩, fun c71 => ⟨by decide +kernel, ((h70).2 c71)⟩⟩), fun c69 => ⟨fun c76 => ⟨fun c77 => ⟨by decide +kernel, (((((((h).2).2 c69)).1 c76)).1 c77)⟩, fun c77 => ⟨fun c80 => ⟨by decide +kernel, (((((((((h).2).2 c69)).1 c76)).2 c77)).1 c80)⟩, fun c80 => ⟨by decide +kernel, (((((((((h).2).2 c69)).1 c76)).2 c77)).2 c80)⟩⟩⟩, fun c76 => ⟨fun c85 => ⟨fun c86 => ⟨by decide +kernel, (((((((((h).2).2 c69)).2 c76)).1 c85)).1 c86)⟩, fun c86 => ⟨fun c89 => ⟨by decide +kernel, (((((((((((h).2).2 c69)).2 c76)).1 c85)).2 c86)).1 c89)⟩, fun c89 => ⟨by decide +kernel, (((((((((((h).2).2 c69)).2 c76)).1 c85)).2 c86)).2 c89)⟩⟩⟩, fun c85 => ⟨fun c94 => ⟨fun c95 => ⟨by decide +kernel, (((((((((((h).2).2 c69)).2 c76)).2 c85)).1 c94)).1 c95)⟩, fun c95 => ⟨fun c98 => ⟨by decide +kernel, (((((((((((((h).2).2 c69)).2 c76)).2 c85)).1 c94)).2 c95)).1 c98)⟩, fun c98 => ⟨by decide +kernel, (((((((((((((h).2).2 c69)).2 c76)).2 c85)).1 c94)).2 c95)).2 c98)⟩⟩⟩, fun c94 => ⟨fun c103 => ⟨by decide +kernel, (((((((((((h).2).2 c69)).2 c76)).2 c85)).2 c94)).1 c103)⟩, fun c103 => ⟨fun c106 => ⟨by decide +kernel, (((((((((((((h).2).2 c69)).2 c76)).2 c85)).2 c94)).2 c103)).1 c106)⟩, fun c106 => ⟨fun c109 => ⟨by decide +kernel, (((((((((((((((h).2).2 c69)).2 c76)).2 c85)).2 c94)).2 c103)).2 c106)).1 c109)⟩, fun c109 => ⟨by decide +kernel, (((((((((((((((h).2).2 c69)).2 c76)).2 c85)).2 c94)).2 c103)).2 c106)).2 c109)⟩⟩⟩⟩⟩⟩⟩⟩⟩⟩⟩)
def vc_X3_fitsMatters (d : Nat) (post : jPo) (σ : jSt) (v1 : Int32) (v2 : Int32) : Prop :=
 (vp_in v1 44 ∧ (let x1 : Int32 := (σ.1 2 v1.toNatClampNeg)
 (let x2 : Int32 := (((v1 / (iI 4)) + (iI 1)) - v2)
 ((x1 < (iI 48) → (((v1 - v1 / (iI 4) * (iI 4)) = (iI 0) → post (some (.int (iI 0))) σ) ∧
 (¬ (v1 - v1 / (iI 4) * (iI 4)) = (iI 0) → (((v1 - v1 / (iI 4) * (iI 4)) = (iI 1) → post (some (.int (iI 0))) σ) ∧
 (¬ (v1 - v1 / (iI 4) * (iI 4)) = (iI 1) → (((v1 - v1 / (iI 4) * (iI 4)) = (iI 2) → ((x1 < (iI 49) → post (some (.int (iI 0))) σ) ∧
 (¬ x1 < (iI 49) → (((iI 57) < x1 → post (some (.int (iI 0))) σ) ∧
 (¬ (iI 57) < x1 → post (some (.int (iI 1))) σ))))) ∧
 (¬ (v1 - v1 / (iI 4) * (iI 4)) = (iI 2) → ((¬ x1 = (iI 44) → post (some (.int (iI 0))) σ) ∧
 (x1 = (iI 44) → (((iI 5) ≤ x2 → post (some (.int (iI 0))) σ) ∧
 (¬ (iI 5) ≤ x2 → post (some (.int (iI 1))) σ))))))))))) ∧
 (¬ x1 < (iI 48) → ((((iI 48) + v2) ≤ x1 → (((v1 - v1 / (iI 4) * (iI 4)) = (iI 0) → post (some (.int (iI 0))) σ) ∧
 (¬ (v1 - v1 / (iI 4) * (iI 4)) = (iI 0) → (((v1 - v1 / (iI 4) * (iI 4)) = (iI 1) → post (some (.int (iI 0))) σ) ∧
 (¬ (v1 - v1 / (iI 4) * (iI 4)) = (iI 1) → (((v1 - v1 / (iI 4) * (iI 4)) = (iI 2) → ((x1 < (iI 49) → post (some (.int (iI 0))) σ) ∧
 (¬ x1 < (iI 49) → (((iI 57) < x1 → post (some (.int (iI 0))) σ) ∧
 (¬ (iI 57) < x1 → post (some (.int (iI 1))) σ))))) ∧
 (¬ (v1 - v1 / (iI 4) * (iI 4)) = (iI 2) → ((¬ x1 = (iI 44) → post (some (.int (iI 0))) σ) ∧
 (x1 = (iI 44) → (((iI 5) ≤ x2 → post (some (.int (iI 0))) σ) ∧
 (¬ (iI 5) ≤ x2 → post (some (.int (iI 1))) σ))))))))))) ∧
 (¬ ((iI 48) + v2) ≤ x1 → (((v1 - v1 / (iI 4) * (iI 4)) = (iI 0) → post (some (.int (iI 1))) σ) ∧
 (¬ (v1 - v1 / (iI 4) * (iI 4)) = (iI 0) → (((v1 - v1 / (iI 4) * (iI 4)) = (iI 1) → (vp_in (v1 - (iI 1)) 44 ∧ ((x1 = (σ.1 2 (v1 - (iI 1)).toNatClampNeg) → post (some (.int (iI 0))) σ) ∧
 (¬ x1 = (σ.1 2 (v1 - (iI 1)).toNatClampNeg) → post (some (.int (iI 1))) σ)))) ∧
 (¬ (v1 - v1 / (iI 4) * (iI 4)) = (iI 1) → (((v1 - v1 / (iI 4) * (iI 4)) = (iI 2) → ((x1 < (iI 49) → post (some (.int (iI 0))) σ) ∧
 (¬ x1 < (iI 49) → (((iI 57) < x1 → post (some (.int (iI 0))) σ) ∧
 (¬ (iI 57) < x1 → post (some (.int (iI 1))) σ))))) ∧
 (¬ (v1 - v1 / (iI 4) * (iI 4)) = (iI 2) → ((¬ x1 = (iI 44) → post (some (.int (iI 0))) σ) ∧
 (x1 = (iI 44) → (((iI 5) ≤ x2 → post (some (.int (iI 0))) σ) ∧
 (¬ (iI 5) ≤ x2 → post (some (.int (iI 1))) σ)))))))))))))))))
set_option maxRecDepth 100000 in
set_option maxHeartbeats 4000000 in
theorem ok_X3_fitsMatters {d : Nat} {post : jPo} {σ : jSt} {v1 : Int32} {v2 : Int32} (h : vc_X3_fitsMatters d post σ v1 v2) : jv_wp (d + 1) post (18, 0, [some (.ref 1), some (.int v1), some (.int v2), none, none, none], [], σ) := jv_go_ok 41 [] _ _ _ (show (vp_in v1 44 ∧ (let x1 : Int32 := (σ.1 2 v1.toNatClampNeg)
 (¬ (iI 4) = 0 ∧ (let x2 : Int32 := (((v1 / (iI 4)) + (iI 1)) - v2)
 ((x1 < (iI 48) → (¬ (iI 4) = 0 ∧ (((v1 - v1 / (iI 4) * (iI 4)) = (iI 0) → (((iI 0) = 0 ∨ (iI 0) = 1) ∧ post (some (.int (iI 0))) σ)) ∧
 (¬ (v1 - v1 / (iI 4) * (iI 4)) = (iI 0) → (((v1 - v1 / (iI 4) * (iI 4)) = (iI 1) → (((iI 0) = 0 → (((iI 0) = 0 ∨ (iI 0) = 1) ∧ post (some (.int (iI 0))) σ)) ∧
 (¬ (iI 0) = 0 → (vp_in (v1 - (iI 1)) 44 ∧ ((x1 = (σ.1 2 (v1 - (iI 1)).toNatClampNeg) → (((iI 0) = 0 ∨ (iI 0) = 1) ∧ post (some (.int (iI 0))) σ)) ∧
 (¬ x1 = (σ.1 2 (v1 - (iI 1)).toNatClampNeg) → (((iI 1) = 0 ∨ (iI 1) = 1) ∧ post (some (.int (iI 1))) σ))))))) ∧
 (¬ (v1 - v1 / (iI 4) * (iI 4)) = (iI 1) → (((v1 - v1 / (iI 4) * (iI 4)) = (iI 2) → ((x1 < (iI 49) → (((iI 0) = 0 ∨ (iI 0) = 1) ∧ post (some (.int (iI 0))) σ)) ∧
 (¬ x1 < (iI 49) → (((iI 57) < x1 → (((iI 0) = 0 ∨ (iI 0) = 1) ∧ post (some (.int (iI 0))) σ)) ∧
 (¬ (iI 57) < x1 → (((iI 1) = 0 ∨ (iI 1) = 1) ∧ post (some (.int (iI 1))) σ)))))) ∧
 (¬ (v1 - v1 / (iI 4) * (iI 4)) = (iI 2) → ((¬ x1 = (iI 44) → (((iI 0) = 0 ∨ (iI 0) = 1) ∧ post (some (.int (iI 0))) σ)) ∧
 (x1 = (iI 44) → (((iI 5) ≤ x2 → (((iI 0) = 0 ∨ (iI 0) = 1) ∧ post (some (.int (iI 0))) σ)) ∧
 (¬ (iI 5) ≤ x2 → (((iI 1) = 0 ∨ (iI 1) = 1) ∧ post (some (.int (iI 1))) σ))))))))))))) ∧
 (¬ x1 < (iI 48) → ((((iI 48) + v2) ≤ x1 → (¬ (iI 4) = 0 ∧ (((v1 - v1 / (iI 4) * (iI 4)) = (iI 0) → (((iI 0) = 0 ∨ (iI 0) = 1) ∧ post (some (.int (iI 0))) σ)) ∧
 (¬ (v1 - v1 / (iI 4) * (iI 4)) = (iI 0) → (((v1 - v1 / (iI 4) * (iI 4)) = (iI 1) → (((iI 0) = 0 → (((iI 0) = 0 ∨ (iI 0) = 1) ∧ post (some (.int (iI 0))) σ)) ∧
 (¬ (iI 0) = 0 → (vp_in (v1 - (iI 1)) 44 ∧ ((x1 = (σ.1 2 (v1 - (iI 1)).toNatClampNeg) → (((iI 0) = 0 ∨ (iI 0) = 1) ∧ post (some (.int (iI 0))) σ)) ∧
 (¬ x1 = (σ.1 2 (v1 - (iI 1)).toNatClampNeg) → (((iI 1) = 0 ∨ (iI 1) = 1) ∧ post (some (.int (iI 1))) σ))))))) ∧
 (¬ (v1 - v1 / (iI 4) * (iI 4)) = (iI 1) → (((v1 - v1 / (iI 4) * (iI 4)) = (iI 2) → ((x1 < (iI 49) → (((iI 0) = 0 ∨ (iI 0) = 1) ∧ post (some (.int (iI 0))) σ)) ∧
 (¬ x1 < (iI 49) → (((iI 57) < x1 → (((iI 0) = 0 ∨ (iI 0) = 1) ∧ post (some (.int (iI 0))) σ)) ∧
 (¬ (iI 57) < x1 → (((iI 1) = 0 ∨ (iI 1) = 1) ∧ post (some (.int (iI 1))) σ)))))) ∧
 (¬ (v1 - v1 / (iI 4) * (iI 4)) = (iI 2) → ((¬ x1 = (iI 44) → (((iI 0) = 0 ∨ (iI 0) = 1) ∧ post (some (.int (iI 0))) σ)) ∧
 (x1 = (iI 44) → (((iI 5) ≤ x2 → (((iI 0) = 0 ∨ (iI 0) = 1) ∧ post (some (.int (iI 0))) σ)) ∧
 (¬ (iI 5) ≤ x2 → (((iI 1) = 0 ∨ (iI 1) = 1) ∧ post (some (.int (iI 1))) σ))))))))))))) ∧
 (¬ ((iI 48) + v2) ≤ x1 → (¬ (iI 4) = 0 ∧ (((v1 - v1 / (iI 4) * (iI 4)) = (iI 0) → (((iI 1) = 0 ∨ (iI 1) = 1) ∧ post (some (.int (iI 1))) σ)) ∧
 (¬ (v1 - v1 / (iI 4) * (iI 4)) = (iI 0) → (((v1 - v1 / (iI 4) * (iI 4)) = (iI 1) → (((iI 1) = 0 → (((iI 0) = 0 ∨ (iI 0) = 1) ∧ post (some (.int (iI 0))) σ)) ∧
 (¬ (iI 1) = 0 → (vp_in (v1 - (iI 1)) 44 ∧ ((x1 = (σ.1 2 (v1 - (iI 1)).toNatClampNeg) → (((iI 0) = 0 ∨ (iI 0) = 1) ∧ post (some (.int (iI 0))) σ)) ∧
 (¬ x1 = (σ.1 2 (v1 - (iI 1)).toNatClampNeg) → (((iI 1) = 0 ∨ (iI 1) = 1) ∧ post (some (.int (iI 1))) σ))))))) ∧
 (¬ (v1 - v1 / (iI 4) * (iI 4)) = (iI 1) → (((v1 - v1 / (iI 4) * (iI 4)) = (iI 2) → ((x1 < (iI 49) → (((iI 0) = 0 ∨ (iI 0) = 1) ∧ post (some (.int (iI 0))) σ)) ∧
 (¬ x1 < (iI 49) → (((iI 57) < x1 → (((iI 0) = 0 ∨ (iI 0) = 1) ∧ post (some (.int (iI 0))) σ)) ∧
 (¬ (iI 57) < x1 → (((iI 1) = 0 ∨ (iI 1) = 1) ∧ post (some (.int (iI 1))) σ)))))) ∧
 (¬ (v1 - v1 / (iI 4) * (iI 4)) = (iI 2) → ((¬ x1 = (iI 44) → (((iI 0) = 0 ∨ (iI 0) = 1) ∧ post (some (.int (iI 0))) σ)) ∧
 (x1 = (iI 44) → (((iI 5) ≤ x2 → (((iI 0) = 0 ∨ (iI 0) = 1) ∧ post (some (.int (iI 0))) σ)) ∧
 (¬ (iI 5) ≤ x2 → (((iI 1) = 0 ∨ (iI 1) = 1) ∧ post (some (.int (iI 1))) σ)))))))))))))))))))) from ⟨(h).1, ⟨by decide +kernel, ⟨fun c118 => ⟨by decide +kernel, ⟨fun c120 => ⟨by decide +kernel, (((((h).2).1 c118)).1 c120)⟩, fun c120 => ⟨fun c123 => ⟨fun _ => ⟨by decide +kernel, (((((((h).2).1 c118)).2 c120)).1 c123)⟩, fun q => absurd q (by decide +kernel)⟩, fun c123 => ⟨fun c127 => ⟨fun c128 => ⟨by decide +kernel, (((((((((((h).2).1 c118)).2 c120)).2 c123)).1 c127)).1 c128)⟩, fun c128 => ⟨fun c131 => ⟨by decide +kernel, (((((((((((((h).2).1 c118)).2 c120)).2 c123)).1 c127)).2 c128)).1 c131)⟩, fun c131 => ⟨by decide +kernel, (((((((((((((h).2).1 c118)).2 c120)).2 c123)).1 c127)).2 c128)).2 c131)⟩⟩⟩, fun c127 => ⟨fun c136 => ⟨by decide +kernel, (((((((((((h).2).1 c118)).2 c120)).2 c123)).2 c127)).1 c136)⟩, fun c136 => ⟨fun c139 => ⟨by decide +kernel, (((((((((((((h).2).1 c118)).2 c120)).2 c123)).2 c127)).2 c136)).1 c139)⟩, fun c139 => ⟨by decide +kernel, (((((((((((((h).2).1 c118)).2 c120)).2 c123)).2 c127)).2 c136)).2 c139)⟩⟩⟩⟩⟩⟩⟩, fun c118 => ⟨fun c144 => ⟨by decide +kernel, ⟨fun c146 => ⟨by decide +kernel, (((((((h).2).2 c118)).1 c144)).1 c146)⟩, fun c146 => ⟨fun c149 => ⟨fun _ => ⟨by decide +kernel, (((((((((h).2).2 c118)).1 c144)).2 c146)).1 c149)⟩, fun q => absurd q (by decide +kernel)⟩, fun c149 => ⟨fun c153 => ⟨fun c154 => ⟨by decide +kernel, (((((((((((((h).2).2 c118)).1 c144)).2 c146)).2 c149)).1 c153)).1 c154)⟩, fun c154 => ⟨fun c157 => ⟨by decide +kernel, (((((((((((((((h).2).2 c118)).1 c144)).2 c146)).2 c149)).1 c153)).2 c154)).1 c157)⟩, fun c157 => ⟨by decide +kernel, (((((((((((((((h).2).2 c118)).1 c144)).2 c146)).2 c149)).1 c153)).2 c154)).2 c157)⟩⟩⟩, fun c153 => ⟨fun c162 => ⟨by decide +kernel, (((((((((((((h).2).2 c118)).1 c144)).2 c146)).2 c149)).2 c153)).1 c162)⟩, fun c162 => ⟨fun c165 => ⟨by decide +kernel, (((((((((((((((h).2).2 c118)).1 c144)).2 c146)).2 c149)).2 c153)).2 c162)).1 c165)⟩, fun c165 => ⟨by decide +kernel, (((((((((((((((h).2).2 c118)).1 c144)).2 c146)).2 c149)).2 c153)).2 c162)).2 c165)⟩⟩⟩⟩⟩⟩⟩, fun c144 => ⟨by decide +kernel, ⟨fun c171 => ⟨by decide +kernel, (((((((h).2).2 c118)).2 c144)).1 c171)⟩, fun c171 => ⟨fun c174 => ⟨fun q => absurd q (by decide +kernel), fun _ => ⟨((((((((((h).2).2 c118)).2 c144)).2 c171)).1 c174)).1, ⟨fun c177 => ⟨by decide +kernel, ((((((((((((h).2).2 c118)).2 c144)).2 c171)).1 c174)).2).1 c177)⟩, fun c177 => ⟨by decide +kernel, ((((((((((((h).2).2 c118)).2 c144)).2 c171)).1 c174)).2).2 c177)⟩⟩⟩⟩, fun c174 => ⟨fun c182 => ⟨fun c183 => ⟨by decide +kernel, (((((((((((((h).2).2 c118)).2 c144)).2 c171)).2 c174)).1 c182)).1 c183)⟩, fun c183 => ⟨fun c186 => ⟨by decide +kernel, (((((((((((((((h).2).2 c118)).2 c144)).2 c171)).2 c174)).1 c182)).2 c183)).1 c186)⟩, fun c186 => ⟨by decide +kernel, (((((((((((((((h).2).2 c118)).2 c144)).2 c171)).2 c174)).1 c182)).2 c183)).2 c186)⟩⟩⟩, fun c182 => ⟨fun c191 => ⟨by decide +kernel, (((((((((((((h).2).2 c118)).2 c144)).2 c171)).2 c174)).2 c182)).1 c191)⟩, fun c191 => ⟨fun c194 => ⟨by decide +kernel, (((((((((((((((h).2).2 c118)).2 c144)).2 c171)).2 c174)).2 c182)).2 c191)).1 c194)⟩, fun c194 => ⟨by decide +kernel, (((((((((((((((h).2).2 c118)).2 c144)).2 c171)).2 c174)).2 c182)).2 c191)).2 c194)⟩⟩⟩⟩⟩⟩⟩⟩⟩⟩⟩)
def vc_X3_isWhole (d : Nat) (post : jPo) (σ : jSt)  : Prop :=
 ((¬ ((σ.1 1 1) - (σ.1 1 1) / (iI 4) * (iI 4)) = (iI 3) → post (some (.int (iI 0))) σ) ∧
 (((σ.1 1 1) - (σ.1 1 1) / (iI 4) * (iI 4)) = (iI 3) → jq_I d 16 [.ref 1] σ (fun x2 s1 =>
 ((¬ x2 = (s1.1 1 1) → post (some (.int (iI 0))) s1) ∧
 (x2 = (s1.1 1 1) → jq_I d 20 [.ref 1] s1 (fun x4 s3 =>
 ((x4 ≤ 0 → post (some (.int (iI 0))) s3) ∧
 (¬ x4 ≤ 0 → post (some (.int (iI 1))) s3))))))))
set_option maxRecDepth 100000 in
set_option maxHeartbeats 4000000 in
theorem ok_X3_isWhole {d : Nat} {post : jPo} {σ : jSt} (h : vc_X3_isWhole d post σ ) : jv_wp (d + 1) post (19, 0, [some (.ref 1)], [], σ) := jv_go_ok 17 [] _ _ _ (show (¬ (iI 4) = 0 ∧ ((¬ ((σ.1 1 1) - (σ.1 1 1) / (iI 4) * (iI 4)) = (iI 3) → (((iI 0) = 0 ∨ (iI 0) = 1) ∧ post (some (.int (iI 0))) σ)) ∧
 (((σ.1 1 1) - (σ.1 1 1) / (iI 4) * (iI 4)) = (iI 3) → jq_I d 16 [.ref 1] σ (fun x2 s1 =>
 ((¬ x2 = (s1.1 1 1) → (((iI 0) = 0 ∨ (iI 0) = 1) ∧ post (some (.int (iI 0))) s1)) ∧
 (x2 = (s1.1 1 1) → jq_I d 20 [.ref 1] s1 (fun x4 s3 =>
 ((x4 ≤ 0 → (((iI 0) = 0 ∨ (iI 0) = 1) ∧ post (some (.int (iI 0))) s3)) ∧
 (¬ x4 ≤ 0 → (((iI 1) = 0 ∨ (iI 1) = 1) ∧ post (some (.int (iI 1))) s3)))))))))) from ⟨by decide +kernel, ⟨fun c200 => ⟨by decide +kernel, ((h).1 c200)⟩, fun c200 => jq_I_con (((h).2 c200)) (fun x2 s1 h203 => ⟨fun c204 => ⟨by decide +kernel, ((h203).1 c204)⟩, fun c204 => jq_I_con (((h203).2 c204)) (fun x4 s3 h207 => ⟨fun c208 => ⟨by decide +kernel, ((h207).1 c208)⟩, fun c208 => ⟨by decide +kernel, ((h207).2 c208)⟩⟩)⟩)⟩⟩)
def vc_X3_peopleTold (d : Nat) (post : jPo) (σ : jSt)  : Prop :=
 jv_wp (d + 1) post (20, 2, [some (.ref 1), some (.int (iI 3))], [], σ)
set_option maxRecDepth 100000 in
set_option maxHeartbeats 4000000 in
theorem ok_X3_peopleTold {d : Nat} {post : jPo} {σ : jSt} (h : vc_X3_peopleTold d post σ ) : jv_wp (d + 1) post (20, 0, [some (.ref 1), none], [], σ) := jv_go_ok 3 [2] _ _ _ h
def vc_X3_peopleTold_L2 (d : Nat) (post : jPo) (σ : jSt) (v1 : Int32) : Prop :=
 (((σ.1 1 1) ≤ v1 → post (some (.int (iI 0))) σ) ∧
 (¬ (σ.1 1 1) ≤ v1 → (vp_in v1 44 ∧ ((¬ (σ.1 2 v1.toNatClampNeg) = (iI 59) → (let x1 : Int32 := (v1 + (iI 4))
 jv_wp (d + 1) post (20, 2, [some (.ref 1), some (.int x1)], [], σ))) ∧
 ((σ.1 2 v1.toNatClampNeg) = (iI 59) → post (some (.int ((v1 / (iI 4)) + (iI 1)))) σ)))))
set_option maxRecDepth 100000 in
set_option maxHeartbeats 4000000 in
theorem ok_X3_peopleTold_L2 {d : Nat} {post : jPo} {σ : jSt} {v1 : Int32} (h : vc_X3_peopleTold_L2 d post σ v1) : jv_wp (d + 1) post (20, 2, [some (.ref 1), some (.int v1)], [], σ) := jv_go_ok 16 [2] _ _ _ (show (((σ.1 1 1) ≤ v1 → post (some (.int (iI 0))) σ) ∧
 (¬ (σ.1 1 1) ≤ v1 → (vp_in v1 44 ∧ ((¬ (σ.1 2 v1.toNatClampNeg) = (iI 59) → (let x1 : Int32 := (v1 + (iI 4))
 jv_wp (d + 1) post (20, 2, [some (.ref 1), some (.int x1)], [], σ))) ∧
 ((σ.1 2 v1.toNatClampNeg) = (iI 59) → (¬ (iI 4) = 0 ∧ post (some (.int ((v1 / (iI 4)) + (iI 1)))) σ)))))) from ⟨fun c213 => ((h).1 c213), fun c213 => ⟨(((h).2 c213)).1, ⟨fun c216 => (((((h).2 c213)).2).1 c216), fun c216 => ⟨by decide +kernel, (((((h).2 c213)).2).2 c216)⟩⟩⟩⟩)
def vc_X3_readInto (d : Nat) (post : jPo) (σ : jSt)  : Prop :=
 jq_I d 20 [.ref 1] σ (fun x2 s1 =>
 (let x3 : Int32 := (((s1.1 1 1) + (iI 1)) / (iI 4))
 jq_V d 36 [.ref 3, .int x2, .int (x3 - x2)] s1 (fun s4 =>
 jv_wp (d + 1) post (21, 25, [some (.ref 1), some (.ref 3), some (.int x2), some (.int x3), some (.int (iI 0)), none], [], s4))))
set_option maxRecDepth 100000 in
set_option maxHeartbeats 4000000 in
theorem ok_X3_readInto {d : Nat} {post : jPo} {σ : jSt} (h : vc_X3_readInto d post σ ) : jv_wp (d + 1) post (21, 0, [some (.ref 1), some (.ref 3), none, none, none, none], [], σ) := jv_go_ok 19 [25, 96] _ _ _ (show jq_I d 20 [.ref 1] σ (fun x2 s1 =>
 (¬ (iI 4) = 0 ∧ (let x3 : Int32 := (((s1.1 1 1) + (iI 1)) / (iI 4))
 jq_V d 36 [.ref 3, .int x2, .int (x3 - x2)] s1 (fun s4 =>
 jv_wp (d + 1) post (21, 25, [some (.ref 1), some (.ref 3), some (.int x2), some (.int x3), some (.int (iI 0)), none], [], s4))))) from jq_I_con (h) (fun x2 s1 h220 => ⟨by decide +kernel, h220⟩))
def vc_X3_readInto_L25 (d : Nat) (post : jPo) (σ : jSt) (v2 : Int32) (v3 : Int32) (v4 : Int32) (z5 : Option Value) : Prop :=
 (((σ.1 3 8) ≤ v4 → jv_wp (d + 1) post (21, 96, [some (.ref 1), some (.ref 3), some (.int v2), some (.int v3), some (.int (iI 0)), z5], [], σ)) ∧
 (¬ (σ.1 3 8) ≤ v4 → (let x1 : Int32 := (v4 * (iI 4))
 (vp_in x1 44 ∧ jq_I d 22 [.int (σ.1 2 x1.toNatClampNeg)] σ (fun x3 s2 =>
 (vp_in (x1 + (iI 1)) 44 ∧ ((¬ (s2.1 2 (x1 + (iI 1)).toNatClampNeg) = (iI 114) → (vp_in (x1 + (iI 2)) 44 ∧ jq_V d 37 [.ref 3, .int v4, .int x3, .int (iI 0), .int ((s2.1 2 (x1 + (iI 2)).toNatClampNeg) - (iI 48))] s2 (fun s4 =>
 (let x5 : Int32 := (v4 + (iI 1))
 jv_wp (d + 1) post (21, 25, [some (.ref 1), some (.ref 3), some (.int v2), some (.int v3), some (.int x5), some (.int x1)], [], s4))))) ∧
 ((s2.1 2 (x1 + (iI 1)).toNatClampNeg) = (iI 114) → (vp_in (x1 + (iI 2)) 44 ∧ jq_V d 37 [.ref 3, .int v4, .int x3, .int (iI 1), .int ((s2.1 2 (x1 + (iI 2)).toNatClampNeg) - (iI 48))] s2 (fun s6 =>
 (let x7 : Int32 := (v4 + (iI 1))
 jv_wp (d + 1) post (21, 25, [some (.ref 1), some (.ref 3), some (.int v2), some (.int v3), some (.int x7), some (.int x1)], [], s6))))))))))))
set_option maxRecDepth 100000 in
set_option maxHeartbeats 4000000 in
theorem ok_X3_readInto_L25 {d : Nat} {post : jPo} {σ : jSt} {v2 : Int32} {v3 : Int32} {v4 : Int32} {z5 : Option Value} (h : vc_X3_readInto_L25 d post σ v2 v3 v4 z5) : jv_wp (d + 1) post (21, 25, [some (.ref 1), some (.ref 3), some (.int v2), some (.int v3), some (.int v4), z5], [], σ) := jv_go_ok 37 [25, 96] _ _ _ h
def vc_X3_readInto_L96 (d : Nat) (post : jPo) (σ : jSt) (v2 : Int32) (v3 : Int32) (v4 : Int32) (z5 : Option Value) : Prop :=
 (((σ.1 3 9) ≤ v4 → post none σ) ∧
 (¬ (σ.1 3 9) ≤ v4 → (let x1 : Int32 := ((v2 + v4) * (iI 4))
 (vp_in x1 44 ∧ (vp_in v4 5 ∧ (let s2 : jSt := jv_u σ 7 v4.toNatClampNeg ((σ.1 2 x1.toNatClampNeg) - (iI 48))
 (vp_in (x1 + (iI 1)) 44 ∧ (vp_in v4 5 ∧ (let s3 : jSt := jv_u s2 8 v4.toNatClampNeg ((s2.1 2 (x1 + (iI 1)).toNatClampNeg) - (iI 48))
 (vp_in (x1 + (iI 2)) 44 ∧ (vp_in v4 5 ∧ (let s4 : jSt := jv_u s3 9 v4.toNatClampNeg ((s3.1 2 (x1 + (iI 2)).toNatClampNeg) - (iI 48))
 (vp_in v4 5 ∧ (let s5 : jSt := jv_u s4 10 v4.toNatClampNeg (iI (-1))
 (let x6 : Int32 := (v4 + (iI 1))
 jv_wp (d + 1) post (21, 96, [some (.ref 1), some (.ref 3), some (.int v2), some (.int v3), some (.int x6), some (.int x1)], [], s5))))))))))))))))
set_option maxRecDepth 100000 in
set_option maxHeartbeats 4000000 in
theorem ok_X3_readInto_L96 {d : Nat} {post : jPo} {σ : jSt} {v2 : Int32} {v3 : Int32} {v4 : Int32} {z5 : Option Value} (h : vc_X3_readInto_L96 d post σ v2 v3 v4 z5) : jv_wp (d + 1) post (21, 96, [some (.ref 1), some (.ref 3), some (.int v2), some (.int v3), some (.int v4), z5], [], σ) := jv_go_ok 52 [25, 96] _ _ _ h
def vc_X3_kindOf (d : Nat) (post : jPo) (σ : jSt) (v0 : Int32) : Prop :=
 jq_I d 144 [.ref 58, .int ((v0).toUInt32 % 65536).toInt32] σ (fun x2 s1 =>
 post (some (.int x2)) s1)
set_option maxRecDepth 100000 in
set_option maxHeartbeats 4000000 in
theorem ok_X3_kindOf {d : Nat} {post : jPo} {σ : jSt} {v0 : Int32} (h : vc_X3_kindOf d post σ v0) : jv_wp (d + 1) post (22, 0, [some (.int v0)], [], σ) := jv_go_ok 5 [] _ _ _ h
def vc_X4_make (d : Nat) (post : jPo) (σ : jSt) (v2 : Int32) : Prop :=
 (let s1 : jSt := jv_u σ 27 4 (if (iI 5) < v2 then (iI 5) else v2)
 (let s2 : jSt := jv_u s1 27 6 (iI (-1))
 (let s3 : jSt := jv_u s2 27 7 (iI (-1))
 (let s4 : jSt := jv_u s3 27 5 (iI (-1))
 jv_wp (d + 1) post (23, 26, [some (.ref 27), some (.ref 3), some (.int v2), some (.int (iI 0))], [], s4)))))
set_option maxRecDepth 100000 in
set_option maxHeartbeats 4000000 in
theorem ok_X4_make {d : Nat} {post : jPo} {σ : jSt} {v2 : Int32} (h : vc_X4_make d post σ v2) : jv_wp (d + 1) post (23, 0, [some (.ref 27), some (.ref 3), some (.int v2), none], [], σ) := jv_go_ok 17 [26] _ _ _ (show ((([.ref 27] : List Value).map fun v => v.category).sum ≤ 8 ∧ (let s1 : jSt := jv_u σ 27 4 (if (iI 5) < v2 then (iI 5) else v2)
 (let s2 : jSt := jv_u s1 27 6 (iI (-1))
 (let s3 : jSt := jv_u s2 27 7 (iI (-1))
 (let s4 : jSt := jv_u s3 27 5 (iI (-1))
 jv_wp (d + 1) post (23, 26, [some (.ref 27), some (.ref 3), some (.int v2), some (.int (iI 0))], [], s4)))))) from ⟨Nat.le_of_ble_eq_true rfl, h⟩)
def vc_X4_make_L26 (d : Nat) (post : jPo) (σ : jSt) (v2 : Int32) (v3 : Int32) : Prop :=
 (((σ.1 27 4) ≤ v3 → (let s1 : jSt := jv_a σ 31 (va_cpy (σ.1 10) (σ.1 31) (iI 0).toNatClampNeg (iI 0).toNatClampNeg (iI 5).toNatClampNeg)
 jq_V d 25 [.ref 27, .ref 3, .int (iI 0), .int (iI 0), .int (iI 0)] s1 (fun s2 =>
 post none s2))) ∧
 (¬ (σ.1 27 4) ≤ v3 → jq_I d 41 [.ref 3, .int ((σ.1 3 11) + v3)] σ (fun x4 s3 =>
 (vp_in v3 5 ∧ (let s5 : jSt := jv_u s3 28 v3.toNatClampNeg x4
 (let x6 : Int32 := (v3 + (iI 1))
 jv_wp (d + 1) post (23, 26, [some (.ref 27), some (.ref 3), some (.int v2), some (.int x6)], [], s5)))))))
set_option maxRecDepth 100000 in
set_option maxHeartbeats 4000000 in
theorem ok_X4_make_L26 {d : Nat} {post : jPo} {σ : jSt} {v2 : Int32} {v3 : Int32} (h : vc_X4_make_L26 d post σ v2 v3) : jv_wp (d + 1) post (23, 26, [some (.ref 27), some (.ref 3), some (.int v2), some (.int v3)], [], σ) := jv_go_ok 19 [26] _ _ _ (show (((σ.1 27 4) ≤ v3 → ((¬ (iI 0) < 0 ∧ ¬ (iI 0) < 0 ∧ ¬ (iI 5) < 0 ∧ (iI 0).toNatClampNeg + (iI 5).toNatClampNeg ≤ 5 ∧ (iI 0).toNatClampNeg + (iI 5).toNatClampNeg ≤ 5 ∧ (([] : List Value).map fun v => v.category).sum ≤ 8) ∧ (let s1 : jSt := jv_a σ 31 (va_cpy (σ.1 10) (σ.1 31) (iI 0).toNatClampNeg (iI 0).toNatClampNeg (iI 5).toNatClampNeg)
 jq_V d 25 [.ref 27, .ref 3, .int (iI 0), .int (iI 0), .int (iI 0)] s1 (fun s2 =>
 post none s2)))) ∧
 (¬ (σ.1 27 4) ≤ v3 → jq_I d 41 [.ref 3, .int ((σ.1 3 11) + v3)] σ (fun x4 s3 =>
 (vp_in v3 5 ∧ (let s5 : jSt := jv_u s3 28 v3.toNatClampNeg x4
 (let x6 : Int32 := (v3 + (iI 1))
 jv_wp (d + 1) post (23, 26, [some (.ref 27), some (.ref 3), some (.int v2), some (.int x6)], [], s5))))))) from ⟨fun c225 => ⟨⟨by decide +kernel, by decide +kernel, by decide +kernel, by decide +kernel, by decide +kernel, Nat.le_of_ble_eq_true rfl⟩, ((h).1 c225)⟩, fun c225 => ((h).2 c225)⟩)
def vc_X4_matterOn (d : Nat) (post : jPo) (σ : jSt) (v1 : Int32) : Prop :=
 ((v1 < 0 → post (some (.int (iI (-1)))) σ) ∧
 (¬ v1 < 0 → (((σ.1 27 4) ≤ v1 → post (some (.int (iI (-1)))) σ) ∧
 (¬ (σ.1 27 4) ≤ v1 → (vp_in v1 5 ∧ post (some (.int (σ.1 30 v1.toNatClampNeg))) σ)))))
set_option maxRecDepth 100000 in
set_option maxHeartbeats 4000000 in
theorem ok_X4_matterOn {d : Nat} {post : jPo} {σ : jSt} {v1 : Int32} (h : vc_X4_matterOn d post σ v1) : jv_wp (d + 1) post (24, 0, [some (.ref 27), some (.int v1)], [], σ) := jv_go_ok 12 [] _ _ _ h
def vc_X4_search (d : Nat) (post : jPo) (σ : jSt) (v2 : Int32) (v3 : Int32) (v4 : Int32) : Prop :=
 ((v2 < (σ.1 27 4) → (let x1 : Int32 := ((σ.1 3 11) + v2)
 jv_wp (d + 1) post (25, 28, [some (.ref 27), some (.ref 3), some (.int v2), some (.int v3), some (.int v4), some (.int x1), some (.int (iI 0)), none], [], σ))) ∧
 (¬ v2 < (σ.1 27 4) → jq_V d 26 [.ref 27, .ref 3, .int v3, .int v4] σ (fun s2 =>
 post none s2)))
set_option maxRecDepth 100000 in
set_option maxHeartbeats 4000000 in
theorem ok_X4_search {d : Nat} {post : jPo} {σ : jSt} {v2 : Int32} {v3 : Int32} {v4 : Int32} (h : vc_X4_search d post σ v2 v3 v4) : jv_wp (d + 1) post (25, 0, [some (.ref 27), some (.ref 3), some (.int v2), some (.int v3), some (.int v4), none, none, none], [], σ) := jv_go_ok 12 [28] _ _ _ h
def vc_X4_search_L28 (d : Nat) (post : jPo) (σ : jSt) (v2 : Int32) (v3 : Int32) (v4 : Int32) (v5 : Int32) (v6 : Int32) (z7 : Option Value) : Prop :=
 (((σ.1 3 9) ≤ v6 → (vp_in v2 5 ∧ (let s1 : jSt := jv_u σ 29 v2.toNatClampNeg (iI 7)
 jq_V d 25 [.ref 27, .ref 3, .int (v2 + (iI 1)), .int v3, .int v4] s1 (fun s2 =>
 post none s2)))) ∧
 (¬ (σ.1 3 9) ≤ v6 → (vp_in v6 5 ∧ (let x3 : Int32 := (σ.1 31 v6.toNatClampNeg)
 (vp_in v2 5 ∧ jq_I d 50 [.ref 3, .int v6, .int x3, .int v5, .int (σ.1 28 v2.toNatClampNeg)] σ (fun x5 s4 =>
 ((¬ x5 = 0 → (vp_in v2 5 ∧ (let s6 : jSt := jv_u s4 29 v2.toNatClampNeg v6
 ((¬ x3 = (iI (-1)) → (vp_in v6 5 ∧ (let s7 : jSt := jv_u s6 31 v6.toNatClampNeg (iI (-2))
 jq_I d 51 [.ref 3, .int v6, .int x3, .int v5] s7 (fun x9 s8 =>
 jq_V d 25 [.ref 27, .ref 3, .int (v2 + (iI 1)), .int (v3 + x9), .int (v4 + (iI 1))] s8 (fun s10 =>
 (vp_in v6 5 ∧ (let s11 : jSt := jv_u s10 31 v6.toNatClampNeg x3
 (let x12 : Int32 := (v6 + (iI 1))
 jv_wp (d + 1) post (25, 28, [some (.ref 27), some (.ref 3), some (.int v2), some (.int v3), some (.int v4), some (.int v5), some (.int x12), some (.int x3)], [], s11))))))))) ∧
 (x3 = (iI (-1)) → (vp_in v6 5 ∧ (let s13 : jSt := jv_u s6 31 v6.toNatClampNeg v5
 jq_V d 25 [.ref 27, .ref 3, .int (v2 + (iI 1)), .int v3, .int v4] s13 (fun s14 =>
 (vp_in v6 5 ∧ (let s15 : jSt := jv_u s14 31 v6.toNatClampNeg x3
 (let x16 : Int32 := (v6 + (iI 1))
 jv_wp (d + 1) post (25, 28, [some (.ref 27), some (.ref 3), some (.int v2), some (.int v3), some (.int v4), some (.int v5), some (.int x16), some (.int x3)], [], s15)))))))))))) ∧
 (x5 = 0 → (let x17 : Int32 := (v6 + (iI 1))
 jv_wp (d + 1) post (25, 28, [some (.ref 27), some (.ref 3), some (.int v2), some (.int v3), some (.int v4), some (.int v5), some (.int x17), some (.int x3)], [], s4))))))))))
set_option maxRecDepth 100000 in
set_option maxHeartbeats 4000000 in
theorem ok_X4_search_L28 {d : Nat} {post : jPo} {σ : jSt} {v2 : Int32} {v3 : Int32} {v4 : Int32} {v5 : Int32} {v6 : Int32} {z7 : Option Value} (h : vc_X4_search_L28 d post σ v2 v3 v4 v5 v6 z7) : jv_wp (d + 1) post (25, 28, [some (.ref 27), some (.ref 3), some (.int v2), some (.int v3), some (.int v4), some (.int v5), some (.int v6), z7], [], σ) := jv_go_ok 56 [28] _ _ _ h
def vc_X4_keepIfBetter (d : Nat) (post : jPo) (σ : jSt) (v2 : Int32) (v3 : Int32) : Prop :=
 ((v2 < (σ.1 27 6) → post none σ) ∧
 (¬ v2 < (σ.1 27 6) → ((¬ v2 = (σ.1 27 6) → jq_I d 27 [.ref 27, .int (σ.1 3 9)] σ (fun x2 s1 =>
 ((¬ v2 = (s1.1 27 6) → (let s3 : jSt := jv_u s1 27 6 v2
 (let s4 : jSt := jv_u s3 27 7 v3
 (let s5 : jSt := jv_u s4 27 5 x2
 (let s6 : jSt := jv_a s5 30 (va_cpy (s5.1 29) (s5.1 30) (iI 0).toNatClampNeg (iI 0).toNatClampNeg (iI 5).toNatClampNeg)
 post none s6))))) ∧
 (v2 = (s1.1 27 6) → ((¬ v3 = (s1.1 27 7) → (let s7 : jSt := jv_u s1 27 6 v2
 (let s8 : jSt := jv_u s7 27 7 v3
 (let s9 : jSt := jv_u s8 27 5 x2
 (let s10 : jSt := jv_a s9 30 (va_cpy (s9.1 29) (s9.1 30) (iI 0).toNatClampNeg (iI 0).toNatClampNeg (iI 5).toNatClampNeg)
 post none s10))))) ∧
 (v3 = (s1.1 27 7) → (((s1.1 27 5) < x2 → (let s11 : jSt := jv_u s1 27 6 v2
 (let s12 : jSt := jv_u s11 27 7 v3
 (let s13 : jSt := jv_u s12 27 5 x2
 (let s14 : jSt := jv_a s13 30 (va_cpy (s13.1 29) (s13.1 30) (iI 0).toNatClampNeg (iI 0).toNatClampNeg (iI 5).toNatClampNeg)
 post none s14))))) ∧
 (¬ (s1.1 27 5) < x2 → post none s1)))))))) ∧
 (v2 = (σ.1 27 6) → (((σ.1 27 7) ≤ v3 → jq_I d 27 [.ref 27, .int (σ.1 3 9)] σ (fun x16 s15 =>
 ((¬ v2 = (s15.1 27 6) → (let s17 : jSt := jv_u s15 27 6 v2
 (let s18 : jSt := jv_u s17 27 7 v3
 (let s19 : jSt := jv_u s18 27 5 x16
 (let s20 : jSt := jv_a s19 30 (va_cpy (s19.1 29) (s19.1 30) (iI 0).toNatClampNeg (iI 0).toNatClampNeg (iI 5).toNatClampNeg)
 post none s20))))) ∧
 (v2 = (s15.1 27 6) → ((¬ v3 = (s15.1 27 7) → (let s21 : jSt := jv_u s15 27 6 v2
 (let s22 : jSt := jv_u s21 27 7 v3
 (let s23 : jSt := jv_u s22 27 5 x16
 (let s24 : jSt := jv_a s23 30 (va_cpy (s23.1 29) (s23.1 30) (iI 0).toNatClampNeg (iI 0).toNatClampNeg (iI 5).toNatClampNeg)
 post none s24))))) ∧
 (v3 = (s15.1 27 7) → (((s15.1 27 5) < x16 → (let s25 : jSt := jv_u s15 27 6 v2
 (let s26 : jSt := jv_u s25 27 7 v3
 (let s27 : jSt := jv_u s26 27 5 x16
 (let s28 : jSt := jv_a s27 30 (va_cpy (s27.1 29) (s27.1 30) (iI 0).toNatClampNeg (iI 0).toNatClampNeg (iI 5).toNatClampNeg)
 post none s28))))) ∧
 (¬ (s15.1 27 5) < x16 → post none s15)))))))) ∧
 (¬ (σ.1 27 7) ≤ v3 → post none σ))))))
set_option maxRecDepth 100000 in
set_option maxHeartbeats 4000000 in
theorem ok_X4_keepIfBetter {d : Nat} {post : jPo} {σ : jSt} {v2 : Int32} {v3 : Int32} (h : vc_X4_keepIfBetter d post σ v2 v3) : jv_wp (d + 1) post (26, 0, [some (.ref 27), some (.ref 3), some (.int v2), some (.int v3), none], [], σ) := jv_go_ok 47 [] _ _ _ (show ((v2 < (σ.1 27 6) → post none σ) ∧
 (¬ v2 < (σ.1 27 6) → ((¬ v2 = (σ.1 27 6) → jq_I d 27 [.ref 27, .int (σ.1 3 9)] σ (fun x2 s1 =>
 ((¬ v2 = (s1.1 27 6) → (let s3 : jSt := jv_u s1 27 6 v2
 (let s4 : jSt := jv_u s3 27 7 v3
 (let s5 : jSt := jv_u s4 27 5 x2
 ((¬ (iI 0) < 0 ∧ ¬ (iI 0) < 0 ∧ ¬ (iI 5) < 0 ∧ (iI 0).toNatClampNeg + (iI 5).toNatClampNeg ≤ 5 ∧ (iI 0).toNatClampNeg + (iI 5).toNatClampNeg ≤ 5 ∧ (([] : List Value).map fun v => v.category).sum ≤ 8) ∧ (let s6 : jSt := jv_a s5 30 (va_cpy (s5.1 29) (s5.1 30) (iI 0).toNatClampNeg (iI 0).toNatClampNeg (iI 5).toNatClampNeg)
 post none s6)))))) ∧
 (v2 = (s1.1 27 6) → ((¬ v3 = (s1.1 27 7) → (let s7 : jSt := jv_u s1 27 6 v2
 (let s8 : jSt := jv_u s7 27 7 v3
 (let s9 : jSt := jv_u s8 27 5 x2
 ((¬ (iI 0) < 0 ∧ ¬ (iI 0) < 0 ∧ ¬ (iI 5) < 0 ∧ (iI 0).toNatClampNeg + (iI 5).toNatClampNeg ≤ 5 ∧ (iI 0).toNatClampNeg + (iI 5).toNatClampNeg ≤ 5 ∧ (([] : List Value).map fun v => v.category).sum ≤ 8) ∧ (let s10 : jSt := jv_a s9 30 (va_cpy (s9.1 29) (s9.1 30) (iI 0).toNatClampNeg (iI 0).toNatClampNeg (iI 5).toNatClampNeg)
 post none s10)))))) ∧
 (v3 = (s1.1 27 7) → (((s1.1 27 5) < x2 → (let s11 : jSt := jv_u s1 27 6 v2
 (let s12 : jSt := jv_u s11 27 7 v3
 (let s13 : jSt := jv_u s12 27 5 x2
 ((¬ (iI 0) < 0 ∧ ¬ (iI 0) < 0 ∧ ¬ (iI 5) < 0 ∧ (iI 0).toNatClampNeg + (iI 5).toNatClampNeg ≤ 5 ∧ (iI 0).toNatClampNeg + (iI 5).toNatClampNeg ≤ 5 ∧ (([] : List Value).map fun v => v.category).sum ≤ 8) ∧ (let s14 : jSt := jv_a s13 30 (va_cpy (s13.1 29) (s13.1 30) (iI 0).toNatClampNeg (iI 0).toNatClampNeg (iI 5).toNatClampNeg)
 post none s14)))))) ∧
 (¬ (s1.1 27 5) < x2 → post none s1)))))))) ∧
 (v2 = (σ.1 27 6) → (((σ.1 27 7) ≤ v3 → jq_I d 27 [.ref 27, .int (σ.1 3 9)] σ (fun x16 s15 =>
 ((¬ v2 = (s15.1 27 6) → (let s17 : jSt := jv_u s15 27 6 v2
 (let s18 : jSt := jv_u s17 27 7 v3
 (let s19 : jSt := jv_u s18 27 5 x16
 ((¬ (iI 0) < 0 ∧ ¬ (iI 0) < 0 ∧ ¬ (iI 5) < 0 ∧ (iI 0).toNatClampNeg + (iI 5).toNatClampNeg ≤ 5 ∧ (iI 0).toNatClampNeg + (iI 5).toNatClampNeg ≤ 5 ∧ (([] : List Value).map fun v => v.category).sum ≤ 8) ∧ (let s20 : jSt := jv_a s19 30 (va_cpy (s19.1 29) (s19.1 30) (iI 0).toNatClampNeg (iI 0).toNatClampNeg (iI 5).toNatClampNeg)
 post none s20)))))) ∧
 (v2 = (s15.1 27 6) → ((¬ v3 = (s15.1 27 7) → (let s21 : jSt := jv_u s15 27 6 v2
 (let s22 : jSt := jv_u s21 27 7 v3
 (let s23 : jSt := jv_u s22 27 5 x16
 ((¬ (iI 0) < 0 ∧ ¬ (iI 0) < 0 ∧ ¬ (iI 5) < 0 ∧ (iI 0).toNatClampNeg + (iI 5).toNatClampNeg ≤ 5 ∧ (iI 0).toNatClampNeg + (iI 5).toNatClampNeg ≤ 5 ∧ (([] : List Value).map fun v => v.category).sum ≤ 8) ∧ (let s24 : jSt := jv_a s23 30 (va_cpy (s23.1 29) (s23.1 30) (iI 0).toNatClampNeg (iI 0).toNatClampNeg (iI 5).toNatClampNeg)
 post none s24)))))) ∧
 (v3 = (s15.1 27 7) → (((s15.1 27 5) < x16 → (let s25 : jSt := jv_u s15 27 6 v2
 (let s26 : jSt := jv_u s25 27 7 v3
 (let s27 : jSt := jv_u s26 27 5 x16
 ((¬ (iI 0) < 0 ∧ ¬ (iI 0) < 0 ∧ ¬ (iI 5) < 0 ∧ (iI 0).toNatClampNeg + (iI 5).toNatClampNeg ≤ 5 ∧ (iI 0).toNatClampNeg + (iI 5).toNatClampNeg ≤ 5 ∧ (([] : List Value).map fun v => v.category).sum ≤ 8) ∧ (let s28 : jSt := jv_a s27 30 (va_cpy (s27.1 29) (s27.1 30) (iI 0).toNatClampNeg (iI 0).toNatClampNeg (iI 5).toNatClampNeg)
 post none s28)))))) ∧
 (¬ (s15.1 27 5) < x16 → post none s15)))))))) ∧
 (¬ (σ.1 27 7) ≤ v3 → post none σ)))))) from ⟨fun c229 => ((h).1 c229), fun c229 => ⟨fun c231 => jq_I_con (((((h).2 c229)).1 c231)) (fun x2 s1 h232 => ⟨fun c233 => ⟨⟨by decide +kernel, by decide +kernel, by decide +kernel, by decide +kernel, by decide +kernel, Nat.le_of_ble_eq_true rfl⟩, ((h232).1 c233)⟩, fun c233 => ⟨fun c239 => ⟨⟨by decide +kernel, by decide +kernel, by decide +kernel, by decide +kernel, by decide +kernel, Nat.le_of_ble_eq_true rfl⟩, ((((h232).2 c233)).1 c239)⟩, fun c239 => ⟨fun c245 => ⟨⟨by decide +kernel, by decide +kernel, by decide +kernel, by decide +kernel, by decide +kernel, Nat.le_of_ble_eq_true rfl⟩, ((((((h232).2 c233)).2 c239)).1 c245)⟩, fun c245 => ((((((h232).2 c233)).2 c239)).2 c245)⟩⟩⟩), fun c231 => ⟨fun c252 => jq_I_con (((((((h).2 c229)).2 c231)).1 c252)) (fun x16 s15 h253 => ⟨fun c254 => ⟨⟨by decide +kernel, by decide +kernel, by decide +kernel, by decide +kernel, by decide +kernel, Nat.le_of_ble_eq_true rfl⟩, ((h253).1 c254)⟩, fun c254 => ⟨fun c260 => ⟨⟨by decide +kernel, by decide +kernel, by decide +kernel, by decide +kernel, by decide +kernel, Nat.le_of_ble_eq_true rfl⟩, ((((h253).2 c254)).1 c260)⟩, fun c260 => ⟨fun c266 => ⟨⟨by decide +kernel, by decide +kernel, by decide +kernel, by decide +kernel, by decide +kernel, Nat.le_of_ble_eq_true rfl⟩, ((((((h253).2 c254)).2 c260)).1 c266)⟩, fun c266 => ((((((h253).2 c254)).2 c260)).2 c266)⟩⟩⟩), fun c252 => ((((((h).2 c229)).2 c231)).2 c252)⟩⟩⟩)
def vc_X4_howManyAsked (d : Nat) (post : jPo) (σ : jSt) (v1 : Int32) : Prop :=
 jv_wp (d + 1) post (27, 4, [some (.ref 27), some (.int v1), some (.int (iI 0)), some (.int (iI 0))], [], σ)
set_option maxRecDepth 100000 in
set_option maxHeartbeats 4000000 in
theorem ok_X4_howManyAsked {d : Nat} {post : jPo} {σ : jSt} {v1 : Int32} (h : vc_X4_howManyAsked d post σ v1) : jv_wp (d + 1) post (27, 0, [some (.ref 27), some (.int v1), none, none], [], σ) := jv_go_ok 5 [4] _ _ _ h
def vc_X4_howManyAsked_L4 (d : Nat) (post : jPo) (σ : jSt) (v1 : Int32) (v2 : Int32) (v3 : Int32) : Prop :=
 ((v1 ≤ v3 → post (some (.int v2)) σ) ∧
 (¬ v1 ≤ v3 → (vp_in v3 5 ∧ (((σ.1 31 v3.toNatClampNeg) < 0 → (let x1 : Int32 := (v3 + (iI 1))
 jv_wp (d + 1) post (27, 4, [some (.ref 27), some (.int v1), some (.int v2), some (.int x1)], [], σ))) ∧
 (¬ (σ.1 31 v3.toNatClampNeg) < 0 → (let x2 : Int32 := (v2 + (iI 1))
 (let x3 : Int32 := (v3 + (iI 1))
 jv_wp (d + 1) post (27, 4, [some (.ref 27), some (.int v1), some (.int x2), some (.int x3)], [], σ))))))))
set_option maxRecDepth 100000 in
set_option maxHeartbeats 4000000 in
theorem ok_X4_howManyAsked_L4 {d : Nat} {post : jPo} {σ : jSt} {v1 : Int32} {v2 : Int32} {v3 : Int32} (h : vc_X4_howManyAsked_L4 d post σ v1 v2 v3) : jv_wp (d + 1) post (27, 4, [some (.ref 27), some (.int v1), some (.int v2), some (.int v3)], [], σ) := jv_go_ok 12 [4] _ _ _ h
def vc_X5_add (d : Nat) (post : jPo) (σ : jSt) (v1 : Int32) (v2 : Int32) (v3 : Int32) : Prop :=
 (((σ.1 11 3) < (iI 6) → (vp_in (σ.1 11 3) 6 ∧ (let s1 : jSt := jv_u σ 12 (σ.1 11 3).toNatClampNeg v1
 (vp_in (s1.1 11 3) 6 ∧ (let s2 : jSt := jv_u s1 13 (s1.1 11 3).toNatClampNeg v2
 (vp_in (s2.1 11 3) 6 ∧ ((v3 = 0 ∨ v3 = 1) ∧ (let s3 : jSt := jv_u s2 14 (s2.1 11 3).toNatClampNeg v3
 (let s4 : jSt := jv_u s3 11 3 ((s3.1 11 3) + (iI 1))
 post (some (.int (iI 1))) s4))))))))) ∧
 (¬ (σ.1 11 3) < (iI 6) → post (some (.int (iI 0))) σ))
set_option maxRecDepth 100000 in
set_option maxHeartbeats 4000000 in
theorem ok_X5_add {d : Nat} {post : jPo} {σ : jSt} {v1 : Int32} {v2 : Int32} {v3 : Int32} (h : vc_X5_add d post σ v1 v2 v3) : jv_wp (d + 1) post (28, 0, [some (.ref 11), some (.int v1), some (.int v2), some (.int v3)], [], σ) := jv_go_ok 30 [] _ _ _ (show (((σ.1 11 3) < (iI 6) → (vp_in (σ.1 11 3) 6 ∧ (let s1 : jSt := jv_u σ 12 (σ.1 11 3).toNatClampNeg v1
 (vp_in (s1.1 11 3) 6 ∧ (let s2 : jSt := jv_u s1 13 (s1.1 11 3).toNatClampNeg v2
 (vp_in (s2.1 11 3) 6 ∧ ((v3 = 0 ∨ v3 = 1) ∧ (let s3 : jSt := jv_u s2 14 (s2.1 11 3).toNatClampNeg v3
 (let s4 : jSt := jv_u s3 11 3 ((s3.1 11 3) + (iI 1))
 (((iI 1) = 0 ∨ (iI 1) = 1) ∧ post (some (.int (iI 1))) s4)))))))))) ∧
 (¬ (σ.1 11 3) < (iI 6) → (((iI 0) = 0 ∨ (iI 0) = 1) ∧ post (some (.int (iI 0))) σ))) from ⟨fun c274 => ⟨(((h).1 c274)).1, ⟨((((h).1 c274)).2).1, ⟨(((((h).1 c274)).2).2).1, ⟨((((((h).1 c274)).2).2).2).1, ⟨by decide +kernel, ((((((h).1 c274)).2).2).2).2⟩⟩⟩⟩⟩, fun c274 => ⟨by decide +kernel, ((h).2 c274)⟩⟩)
def vc_X5_sortsLeft (d : Nat) (post : jPo) (σ : jSt) (v1 : Int32) (v2 : Int32) (v3 : Int32) : Prop :=
 jv_wp (d + 1) post (29, 8, [some (.ref 11), some (.int v1), some (.int v2), some (.int v3), some (.int (iI 1023)), some (.int (iI 0)), none], [], σ)
set_option maxRecDepth 100000 in
set_option maxHeartbeats 4000000 in
theorem ok_X5_sortsLeft {d : Nat} {post : jPo} {σ : jSt} {v1 : Int32} {v2 : Int32} {v3 : Int32} (h : vc_X5_sortsLeft d post σ v1 v2 v3) : jv_wp (d + 1) post (29, 0, [some (.ref 11), some (.int v1), some (.int v2), some (.int v3), none, none, none], [], σ) := jv_go_ok 5 [8] _ _ _ h
def vc_X5_sortsLeft_L8 (d : Nat) (post : jPo) (σ : jSt) (v1 : Int32) (v2 : Int32) (v3 : Int32) (v4 : Int32) (v5 : Int32) (z6 : Option Value) : Prop :=
 (((σ.1 11 3) ≤ v5 → post (some (.int v4)) σ) ∧
 (¬ (σ.1 11 3) ≤ v5 → (vp_in v5 6 ∧ ((¬ (σ.1 12 v5.toNatClampNeg) = v1 → (let x1 : Int32 := (v5 + (iI 1))
 jv_wp (d + 1) post (29, 8, [some (.ref 11), some (.int v1), some (.int v2), some (.int v3), some (.int v4), some (.int x1), z6], [], σ))) ∧
 ((σ.1 12 v5.toNatClampNeg) = v1 → (vp_in v5 6 ∧ jq_I d 4 [.int (v3 + (σ.1 13 v5.toNatClampNeg))] σ (fun x3 s2 =>
 jq_I d 32 [.int x3, .int v2] s2 (fun x5 s4 =>
 (vp_in v5 6 ∧ (((s4.1 14 v5.toNatClampNeg) = 0 → (let x6 : Int32 := (v4 &&& (x5 ^^^ (iI (-1))))
 (let x7 : Int32 := (v5 + (iI 1))
 jv_wp (d + 1) post (29, 8, [some (.ref 11), some (.int v1), some (.int v2), some (.int v3), some (.int x6), some (.int x7), some (.int x5)], [], s4)))) ∧
 (¬ (s4.1 14 v5.toNatClampNeg) = 0 → (let x8 : Int32 := (v4 &&& x5)
 (let x9 : Int32 := (v5 + (iI 1))
 jv_wp (d + 1) post (29, 8, [some (.ref 11), some (.int v1), some (.int v2), some (.int v3), some (.int x8), some (.int x9), some (.int x5)], [], s4))))))))))))))
set_option maxRecDepth 100000 in
set_option maxHeartbeats 4000000 in
theorem ok_X5_sortsLeft_L8 {d : Nat} {post : jPo} {σ : jSt} {v1 : Int32} {v2 : Int32} {v3 : Int32} {v4 : Int32} {v5 : Int32} {z6 : Option Value} (h : vc_X5_sortsLeft_L8 d post σ v1 v2 v3 v4 v5 z6) : jv_wp (d + 1) post (29, 8, [some (.ref 11), some (.int v1), some (.int v2), some (.int v3), some (.int v4), some (.int v5), z6], [], σ) := jv_go_ok 34 [8] _ _ _ h
def vc_X7_begin (d : Nat) (post : jPo) (σ : jSt) (v1 : Int32) (v2 : Int32) : Prop :=
 (let s1 : jSt := jv_u σ 3 8 (if (iI 6) < v1 then (iI 6) else v1)
 (let s2 : jSt := jv_u s1 3 9 (if (iI 5) < v2 then (iI 5) else v2)
 (let s3 : jSt := jv_u s2 3 10 (iI 0)
 (let s4 : jSt := jv_u s3 3 11 (iI 0)
 (let s5 : jSt := jv_u s4 3 12 (iI 0)
 (let s6 : jSt := jv_u s5 11 3 (iI 0)
 post none s6))))))
set_option maxRecDepth 100000 in
set_option maxHeartbeats 4000000 in
theorem ok_X7_begin {d : Nat} {post : jPo} {σ : jSt} {v1 : Int32} {v2 : Int32} (h : vc_X7_begin d post σ v1 v2) : jv_wp (d + 1) post (36, 0, [some (.ref 3), some (.int v1), some (.int v2)], [], σ) := jv_go_ok 24 [] _ _ _ (show ((([.ref 3] : List Value).map fun v => v.category).sum ≤ 8 ∧ (let s1 : jSt := jv_u σ 3 8 (if (iI 6) < v1 then (iI 6) else v1)
 ((([.ref 3] : List Value).map fun v => v.category).sum ≤ 8 ∧ (let s2 : jSt := jv_u s1 3 9 (if (iI 5) < v2 then (iI 5) else v2)
 (let s3 : jSt := jv_u s2 3 10 (iI 0)
 (let s4 : jSt := jv_u s3 3 11 (iI 0)
 (let s5 : jSt := jv_u s4 3 12 (iI 0)
 (let s6 : jSt := jv_u s5 11 3 (iI 0)
 post none s6)))))))) from ⟨Nat.le_of_ble_eq_true rfl, ⟨Nat.le_of_ble_eq_true rfl, h⟩⟩)
def vc_X7_place (d : Nat) (post : jPo) (σ : jSt) (v1 : Int32) (v2 : Int32) (v3 : Int32) (v4 : Int32) : Prop :=
 (vp_in v1 6 ∧ (let s1 : jSt := jv_u σ 4 v1.toNatClampNeg v2
 ((v3 = 0 → (vp_in v1 6 ∧ (let s2 : jSt := jv_u s1 5 v1.toNatClampNeg (iI 0)
 (vp_in v1 6 ∧ (let s3 : jSt := jv_u s2 6 v1.toNatClampNeg v4
 (vp_in v1 6 ∧ (let s4 : jSt := jv_u s3 3 10 ((s3.1 3 10) ||| ((s3.1 5 v1.toNatClampNeg) <<< (v1 &&& 31)))
 post none s4))))))) ∧
 (¬ v3 = 0 → (vp_in v1 6 ∧ (let s5 : jSt := jv_u s1 5 v1.toNatClampNeg (iI 1)
 (vp_in v1 6 ∧ (let s6 : jSt := jv_u s5 6 v1.toNatClampNeg v4
 (vp_in v1 6 ∧ (let s7 : jSt := jv_u s6 3 10 ((s6.1 3 10) ||| ((s6.1 5 v1.toNatClampNeg) <<< (v1 &&& 31)))
 post none s7))))))))))
set_option maxRecDepth 100000 in
set_option maxHeartbeats 4000000 in
theorem ok_X7_place {d : Nat} {post : jPo} {σ : jSt} {v1 : Int32} {v2 : Int32} {v3 : Int32} {v4 : Int32} (h : vc_X7_place d post σ v1 v2 v3 v4) : jv_wp (d + 1) post (37, 0, [some (.ref 3), some (.int v1), some (.int v2), some (.int v3), some (.int v4)], [], σ) := jv_go_ok 30 [] _ _ _ h
def vc_X7_possibleSorts (d : Nat) (post : jPo) (σ : jSt) (v1 : Int32) : Prop :=
 jq_I d 38 [.ref 3, .int v1] σ (fun x2 s1 =>
 jq_I d 29 [.ref 11, .int v1, .int x2, .int (s1.1 3 11)] s1 (fun x4 s3 =>
 post (some (.int x4)) s3))
set_option maxRecDepth 100000 in
set_option maxHeartbeats 4000000 in
theorem ok_X7_possibleSorts {d : Nat} {post : jPo} {σ : jSt} {v1 : Int32} (h : vc_X7_possibleSorts d post σ v1) : jv_wp (d + 1) post (44, 0, [some (.ref 3), some (.int v1)], [], σ) := jv_go_ok 10 [] _ _ _ h
def vc_X7_dayToListen (d : Nat) (post : jPo) (σ : jSt) (v1 : Int32) : Prop :=
 jq_I d 44 [.ref 3, .int v1] σ (fun x2 s1 =>
 ((¬ x2 = 0 → jq_I d 38 [.ref 3, .int v1] s1 (fun x4 s3 =>
 jv_wp (d + 1) post (45, 29, [some (.ref 3), some (.int v1), some (.int x2), some (.int x4), some (.int (iI 1023)), some (.int (iI 0)), some (.int (iI 0)), none, none], [], s3))) ∧
 (x2 = 0 → post (some (.int (iI (-1)))) s1)))
set_option maxRecDepth 100000 in
set_option maxHeartbeats 4000000 in
theorem ok_X7_dayToListen {d : Nat} {post : jPo} {σ : jSt} {v1 : Int32} (h : vc_X7_dayToListen d post σ v1) : jv_wp (d + 1) post (45, 0, [some (.ref 3), some (.int v1), none, none, none, none, none, none, none], [], σ) := jv_go_ok 17 [29] _ _ _ h
def vc_X7_dayToListen_L29 (d : Nat) (post : jPo) (σ : jSt) (v1 : Int32) (v2 : Int32) (v3 : Int32) (v4 : Int32) (v5 : Int32) (v6 : Int32) (z7 : Option Value) (z8 : Option Value) : Prop :=
 (((iI 31) < v6 → post (some (.int v5)) σ) ∧
 (¬ (iI 31) < v6 → jq_I d 4 [.int ((σ.1 3 11) + v6)] σ (fun x2 s1 =>
 jq_I d 32 [.int x2, .int v3] s1 (fun x4 s3 =>
 jq_I d 143 [.int (v2 &&& x4)] s3 (fun x6 s5 =>
 jq_I d 143 [.int (v2 &&& (x4 ^^^ (iI (-1))))] s5 (fun x8 s7 =>
 (let x9 : Int32 := (if x6 < x8 then x8 else x6)
 ((v4 ≤ x9 → (let x10 : Int32 := (v6 + (iI 1))
 jv_wp (d + 1) post (45, 29, [some (.ref 3), some (.int v1), some (.int v2), some (.int v3), some (.int v4), some (.int v5), some (.int x10), some (.int x4), some (.int x9)], [], s7))) ∧
 (¬ v4 ≤ x9 → (let x11 : Int32 := (v6 + (iI 1))
 jv_wp (d + 1) post (45, 29, [some (.ref 3), some (.int v1), some (.int v2), some (.int v3), some (.int x9), some (.int v6), some (.int x11), some (.int x4), some (.int x9)], [], s7)))))))))))
set_option maxRecDepth 100000 in
set_option maxHeartbeats 4000000 in
theorem ok_X7_dayToListen_L29 {d : Nat} {post : jPo} {σ : jSt} {v1 : Int32} {v2 : Int32} {v3 : Int32} {v4 : Int32} {v5 : Int32} {v6 : Int32} {z7 : Option Value} {z8 : Option Value} (h : vc_X7_dayToListen_L29 d post σ v1 v2 v3 v4 v5 v6 z7 z8) : jv_wp (d + 1) post (45, 29, [some (.ref 3), some (.int v1), some (.int v2), some (.int v3), some (.int v4), some (.int v5), some (.int v6), z7, z8], [], σ) := jv_go_ok 33 [29] _ _ _ (show (((iI 31) < v6 → post (some (.int v5)) σ) ∧
 (¬ (iI 31) < v6 → jq_I d 4 [.int ((σ.1 3 11) + v6)] σ (fun x2 s1 =>
 jq_I d 32 [.int x2, .int v3] s1 (fun x4 s3 =>
 jq_I d 143 [.int (v2 &&& x4)] s3 (fun x6 s5 =>
 jq_I d 143 [.int (v2 &&& (x4 ^^^ (iI (-1))))] s5 (fun x8 s7 =>
 ((([] : List Value).map fun v => v.category).sum ≤ 8 ∧ (let x9 : Int32 := (if x6 < x8 then x8 else x6)
 ((v4 ≤ x9 → (let x10 : Int32 := (v6 + (iI 1))
 jv_wp (d + 1) post (45, 29, [some (.ref 3), some (.int v1), some (.int v2), some (.int v3), some (.int v4), some (.int v5), some (.int x10), some (.int x4), some (.int x9)], [], s7))) ∧
 (¬ v4 ≤ x9 → (let x11 : Int32 := (v6 + (iI 1))
 jv_wp (d + 1) post (45, 29, [some (.ref 3), some (.int v1), some (.int v2), some (.int v3), some (.int x9), some (.int v6), some (.int x11), some (.int x4), some (.int x9)], [], s7)))))))))))) from ⟨fun c291 => ((h).1 c291), fun c291 => jq_I_con (((h).2 c291)) (fun x2 s1 h293 => jq_I_con (h293) (fun x4 s3 h294 => jq_I_con (h294) (fun x6 s5 h295 => jq_I_con (h295) (fun x8 s7 h296 => ⟨Nat.le_of_ble_eq_true rfl, h296⟩))))⟩)
def vc_X7_reopenAskedBy (d : Nat) (post : jPo) (σ : jSt) (v1 : Int32) : Prop :=
 jv_wp (d + 1) post (52, 4, [some (.ref 3), some (.int v1), some (.int (iI 0)), some (.int (iI 0))], [], σ)
set_option maxRecDepth 100000 in
set_option maxHeartbeats 4000000 in
theorem ok_X7_reopenAskedBy {d : Nat} {post : jPo} {σ : jSt} {v1 : Int32} (h : vc_X7_reopenAskedBy d post σ v1) : jv_wp (d + 1) post (52, 0, [some (.ref 3), some (.int v1), none, none], [], σ) := jv_go_ok 5 [4] _ _ _ h
def vc_X7_reopenAskedBy_L4 (d : Nat) (post : jPo) (σ : jSt) (v1 : Int32) (v2 : Int32) (v3 : Int32) : Prop :=
 (((σ.1 3 9) ≤ v3 → post (some (.int v2)) σ) ∧
 (¬ (σ.1 3 9) ≤ v3 → (vp_in v3 5 ∧ ((¬ (σ.1 7 v3.toNatClampNeg) = v1 → (let x1 : Int32 := (v3 + (iI 1))
 jv_wp (d + 1) post (52, 4, [some (.ref 3), some (.int v1), some (.int v2), some (.int x1)], [], σ))) ∧
 ((σ.1 7 v3.toNatClampNeg) = v1 → jq_I d 46 [.ref 3, .int v3] σ (fun x3 s2 =>
 ((¬ x3 = (iI 1) → (let x4 : Int32 := (v3 + (iI 1))
 jv_wp (d + 1) post (52, 4, [some (.ref 3), some (.int v1), some (.int v2), some (.int x4)], [], s2))) ∧
 (x3 = (iI 1) → (vp_in v3 5 ∧ (let s5 : jSt := jv_u s2 10 v3.toNatClampNeg (iI (-1))
 (let x6 : Int32 := (v2 + (iI 1))
 (let x7 : Int32 := (v3 + (iI 1))
 jv_wp (d + 1) post (52, 4, [some (.ref 3), some (.int v1), some (.int x6), some (.int x7)], [], s5)))))))))))))
set_option maxRecDepth 100000 in
set_option maxHeartbeats 4000000 in
theorem ok_X7_reopenAskedBy_L4 {d : Nat} {post : jPo} {σ : jSt} {v1 : Int32} {v2 : Int32} {v3 : Int32} (h : vc_X7_reopenAskedBy_L4 d post σ v1 v2 v3) : jv_wp (d + 1) post (52, 4, [some (.ref 3), some (.int v1), some (.int v2), some (.int v3)], [], σ) := jv_go_ok 24 [4] _ _ _ h
def vc_X8_letter (d : Nat) (post : jPo) (σ : jSt) (v1 : Int32) : Prop :=
 ((v1 < (iI 1) → post (some (.int (iI (-102)))) σ) ∧
 (¬ v1 < (iI 1) → ((v1 ≤ (iI 126) → jq_I d 15 [.ref 1, .int v1] σ (fun x2 s1 =>
 ((x2 = 0 → post (some (.int (iI (-104)))) s1) ∧
 (¬ x2 = 0 → post (some (.int (s1.1 1 1))) s1)))) ∧
 (¬ v1 ≤ (iI 126) → post (some (.int (iI (-102)))) σ))))
set_option maxRecDepth 100000 in
set_option maxHeartbeats 4000000 in
theorem ok_X8_letter {d : Nat} {post : jPo} {σ : jSt} {v1 : Int32} (h : vc_X8_letter d post σ v1) : jv_wp (d + 1) post (54, 0, [some (.ref 0), some (.int v1)], [], σ) := jv_go_ok 16 [] _ _ _ h
def vc_X8_blank (d : Nat) (post : jPo) (σ : jSt)  : Prop :=
 (let x1 : Int32 := (σ.1 1 1)
 (let s2 : jSt := jv_u σ 1 1 (iI 0)
 post (some (.int x1)) s2))
set_option maxRecDepth 100000 in
set_option maxHeartbeats 4000000 in
theorem ok_X8_blank {d : Nat} {post : jPo} {σ : jSt} (h : vc_X8_blank d post σ ) : jv_wp (d + 1) post (55, 0, [some (.ref 0), none], [], σ) := jv_go_ok 10 [] _ _ _ h
def vc_X8_fault (d : Nat) (post : jPo) (σ : jSt)  : Prop :=
 jq_I d 16 [.ref 1] σ (fun x2 s1 =>
 post (some (.int x2)) s1)
set_option maxRecDepth 100000 in
set_option maxHeartbeats 4000000 in
theorem ok_X8_fault {d : Nat} {post : jPo} {σ : jSt} (h : vc_X8_fault d post σ ) : jv_wp (d + 1) post (56, 0, [some (.ref 0)], [], σ) := jv_go_ok 4 [] _ _ _ h
def vc_X8_river (d : Nat) (post : jPo) (σ : jSt)  : Prop :=
 jq_I d 19 [.ref 1] σ (fun x2 s1 =>
 ((¬ x2 = 0 → jq_V d 21 [.ref 1, .ref 3] s1 (fun s3 =>
 (let s4 : jSt := jv_u s3 1 1 (iI 0)
 (let s5 : jSt := jv_u s4 15 8 (iI 0)
 (let s6 : jSt := jv_u s5 0 5 ((s5.1 0 5) + (iI 1))
 post (some (.int (s6.1 3 8))) s6))))) ∧
 (x2 = 0 → post (some (.int (iI (-103)))) s1)))
set_option maxRecDepth 100000 in
set_option maxHeartbeats 4000000 in
theorem ok_X8_river {d : Nat} {post : jPo} {σ : jSt} (h : vc_X8_river d post σ ) : jv_wp (d + 1) post (57, 0, [some (.ref 0)], [], σ) := jv_go_ok 27 [] _ _ _ h
def vc_X8_person (d : Nat) (post : jPo) (σ : jSt) (v1 : Int32) (v2 : Int32) : Prop :=
 jq_I d 34 [.ref 3, .int v1] σ (fun x2 s1 =>
 ((¬ x2 = 0 → ((v2 = (iI 0) → (vp_in v1 6 ∧ post (some (.int (s1.1 4 v1.toNatClampNeg))) s1)) ∧
 (¬ v2 = (iI 0) → ((v2 = (iI 1) → (vp_in v1 6 ∧ post (some (.int (s1.1 5 v1.toNatClampNeg))) s1)) ∧
 (¬ v2 = (iI 1) → ((v2 = (iI 2) → jq_I d 38 [.ref 3, .int v1] s1 (fun x4 s3 =>
 post (some (.int x4)) s3)) ∧
 (¬ v2 = (iI 2) → ((v2 = (iI 3) → (vp_in v1 6 ∧ post (some (.int (s1.1 6 v1.toNatClampNeg))) s1)) ∧
 (¬ v2 = (iI 3) → ((v2 = (iI 4) → jq_I d 39 [.ref 3, .int v1, .int (s1.1 3 11)] s1 (fun x6 s5 =>
 ((x6 = 0 → post (some (.int (iI 0))) s5) ∧
 (¬ x6 = 0 → post (some (.int (iI 1))) s5)))) ∧
 (¬ v2 = (iI 4) → ((v2 = (iI 5) → jq_I d 43 [.ref 3, .int v1] s1 (fun x8 s7 =>
 post (some (.int x8)) s7)) ∧
 (¬ v2 = (iI 5) → ((v2 = (iI 6) → jq_I d 44 [.ref 3, .int v1] s1 (fun x10 s9 =>
 post (some (.int x10)) s9)) ∧
 (¬ v2 = (iI 6) → ((v2 = (iI 7) → jq_I d 45 [.ref 3, .int v1] s1 (fun x12 s11 =>
 post (some (.int x12)) s11)) ∧
 (¬ v2 = (iI 7) → post (some (.int (iI (-102)))) s1))))))))))))))))) ∧
 (x2 = 0 → post (some (.int (iI (-101)))) s1)))
set_option maxRecDepth 100000 in
set_option maxHeartbeats 4000000 in
theorem ok_X8_person {d : Nat} {post : jPo} {σ : jSt} {v1 : Int32} {v2 : Int32} (h : vc_X8_person d post σ v1 v2) : jv_wp (d + 1) post (58, 0, [some (.ref 0), some (.int v1), some (.int v2)], [], σ) := jv_go_ok 18 [] _ _ _ h
def vc_X8_as (d : Nat) (post : jPo) (σ : jSt) (v1 : Int32) (v2 : Int32) : Prop :=
 jq_I d 34 [.ref 3, .int v1] σ (fun x2 s1 =>
 ((¬ x2 = 0 → ((v2 < 0 → post (some (.int (iI (-102)))) s1) ∧
 (¬ v2 < 0 → ((v2 < (iI 5) → (vp_in v1 6 ∧ jq_I d 31 [.int (s1.1 4 v1.toNatClampNeg), .int v2] s1 (fun x4 s3 =>
 ((x4 = 0 → post (some (.int (iI (-1)))) s3) ∧
 (¬ x4 = 0 → post (some (.int v1)) s3))))) ∧
 (¬ v2 < (iI 5) → post (some (.int (iI (-102)))) s1))))) ∧
 (x2 = 0 → post (some (.int (iI (-101)))) s1)))
set_option maxRecDepth 100000 in
set_option maxHeartbeats 4000000 in
theorem ok_X8_as {d : Nat} {post : jPo} {σ : jSt} {v1 : Int32} {v2 : Int32} (h : vc_X8_as d post σ v1 v2) : jv_wp (d + 1) post (59, 0, [some (.ref 0), some (.int v1), some (.int v2)], [], σ) := jv_go_ok 21 [] _ _ _ h
def vc_X8_matter (d : Nat) (post : jPo) (σ : jSt) (v1 : Int32) (v2 : Int32) : Prop :=
 jq_I d 35 [.ref 3, .int v1] σ (fun x2 s1 =>
 ((¬ x2 = 0 → ((v2 = (iI 0) → (vp_in v1 5 ∧ post (some (.int (s1.1 7 v1.toNatClampNeg))) s1)) ∧
 (¬ v2 = (iI 0) → ((v2 = (iI 1) → (vp_in v1 5 ∧ post (some (.int (s1.1 8 v1.toNatClampNeg))) s1)) ∧
 (¬ v2 = (iI 1) → ((v2 = (iI 2) → (vp_in v1 5 ∧ post (some (.int (s1.1 9 v1.toNatClampNeg))) s1)) ∧
 (¬ v2 = (iI 2) → ((v2 = (iI 3) → jq_I d 46 [.ref 3, .int v1] s1 (fun x4 s3 =>
 post (some (.int x4)) s3)) ∧
 (¬ v2 = (iI 3) → ((v2 = (iI 4) → jq_I d 48 [.ref 3, .int v1] s1 (fun x6 s5 =>
 post (some (.int x6)) s5)) ∧
 (¬ v2 = (iI 4) → ((v2 = (iI 5) → jq_I d 49 [.ref 3, .int v1] s1 (fun x8 s7 =>
 post (some (.int x8)) s7)) ∧
 (¬ v2 = (iI 5) → ((v2 = (iI 6) → jq_I d 9 [.ref 3, .int v1] s1 (fun x10 s9 =>
 post (some (.int x10)) s9)) ∧
 (¬ v2 = (iI 6) → post (some (.int (iI (-102)))) s1))))))))))))))) ∧
 (x2 = 0 → post (some (.int (iI (-101)))) s1)))
set_option maxRecDepth 100000 in
set_option maxHeartbeats 4000000 in
theorem ok_X8_matter {d : Nat} {post : jPo} {σ : jSt} {v1 : Int32} {v2 : Int32} (h : vc_X8_matter d post σ v1 v2) : jv_wp (d + 1) post (60, 0, [some (.ref 0), some (.int v1), some (.int v2)], [], σ) := jv_go_ok 13 [] _ _ _ h
def vc_X8_date (d : Nat) (post : jPo) (σ : jSt) (v1 : Int32) (v2 : Int32) : Prop :=
 ((v1 < 0 → post (some (.int (iI (-102)))) σ) ∧
 (¬ v1 < 0 → (((iI 366) < v1 → post (some (.int (iI (-102)))) σ) ∧
 (¬ (iI 366) < v1 → ((v2 < 0 → post (some (.int (iI (-102)))) σ) ∧
 (¬ v2 < 0 → ((v2 ≤ (iI 3) → jq_I d 33 [.ref 3] σ (fun x2 s1 =>
 ((¬ x2 = 0 → (let x3 : Int32 := ((s1.1 3 11) + v1)
 ((v2 = (iI 0) → jq_I d 3 [.int x3] s1 (fun x5 s4 =>
 post (some (.int x5)) s4)) ∧
 (¬ v2 = (iI 0) → ((v2 = (iI 1) → jq_I d 2 [.int x3] s1 (fun x7 s6 =>
 post (some (.int x7)) s6)) ∧
 (¬ v2 = (iI 1) → ((v2 = (iI 2) → jq_I d 1 [.int x3] s1 (fun x9 s8 =>
 post (some (.int x9)) s8)) ∧
 (¬ v2 = (iI 2) → jq_I d 41 [.ref 3, .int x3] s1 (fun x11 s10 =>
 post (some (.int x11)) s10))))))))) ∧
 (x2 = 0 → post (some (.int (iI (-103)))) s1)))) ∧
 (¬ v2 ≤ (iI 3) → post (some (.int (iI (-102)))) σ))))))))
set_option maxRecDepth 100000 in
set_option maxHeartbeats 4000000 in
theorem ok_X8_date {d : Nat} {post : jPo} {σ : jSt} {v1 : Int32} {v2 : Int32} (h : vc_X8_date d post σ v1 v2) : jv_wp (d + 1) post (61, 0, [some (.ref 0), some (.int v1), some (.int v2), none], [], σ) := jv_go_ok 27 [] _ _ _ h
def vc_X8_say (d : Nat) (post : jPo) (σ : jSt) (v1 : Int32) : Prop :=
 jq_I d 35 [.ref 3, .int v1] σ (fun x2 s1 =>
 ((¬ x2 = 0 → (vp_in v1 5 ∧ (let x3 : Int32 := (s1.1 10 v1.toNatClampNeg)
 jq_I d 41 [.ref 3, .int (s1.1 3 11)] s1 (fun x5 s4 =>
 jq_I d 50 [.ref 3, .int v1, .int x3, .int (s1.1 3 11), .int x5] s4 (fun x7 s6 =>
 ((¬ x7 = 0 → ((¬ x3 = (iI (-1)) → jq_I d 51 [.ref 3, .int v1, .int x3, .int (s6.1 3 11)] s6 (fun x9 s8 =>
 (vp_in v1 5 ∧ (let s10 : jSt := jv_u s8 10 v1.toNatClampNeg (iI (-2))
 (let s11 : jSt := jv_u s10 3 12 ((s10.1 3 12) + x9)
 post (some (.int x9)) s11))))) ∧
 (x3 = (iI (-1)) → (vp_in v1 5 ∧ (let s12 : jSt := jv_u s6 10 v1.toNatClampNeg (s6.1 3 11)
 post (some (.int (iI (-1)))) s12))))) ∧
 (x7 = 0 → post (some (.int (iI (-103)))) s6))))))) ∧
 (x2 = 0 → post (some (.int (iI (-101)))) s1)))
set_option maxRecDepth 100000 in
set_option maxHeartbeats 4000000 in
theorem ok_X8_say {d : Nat} {post : jPo} {σ : jSt} {v1 : Int32} (h : vc_X8_say d post σ v1) : jv_wp (d + 1) post (62, 0, [some (.ref 0), some (.int v1), none, none], [], σ) := jv_go_ok 53 [] _ _ _ h
def vc_X8_day (d : Nat) (post : jPo) (σ : jSt)  : Prop :=
 jq_I d 33 [.ref 3] σ (fun x2 s1 =>
 ((¬ x2 = 0 → (((s1.1 3 11) < (iI 1460) → (let s3 : jSt := jv_u s1 3 11 ((s1.1 3 11) + (iI 1))
 post (some (.int (s3.1 3 11))) s3)) ∧
 (¬ (s1.1 3 11) < (iI 1460) → post (some (.int (iI (-104)))) s1))) ∧
 (x2 = 0 → post (some (.int (iI (-103)))) s1)))
set_option maxRecDepth 100000 in
set_option maxHeartbeats 4000000 in
theorem ok_X8_day {d : Nat} {post : jPo} {σ : jSt} (h : vc_X8_day d post σ ) : jv_wp (d + 1) post (63, 0, [some (.ref 0)], [], σ) := jv_go_ok 20 [] _ _ _ h
def vc_X8_cross (d : Nat) (post : jPo) (σ : jSt) (v1 : Int32) : Prop :=
 jq_I d 34 [.ref 3, .int v1] σ (fun x2 s1 =>
 ((¬ x2 = 0 → (let s3 : jSt := jv_u s1 3 10 ((s1.1 3 10) ^^^ ((iI 1) <<< (v1 &&& 31)))
 jq_I d 52 [.ref 3, .int v1] s3 (fun x5 s4 =>
 post (some (.int x5)) s4))) ∧
 (x2 = 0 → post (some (.int (iI (-101)))) s1)))
set_option maxRecDepth 100000 in
set_option maxHeartbeats 4000000 in
theorem ok_X8_cross {d : Nat} {post : jPo} {σ : jSt} {v1 : Int32} (h : vc_X8_cross d post σ v1) : jv_wp (d + 1) post (64, 0, [some (.ref 0), some (.int v1)], [], σ) := jv_go_ok 19 [] _ _ _ h
def vc_X8_open (d : Nat) (post : jPo) (σ : jSt) (v1 : Int32) (v2 : Int32) : Prop :=
 jq_I d 35 [.ref 3, .int v1] σ (fun x2 s1 =>
 ((¬ x2 = 0 → ((v2 < (iI 1) → post (some (.int (iI (-102)))) s1) ∧
 (¬ v2 < (iI 1) → ((v2 ≤ (iI 9) → jq_I d 46 [.ref 3, .int v1] s1 (fun x4 s3 =>
 (vp_in v1 5 ∧ (let s5 : jSt := jv_u s3 10 v1.toNatClampNeg (iI (-1))
 (vp_in v1 5 ∧ (let s6 : jSt := jv_u s5 9 v1.toNatClampNeg v2
 post (some (.int x4)) s6)))))) ∧
 (¬ v2 ≤ (iI 9) → post (some (.int (iI (-102)))) s1))))) ∧
 (x2 = 0 → post (some (.int (iI (-101)))) s1)))
set_option maxRecDepth 100000 in
set_option maxHeartbeats 4000000 in
theorem ok_X8_open {d : Nat} {post : jPo} {σ : jSt} {v1 : Int32} {v2 : Int32} (h : vc_X8_open d post σ v1 v2) : jv_wp (d + 1) post (65, 0, [some (.ref 0), some (.int v1), some (.int v2), none], [], σ) := jv_go_ok 30 [] _ _ _ h
def vc_X8_change (d : Nat) (post : jPo) (σ : jSt) (v1 : Int32) (v2 : Int32) (v3 : Int32) : Prop :=
 jq_I d 34 [.ref 3, .int v1] σ (fun x2 s1 =>
 ((¬ x2 = 0 → ((v2 < 0 → post (some (.int (iI (-102)))) s1) ∧
 (¬ v2 < 0 → (((iI 5) ≤ v2 → post (some (.int (iI (-102)))) s1) ∧
 (¬ (iI 5) ≤ v2 → ((v3 < 0 → post (some (.int (iI (-102)))) s1) ∧
 (¬ v3 < 0 → ((v3 ≤ (iI 9) → (vp_in v1 6 ∧ (let x3 : Int32 := (s1.1 4 v1.toNatClampNeg)
 (vp_in v1 6 ∧ (let s4 : jSt := jv_u s1 4 v1.toNatClampNeg v2
 (vp_in v1 6 ∧ (let s5 : jSt := jv_u s4 6 v1.toNatClampNeg v3
 post (some (.int x3)) s5))))))) ∧
 (¬ v3 ≤ (iI 9) → post (some (.int (iI (-102)))) s1))))))))) ∧
 (x2 = 0 → post (some (.int (iI (-101)))) s1)))
set_option maxRecDepth 100000 in
set_option maxHeartbeats 4000000 in
theorem ok_X8_change {d : Nat} {post : jPo} {σ : jSt} {v1 : Int32} {v2 : Int32} {v3 : Int32} (h : vc_X8_change d post σ v1 v2 v3) : jv_wp (d + 1) post (66, 0, [some (.ref 0), some (.int v1), some (.int v2), some (.int v3), none], [], σ) := jv_go_ok 35 [] _ _ _ h
def vc_X8_best (d : Nat) (post : jPo) (σ : jSt) (v1 : Int32) (v2 : Int32) : Prop :=
 ((v2 = 0 → ((v1 < (iI 1) → post (some (.int (iI (-102)))) σ) ∧
 (¬ v1 < (iI 1) → (((iI 5) < v1 → post (some (.int (iI (-102)))) σ) ∧
 (¬ (iI 5) < v1 → jq_I d 33 [.ref 3] σ (fun x2 s1 =>
 ((x2 = 0 → post (some (.int (iI (-103)))) s1) ∧
 (¬ x2 = 0 → (((s1.1 0 6) < (iI 20) → (let s3 : jSt := jv_u s1 0 6 ((s1.1 0 6) + (iI 1))
 jq_V d 23 [.ref 27, .ref 3, .int v1] s3 (fun s4 =>
 ((v2 = (iI 0) → post (some (.int (s4.1 27 6))) s4) ∧
 (¬ v2 = (iI 0) → ((v2 = (iI 1) → post (some (.int (s4.1 27 7))) s4) ∧
 (¬ v2 = (iI 1) → jq_I d 24 [.ref 27, .int (v2 - (iI 10))] s4 (fun x6 s5 =>
 post (some (.int x6)) s5)))))))) ∧
 (¬ (s1.1 0 6) < (iI 20) → post (some (.int (iI (-103)))) s1)))))))))) ∧
 (¬ v2 = 0 → ((v2 = (iI 1) → ((v1 < (iI 1) → post (some (.int (iI (-102)))) σ) ∧
 (¬ v1 < (iI 1) → (((iI 5) < v1 → post (some (.int (iI (-102)))) σ) ∧
 (¬ (iI 5) < v1 → jq_I d 33 [.ref 3] σ (fun x8 s7 =>
 ((x8 = 0 → post (some (.int (iI (-103)))) s7) ∧
 (¬ x8 = 0 → (((s7.1 0 6) < (iI 20) → (let s9 : jSt := jv_u s7 0 6 ((s7.1 0 6) + (iI 1))
 jq_V d 23 [.ref 27, .ref 3, .int v1] s9 (fun s10 =>
 ((v2 = (iI 0) → post (some (.int (s10.1 27 6))) s10) ∧
 (¬ v2 = (iI 0) → ((v2 = (iI 1) → post (some (.int (s10.1 27 7))) s10) ∧
 (¬ v2 = (iI 1) → jq_I d 24 [.ref 27, .int (v2 - (iI 10))] s10 (fun x12 s11 =>
 post (some (.int x12)) s11)))))))) ∧
 (¬ (s7.1 0 6) < (iI 20) → post (some (.int (iI (-103)))) s7)))))))))) ∧
 (¬ v2 = (iI 1) → ((v2 < (iI 10) → ((v1 < (iI 1) → post (some (.int (iI (-102)))) σ) ∧
 (¬ v1 < (iI 1) → (((iI 5) < v1 → post (some (.int (iI (-102)))) σ) ∧
 (¬ (iI 5) < v1 → post (some (.int (iI (-102)))) σ))))) ∧
 (¬ v2 < (iI 10) → (((iI 15) ≤ v2 → ((v1 < (iI 1) → post (some (.int (iI (-102)))) σ) ∧
 (¬ v1 < (iI 1) → (((iI 5) < v1 → post (some (.int (iI (-102)))) σ) ∧
 (¬ (iI 5) < v1 → post (some (.int (iI (-102)))) σ))))) ∧
 (¬ (iI 15) ≤ v2 → ((v1 < (iI 1) → post (some (.int (iI (-102)))) σ) ∧
 (¬ v1 < (iI 1) → (((iI 5) < v1 → post (some (.int (iI (-102)))) σ) ∧
 (¬ (iI 5) < v1 → jq_I d 33 [.ref 3] σ (fun x26 s25 =>
 ((x26 = 0 → post (some (.int (iI (-103)))) s25) ∧
 (¬ x26 = 0 → (((s25.1 0 6) < (iI 20) → (let s27 : jSt := jv_u s25 0 6 ((s25.1 0 6) + (iI 1))
 jq_V d 23 [.ref 27, .ref 3, .int v1] s27 (fun s28 =>
 ((v2 = (iI 0) → post (some (.int (s28.1 27 6))) s28) ∧
 (¬ v2 = (iI 0) → ((v2 = (iI 1) → post (some (.int (s28.1 27 7))) s28) ∧
 (¬ v2 = (iI 1) → jq_I d 24 [.ref 27, .int (v2 - (iI 10))] s28 (fun x30 s29 =>
 post (some (.int x30)) s29)))))))) ∧
 (¬ (s25.1 0 6) < (iI 20) → post (some (.int (iI (-103)))) s25)))))))))))))))))
set_option maxRecDepth 100000 in
set_option maxHeartbeats 4000000 in
theorem ok_X8_best {d : Nat} {post : jPo} {σ : jSt} {v1 : Int32} {v2 : Int32} (h : vc_X8_best d post σ v1 v2) : jv_wp (d + 1) post (67, 0, [some (.ref 0), some (.int v1), some (.int v2), none], [], σ) := jv_go_ok 51 [] _ _ _ (show ((v2 = 0 → ((v1 < (iI 1) → post (some (.int (iI (-102)))) σ) ∧
 (¬ v1 < (iI 1) → (((iI 5) < v1 → post (some (.int (iI (-102)))) σ) ∧
 (¬ (iI 5) < v1 → ((¬ (iI 1) = 0 → jq_I d 33 [.ref 3] σ (fun x2 s1 =>
 ((x2 = 0 → post (some (.int (iI (-103)))) s1) ∧
 (¬ x2 = 0 → (((s1.1 0 6) < (iI 20) → (let s3 : jSt := jv_u s1 0 6 ((s1.1 0 6) + (iI 1))
 jq_V d 23 [.ref 27, .ref 3, .int v1] s3 (fun s4 =>
 ((v2 = (iI 0) → post (some (.int (s4.1 27 6))) s4) ∧
 (¬ v2 = (iI 0) → ((v2 = (iI 1) → post (some (.int (s4.1 27 7))) s4) ∧
 (¬ v2 = (iI 1) → jq_I d 24 [.ref 27, .int (v2 - (iI 10))] s4 (fun x6 s5 =>
 post (some (.int x6)) s5)))))))) ∧
 (¬ (s1.1 0 6) < (iI 20) → post (some (.int (iI (-103)))) s1)))))) ∧
 ((iI 1) = 0 → post (some (.int (iI (-102)))) σ))))))) ∧
 (¬ v2 = 0 → ((v2 = (iI 1) → ((v1 < (iI 1) → post (some (.int (iI (-102)))) σ) ∧
 (¬ v1 < (iI 1) → (((iI 5) < v1 → post (some (.int (iI (-102)))) σ) ∧
 (¬ (iI 5) < v1 → ((¬ (iI 1) = 0 → jq_I d 33 [.ref 3] σ (fun x8 s7 =>
 ((x8 = 0 → post (some (.int (iI (-103)))) s7) ∧
 (¬ x8 = 0 → (((s7.1 0 6) < (iI 20) → (let s9 : jSt := jv_u s7 0 6 ((s7.1 0 6) + (iI 1))
 jq_V d 23 [.ref 27, .ref 3, .int v1] s9 (fun s10 =>
 ((v2 = (iI 0) → post (some (.int (s10.1 27 6))) s10) ∧
 (¬ v2 = (iI 0) → ((v2 = (iI 1) → post (some (.int (s10.1 27 7))) s10) ∧
 (¬ v2 = (iI 1) → jq_I d 24 [.ref 27, .int (v2 - (iI 10))] s10 (fun x12 s11 =>
 post (some (.int x12)) s11)))))))) ∧
 (¬ (s7.1 0 6) < (iI 20) → post (some (.int (iI (-103)))) s7)))))) ∧
 ((iI 1) = 0 → post (some (.int (iI (-102)))) σ))))))) ∧
 (¬ v2 = (iI 1) → ((v2 < (iI 10) → ((v1 < (iI 1) → post (some (.int (iI (-102)))) σ) ∧
 (¬ v1 < (iI 1) → (((iI 5) < v1 → post (some (.int (iI (-102)))) σ) ∧
 (¬ (iI 5) < v1 → ((¬ (iI 0) = 0 → jq_I d 33 [.ref 3] σ (fun x14 s13 =>
 ((x14 = 0 → post (some (.int (iI (-103)))) s13) ∧
 (¬ x14 = 0 → (((s13.1 0 6) < (iI 20) → (let s15 : jSt := jv_u s13 0 6 ((s13.1 0 6) + (iI 1))
 jq_V d 23 [.ref 27, .ref 3, .int v1] s15 (fun s16 =>
 ((v2 = (iI 0) → post (some (.int (s16.1 27 6))) s16) ∧
 (¬ v2 = (iI 0) → ((v2 = (iI 1) → post (some (.int (s16.1 27 7))) s16) ∧
 (¬ v2 = (iI 1) → jq_I d 24 [.ref 27, .int (v2 - (iI 10))] s16 (fun x18 s17 =>
 post (some (.int x18)) s17)))))))) ∧
 (¬ (s13.1 0 6) < (iI 20) → post (some (.int (iI (-103)))) s13)))))) ∧
 ((iI 0) = 0 → post (some (.int (iI (-102)))) σ))))))) ∧
 (¬ v2 < (iI 10) → (((iI 15) ≤ v2 → ((v1 < (iI 1) → post (some (.int (iI (-102)))) σ) ∧
 (¬ v1 < (iI 1) → (((iI 5) < v1 → post (some (.int (iI (-102)))) σ) ∧
 (¬ (iI 5) < v1 → ((¬ (iI 0) = 0 → jq_I d 33 [.ref 3] σ (fun x20 s19 =>
 ((x20 = 0 → post (some (.int (iI (-103)))) s19) ∧
 (¬ x20 = 0 → (((s19.1 0 6) < (iI 20) → (let s21 : jSt := jv_u s19 0 6 ((s19.1 0 6) + (iI 1))
 jq_V d 23 [.ref 27, .ref 3, .int v1] s21 (fun s22 =>
 ((v2 = (iI 0) → post (some (.int (s22.1 27 6))) s22) ∧
 (¬ v2 = (iI 0) → ((v2 = (iI 1) → post (some (.int (s22.1 27 7))) s22) ∧
 (¬ v2 = (iI 1) → jq_I d 24 [.ref 27, .int (v2 - (iI 10))] s22 (fun x24 s23 =>
 post (some (.int x24)) s23)))))))) ∧
 (¬ (s19.1 0 6) < (iI 20) → post (some (.int (iI (-103)))) s19)))))) ∧
 ((iI 0) = 0 → post (some (.int (iI (-102)))) σ))))))) ∧
 (¬ (iI 15) ≤ v2 → ((v1 < (iI 1) → post (some (.int (iI (-102)))) σ) ∧
 (¬ v1 < (iI 1) → (((iI 5) < v1 → post (some (.int (iI (-102)))) σ) ∧
 (¬ (iI 5) < v1 → ((¬ (iI 1) = 0 → jq_I d 33 [.ref 3] σ (fun x26 s25 =>
 ((x26 = 0 → post (some (.int (iI (-103)))) s25) ∧
 (¬ x26 = 0 → (((s25.1 0 6) < (iI 20) → (let s27 : jSt := jv_u s25 0 6 ((s25.1 0 6) + (iI 1))
 jq_V d 23 [.ref 27, .ref 3, .int v1] s27 (fun s28 =>
 ((v2 = (iI 0) → post (some (.int (s28.1 27 6))) s28) ∧
 (¬ v2 = (iI 0) → ((v2 = (iI 1) → post (some (.int (s28.1 27 7))) s28) ∧
 (¬ v2 = (iI 1) → jq_I d 24 [.ref 27, .int (v2 - (iI 10))] s28 (fun x30 s29 =>
 post (some (.int x30)) s29)))))))) ∧
 (¬ (s25.1 0 6) < (iI 20) → post (some (.int (iI (-103)))) s25)))))) ∧
 ((iI 1) = 0 → post (some (.int (iI (-102)))) σ)))))))))))))) from ⟨fun c299 => ⟨fun c300 => ((((h).1 c299)).1 c300), fun c300 => ⟨fun c302 => ((((((h).1 c299)).2 c300)).1 c302), fun c302 => ⟨fun _ => ((((((h).1 c299)).2 c300)).2 c302), fun q => absurd q (by decide +kernel)⟩⟩⟩, fun c299 => ⟨fun c306 => ⟨fun c307 => ((((((h).2 c299)).1 c306)).1 c307), fun c307 => ⟨fun c309 => ((((((((h).2 c299)).1 c306)).2 c307)).1 c309), fun c309 => ⟨fun _ => ((((((((h).2 c299)).1 c306)).2 c307)).2 c309), fun q => absurd q (by decide +kernel)⟩⟩⟩, fun c306 => ⟨fun c313 => ⟨fun c314 => ((((((((h).2 c299)).2 c306)).1 c313)).1 c314), fun c314 => ⟨fun c316 => ((((((((((h).2 c299)).2 c306)).1 c313)).2 c314)).1 c316), fun c316 => ⟨fun q => absurd q (by decide +kernel), fun _ => ((((((((((h).2 c299)).2 c306)).1 c313)).2 c314)).2 c316)⟩⟩⟩, fun c313 => ⟨fun c320 => ⟨fun c321 => ((((((((((h).2 c299)).2 c306)).2 c313)).1 c320)).1 c321), fun c321 => ⟨fun c323 => ((((((((((((h).2 c299)).2 c306)).2 c313)).1 c320)).2 c321)).1 c323), fun c323 => ⟨fun q => absurd q (by decide +kernel), fun _ => ((((((((((((h).2 c299)).2 c306)).2 c313)).1 c320)).2 c321)).2 c323)⟩⟩⟩, fun c320 => ⟨fun c327 => ((((((((((h).2 c299)).2 c306)).2 c313)).2 c320)).1 c327), fun c327 => ⟨fun c329 => ((((((((((((h).2 c299)).2 c306)).2 c313)).2 c320)).2 c327)).1 c329), fun c329 => ⟨fun _ => ((((((((((((h).2 c299)).2 c306)).2 c313)).2 c320)).2 c327)).2 c329), fun q => absurd q (by decide +kernel)⟩⟩⟩⟩⟩⟩⟩)
def vc_X8_live (d : Nat) (post : jPo) (σ : jSt) (v1 : Int32) : Prop :=
 ((v1 < 0 → post (some (.int (iI (-102)))) σ) ∧
 (¬ v1 < 0 → ((v1 ≤ (iI 1) → jq_I d 33 [.ref 3] σ (fun x2 s1 =>
 ((¬ x2 = 0 → jq_I d 10 [.ref 3] s1 (fun x4 s3 =>
 ((¬ v1 = 0 → post (some (.int x4)) s3) ∧
 (v1 = 0 → jq_I d 11 [.ref 3, .int x4] s3 (fun x6 s5 =>
 post (some (.int x6)) s5))))) ∧
 (x2 = 0 → post (some (.int (iI (-103)))) s1)))) ∧
 (¬ v1 ≤ (iI 1) → post (some (.int (iI (-102)))) σ))))
set_option maxRecDepth 100000 in
set_option maxHeartbeats 4000000 in
theorem ok_X8_live {d : Nat} {post : jPo} {σ : jSt} {v1 : Int32} (h : vc_X8_live d post σ v1) : jv_wp (d + 1) post (68, 0, [some (.ref 0), some (.int v1), none], [], σ) := jv_go_ok 21 [] _ _ _ h
def vc_X8_fog (d : Nat) (post : jPo) (σ : jSt) (v1 : Int32) (v2 : Int32) (v3 : Int32) (v4 : Int32) : Prop :=
 jq_I d 35 [.ref 3, .int v1] σ (fun x2 s1 =>
 ((¬ x2 = 0 → ((v2 < (iI 1) → post (some (.int (iI (-102)))) s1) ∧
 (¬ v2 < (iI 1) → (((iI 8) < v2 → post (some (.int (iI (-102)))) s1) ∧
 (¬ (iI 8) < v2 → ((v3 < 0 → post (some (.int (iI (-102)))) s1) ∧
 (¬ v3 < 0 → (((iI 10) < v3 → post (some (.int (iI (-102)))) s1) ∧
 (¬ (iI 10) < v3 → ((v4 < 0 → post (some (.int (iI (-102)))) s1) ∧
 (¬ v4 < 0 → ((v4 ≤ (iI 1) → (vp_in v1 5 ∧ ((¬ (s1.1 10 v1.toNatClampNeg) = (iI (-2)) → jq_I d 13 [.ref 3, .int v1, .int v2, .int v3] s1 (fun x4 s3 =>
 ((¬ v4 = 0 → jq_I d 14 [.int x4, .int v2, .int (iI 0)] s3 (fun x6 s5 =>
 post (some (.int x6)) s5)) ∧
 (v4 = 0 → jq_I d 14 [.int x4, .int v2, .int (iI 1)] s3 (fun x8 s7 =>
 post (some (.int x8)) s7))))) ∧
 ((s1.1 10 v1.toNatClampNeg) = (iI (-2)) → post (some (.int (iI (-103)))) s1)))) ∧
 (¬ v4 ≤ (iI 1) → post (some (.int (iI (-102)))) s1))))))))))))) ∧
 (x2 = 0 → post (some (.int (iI (-101)))) s1)))
set_option maxRecDepth 100000 in
set_option maxHeartbeats 4000000 in
theorem ok_X8_fog {d : Nat} {post : jPo} {σ : jSt} {v1 : Int32} {v2 : Int32} {v3 : Int32} {v4 : Int32} (h : vc_X8_fog d post σ v1 v2 v3 v4) : jv_wp (d + 1) post (69, 0, [some (.ref 0), some (.int v1), some (.int v2), some (.int v3), some (.int v4), none], [], σ) := jv_go_ok 43 [] _ _ _ h
def vc_X8_see (d : Nat) (post : jPo) (σ : jSt) (v1 : Int32) (v2 : Int32) (v3 : Int32) : Prop :=
 jq_I d 34 [.ref 3, .int v1] σ (fun x2 s1 =>
 ((¬ x2 = 0 → ((v2 < 0 → post (some (.int (iI (-102)))) s1) ∧
 (¬ v2 < 0 → ((v2 ≤ (iI 31) → jq_I d 28 [.ref 11, .int v1, .int v2, .int v3] s1 (fun x4 s3 =>
 ((x4 = 0 → post (some (.int (iI (-104)))) s3) ∧
 (¬ x4 = 0 → post (some (.int (s3.1 11 3))) s3)))) ∧
 (¬ v2 ≤ (iI 31) → post (some (.int (iI (-102)))) s1))))) ∧
 (x2 = 0 → post (some (.int (iI (-101)))) s1)))
set_option maxRecDepth 100000 in
set_option maxHeartbeats 4000000 in
theorem ok_X8_see {d : Nat} {post : jPo} {σ : jSt} {v1 : Int32} {v2 : Int32} {v3 : Int32} (h : vc_X8_see d post σ v1 v2 v3) : jv_wp (d + 1) post (70, 0, [some (.ref 0), some (.int v1), some (.int v2), some (.int v3)], [], σ) := jv_go_ok 24 [] _ _ _ h
def vc_X8_forget (d : Nat) (post : jPo) (σ : jSt)  : Prop :=
 (let x1 : Int32 := (σ.1 11 3)
 (let s2 : jSt := jv_u σ 11 3 (iI 0)
 post (some (.int x1)) s2))
set_option maxRecDepth 100000 in
set_option maxHeartbeats 4000000 in
theorem ok_X8_forget {d : Nat} {post : jPo} {σ : jSt} (h : vc_X8_forget d post σ ) : jv_wp (d + 1) post (71, 0, [some (.ref 0), none], [], σ) := jv_go_ok 12 [] _ _ _ h
def vc_X8_years (d : Nat) (post : jPo) (σ : jSt) (v1 : Int32) (v2 : Int32) (v3 : Int32) : Prop :=
 ((v1 < (iI 1) → post (some (.int (iI (-102)))) σ) ∧
 (¬ v1 < (iI 1) → (((iI 60) < v1 → post (some (.int (iI (-102)))) σ) ∧
 (¬ (iI 60) < v1 → ((v2 < 0 → post (some (.int (iI (-102)))) σ) ∧
 (¬ v2 < 0 → ((v3 < 0 → post (some (.int (iI (-102)))) σ) ∧
 (¬ v3 < 0 → ((v3 ≤ (iI 2) → jq_I d 33 [.ref 3] σ (fun x2 s1 =>
 ((¬ x2 = 0 → jq_V d 6 [.ref 32, .ref 3, .int v1, .int v2] s1 (fun s3 =>
 ((v3 = (iI 0) → post (some (.int (s3.1 32 1))) s3) ∧
 (¬ v3 = (iI 0) → ((v3 = (iI 1) → post (some (.int (s3.1 32 2))) s3) ∧
 (¬ v3 = (iI 1) → post (some (.int (s3.1 32 3))) s3)))))) ∧
 (x2 = 0 → post (some (.int (iI (-103)))) s1)))) ∧
 (¬ v3 ≤ (iI 2) → post (some (.int (iI (-102)))) σ))))))))))
set_option maxRecDepth 100000 in
set_option maxHeartbeats 4000000 in
theorem ok_X8_years {d : Nat} {post : jPo} {σ : jSt} {v1 : Int32} {v2 : Int32} {v3 : Int32} (h : vc_X8_years d post σ v1 v2 v3) : jv_wp (d + 1) post (72, 0, [some (.ref 0), some (.int v1), some (.int v2), some (.int v3)], [], σ) := jv_go_ok 30 [] _ _ _ h
def vc_X8_image (d : Nat) (post : jPo) (σ : jSt)  : Prop :=
 jq_I d 33 [.ref 3] σ (fun x2 s1 =>
 ((¬ x2 = 0 → jq_V d 53 [.ref 15, .ref 3] s1 (fun s3 =>
 post (some (.int (s3.1 3 11))) s3)) ∧
 (x2 = 0 → post (some (.int (iI (-103)))) s1)))
set_option maxRecDepth 100000 in
set_option maxHeartbeats 4000000 in
theorem ok_X8_image {d : Nat} {post : jPo} {σ : jSt} (h : vc_X8_image d post σ ) : jv_wp (d + 1) post (73, 0, [some (.ref 0)], [], σ) := jv_go_ok 13 [] _ _ _ h
def vc_X8_restore (d : Nat) (post : jPo) (σ : jSt)  : Prop :=
 jq_I d 33 [.ref 15] σ (fun x2 s1 =>
 ((¬ x2 = 0 → jq_V d 53 [.ref 3, .ref 15] s1 (fun s3 =>
 post (some (.int (s3.1 3 11))) s3)) ∧
 (x2 = 0 → post (some (.int (iI (-103)))) s1)))
set_option maxRecDepth 100000 in
set_option maxHeartbeats 4000000 in
theorem ok_X8_restore {d : Nat} {post : jPo} {σ : jSt} (h : vc_X8_restore d post σ ) : jv_wp (d + 1) post (74, 0, [some (.ref 0)], [], σ) := jv_go_ok 13 [] _ _ _ h
def vc_X8_count (d : Nat) (post : jPo) (σ : jSt) (v1 : Int32) : Prop :=
 ((v1 = (iI 0) → post (some (.int (σ.1 3 8))) σ) ∧
 (¬ v1 = (iI 0) → ((v1 = (iI 1) → post (some (.int (σ.1 3 9))) σ) ∧
 (¬ v1 = (iI 1) → ((v1 = (iI 2) → post (some (.int (σ.1 3 11))) σ) ∧
 (¬ v1 = (iI 2) → ((v1 = (iI 3) → jq_I d 41 [.ref 3, .int (σ.1 3 11)] σ (fun x2 s1 =>
 jq_I d 143 [.int x2] s1 (fun x4 s3 =>
 post (some (.int x4)) s3))) ∧
 (¬ v1 = (iI 3) → ((v1 = (iI 4) → jq_I d 143 [.int (σ.1 3 10)] σ (fun x6 s5 =>
 post (some (.int x6)) s5)) ∧
 (¬ v1 = (iI 4) → ((v1 = (iI 5) → jq_I d 47 [.ref 3, .int (iI 1)] σ (fun x8 s7 =>
 post (some (.int x8)) s7)) ∧
 (¬ v1 = (iI 5) → ((v1 = (iI 6) → jq_I d 47 [.ref 3, .int (iI 2)] σ (fun x10 s9 =>
 post (some (.int x10)) s9)) ∧
 (¬ v1 = (iI 6) → ((v1 = (iI 7) → post (some (.int (σ.1 3 12))) σ) ∧
 (¬ v1 = (iI 7) → ((v1 = (iI 8) → post (some (.int (σ.1 11 3))) σ) ∧
 (¬ v1 = (iI 8) → ((v1 = (iI 9) → post (some (.int (σ.1 1 1))) σ) ∧
 (¬ v1 = (iI 9) → ((v1 = (iI 10) → post (some (.int (σ.1 0 5))) σ) ∧
 (¬ v1 = (iI 10) → ((v1 = (iI 11) → post (some (.int (σ.1 0 6))) σ) ∧
 (¬ v1 = (iI 11) → post (some (.int (iI (-102)))) σ))))))))))))))))))))))))
set_option maxRecDepth 100000 in
set_option maxHeartbeats 4000000 in
theorem ok_X8_count {d : Nat} {post : jPo} {σ : jSt} {v1 : Int32} (h : vc_X8_count d post σ v1) : jv_wp (d + 1) post (75, 0, [some (.ref 0), some (.int v1)], [], σ) := jv_go_ok 10 [] _ _ _ h
def vc_X8_digest (d : Nat) (post : jPo) (σ : jSt)  : Prop :=
 (let x1 : Int64 := (Int64.ofNat 1279)
 jv_wp (d + 1) post (76, 6, [some (.ref 0), some (.long x1), none, some (.int (iI 0)), none], [], σ))
set_option maxRecDepth 100000 in
set_option maxHeartbeats 4000000 in
theorem ok_X8_digest {d : Nat} {post : jPo} {σ : jSt} (h : vc_X8_digest d post σ ) : jv_wp (d + 1) post (76, 0, [some (.ref 0), none, none, none, none], [], σ) := jv_go_ok 5 [6, 20, 56, 70, 148, 184] _ _ _ h
def vc_X8_digest_L6 (d : Nat) (post : jPo) (σ : jSt) (w1 : Int64) (v3 : Int32) (z4 : Option Value) : Prop :=
 (((σ.1 3 8) ≤ v3 → jv_wp (d + 1) post (76, 56, [some (.ref 0), some (.long w1), none, some (.int (iI 0)), z4], [], σ)) ∧
 (¬ (σ.1 3 8) ≤ v3 → jv_wp (d + 1) post (76, 20, [some (.ref 0), some (.long w1), none, some (.int v3), some (.int (iI 0))], [], σ)))
set_option maxRecDepth 100000 in
set_option maxHeartbeats 4000000 in
theorem ok_X8_digest_L6 {d : Nat} {post : jPo} {σ : jSt} {w1 : Int64} {v3 : Int32} {z4 : Option Value} (h : vc_X8_digest_L6 d post σ w1 v3 z4) : jv_wp (d + 1) post (76, 6, [some (.ref 0), some (.long w1), none, some (.int v3), z4], [], σ) := jv_go_ok 8 [6, 20, 56, 70, 148, 184] _ _ _ h
def vc_X8_digest_L20 (d : Nat) (post : jPo) (σ : jSt) (w1 : Int64) (v3 : Int32) (v4 : Int32) : Prop :=
 (((iI 7) < v4 → (let x1 : Int32 := (v3 + (iI 1))
 jv_wp (d + 1) post (76, 6, [some (.ref 0), some (.long w1), none, some (.int x1), some (.int v4)], [], σ))) ∧
 (¬ (iI 7) < v4 → jq_I d 58 [.ref 0, .int v3, .int v4] σ (fun x3 s2 =>
 (let x4 : Int64 := (((Int64.ofNat 31) * w1) + (x3).toInt64)
 (let x5 : Int32 := (v4 + (iI 1))
 jv_wp (d + 1) post (76, 20, [some (.ref 0), some (.long x4), none, some (.int v3), some (.int x5)], [], s2))))))
set_option maxRecDepth 100000 in
set_option maxHeartbeats 4000000 in
theorem ok_X8_digest_L20 {d : Nat} {post : jPo} {σ : jSt} {w1 : Int64} {v3 : Int32} {v4 : Int32} (h : vc_X8_digest_L20 d post σ w1 v3 v4) : jv_wp (d + 1) post (76, 20, [some (.ref 0), some (.long w1), none, some (.int v3), some (.int v4)], [], σ) := jv_go_ok 16 [6, 20, 56, 70, 148, 184] _ _ _ h
def vc_X8_digest_L56 (d : Nat) (post : jPo) (σ : jSt) (w1 : Int64) (v3 : Int32) (z4 : Option Value) : Prop :=
 (((σ.1 3 9) ≤ v3 → jq_I d 33 [.ref 3] σ (fun x2 s1 =>
 ((x2 = 0 → jv_wp (d + 1) post (76, 148, [some (.ref 0), some (.long w1), none, some (.int (iI 0)), z4], [], s1)) ∧
 (¬ x2 = 0 → jq_L d 77 [.ref 0, .long w1] s1 (fun x4 s3 =>
 jq_I d 68 [.ref 0, .int (iI 0)] s3 (fun x6 s5 =>
 (let x7 : Int64 := (((Int64.ofNat 31) * x4) + (x6).toInt64)
 jq_I d 68 [.ref 0, .int (iI 1)] s5 (fun x9 s8 =>
 (let x10 : Int64 := (((Int64.ofNat 31) * x7) + (x9).toInt64)
 jv_wp (d + 1) post (76, 148, [some (.ref 0), some (.long x10), none, some (.int (iI 0)), z4], [], s8)))))))))) ∧
 (¬ (σ.1 3 9) ≤ v3 → jv_wp (d + 1) post (76, 70, [some (.ref 0), some (.long w1), none, some (.int v3), some (.int (iI 0))], [], σ)))
set_option maxRecDepth 100000 in
set_option maxHeartbeats 4000000 in
theorem ok_X8_digest_L56 {d : Nat} {post : jPo} {σ : jSt} {w1 : Int64} {v3 : Int32} {z4 : Option Value} (h : vc_X8_digest_L56 d post σ w1 v3 z4) : jv_wp (d + 1) post (76, 56, [some (.ref 0), some (.long w1), none, some (.int v3), z4], [], σ) := jv_go_ok 34 [6, 20, 56, 70, 148, 184] _ _ _ h
def vc_X8_digest_L70 (d : Nat) (post : jPo) (σ : jSt) (w1 : Int64) (v3 : Int32) (v4 : Int32) : Prop :=
 (((iI 6) < v4 → (let x1 : Int32 := (v3 + (iI 1))
 jv_wp (d + 1) post (76, 56, [some (.ref 0), some (.long w1), none, some (.int x1), some (.int v4)], [], σ))) ∧
 (¬ (iI 6) < v4 → jq_I d 60 [.ref 0, .int v3, .int v4] σ (fun x3 s2 =>
 (let x4 : Int64 := (((Int64.ofNat 31) * w1) + (x3).toInt64)
 (let x5 : Int32 := (v4 + (iI 1))
 jv_wp (d + 1) post (76, 70, [some (.ref 0), some (.long x4), none, some (.int v3), some (.int x5)], [], s2))))))
set_option maxRecDepth 100000 in
set_option maxHeartbeats 4000000 in
theorem ok_X8_digest_L70 {d : Nat} {post : jPo} {σ : jSt} {w1 : Int64} {v3 : Int32} {v4 : Int32} (h : vc_X8_digest_L70 d post σ w1 v3 v4) : jv_wp (d + 1) post (76, 70, [some (.ref 0), some (.long w1), none, some (.int v3), some (.int v4)], [], σ) := jv_go_ok 16 [6, 20, 56, 70, 148, 184] _ _ _ h
def vc_X8_digest_L148 (d : Nat) (post : jPo) (σ : jSt) (w1 : Int64) (v3 : Int32) (z4 : Option Value) : Prop :=
 (((σ.1 1 1) ≤ v3 → jv_wp (d + 1) post (76, 184, [some (.ref 0), some (.long w1), none, some (.int (iI 0)), z4], [], σ)) ∧
 (¬ (σ.1 1 1) ≤ v3 → (vp_in v3 44 ∧ (let x1 : Int64 := (((Int64.ofNat 31) * w1) + ((σ.1 2 v3.toNatClampNeg)).toInt64)
 (let x2 : Int32 := (v3 + (iI 1))
 jv_wp (d + 1) post (76, 148, [some (.ref 0), some (.long x1), none, some (.int x2), z4], [], σ))))))
set_option maxRecDepth 100000 in
set_option maxHeartbeats 4000000 in
theorem ok_X8_digest_L148 {d : Nat} {post : jPo} {σ : jSt} {w1 : Int64} {v3 : Int32} {z4 : Option Value} (h : vc_X8_digest_L148 d post σ w1 v3 z4) : jv_wp (d + 1) post (76, 148, [some (.ref 0), some (.long w1), none, some (.int v3), z4], [], σ) := jv_go_ok 19 [6, 20, 56, 70, 148, 184] _ _ _ h
def vc_X8_digest_L184 (d : Nat) (post : jPo) (σ : jSt) (w1 : Int64) (v3 : Int32) (z4 : Option Value) : Prop :=
 (((iI 11) < v3 → post (some (.long w1)) σ) ∧
 (¬ (iI 11) < v3 → jq_I d 75 [.ref 0, .int v3] σ (fun x2 s1 =>
 (let x3 : Int64 := (((Int64.ofNat 31) * w1) + (x2).toInt64)
 (let x4 : Int32 := (v3 + (iI 1))
 jv_wp (d + 1) post (76, 184, [some (.ref 0), some (.long x3), none, some (.int x4), z4], [], s1))))))
set_option maxRecDepth 100000 in
set_option maxHeartbeats 4000000 in
theorem ok_X8_digest_L184 {d : Nat} {post : jPo} {σ : jSt} {w1 : Int64} {v3 : Int32} {z4 : Option Value} (h : vc_X8_digest_L184 d post σ w1 v3 z4) : jv_wp (d + 1) post (76, 184, [some (.ref 0), some (.long w1), none, some (.int v3), z4], [], σ) := jv_go_ok 15 [6, 20, 56, 70, 148, 184] _ _ _ h
def vc_X8_withDates (d : Nat) (post : jPo) (σ : jSt) (w1 : Int64) : Prop :=
 jv_wp (d + 1) post (77, 5, [some (.ref 0), some (.long w1), none, some (.long w1), none, some (.int (iI 0)), none], [], σ)
set_option maxRecDepth 100000 in
set_option maxHeartbeats 4000000 in
theorem ok_X8_withDates {d : Nat} {post : jPo} {σ : jSt} {w1 : Int64} (h : vc_X8_withDates d post σ w1) : jv_wp (d + 1) post (77, 0, [some (.ref 0), some (.long w1), none, none, none, none, none], [], σ) := jv_go_ok 5 [5, 15] _ _ _ h
def vc_X8_withDates_L5 (d : Nat) (post : jPo) (σ : jSt) (w1 : Int64) (w3 : Int64) (v5 : Int32) (z6 : Option Value) : Prop :=
 (((iI 40) < v5 → post (some (.long w3)) σ) ∧
 (¬ (iI 40) < v5 → jv_wp (d + 1) post (77, 15, [some (.ref 0), some (.long w1), none, some (.long w3), none, some (.int v5), some (.int (iI 0))], [], σ)))
set_option maxRecDepth 100000 in
set_option maxHeartbeats 4000000 in
theorem ok_X8_withDates_L5 {d : Nat} {post : jPo} {σ : jSt} {w1 : Int64} {w3 : Int64} {v5 : Int32} {z6 : Option Value} (h : vc_X8_withDates_L5 d post σ w1 w3 v5 z6) : jv_wp (d + 1) post (77, 5, [some (.ref 0), some (.long w1), none, some (.long w3), none, some (.int v5), z6], [], σ) := jv_go_ok 6 [5, 15] _ _ _ h
def vc_X8_withDates_L15 (d : Nat) (post : jPo) (σ : jSt) (w1 : Int64) (w3 : Int64) (v5 : Int32) (v6 : Int32) : Prop :=
 (((iI 3) < v6 → (let x1 : Int32 := (v5 + (iI 40))
 jv_wp (d + 1) post (77, 5, [some (.ref 0), some (.long w1), none, some (.long w3), none, some (.int x1), some (.int v6)], [], σ))) ∧
 (¬ (iI 3) < v6 → jq_I d 61 [.ref 0, .int v5, .int v6] σ (fun x3 s2 =>
 (let x4 : Int64 := (((Int64.ofNat 31) * w3) + (x3).toInt64)
 (let x5 : Int32 := (v6 + (iI 1))
 jv_wp (d + 1) post (77, 15, [some (.ref 0), some (.long w1), none, some (.long x4), none, some (.int v5), some (.int x5)], [], s2))))))
set_option maxRecDepth 100000 in
set_option maxHeartbeats 4000000 in
theorem ok_X8_withDates_L15 {d : Nat} {post : jPo} {σ : jSt} {w1 : Int64} {w3 : Int64} {v5 : Int32} {v6 : Int32} (h : vc_X8_withDates_L15 d post σ w1 w3 v5 v6) : jv_wp (d + 1) post (77, 15, [some (.ref 0), some (.long w1), none, some (.long w3), none, some (.int v5), some (.int v6)], [], σ) := jv_go_ok 16 [5, 15] _ _ _ h
def vc_X7_hasRiver_k (d : Nat) (post : jPo) (σ : jSt)  : Prop :=
 (((σ.1 15 8) ≤ 0 → post (some (.int (iI 0))) σ) ∧
 (¬ (σ.1 15 8) ≤ 0 → post (some (.int (iI 1))) σ))
set_option maxRecDepth 100000 in
set_option maxHeartbeats 4000000 in
theorem ok_X7_hasRiver_k {d : Nat} {post : jPo} {σ : jSt} (h : vc_X7_hasRiver_k d post σ ) : jv_wp (d + 1) post (33, 0, [some (.ref 15)], [], σ) := jv_go_ok 6 [] _ _ _ (show (((σ.1 15 8) ≤ 0 → (((iI 0) = 0 ∨ (iI 0) = 1) ∧ post (some (.int (iI 0))) σ)) ∧
 (¬ (σ.1 15 8) ≤ 0 → (((iI 1) = 0 ∨ (iI 1) = 1) ∧ post (some (.int (iI 1))) σ))) from ⟨fun c333 => ⟨by decide +kernel, ((h).1 c333)⟩, fun c333 => ⟨by decide +kernel, ((h).2 c333)⟩⟩)
def vc_X7_copyFrom_k (d : Nat) (post : jPo) (σ : jSt)  : Prop :=
 (let s1 : jSt := jv_a σ 16 (va_cpy (σ.1 4) (σ.1 16) (iI 0).toNatClampNeg (iI 0).toNatClampNeg (iI 6).toNatClampNeg)
 (let s2 : jSt := jv_a s1 17 (va_cpy (s1.1 5) (s1.1 17) (iI 0).toNatClampNeg (iI 0).toNatClampNeg (iI 6).toNatClampNeg)
 (let s3 : jSt := jv_a s2 18 (va_cpy (s2.1 6) (s2.1 18) (iI 0).toNatClampNeg (iI 0).toNatClampNeg (iI 6).toNatClampNeg)
 (let s4 : jSt := jv_a s3 19 (va_cpy (s3.1 7) (s3.1 19) (iI 0).toNatClampNeg (iI 0).toNatClampNeg (iI 5).toNatClampNeg)
 (let s5 : jSt := jv_a s4 20 (va_cpy (s4.1 8) (s4.1 20) (iI 0).toNatClampNeg (iI 0).toNatClampNeg (iI 5).toNatClampNeg)
 (let s6 : jSt := jv_a s5 21 (va_cpy (s5.1 9) (s5.1 21) (iI 0).toNatClampNeg (iI 0).toNatClampNeg (iI 5).toNatClampNeg)
 (let s7 : jSt := jv_a s6 22 (va_cpy (s6.1 10) (s6.1 22) (iI 0).toNatClampNeg (iI 0).toNatClampNeg (iI 5).toNatClampNeg)
 jq_V d 30 [.ref 23, .ref 11] s7 (fun s8 =>
 (let s9 : jSt := jv_u s8 15 8 (s8.1 3 8)
 (let s10 : jSt := jv_u s9 15 9 (s9.1 3 9)
 (let s11 : jSt := jv_u s10 15 10 (s10.1 3 10)
 (let s12 : jSt := jv_u s11 15 11 (s11.1 3 11)
 (let s13 : jSt := jv_u s12 15 12 (s12.1 3 12)
 post none s13)))))))))))))
set_option maxRecDepth 100000 in
set_option maxHeartbeats 4000000 in
theorem ok_X7_copyFrom_k {d : Nat} {post : jPo} {σ : jSt} (h : vc_X7_copyFrom_k d post σ ) : jv_wp (d + 1) post (53, 0, [some (.ref 15), some (.ref 3)], [], σ) := jv_go_ok 82 [] _ _ _ (show ((¬ (iI 0) < 0 ∧ ¬ (iI 0) < 0 ∧ ¬ (iI 6) < 0 ∧ (iI 0).toNatClampNeg + (iI 6).toNatClampNeg ≤ 6 ∧ (iI 0).toNatClampNeg + (iI 6).toNatClampNeg ≤ 6 ∧ (([] : List Value).map fun v => v.category).sum ≤ 8) ∧ (let s1 : jSt := jv_a σ 16 (va_cpy (σ.1 4) (σ.1 16) (iI 0).toNatClampNeg (iI 0).toNatClampNeg (iI 6).toNatClampNeg)
 ((¬ (iI 0) < 0 ∧ ¬ (iI 0) < 0 ∧ ¬ (iI 6) < 0 ∧ (iI 0).toNatClampNeg + (iI 6).toNatClampNeg ≤ 6 ∧ (iI 0).toNatClampNeg + (iI 6).toNatClampNeg ≤ 6 ∧ (([] : List Value).map fun v => v.category).sum ≤ 8) ∧ (let s2 : jSt := jv_a s1 17 (va_cpy (s1.1 5) (s1.1 17) (iI 0).toNatClampNeg (iI 0).toNatClampNeg (iI 6).toNatClampNeg)
 ((¬ (iI 0) < 0 ∧ ¬ (iI 0) < 0 ∧ ¬ (iI 6) < 0 ∧ (iI 0).toNatClampNeg + (iI 6).toNatClampNeg ≤ 6 ∧ (iI 0).toNatClampNeg + (iI 6).toNatClampNeg ≤ 6 ∧ (([] : List Value).map fun v => v.category).sum ≤ 8) ∧ (let s3 : jSt := jv_a s2 18 (va_cpy (s2.1 6) (s2.1 18) (iI 0).toNatClampNeg (iI 0).toNatClampNeg (iI 6).toNatClampNeg)
 ((¬ (iI 0) < 0 ∧ ¬ (iI 0) < 0 ∧ ¬ (iI 5) < 0 ∧ (iI 0).toNatClampNeg + (iI 5).toNatClampNeg ≤ 5 ∧ (iI 0).toNatClampNeg + (iI 5).toNatClampNeg ≤ 5 ∧ (([] : List Value).map fun v => v.category).sum ≤ 8) ∧ (let s4 : jSt := jv_a s3 19 (va_cpy (s3.1 7) (s3.1 19) (iI 0).toNatClampNeg (iI 0).toNatClampNeg (iI 5).toNatClampNeg)
 ((¬ (iI 0) < 0 ∧ ¬ (iI 0) < 0 ∧ ¬ (iI 5) < 0 ∧ (iI 0).toNatClampNeg + (iI 5).toNatClampNeg ≤ 5 ∧ (iI 0).toNatClampNeg + (iI 5).toNatClampNeg ≤ 5 ∧ (([] : List Value).map fun v => v.category).sum ≤ 8) ∧ (let s5 : jSt := jv_a s4 20 (va_cpy (s4.1 8) (s4.1 20) (iI 0).toNatClampNeg (iI 0).toNatClampNeg (iI 5).toNatClampNeg)
 ((¬ (iI 0) < 0 ∧ ¬ (iI 0) < 0 ∧ ¬ (iI 5) < 0 ∧ (iI 0).toNatClampNeg + (iI 5).toNatClampNeg ≤ 5 ∧ (iI 0).toNatClampNeg + (iI 5).toNatClampNeg ≤ 5 ∧ (([] : List Value).map fun v => v.category).sum ≤ 8) ∧ (let s6 : jSt := jv_a s5 21 (va_cpy (s5.1 9) (s5.1 21) (iI 0).toNatClampNeg (iI 0).toNatClampNeg (iI 5).toNatClampNeg)
 ((¬ (iI 0) < 0 ∧ ¬ (iI 0) < 0 ∧ ¬ (iI 5) < 0 ∧ (iI 0).toNatClampNeg + (iI 5).toNatClampNeg ≤ 5 ∧ (iI 0).toNatClampNeg + (iI 5).toNatClampNeg ≤ 5 ∧ (([] : List Value).map fun v => v.category).sum ≤ 8) ∧ (let s7 : jSt := jv_a s6 22 (va_cpy (s6.1 10) (s6.1 22) (iI 0).toNatClampNeg (iI 0).toNatClampNeg (iI 5).toNatClampNeg)
 jq_V d 30 [.ref 23, .ref 11] s7 (fun s8 =>
 (let s9 : jSt := jv_u s8 15 8 (s8.1 3 8)
 (let s10 : jSt := jv_u s9 15 9 (s9.1 3 9)
 (let s11 : jSt := jv_u s10 15 10 (s10.1 3 10)
 (let s12 : jSt := jv_u s11 15 11 (s11.1 3 11)
 (let s13 : jSt := jv_u s12 15 12 (s12.1 3 12)
 post none s13)))))))))))))))))))) from ⟨⟨by decide +kernel, by decide +kernel, by decide +kernel, by decide +kernel, by decide +kernel, Nat.le_of_ble_eq_true rfl⟩, ⟨⟨by decide +kernel, by decide +kernel, by decide +kernel, by decide +kernel, by decide +kernel, Nat.le_of_ble_eq_true rfl⟩, ⟨⟨by decide +kernel, by decide +kernel, by decide +kernel, by decide +kernel, by decide +kernel, Nat.le_of_ble_eq_true rfl⟩, ⟨⟨by decide +kernel, by decide +kernel, by decide +kernel, by decide +kernel, by decide +kernel, Nat.le_of_ble_eq_true rfl⟩, ⟨⟨by decide +kernel, by decide +kernel, by decide +kernel, by decide +kernel, by decide +kernel, Nat.le_of_ble_eq_true rfl⟩, ⟨⟨by decide +kernel, by decide +kernel, by decide +kernel, by decide +kernel, by decide +kernel, Nat.le_of_ble_eq_true rfl⟩, ⟨⟨by decide +kernel, by decide +kernel, by decide +kernel, by decide +kernel, by decide +kernel, Nat.le_of_ble_eq_true rfl⟩, h⟩⟩⟩⟩⟩⟩⟩)
def vc_X7_copyFrom_r (d : Nat) (post : jPo) (σ : jSt)  : Prop :=
 (let s1 : jSt := jv_a σ 4 (va_cpy (σ.1 16) (σ.1 4) (iI 0).toNatClampNeg (iI 0).toNatClampNeg (iI 6).toNatClampNeg)
 (let s2 : jSt := jv_a s1 5 (va_cpy (s1.1 17) (s1.1 5) (iI 0).toNatClampNeg (iI 0).toNatClampNeg (iI 6).toNatClampNeg)
 (let s3 : jSt := jv_a s2 6 (va_cpy (s2.1 18) (s2.1 6) (iI 0).toNatClampNeg (iI 0).toNatClampNeg (iI 6).toNatClampNeg)
 (let s4 : jSt := jv_a s3 7 (va_cpy (s3.1 19) (s3.1 7) (iI 0).toNatClampNeg (iI 0).toNatClampNeg (iI 5).toNatClampNeg)
 (let s5 : jSt := jv_a s4 8 (va_cpy (s4.1 20) (s4.1 8) (iI 0).toNatClampNeg (iI 0).toNatClampNeg (iI 5).toNatClampNeg)
 (let s6 : jSt := jv_a s5 9 (va_cpy (s5.1 21) (s5.1 9) (iI 0).toNatClampNeg (iI 0).toNatClampNeg (iI 5).toNatClampNeg)
 (let s7 : jSt := jv_a s6 10 (va_cpy (s6.1 22) (s6.1 10) (iI 0).toNatClampNeg (iI 0).toNatClampNeg (iI 5).toNatClampNeg)
 jq_V d 30 [.ref 11, .ref 23] s7 (fun s8 =>
 (let s9 : jSt := jv_u s8 3 8 (s8.1 15 8)
 (let s10 : jSt := jv_u s9 3 9 (s9.1 15 9)
 (let s11 : jSt := jv_u s10 3 10 (s10.1 15 10)
 (let s12 : jSt := jv_u s11 3 11 (s11.1 15 11)
 (let s13 : jSt := jv_u s12 3 12 (s12.1 15 12)
 post none s13)))))))))))))
set_option maxRecDepth 100000 in
set_option maxHeartbeats 4000000 in
theorem ok_X7_copyFrom_r {d : Nat} {post : jPo} {σ : jSt} (h : vc_X7_copyFrom_r d post σ ) : jv_wp (d + 1) post (53, 0, [some (.ref 3), some (.ref 15)], [], σ) := jv_go_ok 82 [] _ _ _ (show ((¬ (iI 0) < 0 ∧ ¬ (iI 0) < 0 ∧ ¬ (iI 6) < 0 ∧ (iI 0).toNatClampNeg + (iI 6).toNatClampNeg ≤ 6 ∧ (iI 0).toNatClampNeg + (iI 6).toNatClampNeg ≤ 6 ∧ (([] : List Value).map fun v => v.category).sum ≤ 8) ∧ (let s1 : jSt := jv_a σ 4 (va_cpy (σ.1 16) (σ.1 4) (iI 0).toNatClampNeg (iI 0).toNatClampNeg (iI 6).toNatClampNeg)
 ((¬ (iI 0) < 0 ∧ ¬ (iI 0) < 0 ∧ ¬ (iI 6) < 0 ∧ (iI 0).toNatClampNeg + (iI 6).toNatClampNeg ≤ 6 ∧ (iI 0).toNatClampNeg + (iI 6).toNatClampNeg ≤ 6 ∧ (([] : List Value).map fun v => v.category).sum ≤ 8) ∧ (let s2 : jSt := jv_a s1 5 (va_cpy (s1.1 17) (s1.1 5) (iI 0).toNatClampNeg (iI 0).toNatClampNeg (iI 6).toNatClampNeg)
 ((¬ (iI 0) < 0 ∧ ¬ (iI 0) < 0 ∧ ¬ (iI 6) < 0 ∧ (iI 0).toNatClampNeg + (iI 6).toNatClampNeg ≤ 6 ∧ (iI 0).toNatClampNeg + (iI 6).toNatClampNeg ≤ 6 ∧ (([] : List Value).map fun v => v.category).sum ≤ 8) ∧ (let s3 : jSt := jv_a s2 6 (va_cpy (s2.1 18) (s2.1 6) (iI 0).toNatClampNeg (iI 0).toNatClampNeg (iI 6).toNatClampNeg)
 ((¬ (iI 0) < 0 ∧ ¬ (iI 0) < 0 ∧ ¬ (iI 5) < 0 ∧ (iI 0).toNatClampNeg + (iI 5).toNatClampNeg ≤ 5 ∧ (iI 0).toNatClampNeg + (iI 5).toNatClampNeg ≤ 5 ∧ (([] : List Value).map fun v => v.category).sum ≤ 8) ∧ (let s4 : jSt := jv_a s3 7 (va_cpy (s3.1 19) (s3.1 7) (iI 0).toNatClampNeg (iI 0).toNatClampNeg (iI 5).toNatClampNeg)
 ((¬ (iI 0) < 0 ∧ ¬ (iI 0) < 0 ∧ ¬ (iI 5) < 0 ∧ (iI 0).toNatClampNeg + (iI 5).toNatClampNeg ≤ 5 ∧ (iI 0).toNatClampNeg + (iI 5).toNatClampNeg ≤ 5 ∧ (([] : List Value).map fun v => v.category).sum ≤ 8) ∧ (let s5 : jSt := jv_a s4 8 (va_cpy (s4.1 20) (s4.1 8) (iI 0).toNatClampNeg (iI 0).toNatClampNeg (iI 5).toNatClampNeg)
 ((¬ (iI 0) < 0 ∧ ¬ (iI 0) < 0 ∧ ¬ (iI 5) < 0 ∧ (iI 0).toNatClampNeg + (iI 5).toNatClampNeg ≤ 5 ∧ (iI 0).toNatClampNeg + (iI 5).toNatClampNeg ≤ 5 ∧ (([] : List Value).map fun v => v.category).sum ≤ 8) ∧ (let s6 : jSt := jv_a s5 9 (va_cpy (s5.1 21) (s5.1 9) (iI 0).toNatClampNeg (iI 0).toNatClampNeg (iI 5).toNatClampNeg)
 ((¬ (iI 0) < 0 ∧ ¬ (iI 0) < 0 ∧ ¬ (iI 5) < 0 ∧ (iI 0).toNatClampNeg + (iI 5).toNatClampNeg ≤ 5 ∧ (iI 0).toNatClampNeg + (iI 5).toNatClampNeg ≤ 5 ∧ (([] : List Value).map fun v => v.category).sum ≤ 8) ∧ (let s7 : jSt := jv_a s6 10 (va_cpy (s6.1 22) (s6.1 10) (iI 0).toNatClampNeg (iI 0).toNatClampNeg (iI 5).toNatClampNeg)
 jq_V d 30 [.ref 11, .ref 23] s7 (fun s8 =>
 (let s9 : jSt := jv_u s8 3 8 (s8.1 15 8)
 (let s10 : jSt := jv_u s9 3 9 (s9.1 15 9)
 (let s11 : jSt := jv_u s10 3 10 (s10.1 15 10)
 (let s12 : jSt := jv_u s11 3 11 (s11.1 15 11)
 (let s13 : jSt := jv_u s12 3 12 (s12.1 15 12)
 post none s13)))))))))))))))))))) from ⟨⟨by decide +kernel, by decide +kernel, by decide +kernel, by decide +kernel, by decide +kernel, Nat.le_of_ble_eq_true rfl⟩, ⟨⟨by decide +kernel, by decide +kernel, by decide +kernel, by decide +kernel, by decide +kernel, Nat.le_of_ble_eq_true rfl⟩, ⟨⟨by decide +kernel, by decide +kernel, by decide +kernel, by decide +kernel, by decide +kernel, Nat.le_of_ble_eq_true rfl⟩, ⟨⟨by decide +kernel, by decide +kernel, by decide +kernel, by decide +kernel, by decide +kernel, Nat.le_of_ble_eq_true rfl⟩, ⟨⟨by decide +kernel, by decide +kernel, by decide +kernel, by decide +kernel, by decide +kernel, Nat.le_of_ble_eq_true rfl⟩, ⟨⟨by decide +kernel, by decide +kernel, by decide +kernel, by decide +kernel, by decide +kernel, Nat.le_of_ble_eq_true rfl⟩, ⟨⟨by decide +kernel, by decide +kernel, by decide +kernel, by decide +kernel, by decide +kernel, Nat.le_of_ble_eq_true rfl⟩, h⟩⟩⟩⟩⟩⟩⟩)
def vc_X5_copyFrom_k (d : Nat) (post : jPo) (σ : jSt)  : Prop :=
 (let s1 : jSt := jv_u σ 23 3 (σ.1 11 3)
 jv_wp (d + 1) post (30, 10, [some (.ref 23), some (.ref 11), some (.int (iI 0))], [], s1))
set_option maxRecDepth 100000 in
set_option maxHeartbeats 4000000 in
theorem ok_X5_copyFrom_k {d : Nat} {post : jPo} {σ : jSt} (h : vc_X5_copyFrom_k d post σ ) : jv_wp (d + 1) post (30, 0, [some (.ref 23), some (.ref 11), none], [], σ) := jv_go_ok 7 [10] _ _ _ h
def vc_X5_copyFrom_k_L10 (d : Nat) (post : jPo) (σ : jSt) (v2 : Int32) : Prop :=
 (((iI 6) ≤ v2 → post none σ) ∧
 (¬ (iI 6) ≤ v2 → (vp_in v2 6 ∧ (vp_in v2 6 ∧ (let s1 : jSt := jv_u σ 24 v2.toNatClampNeg (σ.1 12 v2.toNatClampNeg)
 (vp_in v2 6 ∧ (vp_in v2 6 ∧ (let s2 : jSt := jv_u s1 25 v2.toNatClampNeg (s1.1 13 v2.toNatClampNeg)
 (vp_in v2 6 ∧ (vp_in v2 6 ∧ (((s2.1 14 v2.toNatClampNeg) = 0 ∨ (s2.1 14 v2.toNatClampNeg) = 1) ∧ (let s3 : jSt := jv_u s2 26 v2.toNatClampNeg (s2.1 14 v2.toNatClampNeg)
 (let x4 : Int32 := (v2 + (iI 1))
 jv_wp (d + 1) post (30, 10, [some (.ref 23), some (.ref 11), some (.int x4)], [], s3))))))))))))))
set_option maxRecDepth 100000 in
set_option maxHeartbeats 4000000 in
theorem ok_X5_copyFrom_k_L10 {d : Nat} {post : jPo} {σ : jSt} {v2 : Int32} (h : vc_X5_copyFrom_k_L10 d post σ v2) : jv_wp (d + 1) post (30, 10, [some (.ref 23), some (.ref 11), some (.int v2)], [], σ) := jv_go_ok 30 [10] _ _ _ h
def vc_X5_copyFrom_r (d : Nat) (post : jPo) (σ : jSt)  : Prop :=
 (let s1 : jSt := jv_u σ 11 3 (σ.1 23 3)
 jv_wp (d + 1) post (30, 10, [some (.ref 11), some (.ref 23), some (.int (iI 0))], [], s1))
set_option maxRecDepth 100000 in
set_option maxHeartbeats 4000000 in
theorem ok_X5_copyFrom_r {d : Nat} {post : jPo} {σ : jSt} (h : vc_X5_copyFrom_r d post σ ) : jv_wp (d + 1) post (30, 0, [some (.ref 11), some (.ref 23), none], [], σ) := jv_go_ok 7 [10] _ _ _ h
def vc_X5_copyFrom_r_L10 (d : Nat) (post : jPo) (σ : jSt) (v2 : Int32) : Prop :=
 (((iI 6) ≤ v2 → post none σ) ∧
 (¬ (iI 6) ≤ v2 → (vp_in v2 6 ∧ (vp_in v2 6 ∧ (let s1 : jSt := jv_u σ 12 v2.toNatClampNeg (σ.1 24 v2.toNatClampNeg)
 (vp_in v2 6 ∧ (vp_in v2 6 ∧ (let s2 : jSt := jv_u s1 13 v2.toNatClampNeg (s1.1 25 v2.toNatClampNeg)
 (vp_in v2 6 ∧ (vp_in v2 6 ∧ (((s2.1 26 v2.toNatClampNeg) = 0 ∨ (s2.1 26 v2.toNatClampNeg) = 1) ∧ (let s3 : jSt := jv_u s2 14 v2.toNatClampNeg (s2.1 26 v2.toNatClampNeg)
 (let x4 : Int32 := (v2 + (iI 1))
 jv_wp (d + 1) post (30, 10, [some (.ref 11), some (.ref 23), some (.int x4)], [], s3))))))))))))))
set_option maxRecDepth 100000 in
set_option maxHeartbeats 4000000 in
theorem ok_X5_copyFrom_r_L10 {d : Nat} {post : jPo} {σ : jSt} {v2 : Int32} (h : vc_X5_copyFrom_r_L10 d post σ v2) : jv_wp (d + 1) post (30, 10, [some (.ref 11), some (.ref 23), some (.int v2)], [], σ) := jv_go_ok 30 [10] _ _ _ h
def vc_J0_indexOf (d : Nat) (post : jPo) (σ : jSt) (v1 : Int32) : Prop :=
 jq_I d 145 [.ref 58, .int v1, .int (iI 0)] σ (fun x2 s1 =>
 post (some (.int x2)) s1)
set_option maxRecDepth 100000 in
set_option maxHeartbeats 4000000 in
theorem ok_J0_indexOf {d : Nat} {post : jPo} {σ : jSt} {v1 : Int32} (h : vc_J0_indexOf d post σ v1) : jv_wp (d + 1) post (144, 0, [some (.ref 58), some (.int v1)], [], σ) := jv_go_ok 5 [] _ _ _ h
def vc_J0_indexOf2 (d : Nat) (post : jPo) (σ : jSt) (v1 : Int32) (v2 : Int32) : Prop :=
 jq_I d 146 [.ref 58] σ (fun x2 s1 =>
 ((x2 = 0 → jq_I d 147 [.ref 58] s1 (fun x4 s3 =>
 False)) ∧
 (¬ x2 = 0 → jq_I d 147 [.ref 58] s1 (fun x6 s5 =>
 jq_I d 149 [.ref 59, .int v1, .int v2, .int x6] s5 (fun x8 s7 =>
 post (some (.int x8)) s7)))))
set_option maxRecDepth 100000 in
set_option maxHeartbeats 4000000 in
theorem ok_J0_indexOf2 {d : Nat} {post : jPo} {σ : jSt} {v1 : Int32} {v2 : Int32} (h : vc_J0_indexOf2 d post σ v1 v2) : jv_wp (d + 1) post (145, 0, [some (.ref 58), some (.int v1), some (.int v2)], [], σ) := jv_go_ok 12 [] _ _ _ h
def vc_J0_isLatin1 (d : Nat) (post : jPo) (σ : jSt)  : Prop :=
 post (some (.int (iI 1))) σ
set_option maxRecDepth 100000 in
set_option maxHeartbeats 4000000 in
theorem ok_J0_isLatin1 {d : Nat} {post : jPo} {σ : jSt} (h : vc_J0_isLatin1 d post σ ) : jv_wp (d + 1) post (146, 0, [some (.ref 58)], [], σ) := jv_go_ok 8 [] _ _ _ (show ((1 = 0 → (((iI 0) = 0 ∨ (iI 0) = 1) ∧ post (some (.int (iI 0))) σ)) ∧
 (¬ 1 = 0 → ((¬ 0 = 0 → (((iI 0) = 0 ∨ (iI 0) = 1) ∧ post (some (.int (iI 0))) σ)) ∧
 (0 = 0 → (((iI 1) = 0 ∨ (iI 1) = 1) ∧ post (some (.int (iI 1))) σ))))) from ⟨fun q => absurd q (by decide +kernel), fun _ => ⟨fun q => absurd q (by decide +kernel), fun _ => ⟨by decide +kernel, h⟩⟩⟩)
def vc_J0_length (d : Nat) (post : jPo) (σ : jSt)  : Prop :=
 jq_I d 148 [.ref 58] σ (fun x2 s1 =>
 post (some (.int ((Int32.ofNat 5) >>> (x2 &&& 31)))) s1)
set_option maxRecDepth 100000 in
set_option maxHeartbeats 4000000 in
theorem ok_J0_length {d : Nat} {post : jPo} {σ : jSt} (h : vc_J0_length d post σ ) : jv_wp (d + 1) post (147, 0, [some (.ref 58)], [], σ) := jv_go_ok 7 [] _ _ _ h
def vc_J0_coder (d : Nat) (post : jPo) (σ : jSt)  : Prop :=
 post (some (.int 0)) σ
set_option maxRecDepth 100000 in
set_option maxHeartbeats 4000000 in
theorem ok_J0_coder {d : Nat} {post : jPo} {σ : jSt} (h : vc_J0_coder d post σ ) : jv_wp (d + 1) post (148, 0, [some (.ref 58)], [], σ) := jv_go_ok 6 [] _ _ _ (show ((1 = 0 → ((iI 1) = 0 ∧ post (some (.int (iI 1))) σ)) ∧
 (¬ 1 = 0 → (0 = 0 ∧ post (some (.int 0)) σ))) from ⟨fun q => absurd q (by decide +kernel), fun _ => ⟨by decide +kernel, h⟩⟩)
def vc_J1_indexOf (d : Nat) (post : jPo) (σ : jSt) (v1 : Int32) (v2 : Int32) (v3 : Int32) : Prop :=
 jq_I d 151 [.int v1] σ (fun x2 s1 =>
 ((¬ x2 = 0 → (let x3 : Int32 := (if v2 < (iI 0) then (iI 0) else v2)
 (let x4 : Int32 := (if (Int32.ofNat 5) < v3 then (Int32.ofNat 5) else v3)
 ((x3 < x4 → jq_I d 150 [.ref 59, .int v1, .int x3, .int x4] s1 (fun x6 s5 =>
 post (some (.int x6)) s5)) ∧
 (¬ x3 < x4 → post (some (.int (iI (-1)))) s1))))) ∧
 (x2 = 0 → post (some (.int (iI (-1)))) s1)))
set_option maxRecDepth 100000 in
set_option maxHeartbeats 4000000 in
theorem ok_J1_indexOf {d : Nat} {post : jPo} {σ : jSt} {v1 : Int32} {v2 : Int32} {v3 : Int32} (h : vc_J1_indexOf d post σ v1 v2 v3) : jv_wp (d + 1) post (149, 0, [some (.ref 59), some (.int v1), some (.int v2), some (.int v3)], [], σ) := jv_go_ok 21 [] _ _ _ (show jq_I d 151 [.int v1] σ (fun x2 s1 =>
 ((¬ x2 = 0 → ((([] : List Value).map fun v => v.category).sum ≤ 8 ∧ (let x3 : Int32 := (if v2 < (iI 0) then (iI 0) else v2)
 ((([] : List Value).map fun v => v.category).sum ≤ 8 ∧ (let x4 : Int32 := (if (Int32.ofNat 5) < v3 then (Int32.ofNat 5) else v3)
 ((x3 < x4 → jq_I d 150 [.ref 59, .int v1, .int x3, .int x4] s1 (fun x6 s5 =>
 post (some (.int x6)) s5)) ∧
 (¬ x3 < x4 → post (some (.int (iI (-1)))) s1))))))) ∧
 (x2 = 0 → post (some (.int (iI (-1)))) s1))) from jq_I_con (h) (fun x2 s1 h373 => ⟨fun c374 => ⟨Nat.le_of_ble_eq_true rfl, ⟨Nat.le_of_ble_eq_true rfl, ((h373).1 c374)⟩⟩, fun c374 => ((h373).2 c374)⟩))
def vc_J1_indexOfChar (d : Nat) (post : jPo) (σ : jSt) (v1 : Int32) (v2 : Int32) (v3 : Int32) : Prop :=
 (let x1 : Int32 := (v1).toInt8.toInt32
 jv_wp (d + 1) post (150, 7, [some (.ref 59), some (.int v1), some (.int v2), some (.int v3), some (.int x1), some (.int v2)], [], σ))
set_option maxRecDepth 100000 in
set_option maxHeartbeats 4000000 in
theorem ok_J1_indexOfChar {d : Nat} {post : jPo} {σ : jSt} {v1 : Int32} {v2 : Int32} {v3 : Int32} (h : vc_J1_indexOfChar d post σ v1 v2 v3) : jv_wp (d + 1) post (150, 0, [some (.ref 59), some (.int v1), some (.int v2), some (.int v3), none, none], [], σ) := jv_go_ok 6 [7] _ _ _ h
def vc_J1_indexOfChar_L7 (d : Nat) (post : jPo) (σ : jSt) (v1 : Int32) (v2 : Int32) (v3 : Int32) (v4 : Int32) (v5 : Int32) : Prop :=
 ((v3 ≤ v5 → post (some (.int (iI (-1)))) σ) ∧
 (¬ v3 ≤ v5 → (vp_in v5 5 ∧ ((¬ (jv_byt v5.toNatClampNeg) = v4 → (let x1 : Int32 := (v5 + (iI 1))
 jv_wp (d + 1) post (150, 7, [some (.ref 59), some (.int v1), some (.int v2), some (.int v3), some (.int v4), some (.int x1)], [], σ))) ∧
 ((jv_byt v5.toNatClampNeg) = v4 → post (some (.int v5)) σ)))))
set_option maxRecDepth 100000 in
set_option maxHeartbeats 4000000 in
theorem ok_J1_indexOfChar_L7 {d : Nat} {post : jPo} {σ : jSt} {v1 : Int32} {v2 : Int32} {v3 : Int32} {v4 : Int32} {v5 : Int32} (h : vc_J1_indexOfChar_L7 d post σ v1 v2 v3 v4 v5) : jv_wp (d + 1) post (150, 7, [some (.ref 59), some (.int v1), some (.int v2), some (.int v3), some (.int v4), some (.int v5)], [], σ) := jv_go_ok 11 [7] _ _ _ h
def vc_J1_canEncode (d : Nat) (post : jPo) (σ : jSt) (v0 : Int32) : Prop :=
 ((v0 < 0 → post (some (.int (iI 0))) σ) ∧
 (¬ v0 < 0 → (((iI 255) < v0 → post (some (.int (iI 0))) σ) ∧
 (¬ (iI 255) < v0 → post (some (.int (iI 1))) σ))))
set_option maxRecDepth 100000 in
set_option maxHeartbeats 4000000 in
theorem ok_J1_canEncode {d : Nat} {post : jPo} {σ : jSt} {v0 : Int32} (h : vc_J1_canEncode d post σ v0) : jv_wp (d + 1) post (151, 0, [some (.int v0)], [], σ) := jv_go_ok 8 [] _ _ _ (show ((v0 < 0 → (((iI 0) = 0 ∨ (iI 0) = 1) ∧ post (some (.int (iI 0))) σ)) ∧
 (¬ v0 < 0 → (((iI 255) < v0 → (((iI 0) = 0 ∨ (iI 0) = 1) ∧ post (some (.int (iI 0))) σ)) ∧
 (¬ (iI 255) < v0 → (((iI 1) = 0 ∨ (iI 1) = 1) ∧ post (some (.int (iI 1))) σ))))) from ⟨fun c380 => ⟨by decide +kernel, ((h).1 c380)⟩, fun c380 => ⟨fun c383 => ⟨by decide +kernel, ((((h).2 c380)).1 c383)⟩, fun c383 => ⟨by decide +kernel, ((((h).2 c380)).2 c383)⟩⟩⟩)

