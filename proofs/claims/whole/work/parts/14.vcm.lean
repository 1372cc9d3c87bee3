/-! formulas of the reference's methods and of the law (printed) -/
def vc_X9_in (d : Nat) (post : jPo) (σ : jSt) (w0 : Int64) (w2 : Int64) (w4 : Int64) : Prop :=
 (((lg_cmp w0 w2) < 0 → post (some (.int (iI 0))) σ) ∧
 (¬ (lg_cmp w0 w2) < 0 → ((0 < (lg_cmp w0 w4) → post (some (.int (iI 0))) σ) ∧
 (¬ 0 < (lg_cmp w0 w4) → post (some (.int (iI 1))) σ))))
set_option maxRecDepth 100000 in
set_option maxHeartbeats 4000000 in
theorem ok_X9_in {d : Nat} {post : jPo} {σ : jSt} {w0 : Int64} {w2 : Int64} {w4 : Int64} (h : vc_X9_in d post σ w0 w2 w4) : jv_wp (d + 1) post (78, 0, [some (.long w0), none, some (.long w2), none, some (.long w4), none], [], σ) := jv_go_ok 11 [] _ _ _ (show (((lg_cmp w0 w2) < 0 → (((iI 0) = 0 ∨ (iI 0) = 1) ∧ post (some (.int (iI 0))) σ)) ∧
 (¬ (lg_cmp w0 w2) < 0 → ((0 < (lg_cmp w0 w4) → (((iI 0) = 0 ∨ (iI 0) = 1) ∧ post (some (.int (iI 0))) σ)) ∧
 (¬ 0 < (lg_cmp w0 w4) → (((iI 1) = 0 ∨ (iI 1) = 1) ∧ post (some (.int (iI 1))) σ))))) from ⟨fun c1 => ⟨by decide +kernel, ((h).1 c1)⟩, fun c1 => ⟨fun c4 => ⟨by decide +kernel, ((((h).2 c1)).1 c4)⟩, fun c4 => ⟨by decide +kernel, ((((h).2 c1)).2 c4)⟩⟩⟩)
def vc_X9_letter (d : Nat) (post : jPo) (σ : jSt) (v1 : Int32) : Prop :=
 jq_I d 78 [.long (v1).toInt64, .long (Int64.ofNat 1), .long (Int64.ofNat 126)] σ (fun x2 s1 =>
 ((¬ x2 = 0 → ((¬ (s1.1 34 1) = (iI 44) → (vp_in (s1.1 34 1) 44 ∧ (let s3 : jSt := jv_u s1 35 (s1.1 34 1).toNatClampNeg v1
 (let s4 : jSt := jv_u s3 34 1 ((s3.1 34 1) + (iI 1))
 post (some (.int (s4.1 34 1))) s4)))) ∧
 ((s1.1 34 1) = (iI 44) → post (some (.int (iI (-104)))) s1))) ∧
 (x2 = 0 → post (some (.int (iI (-102)))) s1)))
set_option maxRecDepth 100000 in
set_option maxHeartbeats 4000000 in
theorem ok_X9_letter {d : Nat} {post : jPo} {σ : jSt} {v1 : Int32} (h : vc_X9_letter d post σ v1) : jv_wp (d + 1) post (80, 0, [some (.ref 34), some (.int v1)], [], σ) := jv_go_ok 25 [] _ _ _ h
def vc_X9_blank (d : Nat) (post : jPo) (σ : jSt)  : Prop :=
 (let x1 : Int32 := (σ.1 34 1)
 (let s2 : jSt := jv_u σ 34 1 (iI 0)
 post (some (.int x1)) s2))
set_option maxRecDepth 100000 in
set_option maxHeartbeats 4000000 in
theorem ok_X9_blank {d : Nat} {post : jPo} {σ : jSt} (h : vc_X9_blank d post σ ) : jv_wp (d + 1) post (81, 0, [some (.ref 34), none], [], σ) := jv_go_ok 8 [] _ _ _ h
def vc_X9_kindBy (d : Nat) (post : jPo) (σ : jSt) (v0 : Int32) : Prop :=
 ((v0 = (iI 100) → post (some (.int (iI 3))) σ) ∧
 (¬ v0 = (iI 100) → ((v0 = (iI 102) → post (some (.int (iI 4))) σ) ∧
 (¬ v0 = (iI 102) → ((v0 = (iI 109) → post (some (.int (iI 1))) σ) ∧
 (¬ v0 = (iI 109) → ((v0 = (iI 112) → post (some (.int (iI 0))) σ) ∧
 (¬ v0 = (iI 112) → ((v0 = (iI 116) → post (some (.int (iI 2))) σ) ∧
 (¬ v0 = (iI 116) → post (some (.int (iI (-1)))) σ))))))))))
set_option maxRecDepth 100000 in
set_option maxHeartbeats 4000000 in
theorem ok_X9_kindBy {d : Nat} {post : jPo} {σ : jSt} {v0 : Int32} (h : vc_X9_kindBy d post σ v0) : jv_wp (d + 1) post (82, 0, [some (.int v0)], [], σ) := jv_go_ok 4 [] _ _ _ h
def vc_X9_isPersonLetter (d : Nat) (post : jPo) (σ : jSt) (v1 : Int32) : Prop :=
 (vp_in v1 44 ∧ (let x1 : Int32 := (σ.1 35 v1.toNatClampNeg)
 (((v1 - v1 / (iI 4) * (iI 4)) = (iI 0) → jq_I d 82 [.int x1] σ (fun x3 s2 =>
 ((x3 = (iI (-1)) → post (some (.int (iI 0))) s2) ∧
 (¬ x3 = (iI (-1)) → post (some (.int (iI 1))) s2)))) ∧
 (¬ (v1 - v1 / (iI 4) * (iI 4)) = (iI 0) → (((v1 - v1 / (iI 4) * (iI 4)) = (iI 1) → ((x1 = (iI 108) → post (some (.int (iI 1))) σ) ∧
 (¬ x1 = (iI 108) → ((¬ x1 = (iI 114) → post (some (.int (iI 0))) σ) ∧
 (x1 = (iI 114) → post (some (.int (iI 1))) σ))))) ∧
 (¬ (v1 - v1 / (iI 4) * (iI 4)) = (iI 1) → (((v1 - v1 / (iI 4) * (iI 4)) = (iI 2) → jq_I d 78 [.long (x1).toInt64, .long (Int64.ofNat 48), .long (Int64.ofNat 57)] σ (fun x5 s4 =>
 ((x5 = 0 ∨ x5 = 1) ∧ post (some (.int x5)) s4))) ∧
 (¬ (v1 - v1 / (iI 4) * (iI 4)) = (iI 2) → ((¬ x1 = (iI 59) → ((¬ x1 = (iI 44) → post (some (.int (iI 0))) σ) ∧
 (x1 = (iI 44) → (((iI 23) ≤ v1 → post (some (.int (iI 0))) σ) ∧
 (¬ (iI 23) ≤ v1 → post (some (.int (iI 1))) σ))))) ∧
 (x1 = (iI 59) → ((v1 ≤ (iI 3) → ((¬ x1 = (iI 44) → post (some (.int (iI 0))) σ) ∧
 (x1 = (iI 44) → (((iI 23) ≤ v1 → post (some (.int (iI 0))) σ) ∧
 (¬ (iI 23) ≤ v1 → post (some (.int (iI 1))) σ))))) ∧
 (¬ v1 ≤ (iI 3) → (let s6 : jSt := jv_u σ 34 2 v1
 post (some (.int (iI 1))) s6)))))))))))))
set_option maxRecDepth 100000 in
set_option maxHeartbeats 4000000 in
theorem ok_X9_isPersonLetter {d : Nat} {post : jPo} {σ : jSt} {v1 : Int32} (h : vc_X9_isPersonLetter d post σ v1) : jv_wp (d + 1) post (83, 0, [some (.ref 34), some (.int v1), none], [], σ) := jv_go_ok 24 [] _ _ _ (show (vp_in v1 44 ∧ (let x1 : Int32 := (σ.1 35 v1.toNatClampNeg)
 (¬ (iI 4) = 0 ∧ (((v1 - v1 / (iI 4) * (iI 4)) = (iI 0) → jq_I d 82 [.int x1] σ (fun x3 s2 =>
 ((x3 = (iI (-1)) → (((iI 0) = 0 ∨ (iI 0) = 1) ∧ post (some (.int (iI 0))) s2)) ∧
 (¬ x3 = (iI (-1)) → (((iI 1) = 0 ∨ (iI 1) = 1) ∧ post (some (.int (iI 1))) s2))))) ∧
 (¬ (v1 - v1 / (iI 4) * (iI 4)) = (iI 0) → (((v1 - v1 / (iI 4) * (iI 4)) = (iI 1) → ((x1 = (iI 108) → (((iI 1) = 0 ∨ (iI 1) = 1) ∧ post (some (.int (iI 1))) σ)) ∧
 (¬ x1 = (iI 108) → ((¬ x1 = (iI 114) → (((iI 0) = 0 ∨ (iI 0) = 1) ∧ post (some (.int (iI 0))) σ)) ∧
 (x1 = (iI 114) → (((iI 1) = 0 ∨ (iI 1) = 1) ∧ post (some (.int (iI 1))) σ)))))) ∧
 (¬ (v1 - v1 / (iI 4) * (iI 4)) = (iI 1) → (((v1 - v1 / (iI 4) * (iI 4)) = (iI 2) → jq_I d 78 [.long (x1).toInt64, .long (Int64.ofNat 48), .long (Int64.ofNat 57)] σ (fun x5 s4 =>
 ((x5 = 0 ∨ x5 = 1) ∧ post (some (.int x5)) s4))) ∧
 (¬ (v1 - v1 / (iI 4) * (iI 4)) = (iI 2) → ((¬ x1 = (iI 59) → ((¬ x1 = (iI 44) → (((iI 0) = 0 ∨ (iI 0) = 1) ∧ post (some (.int (iI 0))) σ)) ∧
 (x1 = (iI 44) → (((iI 23) ≤ v1 → (((iI 0) = 0 ∨ (iI 0) = 1) ∧ post (some (.int (iI 0))) σ)) ∧
 (¬ (iI 23) ≤ v1 → (((iI 1) = 0 ∨ (iI 1) = 1) ∧ post (some (.int (iI 1))) σ)))))) ∧
 (x1 = (iI 59) → ((v1 ≤ (iI 3) → ((¬ x1 = (iI 44) → (((iI 0) = 0 ∨ (iI 0) = 1) ∧ post (some (.int (iI 0))) σ)) ∧
 (x1 = (iI 44) → (((iI 23) ≤ v1 → (((iI 0) = 0 ∨ (iI 0) = 1) ∧ post (some (.int (iI 0))) σ)) ∧
 (¬ (iI 23) ≤ v1 → (((iI 1) = 0 ∨ (iI 1) = 1) ∧ post (some (.int (iI 1))) σ)))))) ∧
 (¬ v1 ≤ (iI 3) → (let s6 : jSt := jv_u σ 34 2 v1
 (((iI 1) = 0 ∨ (iI 1) = 1) ∧ post (some (.int (iI 1))) s6))))))))))))))) from ⟨(h).1, ⟨by decide +kernel, ⟨fun c12 => jq_I_con ((((h).2).1 c12)) (fun x3 s2 h13 => ⟨fun c14 => ⟨by decide +kernel, ((h13).1 c14)⟩, fun c14 => ⟨by decide +kernel, ((h13).2 c14)⟩⟩), fun c12 => ⟨fun c19 => ⟨fun c20 => ⟨by decide +kernel, (((((((h).2).2 c12)).1 c19)).1 c20)⟩, fun c20 => ⟨fun c23 => ⟨by decide +kernel, (((((((((h).2).2 c12)).1 c19)).2 c20)).1 c23)⟩, fun c23 => ⟨by decide +kernel, (((((((((h).2).2 c12)).1 c19)).2 c20)).2 c23)⟩⟩⟩, fun c19 => ⟨fun c28 => (((((((h).2).2 c12)).2 c19)).1 c28), fun c28 => ⟨fun c30 => ⟨fun c31 => ⟨by decide +kernel, (((((((((((h).2).2 c12)).2 c19)).2 c28)).1 c30)).1 c31)⟩, fun c31 => ⟨fun c34 => ⟨by decide +kernel, (((((((((((((h).2).2 c12)).2 c19)).2 c28)).1 c30)).2 c31)).1 c34)⟩, fun c34 => ⟨by decide +kernel, (((((((((((((h).2).2 c12)).2 c19)).2 c28)).1 c30)).2 c31)).2 c34)⟩⟩⟩, fun c30 => ⟨fun c39 => ⟨fun c40 => ⟨by decide +kernel, (((((((((((((h).2).2 c12)).2 c19)).2 c28)).2 c30)).1 c39)).1 c40)⟩, fun c40 => ⟨fun c43 => ⟨by decide +kernel, (((((((((((((((h).2).2 c12)).2 c19)).2 c28)).2 c30)).1 c39)).2 c40)).1 c43)⟩, fun c43 => ⟨by decide +kernel, (((((((((((((((h).2).2 c12)).2 c19)).2 c28)).2 c30)).1 c39)).2 c40)).2 c43)⟩⟩⟩, fun c39 => ⟨by decide +kernel, (((((((((((h).2).2 c12)).2 c19)).2 c28)).2 c30)).2 c39)⟩⟩⟩⟩⟩⟩⟩⟩)
def vc_X9_isPersonDigit (d : Nat) (post : jPo) (σ : jSt) (v1 : Int32) : Prop :=
 jq_I d 78 [.long (v1).toInt64, .long (Int64.ofNat 48), .long ((((iI 48) + (((σ.1 34 2) + (iI 1)) / (iI 4))) - (iI 1))).toInt64] σ (fun x2 s1 =>
 ((x2 = 0 ∨ x2 = 1) ∧ post (some (.int x2)) s1))
set_option maxRecDepth 100000 in
set_option maxHeartbeats 4000000 in
theorem ok_X9_isPersonDigit {d : Nat} {post : jPo} {σ : jSt} {v1 : Int32} (h : vc_X9_isPersonDigit d post σ v1) : jv_wp (d + 1) post (84, 0, [some (.ref 34), some (.int v1)], [], σ) := jv_go_ok 16 [] _ _ _ (show (¬ (iI 4) = 0 ∧ jq_I d 78 [.long (v1).toInt64, .long (Int64.ofNat 48), .long ((((iI 48) + (((σ.1 34 2) + (iI 1)) / (iI 4))) - (iI 1))).toInt64] σ (fun x2 s1 =>
 ((x2 = 0 ∨ x2 = 1) ∧ post (some (.int x2)) s1))) from ⟨by decide +kernel, h⟩)
def vc_X9_isMatterLetter (d : Nat) (post : jPo) (σ : jSt) (v1 : Int32) : Prop :=
 (vp_in v1 44 ∧ (let x1 : Int32 := (σ.1 35 v1.toNatClampNeg)
 (let x2 : Int32 := ((v1 - (σ.1 34 2)) - (iI 1))
 (((x2 - x2 / (iI 4) * (iI 4)) = (iI 0) → jq_I d 84 [.ref 34, .int x1] σ (fun x4 s3 =>
 ((x4 = 0 ∨ x4 = 1) ∧ post (some (.int x4)) s3))) ∧
 (¬ (x2 - x2 / (iI 4) * (iI 4)) = (iI 0) → (((x2 - x2 / (iI 4) * (iI 4)) = (iI 1) → jq_I d 84 [.ref 34, .int x1] σ (fun x6 s5 =>
 ((x6 = 0 → post (some (.int (iI 0))) s5) ∧
 (¬ x6 = 0 → (vp_in (v1 - (iI 1)) 44 ∧ ((x1 = (s5.1 35 (v1 - (iI 1)).toNatClampNeg) → post (some (.int (iI 0))) s5) ∧
 (¬ x1 = (s5.1 35 (v1 - (iI 1)).toNatClampNeg) → post (some (.int (iI 1))) s5))))))) ∧
 (¬ (x2 - x2 / (iI 4) * (iI 4)) = (iI 1) → (((x2 - x2 / (iI 4) * (iI 4)) = (iI 2) → jq_I d 78 [.long (x1).toInt64, .long (Int64.ofNat 49), .long (Int64.ofNat 57)] σ (fun x8 s7 =>
 ((x8 = 0 ∨ x8 = 1) ∧ post (some (.int x8)) s7))) ∧
 (¬ (x2 - x2 / (iI 4) * (iI 4)) = (iI 2) → ((¬ x1 = (iI 44) → post (some (.int (iI 0))) σ) ∧
 (x1 = (iI 44) → (((iI 19) ≤ x2 → post (some (.int (iI 0))) σ) ∧
 (¬ (iI 19) ≤ x2 → post (some (.int (iI 1))) σ)))))))))))))
set_option maxRecDepth 100000 in
set_option maxHeartbeats 4000000 in
theorem ok_X9_isMatterLetter {d : Nat} {post : jPo} {σ : jSt} {v1 : Int32} (h : vc_X9_isMatterLetter d post σ v1) : jv_wp (d + 1) post (85, 0, [some (.ref 34), some (.int v1), none, none], [], σ) := jv_go_ok 31 [] _ _ _ (show (vp_in v1 44 ∧ (let x1 : Int32 := (σ.1 35 v1.toNatClampNeg)
 (let x2 : Int32 := ((v1 - (σ.1 34 2)) - (iI 1))
 (¬ (iI 4) = 0 ∧ (((x2 - x2 / (iI 4) * (iI 4)) = (iI 0) → jq_I d 84 [.ref 34, .int x1] σ (fun x4 s3 =>
 ((x4 = 0 ∨ x4 = 1) ∧ post (some (.int x4)) s3))) ∧
 (¬ (x2 - x2 / (iI 4) * (iI 4)) = (iI 0) → (((x2 - x2 / (iI 4) * (iI 4)) = (iI 1) → jq_I d 84 [.ref 34, .int x1] σ (fun x6 s5 =>
 ((x6 = 0 → (((iI 0) = 0 ∨ (iI 0) = 1) ∧ post (some (.int (iI 0))) s5)) ∧
 (¬ x6 = 0 → (vp_in (v1 - (iI 1)) 44 ∧ ((x1 = (s5.1 35 (v1 - (iI 1)).toNatClampNeg) → (((iI 0) = 0 ∨ (iI 0) = 1) ∧ post (some (.int (iI 0))) s5)) ∧
 (¬ x1 = (s5.1 35 (v1 - (iI 1)).toNatClampNeg) → (((iI 1) = 0 ∨ (iI 1) = 1) ∧ post (some (.int (iI 1))) s5)))))))) ∧
 (¬ (x2 - x2 / (iI 4) * (iI 4)) = (iI 1) → (((x2 - x2 / (iI 4) * (iI 4)) = (iI 2) → jq_I d 78 [.long (x1).toInt64, .long (Int64.ofNat 49), .long (Int64.ofNat 57)] σ (fun x8 s7 =>
 ((x8 = 0 ∨ x8 = 1) ∧ post (some (.int x8)) s7))) ∧
 (¬ (x2 - x2 / (iI 4) * (iI 4)) = (iI 2) → ((¬ x1 = (iI 44) → (((iI 0) = 0 ∨ (iI 0) = 1) ∧ post (some (.int (iI 0))) σ)) ∧
 (x1 = (iI 44) → (((iI 19) ≤ x2 → (((iI 0) = 0 ∨ (iI 0) = 1) ∧ post (some (.int (iI 0))) σ)) ∧
 (¬ (iI 19) ≤ x2 → (((iI 1) = 0 ∨ (iI 1) = 1) ∧ post (some (.int (iI 1))) σ))))))))))))))) from ⟨(h).1, ⟨by decide +kernel, ⟨fun c57 => (((h).2).1 c57), fun c57 => ⟨fun c59 => jq_I_con ((((((h).2).2 c57)).1 c59)) (fun x6 s5 h60 => ⟨fun c61 => ⟨by decide +kernel, ((h60).1 c61)⟩, fun c61 => ⟨(((h60).2 c61)).1, ⟨fun c65 => ⟨by decide +kernel, (((((h60).2 c61)).2).1 c65)⟩, fun c65 => ⟨by decide +kernel, (((((h60).2 c61)).2).2 c65)⟩⟩⟩⟩), fun c59 => ⟨fun c70 => (((((((h).2).2 c57)).2 c59)).1 c70), fun c70 => ⟨fun c72 => ⟨by decide +kernel, (((((((((h).2).2 c57)).2 c59)).2 c70)).1 c72)⟩, fun c72 => ⟨fun c75 => ⟨by decide +kernel, (((((((((((h).2).2 c57)).2 c59)).2 c70)).2 c72)).1 c75)⟩, fun c75 => ⟨by decide +kernel, (((((((((((h).2).2 c57)).2 c59)).2 c70)).2 c72)).2 c75)⟩⟩⟩⟩⟩⟩⟩⟩)
def vc_X9_faultOf (d : Nat) (post : jPo) (σ : jSt)  : Prop :=
 (let s1 : jSt := jv_u σ 34 2 (iI 0)
 jv_wp (d + 1) post (86, 7, [some (.ref 34), some (.int (iI 0))], [], s1))
set_option maxRecDepth 100000 in
set_option maxHeartbeats 4000000 in
theorem ok_X9_faultOf {d : Nat} {post : jPo} {σ : jSt} (h : vc_X9_faultOf d post σ ) : jv_wp (d + 1) post (86, 0, [some (.ref 34), none], [], σ) := jv_go_ok 6 [7] _ _ _ h
def vc_X9_faultOf_L7 (d : Nat) (post : jPo) (σ : jSt) (v1 : Int32) : Prop :=
 (((σ.1 34 1) ≤ v1 → post (some (.int v1)) σ) ∧
 (¬ (σ.1 34 1) ≤ v1 → ((¬ (σ.1 34 2) = 0 → jq_I d 85 [.ref 34, .int v1] σ (fun x2 s1 =>
 ((x2 = 0 → post (some (.int v1)) s1) ∧
 (¬ x2 = 0 → (let x3 : Int32 := (v1 + (iI 1))
 jv_wp (d + 1) post (86, 7, [some (.ref 34), some (.int x3)], [], s1)))))) ∧
 ((σ.1 34 2) = 0 → jq_I d 83 [.ref 34, .int v1] σ (fun x5 s4 =>
 ((x5 = 0 → post (some (.int v1)) s4) ∧
 (¬ x5 = 0 → (let x6 : Int32 := (v1 + (iI 1))
 jv_wp (d + 1) post (86, 7, [some (.ref 34), some (.int x6)], [], s4)))))))))
set_option maxRecDepth 100000 in
set_option maxHeartbeats 4000000 in
theorem ok_X9_faultOf_L7 {d : Nat} {post : jPo} {σ : jSt} {v1 : Int32} (h : vc_X9_faultOf_L7 d post σ v1) : jv_wp (d + 1) post (86, 7, [some (.ref 34), some (.int v1)], [], σ) := jv_go_ok 15 [7] _ _ _ h
def vc_X9_fault (d : Nat) (post : jPo) (σ : jSt)  : Prop :=
 jq_I d 86 [.ref 34] σ (fun x2 s1 =>
 post (some (.int x2)) s1)
set_option maxRecDepth 100000 in
set_option maxHeartbeats 4000000 in
theorem ok_X9_fault {d : Nat} {post : jPo} {σ : jSt} (h : vc_X9_fault d post σ ) : jv_wp (d + 1) post (87, 0, [some (.ref 34)], [], σ) := jv_go_ok 3 [] _ _ _ h
def vc_X9_river (d : Nat) (post : jPo) (σ : jSt)  : Prop :=
 jq_I d 86 [.ref 34] σ (fun x2 s1 =>
 ((x2 < (s1.1 34 1) → post (some (.int (iI (-103)))) s1) ∧
 (¬ x2 < (s1.1 34 1) → (((s1.1 34 2) = 0 → post (some (.int (iI (-103)))) s1) ∧
 (¬ (s1.1 34 2) = 0 → (((((s1.1 34 1) - (s1.1 34 2)) - ((s1.1 34 1) - (s1.1 34 2)) / (iI 4) * (iI 4)) = 0 → (let s3 : jSt := jv_u s1 34 3 (((s1.1 34 2) + (iI 1)) / (iI 4))
 (let s4 : jSt := jv_u s3 34 4 (((s3.1 34 1) - (s3.1 34 2)) / (iI 4))
 jv_wp (d + 1) post (88, 64, [some (.ref 34), some (.int (iI 0)), none], [], s4)))) ∧
 (¬ (((s1.1 34 1) - (s1.1 34 2)) - ((s1.1 34 1) - (s1.1 34 2)) / (iI 4) * (iI 4)) = 0 → post (some (.int (iI (-103)))) s1)))))))
set_option maxRecDepth 100000 in
set_option maxHeartbeats 4000000 in
theorem ok_X9_river {d : Nat} {post : jPo} {σ : jSt} (h : vc_X9_river d post σ ) : jv_wp (d + 1) post (88, 0, [some (.ref 34), none, none], [], σ) := jv_go_ok 36 [64, 154] _ _ _ (show jq_I d 86 [.ref 34] σ (fun x2 s1 =>
 ((x2 < (s1.1 34 1) → post (some (.int (iI (-103)))) s1) ∧
 (¬ x2 < (s1.1 34 1) → (((s1.1 34 2) = 0 → post (some (.int (iI (-103)))) s1) ∧
 (¬ (s1.1 34 2) = 0 → (¬ (iI 4) = 0 ∧ (((((s1.1 34 1) - (s1.1 34 2)) - ((s1.1 34 1) - (s1.1 34 2)) / (iI 4) * (iI 4)) = 0 → (¬ (iI 4) = 0 ∧ (let s3 : jSt := jv_u s1 34 3 (((s1.1 34 2) + (iI 1)) / (iI 4))
 (¬ (iI 4) = 0 ∧ (let s4 : jSt := jv_u s3 34 4 (((s3.1 34 1) - (s3.1 34 2)) / (iI 4))
 jv_wp (d + 1) post (88, 64, [some (.ref 34), some (.int (iI 0)), none], [], s4)))))) ∧
 (¬ (((s1.1 34 1) - (s1.1 34 2)) - ((s1.1 34 1) - (s1.1 34 2)) / (iI 4) * (iI 4)) = 0 → post (some (.int (iI (-103)))) s1)))))))) from jq_I_con (h) (fun x2 s1 h80 => ⟨fun c81 => ((h80).1 c81), fun c81 => ⟨fun c83 => ((((h80).2 c81)).1 c83), fun c83 => ⟨by decide +kernel, ⟨fun c86 => ⟨by decide +kernel, ⟨by decide +kernel, ((((((h80).2 c81)).2 c83)).1 c86)⟩⟩, fun c86 => ((((((h80).2 c81)).2 c83)).2 c86)⟩⟩⟩⟩))
def vc_X9_river_L64 (d : Nat) (post : jPo) (σ : jSt) (v1 : Int32) : Prop :=
 (((σ.1 34 3) ≤ v1 → jv_wp (d + 1) post (88, 154, [some (.ref 34), some (.int (iI 0)), none], [], σ)) ∧
 (¬ (σ.1 34 3) ≤ v1 → (vp_in ((iI 4) * v1) 44 ∧ jq_I d 82 [.int (σ.1 35 ((iI 4) * v1).toNatClampNeg)] σ (fun x2 s1 =>
 (vp_in v1 6 ∧ (let s3 : jSt := jv_u s1 36 v1.toNatClampNeg x2
 (vp_in (((iI 4) * v1) + (iI 1)) 44 ∧ ((¬ (s3.1 35 (((iI 4) * v1) + (iI 1)).toNatClampNeg) = (iI 108) → (vp_in v1 6 ∧ (let s4 : jSt := jv_u s3 37 v1.toNatClampNeg (iI 1)
 (vp_in v1 6 ∧ (vp_in v1 6 ∧ (let s5 : jSt := jv_u s4 38 v1.toNatClampNeg (s4.1 37 v1.toNatClampNeg)
 (vp_in (((iI 4) * v1) + (iI 2)) 44 ∧ (vp_in v1 6 ∧ (let s6 : jSt := jv_u s5 39 v1.toNatClampNeg ((s5.1 35 (((iI 4) * v1) + (iI 2)).toNatClampNeg) - (iI 48))
 (let x7 : Int32 := (v1 + (iI 1))
 jv_wp (d + 1) post (88, 64, [some (.ref 34), some (.int x7), none], [], s6))))))))))) ∧
 ((s3.1 35 (((iI 4) * v1) + (iI 1)).toNatClampNeg) = (iI 108) → (vp_in v1 6 ∧ (let s8 : jSt := jv_u s3 37 v1.toNatClampNeg (iI 0)
 (vp_in v1 6 ∧ (vp_in v1 6 ∧ (let s9 : jSt := jv_u s8 38 v1.toNatClampNeg (s8.1 37 v1.toNatClampNeg)
 (vp_in (((iI 4) * v1) + (iI 2)) 44 ∧ (vp_in v1 6 ∧ (let s10 : jSt := jv_u s9 39 v1.toNatClampNeg ((s9.1 35 (((iI 4) * v1) + (iI 2)).toNatClampNeg) - (iI 48))
 (let x11 : Int32 := (v1 + (iI 1))
 jv_wp (d + 1) post (88, 64, [some (.ref 34), some (.int x11), none], [], s10)))))))))))))))))))
set_option maxRecDepth 100000 in
set_option maxHeartbeats 4000000 in
theorem ok_X9_river_L64 {d : Nat} {post : jPo} {σ : jSt} {v1 : Int32} (h : vc_X9_river_L64 d post σ v1) : jv_wp (d + 1) post (88, 64, [some (.ref 34), some (.int v1), none], [], σ) := jv_go_ok 56 [64, 154] _ _ _ h
def vc_X9_river_L154 (d : Nat) (post : jPo) (σ : jSt) (v1 : Int32) (z2 : Option Value) : Prop :=
 (((σ.1 34 4) ≤ v1 → (let s1 : jSt := jv_u σ 34 5 (iI 0)
 (let s2 : jSt := jv_u s1 34 6 (iI 0)
 (let s3 : jSt := jv_u s2 34 24 (iI 0)
 (let s4 : jSt := jv_u s3 34 7 ((s3.1 34 7) + (iI 1))
 (let s5 : jSt := jv_u s4 34 1 (iI 0)
 post (some (.int (s5.1 34 3))) s5)))))) ∧
 (¬ (σ.1 34 4) ≤ v1 → (let x6 : Int32 := (((σ.1 34 2) + (iI 1)) + ((iI 4) * v1))
 (vp_in x6 44 ∧ (vp_in v1 5 ∧ (let s7 : jSt := jv_u σ 40 v1.toNatClampNeg ((σ.1 35 x6.toNatClampNeg) - (iI 48))
 (vp_in (x6 + (iI 1)) 44 ∧ (vp_in v1 5 ∧ (let s8 : jSt := jv_u s7 41 v1.toNatClampNeg ((s7.1 35 (x6 + (iI 1)).toNatClampNeg) - (iI 48))
 (vp_in (x6 + (iI 2)) 44 ∧ (vp_in v1 5 ∧ (let s9 : jSt := jv_u s8 42 v1.toNatClampNeg ((s8.1 35 (x6 + (iI 2)).toNatClampNeg) - (iI 48))
 (vp_in v1 5 ∧ (let s10 : jSt := jv_u s9 43 v1.toNatClampNeg (iI 0)
 (vp_in v1 5 ∧ (let s11 : jSt := jv_u s10 44 v1.toNatClampNeg (iI 0)
 (let x12 : Int32 := (v1 + (iI 1))
 jv_wp (d + 1) post (88, 154, [some (.ref 34), some (.int x12), some (.int x6)], [], s11))))))))))))))))))
set_option maxRecDepth 100000 in
set_option maxHeartbeats 4000000 in
theorem ok_X9_river_L154 {d : Nat} {post : jPo} {σ : jSt} {v1 : Int32} {z2 : Option Value} (h : vc_X9_river_L154 d post σ v1 z2) : jv_wp (d + 1) post (88, 154, [some (.ref 34), some (.int v1), z2], [], σ) := jv_go_ok 60 [64, 154] _ _ _ h
def vc_X9_lacks (d : Nat) (post : jPo) (σ : jSt)  : Prop :=
 ((¬ (σ.1 34 3) = 0 → post (some (.int (iI 0))) σ) ∧
 ((σ.1 34 3) = 0 → post (some (.int (iI 1))) σ))
set_option maxRecDepth 100000 in
set_option maxHeartbeats 4000000 in
theorem ok_X9_lacks {d : Nat} {post : jPo} {σ : jSt} (h : vc_X9_lacks d post σ ) : jv_wp (d + 1) post (89, 0, [some (.ref 34)], [], σ) := jv_go_ok 6 [] _ _ _ (show ((¬ (σ.1 34 3) = 0 → (((iI 0) = 0 ∨ (iI 0) = 1) ∧ post (some (.int (iI 0))) σ)) ∧
 ((σ.1 34 3) = 0 → (((iI 1) = 0 ∨ (iI 1) = 1) ∧ post (some (.int (iI 1))) σ))) from ⟨fun c92 => ⟨by decide +kernel, ((h).1 c92)⟩, fun c92 => ⟨by decide +kernel, ((h).2 c92)⟩⟩)
def vc_X9_isPerson (d : Nat) (post : jPo) (σ : jSt) (v1 : Int32) : Prop :=
 jq_I d 78 [.long (v1).toInt64, .long (Int64.ofNat 0), .long (((σ.1 34 3) - (iI 1))).toInt64] σ (fun x2 s1 =>
 ((x2 = 0 ∨ x2 = 1) ∧ post (some (.int x2)) s1))
set_option maxRecDepth 100000 in
set_option maxHeartbeats 4000000 in
theorem ok_X9_isPerson {d : Nat} {post : jPo} {σ : jSt} {v1 : Int32} (h : vc_X9_isPerson d post σ v1) : jv_wp (d + 1) post (90, 0, [some (.ref 34), some (.int v1)], [], σ) := jv_go_ok 10 [] _ _ _ h
def vc_X9_isMatter (d : Nat) (post : jPo) (σ : jSt) (v1 : Int32) : Prop :=
 jq_I d 78 [.long (v1).toInt64, .long (Int64.ofNat 0), .long (((σ.1 34 4) - (iI 1))).toInt64] σ (fun x2 s1 =>
 ((x2 = 0 ∨ x2 = 1) ∧ post (some (.int x2)) s1))
set_option maxRecDepth 100000 in
set_option maxHeartbeats 4000000 in
theorem ok_X9_isMatter {d : Nat} {post : jPo} {σ : jSt} {v1 : Int32} (h : vc_X9_isMatter d post σ v1) : jv_wp (d + 1) post (91, 0, [some (.ref 34), some (.int v1)], [], σ) := jv_go_ok 10 [] _ _ _ h
def vc_X9_daysOf (d : Nat) (post : jPo) (σ : jSt) (v0 : Int32) (v1 : Int32) : Prop :=
 ((v0 = (iI 2) → ((¬ (v1 - v1 / (iI 4) * (iI 4)) = (iI 3) → post (some (.int (iI 28))) σ) ∧
 ((v1 - v1 / (iI 4) * (iI 4)) = (iI 3) → post (some (.int (iI 29))) σ))) ∧
 (¬ v0 = (iI 2) → ((v0 = (iI 3) → post (some (.int (iI 31))) σ) ∧
 (¬ v0 = (iI 3) → ((v0 = (iI 4) → post (some (.int (iI 30))) σ) ∧
 (¬ v0 = (iI 4) → ((v0 = (iI 5) → post (some (.int (iI 31))) σ) ∧
 (¬ v0 = (iI 5) → ((v0 = (iI 6) → post (some (.int (iI 30))) σ) ∧
 (¬ v0 = (iI 6) → ((v0 = (iI 7) → post (some (.int (iI 31))) σ) ∧
 (¬ v0 = (iI 7) → ((v0 = (iI 8) → post (some (.int (iI 31))) σ) ∧
 (¬ v0 = (iI 8) → ((v0 = (iI 9) → post (some (.int (iI 30))) σ) ∧
 (¬ v0 = (iI 9) → ((v0 = (iI 10) → post (some (.int (iI 31))) σ) ∧
 (¬ v0 = (iI 10) → ((v0 = (iI 11) → post (some (.int (iI 30))) σ) ∧
 (¬ v0 = (iI 11) → post (some (.int (iI 31))) σ))))))))))))))))))))
set_option maxRecDepth 100000 in
set_option maxHeartbeats 4000000 in
theorem ok_X9_daysOf {d : Nat} {post : jPo} {σ : jSt} {v0 : Int32} {v1 : Int32} (h : vc_X9_daysOf d post σ v0 v1) : jv_wp (d + 1) post (92, 0, [some (.int v0), some (.int v1)], [], σ) := jv_go_ok 10 [] _ _ _ (show ((v0 = (iI 2) → (¬ (iI 4) = 0 ∧ ((¬ (v1 - v1 / (iI 4) * (iI 4)) = (iI 3) → post (some (.int (iI 28))) σ) ∧
 ((v1 - v1 / (iI 4) * (iI 4)) = (iI 3) → post (some (.int (iI 29))) σ)))) ∧
 (¬ v0 = (iI 2) → ((v0 = (iI 3) → post (some (.int (iI 31))) σ) ∧
 (¬ v0 = (iI 3) → ((v0 = (iI 4) → post (some (.int (iI 30))) σ) ∧
 (¬ v0 = (iI 4) → ((v0 = (iI 5) → post (some (.int (iI 31))) σ) ∧
 (¬ v0 = (iI 5) → ((v0 = (iI 6) → post (some (.int (iI 30))) σ) ∧
 (¬ v0 = (iI 6) → ((v0 = (iI 7) → post (some (.int (iI 31))) σ) ∧
 (¬ v0 = (iI 7) → ((v0 = (iI 8) → post (some (.int (iI 31))) σ) ∧
 (¬ v0 = (iI 8) → ((v0 = (iI 9) → post (some (.int (iI 30))) σ) ∧
 (¬ v0 = (iI 9) → ((v0 = (iI 10) → post (some (.int (iI 31))) σ) ∧
 (¬ v0 = (iI 10) → ((v0 = (iI 11) → post (some (.int (iI 30))) σ) ∧
 (¬ v0 = (iI 11) → post (some (.int (iI 31))) σ)))))))))))))))))))) from ⟨fun c97 => ⟨by decide +kernel, ((h).1 c97)⟩, fun c97 => ((h).2 c97)⟩)
def vc_X9_layDate (d : Nat) (post : jPo) (σ : jSt) (v1 : Int32) : Prop :=
 (let x1 : Int32 := (v1 - v1 / (iI 1461) * (iI 1461))
 (let s2 : jSt := jv_u σ 34 19 ((iI 4) * (v1 / (iI 1461)))
 (let s3 : jSt := jv_u s2 34 18 (iI 1)
 jv_wp (d + 1) post (93, 22, [some (.ref 34), some (.int v1), some (.int x1)], [], s3))))
set_option maxRecDepth 100000 in
set_option maxHeartbeats 4000000 in
theorem ok_X9_layDate {d : Nat} {post : jPo} {σ : jSt} {v1 : Int32} (h : vc_X9_layDate d post σ v1) : jv_wp (d + 1) post (93, 0, [some (.ref 34), some (.int v1), none], [], σ) := jv_go_ok 15 [22] _ _ _ (show (¬ (iI 1461) = 0 ∧ (let x1 : Int32 := (v1 - v1 / (iI 1461) * (iI 1461))
 (¬ (iI 1461) = 0 ∧ (let s2 : jSt := jv_u σ 34 19 ((iI 4) * (v1 / (iI 1461)))
 (let s3 : jSt := jv_u s2 34 18 (iI 1)
 jv_wp (d + 1) post (93, 22, [some (.ref 34), some (.int v1), some (.int x1)], [], s3)))))) from ⟨by decide +kernel, ⟨by decide +kernel, h⟩⟩)
def vc_X9_layDate_L22 (d : Nat) (post : jPo) (σ : jSt) (v1 : Int32) (v2 : Int32) : Prop :=
 jq_I d 92 [.int (σ.1 34 18), .int (σ.1 34 19)] σ (fun x2 s1 =>
 ((v2 < x2 → (let s3 : jSt := jv_u s1 34 17 (v2 + (iI 1))
 post none s3)) ∧
 (¬ v2 < x2 → jq_I d 92 [.int (s1.1 34 18), .int (s1.1 34 19)] s1 (fun x5 s4 =>
 (let x6 : Int32 := (v2 - x5)
 (let s7 : jSt := jv_u s4 34 18 ((s4.1 34 18) + (iI 1))
 ((¬ (s7.1 34 18) = (iI 13) → (let s8 : jSt := jv_u s7 34 19 ((s7.1 34 19) + (iI 0))
 ((¬ (s8.1 34 18) = (iI 13) → (let s9 : jSt := jv_u s8 34 18 (s8.1 34 18)
 jv_wp (d + 1) post (93, 22, [some (.ref 34), some (.int v1), some (.int x6)], [], s9))) ∧
 ((s8.1 34 18) = (iI 13) → (let s10 : jSt := jv_u s8 34 18 (iI 1)
 jv_wp (d + 1) post (93, 22, [some (.ref 34), some (.int v1), some (.int x6)], [], s10)))))) ∧
 ((s7.1 34 18) = (iI 13) → (let s11 : jSt := jv_u s7 34 19 ((s7.1 34 19) + (iI 1))
 ((¬ (s11.1 34 18) = (iI 13) → (let s12 : jSt := jv_u s11 34 18 (s11.1 34 18)
 jv_wp (d + 1) post (93, 22, [some (.ref 34), some (.int v1), some (.int x6)], [], s12))) ∧
 ((s11.1 34 18) = (iI 13) → (let s13 : jSt := jv_u s11 34 18 (iI 1)
 jv_wp (d + 1) post (93, 22, [some (.ref 34), some (.int v1), some (.int x6)], [], s13)))))))))))))
set_option maxRecDepth 100000 in
set_option maxHeartbeats 4000000 in
theorem ok_X9_layDate_L22 {d : Nat} {post : jPo} {σ : jSt} {v1 : Int32} {v2 : Int32} (h : vc_X9_layDate_L22 d post σ v1 v2) : jv_wp (d + 1) post (93, 22, [some (.ref 34), some (.int v1), some (.int v2)], [], σ) := jv_go_ok 42 [22] _ _ _ h
def vc_X9_isBankOn (d : Nat) (post : jPo) (σ : jSt) (v1 : Int32) : Prop :=
 ((¬ (σ.1 34 17) = (iI 29) → ((¬ ((σ.1 34 17) - (σ.1 34 17) / (iI 2) * (iI 2)) = ((iI 1) - v1) → post (some (.int (iI 0))) σ) ∧
 (((σ.1 34 17) - (σ.1 34 17) / (iI 2) * (iI 2)) = ((iI 1) - v1) → post (some (.int (iI 1))) σ))) ∧
 ((σ.1 34 17) = (iI 29) → ((¬ (σ.1 34 18) = (iI 2) → ((¬ ((σ.1 34 17) - (σ.1 34 17) / (iI 2) * (iI 2)) = ((iI 1) - v1) → post (some (.int (iI 0))) σ) ∧
 (((σ.1 34 17) - (σ.1 34 17) / (iI 2) * (iI 2)) = ((iI 1) - v1) → post (some (.int (iI 1))) σ))) ∧
 ((σ.1 34 18) = (iI 2) → post (some (.int (iI 1))) σ))))
set_option maxRecDepth 100000 in
set_option maxHeartbeats 4000000 in
theorem ok_X9_isBankOn {d : Nat} {post : jPo} {σ : jSt} {v1 : Int32} (h : vc_X9_isBankOn d post σ v1) : jv_wp (d + 1) post (94, 0, [some (.ref 34), some (.int v1), none], [], σ) := jv_go_ok 24 [] _ _ _ (show ((¬ (σ.1 34 17) = (iI 29) → ((¬ (iI 0) = 0 → (((iI 1) = 0 ∨ (iI 1) = 1) ∧ post (some (.int (iI 1))) σ)) ∧
 ((iI 0) = 0 → (¬ (iI 2) = 0 ∧ ((¬ ((σ.1 34 17) - (σ.1 34 17) / (iI 2) * (iI 2)) = ((iI 1) - v1) → (((iI 0) = 0 ∨ (iI 0) = 1) ∧ post (some (.int (iI 0))) σ)) ∧
 (((σ.1 34 17) - (σ.1 34 17) / (iI 2) * (iI 2)) = ((iI 1) - v1) → (((iI 1) = 0 ∨ (iI 1) = 1) ∧ post (some (.int (iI 1))) σ))))))) ∧
 ((σ.1 34 17) = (iI 29) → ((¬ (σ.1 34 18) = (iI 2) → ((¬ (iI 0) = 0 → (((iI 1) = 0 ∨ (iI 1) = 1) ∧ post (some (.int (iI 1))) σ)) ∧
 ((iI 0) = 0 → (¬ (iI 2) = 0 ∧ ((¬ ((σ.1 34 17) - (σ.1 34 17) / (iI 2) * (iI 2)) = ((iI 1) - v1) → (((iI 0) = 0 ∨ (iI 0) = 1) ∧ post (some (.int (iI 0))) σ)) ∧
 (((σ.1 34 17) - (σ.1 34 17) / (iI 2) * (iI 2)) = ((iI 1) - v1) → (((iI 1) = 0 ∨ (iI 1) = 1) ∧ post (some (.int (iI 1))) σ))))))) ∧
 ((σ.1 34 18) = (iI 2) → ((¬ (iI 1) = 0 → (((iI 1) = 0 ∨ (iI 1) = 1) ∧ post (some (.int (iI 1))) σ)) ∧
 ((iI 1) = 0 → (¬ (iI 2) = 0 ∧ ((¬ ((σ.1 34 17) - (σ.1 34 17) / (iI 2) * (iI 2)) = ((iI 1) - v1) → (((iI 0) = 0 ∨ (iI 0) = 1) ∧ post (some (.int (iI 0))) σ)) ∧
 (((σ.1 34 17) - (σ.1 34 17) / (iI 2) * (iI 2)) = ((iI 1) - v1) → (((iI 1) = 0 ∨ (iI 1) = 1) ∧ post (some (.int (iI 1))) σ)))))))))) from ⟨fun c105 => ⟨fun q => absurd q (by decide +kernel), fun _ => ⟨by decide +kernel, ⟨fun c108 => ⟨by decide +kernel, ((((h).1 c105)).1 c108)⟩, fun c108 => ⟨by decide +kernel, ((((h).1 c105)).2 c108)⟩⟩⟩⟩, fun c105 => ⟨fun c113 => ⟨fun q => absurd q (by decide +kernel), fun _ => ⟨by decide +kernel, ⟨fun c116 => ⟨by decide +kernel, ((((((h).2 c105)).1 c113)).1 c116)⟩, fun c116 => ⟨by decide +kernel, ((((((h).2 c105)).1 c113)).2 c116)⟩⟩⟩⟩, fun c113 => ⟨fun _ => ⟨by decide +kernel, ((((h).2 c105)).2 c113)⟩, fun q => absurd q (by decide +kernel)⟩⟩⟩)
def vc_X9_isSpeaking (d : Nat) (post : jPo) (σ : jSt) (v1 : Int32) (v2 : Int32) (v3 : Int32) : Prop :=
 ((v1 = (iI 1) → post (some (.int (iI 1))) σ) ∧
 (¬ v1 = (iI 1) → ((v1 = (iI 2) → jq_I d 94 [.ref 34, .int v3] σ (fun x2 s1 =>
 ((¬ x2 = 0 → post (some (.int (iI 1))) s1) ∧
 (x2 = 0 → ((¬ (s1.1 34 17) = (iI 1) → post (some (.int (iI 0))) s1) ∧
 ((s1.1 34 17) = (iI 1) → post (some (.int (iI 1))) s1)))))) ∧
 (¬ v1 = (iI 2) → ((v1 = (iI 3) → jq_I d 94 [.ref 34, .int v2] σ (fun x4 s3 =>
 ((x4 = 0 ∨ x4 = 1) ∧ post (some (.int x4)) s3))) ∧
 (¬ v1 = (iI 3) → ((v1 = (iI 4) → post (some (.int (iI 1))) σ) ∧
 (¬ v1 = (iI 4) → jq_I d 94 [.ref 34, .int v3] σ (fun x6 s5 =>
 ((x6 = 0 ∨ x6 = 1) ∧ post (some (.int x6)) s5))))))))))
set_option maxRecDepth 100000 in
set_option maxHeartbeats 4000000 in
theorem ok_X9_isSpeaking {d : Nat} {post : jPo} {σ : jSt} {v1 : Int32} {v2 : Int32} {v3 : Int32} (h : vc_X9_isSpeaking d post σ v1 v2 v3) : jv_wp (d + 1) post (95, 0, [some (.ref 34), some (.int v1), some (.int v2), some (.int v3)], [], σ) := jv_go_ok 13 [] _ _ _ (show ((v1 = (iI 1) → (((iI 1) = 0 ∨ (iI 1) = 1) ∧ post (some (.int (iI 1))) σ)) ∧
 (¬ v1 = (iI 1) → ((v1 = (iI 2) → jq_I d 94 [.ref 34, .int v3] σ (fun x2 s1 =>
 ((¬ x2 = 0 → (((iI 1) = 0 ∨ (iI 1) = 1) ∧ post (some (.int (iI 1))) s1)) ∧
 (x2 = 0 → ((¬ (s1.1 34 17) = (iI 1) → (((iI 0) = 0 ∨ (iI 0) = 1) ∧ post (some (.int (iI 0))) s1)) ∧
 ((s1.1 34 17) = (iI 1) → (((iI 1) = 0 ∨ (iI 1) = 1) ∧ post (some (.int (iI 1))) s1))))))) ∧
 (¬ v1 = (iI 2) → ((v1 = (iI 3) → jq_I d 94 [.ref 34, .int v2] σ (fun x4 s3 =>
 ((x4 = 0 ∨ x4 = 1) ∧ post (some (.int x4)) s3))) ∧
 (¬ v1 = (iI 3) → ((v1 = (iI 4) → (((iI 1) = 0 ∨ (iI 1) = 1) ∧ post (some (.int (iI 1))) σ)) ∧
 (¬ v1 = (iI 4) → jq_I d 94 [.ref 34, .int v3] σ (fun x6 s5 =>
 ((x6 = 0 ∨ x6 = 1) ∧ post (some (.int x6)) s5)))))))))) from ⟨fun c124 => ⟨by decide +kernel, ((h).1 c124)⟩, fun c124 => ⟨fun c127 => jq_I_con (((((h).2 c124)).1 c127)) (fun x2 s1 h128 => ⟨fun c129 => ⟨by decide +kernel, ((h128).1 c129)⟩, fun c129 => ⟨fun c132 => ⟨by decide +kernel, ((((h128).2 c129)).1 c132)⟩, fun c132 => ⟨by decide +kernel, ((((h128).2 c129)).2 c132)⟩⟩⟩), fun c127 => ⟨fun c137 => ((((((h).2 c124)).2 c127)).1 c137), fun c137 => ⟨fun c139 => ⟨by decide +kernel, ((((((((h).2 c124)).2 c127)).2 c137)).1 c139)⟩, fun c139 => ((((((((h).2 c124)).2 c127)).2 c137)).2 c139)⟩⟩⟩⟩)
def vc_X9_maySpeak (d : Nat) (post : jPo) (σ : jSt) (v1 : Int32) (v2 : Int32) : Prop :=
 jq_V d 93 [.ref 34, .int v2] σ (fun s1 =>
 (vp_in v1 6 ∧ (vp_in v1 6 ∧ (vp_in v1 6 ∧ jq_I d 95 [.ref 34, .int (s1.1 36 v1.toNatClampNeg), .int (s1.1 37 v1.toNatClampNeg), .int (s1.1 38 v1.toNatClampNeg)] s1 (fun x3 s2 =>
 ((x3 = 0 ∨ x3 = 1) ∧ post (some (.int x3)) s2))))))
set_option maxRecDepth 100000 in
set_option maxHeartbeats 4000000 in
theorem ok_X9_maySpeak {d : Nat} {post : jPo} {σ : jSt} {v1 : Int32} {v2 : Int32} (h : vc_X9_maySpeak d post σ v1 v2) : jv_wp (d + 1) post (96, 0, [some (.ref 34), some (.int v1), some (.int v2)], [], σ) := jv_go_ok 18 [] _ _ _ h
def vc_X9_speakers (d : Nat) (post : jPo) (σ : jSt) (v1 : Int32) : Prop :=
 jv_wp (d + 1) post (97, 4, [some (.ref 34), some (.int v1), some (.int (iI 0)), some (.int (iI 0))], [], σ)
set_option maxRecDepth 100000 in
set_option maxHeartbeats 4000000 in
theorem ok_X9_speakers {d : Nat} {post : jPo} {σ : jSt} {v1 : Int32} (h : vc_X9_speakers d post σ v1) : jv_wp (d + 1) post (97, 0, [some (.ref 34), some (.int v1), none, none], [], σ) := jv_go_ok 5 [4] _ _ _ h
def vc_X9_speakers_L4 (d : Nat) (post : jPo) (σ : jSt) (v1 : Int32) (v2 : Int32) (v3 : Int32) : Prop :=
 (((σ.1 34 3) ≤ v3 → post (some (.int v2)) σ) ∧
 (¬ (σ.1 34 3) ≤ v3 → jq_I d 96 [.ref 34, .int v3, .int v1] σ (fun x2 s1 =>
 ((x2 = 0 → (let x3 : Int32 := (v2 ||| (iI 0))
 (let x4 : Int32 := (v3 + (iI 1))
 jv_wp (d + 1) post (97, 4, [some (.ref 34), some (.int v1), some (.int x3), some (.int x4)], [], s1)))) ∧
 (¬ x2 = 0 → (let x5 : Int32 := (v2 ||| ((iI 1) <<< (v3 &&& 31)))
 (let x6 : Int32 := (v3 + (iI 1))
 jv_wp (d + 1) post (97, 4, [some (.ref 34), some (.int v1), some (.int x5), some (.int x6)], [], s1))))))))
set_option maxRecDepth 100000 in
set_option maxHeartbeats 4000000 in
theorem ok_X9_speakers_L4 {d : Nat} {post : jPo} {σ : jSt} {v1 : Int32} {v2 : Int32} {v3 : Int32} (h : vc_X9_speakers_L4 d post σ v1 v2 v3) : jv_wp (d + 1) post (97, 4, [some (.ref 34), some (.int v1), some (.int v2), some (.int v3)], [], σ) := jv_go_ok 19 [4] _ _ _ h
def vc_X9_ones (d : Nat) (post : jPo) (σ : jSt) (v0 : Int32) : Prop :=
 jv_wp (d + 1) post (98, 4, [some (.int v0), some (.int (iI 0)), some (.int (iI 0))], [], σ)
set_option maxRecDepth 100000 in
set_option maxHeartbeats 4000000 in
theorem ok_X9_ones {d : Nat} {post : jPo} {σ : jSt} {v0 : Int32} (h : vc_X9_ones d post σ v0) : jv_wp (d + 1) post (98, 0, [some (.int v0), none, none], [], σ) := jv_go_ok 5 [4] _ _ _ h
def vc_X9_ones_L4 (d : Nat) (post : jPo) (σ : jSt) (v0 : Int32) (v1 : Int32) (v2 : Int32) : Prop :=
 (((iI 12) ≤ v2 → post (some (.int v1)) σ) ∧
 (¬ (iI 12) ≤ v2 → (let x1 : Int32 := (v1 + ((v0 >>> (v2 &&& 31)) &&& (iI 1)))
 (let x2 : Int32 := (v2 + (iI 1))
 jv_wp (d + 1) post (98, 4, [some (.int v0), some (.int x1), some (.int x2)], [], σ)))))
set_option maxRecDepth 100000 in
set_option maxHeartbeats 4000000 in
theorem ok_X9_ones_L4 {d : Nat} {post : jPo} {σ : jSt} {v0 : Int32} {v1 : Int32} {v2 : Int32} (h : vc_X9_ones_L4 d post σ v0 v1 v2) : jv_wp (d + 1) post (98, 4, [some (.int v0), some (.int v1), some (.int v2)], [], σ) := jv_go_ok 14 [4] _ _ _ h
def vc_X9_begin (d : Nat) (post : jPo) (σ : jSt)  : Prop :=
 jq_V d 79 [.ref 43, .ref 45] σ (fun s1 =>
 jq_V d 79 [.ref 44, .ref 46] s1 (fun s2 =>
 post none s2))
set_option maxRecDepth 100000 in
set_option maxHeartbeats 4000000 in
theorem ok_X9_begin {d : Nat} {post : jPo} {σ : jSt} (h : vc_X9_begin d post σ ) : jv_wp (d + 1) post (99, 0, [some (.ref 34)], [], σ) := jv_go_ok 11 [] _ _ _ h
def vc_X9_keep (d : Nat) (post : jPo) (σ : jSt)  : Prop :=
 jq_V d 79 [.ref 45, .ref 43] σ (fun s1 =>
 jq_V d 79 [.ref 46, .ref 44] s1 (fun s2 =>
 post none s2))
set_option maxRecDepth 100000 in
set_option maxHeartbeats 4000000 in
theorem ok_X9_keep {d : Nat} {post : jPo} {σ : jSt} (h : vc_X9_keep d post σ ) : jv_wp (d + 1) post (100, 0, [some (.ref 34)], [], σ) := jv_go_ok 11 [] _ _ _ h
def vc_X9_valueOf (d : Nat) (post : jPo) (σ : jSt) (v1 : Int32) (v2 : Int32) : Prop :=
 (vp_in v1 5 ∧ (vp_in v1 5 ∧ (vp_in (σ.1 40 v1.toNatClampNeg) 6 ∧ (let x1 : Int32 := ((v2 - (σ.1 46 v1.toNatClampNeg)) - (σ.1 39 (σ.1 40 v1.toNatClampNeg).toNatClampNeg))
 ((x1 ≤ 0 → (vp_in v1 5 ∧ (let x2 : Int32 := (σ.1 42 v1.toNatClampNeg)
 ((x2 ≤ 0 → (vp_in v1 5 ∧ (vp_in (σ.1 41 v1.toNatClampNeg) 6 ∧ (let x3 : Int32 := (σ.1 36 (σ.1 41 v1.toNatClampNeg).toNatClampNeg)
 ((¬ x3 = (iI 1) → ((¬ x3 = (iI 4) → post (some (.int (iI 0))) σ) ∧
 (x3 = (iI 4) → post (some (.int (iI 0))) σ))) ∧
 (x3 = (iI 1) → post (some (.int ((iI 0) / (iI 2)))) σ)))))) ∧
 (¬ x2 ≤ 0 → (vp_in v1 5 ∧ (vp_in (σ.1 41 v1.toNatClampNeg) 6 ∧ (let x4 : Int32 := (σ.1 36 (σ.1 41 v1.toNatClampNeg).toNatClampNeg)
 ((¬ x4 = (iI 1) → ((¬ x4 = (iI 4) → post (some (.int x2)) σ) ∧
 (x4 = (iI 4) → ((x2 ≤ 0 → post (some (.int x2)) σ) ∧
 (¬ x2 ≤ 0 → post (some (.int (x2 - (iI 1)))) σ))))) ∧
 (x4 = (iI 1) → post (some (.int (x2 / (iI 2)))) σ)))))))))) ∧
 (¬ x1 ≤ 0 → (vp_in v1 5 ∧ (let x5 : Int32 := ((σ.1 42 v1.toNatClampNeg) - x1)
 ((x5 ≤ 0 → (vp_in v1 5 ∧ (vp_in (σ.1 41 v1.toNatClampNeg) 6 ∧ (let x6 : Int32 := (σ.1 36 (σ.1 41 v1.toNatClampNeg).toNatClampNeg)
 ((¬ x6 = (iI 1) → ((¬ x6 = (iI 4) → post (some (.int (iI 0))) σ) ∧
 (x6 = (iI 4) → post (some (.int (iI 0))) σ))) ∧
 (x6 = (iI 1) → post (some (.int ((iI 0) / (iI 2)))) σ)))))) ∧
 (¬ x5 ≤ 0 → (vp_in v1 5 ∧ (vp_in (σ.1 41 v1.toNatClampNeg) 6 ∧ (let x7 : Int32 := (σ.1 36 (σ.1 41 v1.toNatClampNeg).toNatClampNeg)
 ((¬ x7 = (iI 1) → ((¬ x7 = (iI 4) → post (some (.int x5)) σ) ∧
 (x7 = (iI 4) → ((x5 ≤ 0 → post (some (.int x5)) σ) ∧
 (¬ x5 ≤ 0 → post (some (.int (x5 - (iI 1)))) σ))))) ∧
 (x7 = (iI 1) → post (some (.int (x5 / (iI 2)))) σ)))))))))))))))
set_option maxRecDepth 100000 in
set_option maxHeartbeats 4000000 in
theorem ok_X9_valueOf {d : Nat} {post : jPo} {σ : jSt} {v1 : Int32} {v2 : Int32} (h : vc_X9_valueOf d post σ v1 v2) : jv_wp (d + 1) post (101, 0, [some (.ref 34), some (.int v1), some (.int v2), none, none, none], [], σ) := jv_go_ok 51 [] _ _ _ (show (vp_in v1 5 ∧ (vp_in v1 5 ∧ (vp_in (σ.1 40 v1.toNatClampNeg) 6 ∧ (let x1 : Int32 := ((v2 - (σ.1 46 v1.toNatClampNeg)) - (σ.1 39 (σ.1 40 v1.toNatClampNeg).toNatClampNeg))
 ((x1 ≤ 0 → (vp_in v1 5 ∧ (let x2 : Int32 := (σ.1 42 v1.toNatClampNeg)
 ((x2 ≤ 0 → (vp_in v1 5 ∧ (vp_in (σ.1 41 v1.toNatClampNeg) 6 ∧ (let x3 : Int32 := (σ.1 36 (σ.1 41 v1.toNatClampNeg).toNatClampNeg)
 ((¬ x3 = (iI 1) → ((¬ x3 = (iI 4) → post (some (.int (iI 0))) σ) ∧
 (x3 = (iI 4) → (((iI 0) ≤ 0 → post (some (.int (iI 0))) σ) ∧
 (¬ (iI 0) ≤ 0 → post (some (.int ((iI 0) - (iI 1)))) σ))))) ∧
 (x3 = (iI 1) → (¬ (iI 2) = 0 ∧ post (some (.int ((iI 0) / (iI 2)))) σ))))))) ∧
 (¬ x2 ≤ 0 → (vp_in v1 5 ∧ (vp_in (σ.1 41 v1.toNatClampNeg) 6 ∧ (let x4 : Int32 := (σ.1 36 (σ.1 41 v1.toNatClampNeg).toNatClampNeg)
 ((¬ x4 = (iI 1) → ((¬ x4 = (iI 4) → post (some (.int x2)) σ) ∧
 (x4 = (iI 4) → ((x2 ≤ 0 → post (some (.int x2)) σ) ∧
 (¬ x2 ≤ 0 → post (some (.int (x2 - (iI 1)))) σ))))) ∧
 (x4 = (iI 1) → (¬ (iI 2) = 0 ∧ post (some (.int (x2 / (iI 2)))) σ))))))))))) ∧
 (¬ x1 ≤ 0 → (vp_in v1 5 ∧ (let x5 : Int32 := ((σ.1 42 v1.toNatClampNeg) - x1)
 ((x5 ≤ 0 → (vp_in v1 5 ∧ (vp_in (σ.1 41 v1.toNatClampNeg) 6 ∧ (let x6 : Int32 := (σ.1 36 (σ.1 41 v1.toNatClampNeg).toNatClampNeg)
 ((¬ x6 = (iI 1) → ((¬ x6 = (iI 4) → post (some (.int (iI 0))) σ) ∧
 (x6 = (iI 4) → (((iI 0) ≤ 0 → post (some (.int (iI 0))) σ) ∧
 (¬ (iI 0) ≤ 0 → post (some (.int ((iI 0) - (iI 1)))) σ))))) ∧
 (x6 = (iI 1) → (¬ (iI 2) = 0 ∧ post (some (.int ((iI 0) / (iI 2)))) σ))))))) ∧
 (¬ x5 ≤ 0 → (vp_in v1 5 ∧ (vp_in (σ.1 41 v1.toNatClampNeg) 6 ∧ (let x7 : Int32 := (σ.1 36 (σ.1 41 v1.toNatClampNeg).toNatClampNeg)
 ((¬ x7 = (iI 1) → ((¬ x7 = (iI 4) → post (some (.int x5)) σ) ∧
 (x7 = (iI 4) → ((x5 ≤ 0 → post (some (.int x5)) σ) ∧
 (¬ x5 ≤ 0 → post (some (.int (x5 - (iI 1)))) σ))))) ∧
 (x7 = (iI 1) → (¬ (iI 2) = 0 ∧ post (some (.int (x5 / (iI 2)))) σ)))))))))))))))) from ⟨(h).1, ⟨((h).2).1, ⟨(((h).2).2).1, ⟨fun c147 => ⟨((((((h).2).2).2).1 c147)).1, ⟨fun c150 => ⟨(((((((((h).2).2).2).1 c147)).2).1 c150)).1, ⟨((((((((((h).2).2).2).1 c147)).2).1 c150)).2).1, ⟨fun c154 => ⟨fun c155 => ((((((((((((((h).2).2).2).1 c147)).2).1 c150)).2).2).1 c154)).1 c155), fun c155 => ⟨fun _ => ((((((((((((((h).2).2).2).1 c147)).2).1 c150)).2).2).1 c154)).2 c155), fun q => absurd q (by decide +kernel)⟩⟩, fun c154 => ⟨by decide +kernel, ((((((((((((h).2).2).2).1 c147)).2).1 c150)).2).2).2 c154)⟩⟩⟩⟩, fun c150 => ⟨(((((((((h).2).2).2).1 c147)).2).2 c150)).1, ⟨((((((((((h).2).2).2).1 c147)).2).2 c150)).2).1, ⟨fun c164 => ((((((((((((h).2).2).2).1 c147)).2).2 c150)).2).2).1 c164), fun c164 => ⟨by decide +kernel, ((((((((((((h).2).2).2).1 c147)).2).2 c150)).2).2).2 c164)⟩⟩⟩⟩⟩⟩, fun c147 => ⟨((((((h).2).2).2).2 c147)).1, ⟨fun c170 => ⟨(((((((((h).2).2).2).2 c147)).2).1 c170)).1, ⟨((((((((((h).2).2).2).2 c147)).2).1 c170)).2).1, ⟨fun c174 => ⟨fun c175 => ((((((((((((((h).2).2).2).2 c147)).2).1 c170)).2).2).1 c174)).1 c175), fun c175 => ⟨fun _ => ((((((((((((((h).2).2).2).2 c147)).2).1 c170)).2).2).1 c174)).2 c175), fun q => absurd q (by decide +kernel)⟩⟩, fun c174 => ⟨by decide +kernel, ((((((((((((h).2).2).2).2 c147)).2).1 c170)).2).2).2 c174)⟩⟩⟩⟩, fun c170 => ⟨(((((((((h).2).2).2).2 c147)).2).2 c170)).1, ⟨((((((((((h).2).2).2).2 c147)).2).2 c170)).2).1, ⟨fun c184 => ((((((((((((h).2).2).2).2 c147)).2).2 c170)).2).2).1 c184), fun c184 => ⟨by decide +kernel, ((((((((((((h).2).2).2).2 c147)).2).2 c170)).2).2).2 c184)⟩⟩⟩⟩⟩⟩⟩⟩⟩⟩)
def vc_X9_canThen (d : Nat) (post : jPo) (σ : jSt) (v1 : Int32) (v2 : Int32) : Prop :=
 (vp_in v1 5 ∧ (((σ.1 45 v1.toNatClampNeg) = (iI 0) → (vp_in v1 5 ∧ jq_I d 96 [.ref 34, .int (σ.1 40 v1.toNatClampNeg), .int v2] σ (fun x2 s1 =>
 ((x2 = 0 ∨ x2 = 1) ∧ post (some (.int x2)) s1)))) ∧
 (¬ (σ.1 45 v1.toNatClampNeg) = (iI 0) → (((σ.1 45 v1.toNatClampNeg) = (iI 1) → (vp_in v1 5 ∧ ((v2 ≤ (σ.1 46 v1.toNatClampNeg) → post (some (.int (iI 0))) σ) ∧
 (¬ v2 ≤ (σ.1 46 v1.toNatClampNeg) → (vp_in v1 5 ∧ jq_I d 96 [.ref 34, .int (σ.1 41 v1.toNatClampNeg), .int v2] σ (fun x4 s3 =>
 ((x4 = 0 → post (some (.int (iI 0))) s3) ∧
 (¬ x4 = 0 → post (some (.int (iI 1))) s3)))))))) ∧
 (¬ (σ.1 45 v1.toNatClampNeg) = (iI 1) → post (some (.int (iI 0))) σ)))))
set_option maxRecDepth 100000 in
set_option maxHeartbeats 4000000 in
theorem ok_X9_canThen {d : Nat} {post : jPo} {σ : jSt} {v1 : Int32} {v2 : Int32} (h : vc_X9_canThen d post σ v1 v2) : jv_wp (d + 1) post (102, 0, [some (.ref 34), some (.int v1), some (.int v2)], [], σ) := jv_go_ok 22 [] _ _ _ (show (vp_in v1 5 ∧ (((σ.1 45 v1.toNatClampNeg) = (iI 0) → (vp_in v1 5 ∧ jq_I d 96 [.ref 34, .int (σ.1 40 v1.toNatClampNeg), .int v2] σ (fun x2 s1 =>
 ((x2 = 0 ∨ x2 = 1) ∧ post (some (.int x2)) s1)))) ∧
 (¬ (σ.1 45 v1.toNatClampNeg) = (iI 0) → (((σ.1 45 v1.toNatClampNeg) = (iI 1) → (vp_in v1 5 ∧ ((v2 ≤ (σ.1 46 v1.toNatClampNeg) → (((iI 0) = 0 ∨ (iI 0) = 1) ∧ post (some (.int (iI 0))) σ)) ∧
 (¬ v2 ≤ (σ.1 46 v1.toNatClampNeg) → (vp_in v1 5 ∧ jq_I d 96 [.ref 34, .int (σ.1 41 v1.toNatClampNeg), .int v2] σ (fun x4 s3 =>
 ((x4 = 0 → (((iI 0) = 0 ∨ (iI 0) = 1) ∧ post (some (.int (iI 0))) s3)) ∧
 (¬ x4 = 0 → (((iI 1) = 0 ∨ (iI 1) = 1) ∧ post (some (.int (iI 1))) s3))))))))) ∧
 (¬ (σ.1 45 v1.toNatClampNeg) = (iI 1) → (((iI 0) = 0 ∨ (iI 0) = 1) ∧ post (some (.int (iI 0))) σ)))))) from ⟨(h).1, ⟨fun c189 => (((h).2).1 c189), fun c189 => ⟨fun c191 => ⟨((((((h).2).2 c189)).1 c191)).1, ⟨fun c193 => ⟨by decide +kernel, ((((((((h).2).2 c189)).1 c191)).2).1 c193)⟩, fun c193 => ⟨(((((((((h).2).2 c189)).1 c191)).2).2 c193)).1, jq_I_con ((((((((((h).2).2 c189)).1 c191)).2).2 c193)).2) (fun x4 s3 h197 => ⟨fun c198 => ⟨by decide +kernel, ((h197).1 c198)⟩, fun c198 => ⟨by decide +kernel, ((h197).2 c198)⟩⟩)⟩⟩⟩, fun c191 => ⟨by decide +kernel, (((((h).2).2 c189)).2 c191)⟩⟩⟩⟩)
def vc_X9_sayThen (d : Nat) (post : jPo) (σ : jSt) (v1 : Int32) (v2 : Int32) : Prop :=
 (vp_in v1 5 ∧ ((¬ (σ.1 45 v1.toNatClampNeg) = 0 → (vp_in v1 5 ∧ (let s1 : jSt := jv_u σ 45 v1.toNatClampNeg (iI 2)
 jq_I d 101 [.ref 34, .int v1, .int v2] s1 (fun x3 s2 =>
 post (some (.int x3)) s2)))) ∧
 ((σ.1 45 v1.toNatClampNeg) = 0 → (vp_in v1 5 ∧ (let s4 : jSt := jv_u σ 45 v1.toNatClampNeg (iI 1)
 (vp_in v1 5 ∧ (let s5 : jSt := jv_u s4 46 v1.toNatClampNeg v2
 post (some (.int (iI (-1)))) s5)))))))
set_option maxRecDepth 100000 in
set_option maxHeartbeats 4000000 in
theorem ok_X9_sayThen {d : Nat} {post : jPo} {σ : jSt} {v1 : Int32} {v2 : Int32} (h : vc_X9_sayThen d post σ v1 v2) : jv_wp (d + 1) post (103, 0, [some (.ref 34), some (.int v1), some (.int v2)], [], σ) := jv_go_ok 17 [] _ _ _ h
def vc_X9_speakingDays (d : Nat) (post : jPo) (σ : jSt) (v1 : Int32) : Prop :=
 jv_wp (d + 1) post (104, 4, [some (.ref 34), some (.int v1), some (.int (iI 0)), some (.int (iI 0))], [], σ)
set_option maxRecDepth 100000 in
set_option maxHeartbeats 4000000 in
theorem ok_X9_speakingDays {d : Nat} {post : jPo} {σ : jSt} {v1 : Int32} (h : vc_X9_speakingDays d post σ v1) : jv_wp (d + 1) post (104, 0, [some (.ref 34), some (.int v1), none, none], [], σ) := jv_go_ok 5 [4] _ _ _ h
def vc_X9_speakingDays_L4 (d : Nat) (post : jPo) (σ : jSt) (v1 : Int32) (v2 : Int32) (v3 : Int32) : Prop :=
 (((iI 31) ≤ v3 → post (some (.int v2)) σ) ∧
 (¬ (iI 31) ≤ v3 → jq_I d 96 [.ref 34, .int v1, .int ((σ.1 34 5) + v3)] σ (fun x2 s1 =>
 ((x2 = 0 → (let x3 : Int32 := (v2 + (iI 0))
 (let x4 : Int32 := (v3 + (iI 1))
 jv_wp (d + 1) post (104, 4, [some (.ref 34), some (.int v1), some (.int x3), some (.int x4)], [], s1)))) ∧
 (¬ x2 = 0 → (let x5 : Int32 := (v2 + (iI 1))
 (let x6 : Int32 := (v3 + (iI 1))
 jv_wp (d + 1) post (104, 4, [some (.ref 34), some (.int v1), some (.int x5), some (.int x6)], [], s1))))))))
set_option maxRecDepth 100000 in
set_option maxHeartbeats 4000000 in
theorem ok_X9_speakingDays_L4 {d : Nat} {post : jPo} {σ : jSt} {v1 : Int32} {v2 : Int32} {v3 : Int32} (h : vc_X9_speakingDays_L4 d post σ v1 v2 v3) : jv_wp (d + 1) post (104, 4, [some (.ref 34), some (.int v1), some (.int v2), some (.int v3)], [], σ) := jv_go_ok 19 [4] _ _ _ h
def vc_X9_tellPerson (d : Nat) (post : jPo) (σ : jSt) (v1 : Int32) (v2 : Int32) : Prop :=
 ((v2 = (iI 0) → (vp_in v1 6 ∧ post (some (.int (σ.1 36 v1.toNatClampNeg))) σ)) ∧
 (¬ v2 = (iI 0) → ((v2 = (iI 1) → (vp_in v1 6 ∧ post (some (.int (σ.1 37 v1.toNatClampNeg))) σ)) ∧
 (¬ v2 = (iI 1) → ((v2 = (iI 2) → (vp_in v1 6 ∧ post (some (.int (σ.1 38 v1.toNatClampNeg))) σ)) ∧
 (¬ v2 = (iI 2) → ((v2 = (iI 3) → (vp_in v1 6 ∧ post (some (.int (σ.1 39 v1.toNatClampNeg))) σ)) ∧
 (¬ v2 = (iI 3) → ((v2 = (iI 4) → jq_I d 96 [.ref 34, .int v1, .int (σ.1 34 5)] σ (fun x2 s1 =>
 ((x2 = 0 → post (some (.int (iI 0))) s1) ∧
 (¬ x2 = 0 → post (some (.int (iI 1))) s1)))) ∧
 (¬ v2 = (iI 4) → ((v2 = (iI 5) → jq_I d 104 [.ref 34, .int v1] σ (fun x4 s3 =>
 post (some (.int x4)) s3)) ∧
 (¬ v2 = (iI 5) → ((v2 = (iI 6) → jq_I d 130 [.ref 34, .int v1] σ (fun x6 s5 =>
 post (some (.int x6)) s5)) ∧
 (¬ v2 = (iI 6) → ((v2 = (iI 7) → jq_I d 131 [.ref 34, .int v1] σ (fun x8 s7 =>
 post (some (.int x8)) s7)) ∧
 (¬ v2 = (iI 7) → post (some (.int (iI (-102)))) σ))))))))))))))))
set_option maxRecDepth 100000 in
set_option maxHeartbeats 4000000 in
theorem ok_X9_tellPerson {d : Nat} {post : jPo} {σ : jSt} {v1 : Int32} {v2 : Int32} (h : vc_X9_tellPerson d post σ v1 v2) : jv_wp (d + 1) post (105, 0, [some (.ref 34), some (.int v1), some (.int v2)], [], σ) := jv_go_ok 11 [] _ _ _ h
def vc_X9_person (d : Nat) (post : jPo) (σ : jSt) (v1 : Int32) (v2 : Int32) : Prop :=
 jq_I d 90 [.ref 34, .int v1] σ (fun x2 s1 =>
 ((x2 = 0 → post (some (.int (iI (-101)))) s1) ∧
 (¬ x2 = 0 → jq_I d 105 [.ref 34, .int v1, .int v2] s1 (fun x4 s3 =>
 post (some (.int x4)) s3))))
set_option maxRecDepth 100000 in
set_option maxHeartbeats 4000000 in
theorem ok_X9_person {d : Nat} {post : jPo} {σ : jSt} {v1 : Int32} {v2 : Int32} (h : vc_X9_person d post σ v1 v2) : jv_wp (d + 1) post (106, 0, [some (.ref 34), some (.int v1), some (.int v2)], [], σ) := jv_go_ok 10 [] _ _ _ h
def vc_X9_as (d : Nat) (post : jPo) (σ : jSt) (v1 : Int32) (v2 : Int32) : Prop :=
 jq_I d 90 [.ref 34, .int v1] σ (fun x2 s1 =>
 ((¬ x2 = 0 → jq_I d 78 [.long (v2).toInt64, .long (Int64.ofNat 0), .long (Int64.ofNat 4)] s1 (fun x4 s3 =>
 ((¬ x4 = 0 → ((v2 = 0 → post (some (.int v1)) s3) ∧
 (¬ v2 = 0 → (vp_in v1 6 ∧ ((v2 = (s3.1 36 v1.toNatClampNeg) → post (some (.int v1)) s3) ∧
 (¬ v2 = (s3.1 36 v1.toNatClampNeg) → ((¬ v2 = (iI 1) → post (some (.int (iI (-1)))) s3) ∧
 (v2 = (iI 1) → (vp_in v1 6 ∧ ((¬ (s3.1 36 v1.toNatClampNeg) = (iI 4) → post (some (.int (iI (-1)))) s3) ∧
 ((s3.1 36 v1.toNatClampNeg) = (iI 4) → post (some (.int v1)) s3))))))))))) ∧
 (x4 = 0 → post (some (.int (iI (-102)))) s3)))) ∧
 (x2 = 0 → post (some (.int (iI (-101)))) s1)))
set_option maxRecDepth 100000 in
set_option maxHeartbeats 4000000 in
theorem ok_X9_as {d : Nat} {post : jPo} {σ : jSt} {v1 : Int32} {v2 : Int32} (h : vc_X9_as d post σ v1 v2) : jv_wp (d + 1) post (107, 0, [some (.ref 34), some (.int v1), some (.int v2), none], [], σ) := jv_go_ok 35 [] _ _ _ (show jq_I d 90 [.ref 34, .int v1] σ (fun x2 s1 =>
 ((¬ x2 = 0 → jq_I d 78 [.long (v2).toInt64, .long (Int64.ofNat 0), .long (Int64.ofNat 4)] s1 (fun x4 s3 =>
 ((¬ x4 = 0 → ((v2 = 0 → (((iI 1) = 0 → post (some (.int (iI (-1)))) s3) ∧
 (¬ (iI 1) = 0 → post (some (.int v1)) s3))) ∧
 (¬ v2 = 0 → (vp_in v1 6 ∧ ((v2 = (s3.1 36 v1.toNatClampNeg) → (((iI 1) = 0 → post (some (.int (iI (-1)))) s3) ∧
 (¬ (iI 1) = 0 → post (some (.int v1)) s3))) ∧
 (¬ v2 = (s3.1 36 v1.toNatClampNeg) → ((¬ v2 = (iI 1) → (((iI 0) = 0 → post (some (.int (iI (-1)))) s3) ∧
 (¬ (iI 0) = 0 → post (some (.int v1)) s3))) ∧
 (v2 = (iI 1) → (vp_in v1 6 ∧ ((¬ (s3.1 36 v1.toNatClampNeg) = (iI 4) → (((iI 0) = 0 → post (some (.int (iI (-1)))) s3) ∧
 (¬ (iI 0) = 0 → post (some (.int v1)) s3))) ∧
 ((s3.1 36 v1.toNatClampNeg) = (iI 4) → (((iI 1) = 0 → post (some (.int (iI (-1)))) s3) ∧
 (¬ (iI 1) = 0 → post (some (.int v1)) s3))))))))))))) ∧
 (x4 = 0 → post (some (.int (iI (-102)))) s3)))) ∧
 (x2 = 0 → post (some (.int (iI (-101)))) s1))) from jq_I_con (h) (fun x2 s1 h205 => ⟨fun c206 => jq_I_con (((h205).1 c206)) (fun x4 s3 h207 => ⟨fun c208 => ⟨fun c209 => ⟨fun q => absurd q (by decide +kernel), fun _ => ((((h207).1 c208)).1 c209)⟩, fun c209 => ⟨(((((h207).1 c208)).2 c209)).1, ⟨fun c213 => ⟨fun q => absurd q (by decide +kernel), fun _ => (((((((h207).1 c208)).2 c209)).2).1 c213)⟩, fun c213 => ⟨fun c216 => ⟨fun _ => (((((((((h207).1 c208)).2 c209)).2).2 c213)).1 c216), fun q => absurd q (by decide +kernel)⟩, fun c216 => ⟨((((((((((h207).1 c208)).2 c209)).2).2 c213)).2 c216)).1, ⟨fun c220 => ⟨fun _ => ((((((((((((h207).1 c208)).2 c209)).2).2 c213)).2 c216)).2).1 c220), fun q => absurd q (by decide +kernel)⟩, fun c220 => ⟨fun q => absurd q (by decide +kernel), fun _ => ((((((((((((h207).1 c208)).2 c209)).2).2 c213)).2 c216)).2).2 c220)⟩⟩⟩⟩⟩⟩⟩, fun c208 => ((h207).2 c208)⟩), fun c206 => ((h205).2 c206)⟩))
def vc_X9_soonOf (d : Nat) (post : jPo) (σ : jSt) (v1 : Int32) : Prop :=
 jq_V d 99 [.ref 34] σ (fun s1 =>
 jv_wp (d + 1) post (108, 6, [some (.ref 34), some (.int v1), some (.int (iI 0))], [], s1))
set_option maxRecDepth 100000 in
set_option maxHeartbeats 4000000 in
theorem ok_X9_soonOf {d : Nat} {post : jPo} {σ : jSt} {v1 : Int32} (h : vc_X9_soonOf d post σ v1) : jv_wp (d + 1) post (108, 0, [some (.ref 34), some (.int v1), none], [], σ) := jv_go_ok 5 [6] _ _ _ h
def vc_X9_soonOf_L6 (d : Nat) (post : jPo) (σ : jSt) (v1 : Int32) (v2 : Int32) : Prop :=
 (((iI 71) ≤ v2 → post (some (.int (iI (-1)))) σ) ∧
 (¬ (iI 71) ≤ v2 → jq_I d 102 [.ref 34, .int v1, .int ((σ.1 34 5) + v2)] σ (fun x2 s1 =>
 ((x2 = 0 → (let x3 : Int32 := (v2 + (iI 1))
 jv_wp (d + 1) post (108, 6, [some (.ref 34), some (.int v1), some (.int x3)], [], s1))) ∧
 (¬ x2 = 0 → jq_I d 103 [.ref 34, .int v1, .int ((s1.1 34 5) + v2)] s1 (fun x5 s4 =>
 (vp_in v1 5 ∧ ((¬ (s4.1 45 v1.toNatClampNeg) = (iI 2) → (let x6 : Int32 := (v2 + (iI 1))
 jv_wp (d + 1) post (108, 6, [some (.ref 34), some (.int v1), some (.int x6)], [], s4))) ∧
 ((s4.1 45 v1.toNatClampNeg) = (iI 2) → post (some (.int v2)) s4)))))))))
set_option maxRecDepth 100000 in
set_option maxHeartbeats 4000000 in
theorem ok_X9_soonOf_L6 {d : Nat} {post : jPo} {σ : jSt} {v1 : Int32} {v2 : Int32} (h : vc_X9_soonOf_L6 d post σ v1 v2) : jv_wp (d + 1) post (108, 6, [some (.ref 34), some (.int v1), some (.int v2)], [], σ) := jv_go_ok 28 [6] _ _ _ h
def vc_X9_tellMatter (d : Nat) (post : jPo) (σ : jSt) (v1 : Int32) (v2 : Int32) : Prop :=
 jq_V d 99 [.ref 34] σ (fun s1 =>
 ((v2 = (iI 0) → (vp_in v1 5 ∧ post (some (.int (s1.1 40 v1.toNatClampNeg))) s1)) ∧
 (¬ v2 = (iI 0) → ((v2 = (iI 1) → (vp_in v1 5 ∧ post (some (.int (s1.1 41 v1.toNatClampNeg))) s1)) ∧
 (¬ v2 = (iI 1) → ((v2 = (iI 2) → (vp_in v1 5 ∧ post (some (.int (s1.1 42 v1.toNatClampNeg))) s1)) ∧
 (¬ v2 = (iI 2) → ((v2 = (iI 3) → (vp_in v1 5 ∧ post (some (.int (s1.1 43 v1.toNatClampNeg))) s1)) ∧
 (¬ v2 = (iI 3) → ((v2 = (iI 4) → (vp_in v1 5 ∧ ((¬ (s1.1 43 v1.toNatClampNeg) = (iI 1) → post (some (.int (iI (-1)))) s1) ∧
 ((s1.1 43 v1.toNatClampNeg) = (iI 1) → (vp_in v1 5 ∧ post (some (.int ((s1.1 34 5) - (s1.1 44 v1.toNatClampNeg)))) s1))))) ∧
 (¬ v2 = (iI 4) → ((v2 = (iI 5) → (vp_in v1 5 ∧ ((¬ (s1.1 43 v1.toNatClampNeg) = (iI 1) → post (some (.int (iI (-1)))) s1) ∧
 ((s1.1 43 v1.toNatClampNeg) = (iI 1) → jq_I d 102 [.ref 34, .int v1, .int (s1.1 34 5)] s1 (fun x3 s2 =>
 ((x3 = 0 → post (some (.int (iI (-1)))) s2) ∧
 (¬ x3 = 0 → jq_I d 101 [.ref 34, .int v1, .int (s2.1 34 5)] s2 (fun x5 s4 =>
 post (some (.int x5)) s4)))))))) ∧
 (¬ v2 = (iI 5) → ((v2 = (iI 6) → jq_I d 108 [.ref 34, .int v1] s1 (fun x7 s6 =>
 post (some (.int x7)) s6)) ∧
 (¬ v2 = (iI 6) → post (some (.int (iI (-102)))) s1)))))))))))))))
set_option maxRecDepth 100000 in
set_option maxHeartbeats 4000000 in
theorem ok_X9_tellMatter {d : Nat} {post : jPo} {σ : jSt} {v1 : Int32} {v2 : Int32} (h : vc_X9_tellMatter d post σ v1 v2) : jv_wp (d + 1) post (109, 0, [some (.ref 34), some (.int v1), some (.int v2)], [], σ) := jv_go_ok 23 [] _ _ _ h
def vc_X9_matter (d : Nat) (post : jPo) (σ : jSt) (v1 : Int32) (v2 : Int32) : Prop :=
 jq_I d 91 [.ref 34, .int v1] σ (fun x2 s1 =>
 ((x2 = 0 → post (some (.int (iI (-101)))) s1) ∧
 (¬ x2 = 0 → jq_I d 109 [.ref 34, .int v1, .int v2] s1 (fun x4 s3 =>
 post (some (.int x4)) s3))))
set_option maxRecDepth 100000 in
set_option maxHeartbeats 4000000 in
theorem ok_X9_matter {d : Nat} {post : jPo} {σ : jSt} {v1 : Int32} {v2 : Int32} (h : vc_X9_matter d post σ v1 v2) : jv_wp (d + 1) post (110, 0, [some (.ref 34), some (.int v1), some (.int v2)], [], σ) := jv_go_ok 10 [] _ _ _ h
def vc_X9_tellDate (d : Nat) (post : jPo) (σ : jSt) (v1 : Int32) (v2 : Int32) : Prop :=
 ((¬ v2 = (iI 3) → jq_V d 93 [.ref 34, .int v1] σ (fun s1 =>
 ((¬ v2 = 0 → ((¬ v2 = (iI 1) → post (some (.int (s1.1 34 19))) s1) ∧
 (v2 = (iI 1) → post (some (.int (s1.1 34 18))) s1))) ∧
 (v2 = 0 → post (some (.int (s1.1 34 17))) s1)))) ∧
 (v2 = (iI 3) → jq_I d 97 [.ref 34, .int v1] σ (fun x3 s2 =>
 post (some (.int x3)) s2)))
set_option maxRecDepth 100000 in
set_option maxHeartbeats 4000000 in
theorem ok_X9_tellDate {d : Nat} {post : jPo} {σ : jSt} {v1 : Int32} {v2 : Int32} (h : vc_X9_tellDate d post σ v1 v2) : jv_wp (d + 1) post (111, 0, [some (.ref 34), some (.int v1), some (.int v2)], [], σ) := jv_go_ok 15 [] _ _ _ h
def vc_X9_date (d : Nat) (post : jPo) (σ : jSt) (v1 : Int32) (v2 : Int32) : Prop :=
 jq_I d 78 [.long (v1).toInt64, .long (Int64.ofNat 0), .long (Int64.ofNat 366)] σ (fun x2 s1 =>
 ((x2 = 0 → post (some (.int (iI (-102)))) s1) ∧
 (¬ x2 = 0 → jq_I d 78 [.long (v2).toInt64, .long (Int64.ofNat 0), .long (Int64.ofNat 3)] s1 (fun x4 s3 =>
 ((¬ x4 = 0 → jq_I d 89 [.ref 34] s3 (fun x6 s5 =>
 ((x6 = 0 → jq_I d 111 [.ref 34, .int ((s5.1 34 5) + v1), .int v2] s5 (fun x8 s7 =>
 post (some (.int x8)) s7)) ∧
 (¬ x6 = 0 → post (some (.int (iI (-103)))) s5)))) ∧
 (x4 = 0 → post (some (.int (iI (-102)))) s3))))))
set_option maxRecDepth 100000 in
set_option maxHeartbeats 4000000 in
theorem ok_X9_date {d : Nat} {post : jPo} {σ : jSt} {v1 : Int32} {v2 : Int32} (h : vc_X9_date d post σ v1 v2) : jv_wp (d + 1) post (112, 0, [some (.ref 34), some (.int v1), some (.int v2)], [], σ) := jv_go_ok 23 [] _ _ _ h
def vc_X9_say (d : Nat) (post : jPo) (σ : jSt) (v1 : Int32) : Prop :=
 jq_I d 91 [.ref 34, .int v1] σ (fun x2 s1 =>
 ((¬ x2 = 0 → jq_V d 99 [.ref 34] s1 (fun s3 =>
 jq_I d 102 [.ref 34, .int v1, .int (s3.1 34 5)] s3 (fun x5 s4 =>
 ((¬ x5 = 0 → jq_I d 103 [.ref 34, .int v1, .int (s4.1 34 5)] s4 (fun x7 s6 =>
 jq_V d 100 [.ref 34] s6 (fun s8 =>
 ((x7 ≤ 0 → (let s9 : jSt := jv_u s8 34 6 ((s8.1 34 6) + (iI 0))
 post (some (.int x7)) s9)) ∧
 (¬ x7 ≤ 0 → (let s10 : jSt := jv_u s8 34 6 ((s8.1 34 6) + x7)
 post (some (.int x7)) s10)))))) ∧
 (x5 = 0 → post (some (.int (iI (-103)))) s4))))) ∧
 (x2 = 0 → post (some (.int (iI (-101)))) s1)))
set_option maxRecDepth 100000 in
set_option maxHeartbeats 4000000 in
theorem ok_X9_say {d : Nat} {post : jPo} {σ : jSt} {v1 : Int32} (h : vc_X9_say d post σ v1) : jv_wp (d + 1) post (113, 0, [some (.ref 34), some (.int v1), none], [], σ) := jv_go_ok 31 [] _ _ _ h
def vc_X9_day (d : Nat) (post : jPo) (σ : jSt)  : Prop :=
 jq_I d 89 [.ref 34] σ (fun x2 s1 =>
 ((x2 = 0 → ((¬ (s1.1 34 5) = (iI 1460) → (let s3 : jSt := jv_u s1 34 5 ((s1.1 34 5) + (iI 1))
 post (some (.int (s3.1 34 5))) s3)) ∧
 ((s1.1 34 5) = (iI 1460) → post (some (.int (iI (-104)))) s1))) ∧
 (¬ x2 = 0 → post (some (.int (iI (-103)))) s1)))
set_option maxRecDepth 100000 in
set_option maxHeartbeats 4000000 in
theorem ok_X9_day {d : Nat} {post : jPo} {σ : jSt} (h : vc_X9_day d post σ ) : jv_wp (d + 1) post (114, 0, [some (.ref 34)], [], σ) := jv_go_ok 16 [] _ _ _ h
def vc_X9_cross (d : Nat) (post : jPo) (σ : jSt) (v1 : Int32) : Prop :=
 jq_I d 90 [.ref 34, .int v1] σ (fun x2 s1 =>
 ((¬ x2 = 0 → (vp_in v1 6 ∧ (vp_in v1 6 ∧ (let s3 : jSt := jv_u s1 38 v1.toNatClampNeg ((iI 1) - (s1.1 38 v1.toNatClampNeg))
 jv_wp (d + 1) post (115, 29, [some (.ref 34), some (.int v1), some (.int (iI 0)), some (.int (iI 0))], [], s3))))) ∧
 (x2 = 0 → post (some (.int (iI (-101)))) s1)))
set_option maxRecDepth 100000 in
set_option maxHeartbeats 4000000 in
theorem ok_X9_cross {d : Nat} {post : jPo} {σ : jSt} {v1 : Int32} (h : vc_X9_cross d post σ v1) : jv_wp (d + 1) post (115, 0, [some (.ref 34), some (.int v1), none, none], [], σ) := jv_go_ok 19 [29] _ _ _ h
def vc_X9_cross_L29 (d : Nat) (post : jPo) (σ : jSt) (v1 : Int32) (v2 : Int32) (v3 : Int32) : Prop :=
 (((σ.1 34 4) ≤ v3 → post (some (.int v2)) σ) ∧
 (¬ (σ.1 34 4) ≤ v3 → (vp_in v3 5 ∧ ((¬ (σ.1 40 v3.toNatClampNeg) = v1 → (let x1 : Int32 := (v3 + (iI 1))
 jv_wp (d + 1) post (115, 29, [some (.ref 34), some (.int v1), some (.int v2), some (.int x1)], [], σ))) ∧
 ((σ.1 40 v3.toNatClampNeg) = v1 → (vp_in v3 5 ∧ ((¬ (σ.1 43 v3.toNatClampNeg) = (iI 1) → (let x2 : Int32 := (v3 + (iI 1))
 jv_wp (d + 1) post (115, 29, [some (.ref 34), some (.int v1), some (.int v2), some (.int x2)], [], σ))) ∧
 ((σ.1 43 v3.toNatClampNeg) = (iI 1) → (vp_in v3 5 ∧ (let s3 : jSt := jv_u σ 43 v3.toNatClampNeg (iI 0)
 (let x4 : Int32 := (v2 + (iI 1))
 (let x5 : Int32 := (v3 + (iI 1))
 jv_wp (d + 1) post (115, 29, [some (.ref 34), some (.int v1), some (.int x4), some (.int x5)], [], s3)))))))))))))
set_option maxRecDepth 100000 in
set_option maxHeartbeats 4000000 in
theorem ok_X9_cross_L29 {d : Nat} {post : jPo} {σ : jSt} {v1 : Int32} {v2 : Int32} {v3 : Int32} (h : vc_X9_cross_L29 d post σ v1 v2 v3) : jv_wp (d + 1) post (115, 29, [some (.ref 34), some (.int v1), some (.int v2), some (.int v3)], [], σ) := jv_go_ok 25 [29] _ _ _ h
def vc_X9_open (d : Nat) (post : jPo) (σ : jSt) (v1 : Int32) (v2 : Int32) : Prop :=
 jq_I d 91 [.ref 34, .int v1] σ (fun x2 s1 =>
 ((¬ x2 = 0 → jq_I d 78 [.long (v2).toInt64, .long (Int64.ofNat 1), .long (Int64.ofNat 9)] s1 (fun x4 s3 =>
 ((¬ x4 = 0 → (vp_in v1 5 ∧ (let x5 : Int32 := (s3.1 43 v1.toNatClampNeg)
 (vp_in v1 5 ∧ (let s6 : jSt := jv_u s3 43 v1.toNatClampNeg (iI 0)
 (vp_in v1 5 ∧ (let s7 : jSt := jv_u s6 42 v1.toNatClampNeg v2
 post (some (.int x5)) s7))))))) ∧
 (x4 = 0 → post (some (.int (iI (-102)))) s3)))) ∧
 (x2 = 0 → post (some (.int (iI (-101)))) s1)))
set_option maxRecDepth 100000 in
set_option maxHeartbeats 4000000 in
theorem ok_X9_open {d : Nat} {post : jPo} {σ : jSt} {v1 : Int32} {v2 : Int32} (h : vc_X9_open d post σ v1 v2) : jv_wp (d + 1) post (116, 0, [some (.ref 34), some (.int v1), some (.int v2), none], [], σ) := jv_go_ok 27 [] _ _ _ h
def vc_X9_change (d : Nat) (post : jPo) (σ : jSt) (v1 : Int32) (v2 : Int32) (v3 : Int32) : Prop :=
 jq_I d 90 [.ref 34, .int v1] σ (fun x2 s1 =>
 ((¬ x2 = 0 → jq_I d 78 [.long (v2).toInt64, .long (Int64.ofNat 0), .long (Int64.ofNat 4)] s1 (fun x4 s3 =>
 ((x4 = 0 → post (some (.int (iI (-102)))) s3) ∧
 (¬ x4 = 0 → jq_I d 78 [.long (v3).toInt64, .long (Int64.ofNat 0), .long (Int64.ofNat 9)] s3 (fun x6 s5 =>
 ((¬ x6 = 0 → (vp_in v1 6 ∧ (let x7 : Int32 := (s5.1 36 v1.toNatClampNeg)
 (vp_in v1 6 ∧ (let s8 : jSt := jv_u s5 36 v1.toNatClampNeg v2
 (vp_in v1 6 ∧ (let s9 : jSt := jv_u s8 39 v1.toNatClampNeg v3
 post (some (.int x7)) s9))))))) ∧
 (x6 = 0 → post (some (.int (iI (-102)))) s5))))))) ∧
 (x2 = 0 → post (some (.int (iI (-101)))) s1)))
set_option maxRecDepth 100000 in
set_option maxHeartbeats 4000000 in
theorem ok_X9_change {d : Nat} {post : jPo} {σ : jSt} {v1 : Int32} {v2 : Int32} {v3 : Int32} (h : vc_X9_change d post σ v1 v2 v3) : jv_wp (d + 1) post (117, 0, [some (.ref 34), some (.int v1), some (.int v2), some (.int v3), none], [], σ) := jv_go_ok 33 [] _ _ _ h
def vc_X9_figure (d : Nat) (post : jPo) (σ : jSt) (v0 : Int32) (v1 : Int32) (v2 : Int32) : Prop :=
 post (some (.int ((v0 >>> (((iI 3) * ((v1 - (iI 1)) - v2)) &&& 31)) &&& (iI 7)))) σ
set_option maxRecDepth 100000 in
set_option maxHeartbeats 4000000 in
theorem ok_X9_figure {d : Nat} {post : jPo} {σ : jSt} {v0 : Int32} {v1 : Int32} {v2 : Int32} (h : vc_X9_figure d post σ v0 v1 v2) : jv_wp (d + 1) post (118, 0, [some (.int v0), some (.int v1), some (.int v2)], [], σ) := jv_go_ok 12 [] _ _ _ h
def vc_X9_worthBy (d : Nat) (post : jPo) (σ : jSt) (v1 : Int32) (v2 : Int32) : Prop :=
 jq_V d 99 [.ref 34] σ (fun s1 =>
 jv_wp (d + 1) post (119, 9, [some (.ref 34), some (.int v1), some (.int v2), some (.int (iI 0)), some (.int (iI 0)), none, none], [], s1))
set_option maxRecDepth 100000 in
set_option maxHeartbeats 4000000 in
theorem ok_X9_worthBy {d : Nat} {post : jPo} {σ : jSt} {v1 : Int32} {v2 : Int32} (h : vc_X9_worthBy d post σ v1 v2) : jv_wp (d + 1) post (119, 0, [some (.ref 34), some (.int v1), some (.int v2), none, none, none, none], [], σ) := jv_go_ok 7 [9, 110] _ _ _ h
def vc_X9_worthBy_L9 (d : Nat) (post : jPo) (σ : jSt) (v1 : Int32) (v2 : Int32) (v3 : Int32) (v4 : Int32) (z5 : Option Value) (z6 : Option Value) : Prop :=
 ((v2 ≤ v4 → jv_wp (d + 1) post (119, 110, [some (.ref 34), some (.int v1), some (.int v2), some (.int v3), some (.int (iI 0)), z5, z6], [], σ)) ∧
 (¬ v2 ≤ v4 → jq_I d 118 [.int v1, .int v2, .int v4] σ (fun x2 s1 =>
 (((iI 7) ≤ x2 → (((iI 7) ≤ x2 → (let x3 : Int32 := (v4 + (iI 1))
 jv_wp (d + 1) post (119, 9, [some (.ref 34), some (.int v1), some (.int v2), some (.int v3), some (.int x3), some (.int x2), z6], [], s1))) ∧
 (¬ (iI 7) ≤ x2 → jq_I d 103 [.ref 34, .int x2, .int ((s1.1 34 5) + v4)] s1 (fun x5 s4 =>
 ((¬ x5 = (iI (-1)) → (let x6 : Int32 := (v3 + (((iI 100) * x5) + (iI 10)))
 (let x7 : Int32 := (v4 + (iI 1))
 jv_wp (d + 1) post (119, 9, [some (.ref 34), some (.int v1), some (.int v2), some (.int x6), some (.int x7), some (.int x2), some (.int x5)], [], s4)))) ∧
 (x5 = (iI (-1)) → (let x8 : Int32 := (v3 + (iI 0))
 (let x9 : Int32 := (v4 + (iI 1))
 jv_wp (d + 1) post (119, 9, [some (.ref 34), some (.int v1), some (.int v2), some (.int x8), some (.int x9), some (.int x2), some (.int x5)], [], s4))))))))) ∧
 (¬ (iI 7) ≤ x2 → (((s1.1 34 4) ≤ x2 → post (some (.int (iI (-1)))) s1) ∧
 (¬ (s1.1 34 4) ≤ x2 → jq_I d 102 [.ref 34, .int x2, .int ((s1.1 34 5) + v4)] s1 (fun x11 s10 =>
 ((¬ x11 = 0 → (((iI 7) ≤ x2 → (let x12 : Int32 := (v4 + (iI 1))
 jv_wp (d + 1) post (119, 9, [some (.ref 34), some (.int v1), some (.int v2), some (.int v3), some (.int x12), some (.int x2), z6], [], s10))) ∧
 (¬ (iI 7) ≤ x2 → jq_I d 103 [.ref 34, .int x2, .int ((s10.1 34 5) + v4)] s10 (fun x14 s13 =>
 ((¬ x14 = (iI (-1)) → (let x15 : Int32 := (v3 + (((iI 100) * x14) + (iI 10)))
 (let x16 : Int32 := (v4 + (iI 1))
 jv_wp (d + 1) post (119, 9, [some (.ref 34), some (.int v1), some (.int v2), some (.int x15), some (.int x16), some (.int x2), some (.int x14)], [], s13)))) ∧
 (x14 = (iI (-1)) → (let x17 : Int32 := (v3 + (iI 0))
 (let x18 : Int32 := (v4 + (iI 1))
 jv_wp (d + 1) post (119, 9, [some (.ref 34), some (.int v1), some (.int v2), some (.int x17), some (.int x18), some (.int x2), some (.int x14)], [], s13))))))))) ∧
 (x11 = 0 → post (some (.int (iI (-1)))) s10))))))))))
set_option maxRecDepth 100000 in
set_option maxHeartbeats 4000000 in
theorem ok_X9_worthBy_L9 {d : Nat} {post : jPo} {σ : jSt} {v1 : Int32} {v2 : Int32} {v3 : Int32} {v4 : Int32} {z5 : Option Value} {z6 : Option Value} (h : vc_X9_worthBy_L9 d post σ v1 v2 v3 v4 z5 z6) : jv_wp (d + 1) post (119, 9, [some (.ref 34), some (.int v1), some (.int v2), some (.int v3), some (.int v4), z5, z6], [], σ) := jv_go_ok 48 [9, 110] _ _ _ h
def vc_X9_worthBy_L110 (d : Nat) (post : jPo) (σ : jSt) (v1 : Int32) (v2 : Int32) (v3 : Int32) (v4 : Int32) (z5 : Option Value) (z6 : Option Value) : Prop :=
 (((σ.1 34 4) ≤ v4 → post (some (.int v3)) σ) ∧
 (¬ (σ.1 34 4) ≤ v4 → (vp_in v4 5 ∧ ((¬ (σ.1 45 v4.toNatClampNeg) = (iI 1) → (let x1 : Int32 := (v3 + (iI 0))
 (let x2 : Int32 := (v4 + (iI 1))
 jv_wp (d + 1) post (119, 110, [some (.ref 34), some (.int v1), some (.int v2), some (.int x1), some (.int x2), z5, z6], [], σ)))) ∧
 ((σ.1 45 v4.toNatClampNeg) = (iI 1) → (let x3 : Int32 := (v3 + (iI 1))
 (let x4 : Int32 := (v4 + (iI 1))
 jv_wp (d + 1) post (119, 110, [some (.ref 34), some (.int v1), some (.int v2), some (.int x3), some (.int x4), z5, z6], [], σ))))))))
set_option maxRecDepth 100000 in
set_option maxHeartbeats 4000000 in
theorem ok_X9_worthBy_L110 {d : Nat} {post : jPo} {σ : jSt} {v1 : Int32} {v2 : Int32} {v3 : Int32} {v4 : Int32} {z5 : Option Value} {z6 : Option Value} (h : vc_X9_worthBy_L110 d post σ v1 v2 v3 v4 z5 z6) : jv_wp (d + 1) post (119, 110, [some (.ref 34), some (.int v1), some (.int v2), some (.int v3), some (.int v4), z5, z6], [], σ) := jv_go_ok 18 [9, 110] _ _ _ h
def vc_X9_bestOf (d : Nat) (post : jPo) (σ : jSt) (v1 : Int32) (v2 : Int32) : Prop :=
 jv_wp (d + 1) post (120, 8, [some (.ref 34), some (.int v1), some (.int v2), some (.int (iI 0)), some (.int (iI (-1))), some (.int (iI 0)), none], [], σ)
set_option maxRecDepth 100000 in
set_option maxHeartbeats 4000000 in
theorem ok_X9_bestOf {d : Nat} {post : jPo} {σ : jSt} {v1 : Int32} {v2 : Int32} (h : vc_X9_bestOf d post σ v1 v2) : jv_wp (d + 1) post (120, 0, [some (.ref 34), some (.int v1), some (.int v2), none, none, none, none], [], σ) := jv_go_ok 7 [8] _ _ _ h
def vc_X9_bestOf_L8 (d : Nat) (post : jPo) (σ : jSt) (v1 : Int32) (v2 : Int32) (v3 : Int32) (v4 : Int32) (v5 : Int32) (z6 : Option Value) : Prop :=
 ((((iI 1) <<< (((iI 3) * v1) &&& 31)) ≤ v5 → (((iI 2) ≤ v2 → ((v1 ≤ (v2 - (iI 10)) → post (some (.int (iI (-1)))) σ) ∧
 (¬ v1 ≤ (v2 - (iI 10)) → jq_I d 118 [.int v3, .int v1, .int (v2 - (iI 10))] σ (fun x2 s1 =>
 post (some (.int x2)) s1)))) ∧
 (¬ (iI 2) ≤ v2 → ((¬ v2 = 0 → post (some (.int ((v4 / (iI 10)) - (v4 / (iI 10)) / (iI 10) * (iI 10)))) σ) ∧
 (v2 = 0 → post (some (.int (v4 / (iI 100)))) σ))))) ∧
 (¬ ((iI 1) <<< (((iI 3) * v1) &&& 31)) ≤ v5 → jq_I d 119 [.ref 34, .int v5, .int v1] σ (fun x4 s3 =>
 ((x4 ≤ v4 → ((x4 ≤ v4 → (let x5 : Int32 := (v5 + (iI 1))
 jv_wp (d + 1) post (120, 8, [some (.ref 34), some (.int v1), some (.int v2), some (.int v3), some (.int v4), some (.int x5), some (.int x4)], [], s3))) ∧
 (¬ x4 ≤ v4 → (let x6 : Int32 := (v5 + (iI 1))
 jv_wp (d + 1) post (120, 8, [some (.ref 34), some (.int v1), some (.int v2), some (.int v3), some (.int x4), some (.int x6), some (.int x4)], [], s3))))) ∧
 (¬ x4 ≤ v4 → ((x4 ≤ v4 → (let x7 : Int32 := (v5 + (iI 1))
 jv_wp (d + 1) post (120, 8, [some (.ref 34), some (.int v1), some (.int v2), some (.int v5), some (.int v4), some (.int x7), some (.int x4)], [], s3))) ∧
 (¬ x4 ≤ v4 → (let x8 : Int32 := (v5 + (iI 1))
 jv_wp (d + 1) post (120, 8, [some (.ref 34), some (.int v1), some (.int v2), some (.int v5), some (.int x4), some (.int x8), some (.int x4)], [], s3)))))))))
set_option maxRecDepth 100000 in
set_option maxHeartbeats 4000000 in
theorem ok_X9_bestOf_L8 {d : Nat} {post : jPo} {σ : jSt} {v1 : Int32} {v2 : Int32} {v3 : Int32} {v4 : Int32} {v5 : Int32} {z6 : Option Value} (h : vc_X9_bestOf_L8 d post σ v1 v2 v3 v4 v5 z6) : jv_wp (d + 1) post (120, 8, [some (.ref 34), some (.int v1), some (.int v2), some (.int v3), some (.int v4), some (.int v5), z6], [], σ) := jv_go_ok 27 [8] _ _ _ (show ((((iI 1) <<< (((iI 3) * v1) &&& 31)) ≤ v5 → (((iI 2) ≤ v2 → ((v1 ≤ (v2 - (iI 10)) → post (some (.int (iI (-1)))) σ) ∧
 (¬ v1 ≤ (v2 - (iI 10)) → jq_I d 118 [.int v3, .int v1, .int (v2 - (iI 10))] σ (fun x2 s1 =>
 post (some (.int x2)) s1)))) ∧
 (¬ (iI 2) ≤ v2 → ((¬ v2 = 0 → (¬ (iI 10) = 0 ∧ (¬ (iI 10) = 0 ∧ post (some (.int ((v4 / (iI 10)) - (v4 / (iI 10)) / (iI 10) * (iI 10)))) σ))) ∧
 (v2 = 0 → (¬ (iI 100) = 0 ∧ post (some (.int (v4 / (iI 100)))) σ)))))) ∧
 (¬ ((iI 1) <<< (((iI 3) * v1) &&& 31)) ≤ v5 → jq_I d 119 [.ref 34, .int v5, .int v1] σ (fun x4 s3 =>
 ((x4 ≤ v4 → ((x4 ≤ v4 → (let x5 : Int32 := (v5 + (iI 1))
 jv_wp (d + 1) post (120, 8, [some (.ref 34), some (.int v1), some (.int v2), some (.int v3), some (.int v4), some (.int x5), some (.int x4)], [], s3))) ∧
 (¬ x4 ≤ v4 → (let x6 : Int32 := (v5 + (iI 1))
 jv_wp (d + 1) post (120, 8, [some (.ref 34), some (.int v1), some (.int v2), some (.int v3), some (.int x4), some (.int x6), some (.int x4)], [], s3))))) ∧
 (¬ x4 ≤ v4 → ((x4 ≤ v4 → (let x7 : Int32 := (v5 + (iI 1))
 jv_wp (d + 1) post (120, 8, [some (.ref 34), some (.int v1), some (.int v2), some (.int v5), some (.int v4), some (.int x7), some (.int x4)], [], s3))) ∧
 (¬ x4 ≤ v4 → (let x8 : Int32 := (v5 + (iI 1))
 jv_wp (d + 1) post (120, 8, [some (.ref 34), some (.int v1), some (.int v2), some (.int v5), some (.int x4), some (.int x8), some (.int x4)], [], s3))))))))) from ⟨fun c227 => ⟨fun c228 => ((((h).1 c227)).1 c228), fun c228 => ⟨fun c230 => ⟨by decide +kernel, ⟨by decide +kernel, ((((((h).1 c227)).2 c228)).1 c230)⟩⟩, fun c230 => ⟨by decide +kernel, ((((((h).1 c227)).2 c228)).2 c230)⟩⟩⟩, fun c227 => ((h).2 c227)⟩)
def vc_X9_best (d : Nat) (post : jPo) (σ : jSt) (v1 : Int32) (v2 : Int32) : Prop :=
 jq_I d 78 [.long (v1).toInt64, .long (Int64.ofNat 1), .long (Int64.ofNat 5)] σ (fun x2 s1 =>
 ((x2 = 0 → post (some (.int (iI (-102)))) s1) ∧
 (¬ x2 = 0 → jq_I d 78 [.long (v2).toInt64, .long (Int64.ofNat 0), .long (Int64.ofNat 1)] s1 (fun x4 s3 =>
 ((¬ x4 = 0 → jq_I d 89 [.ref 34] s3 (fun x6 s5 =>
 ((¬ x6 = 0 → post (some (.int (iI (-103)))) s5) ∧
 (x6 = 0 → ((¬ (s5.1 34 22) = (iI 20) → (let s7 : jSt := jv_u s5 34 22 ((s5.1 34 22) + (iI 1))
 jq_I d 120 [.ref 34, .int v1, .int v2] s7 (fun x9 s8 =>
 post (some (.int x9)) s8))) ∧
 ((s5.1 34 22) = (iI 20) → post (some (.int (iI (-103)))) s5)))))) ∧
 (x4 = 0 → jq_I d 78 [.long (v2).toInt64, .long (Int64.ofNat 10), .long (Int64.ofNat 14)] s3 (fun x11 s10 =>
 ((¬ x11 = 0 → jq_I d 89 [.ref 34] s10 (fun x13 s12 =>
 ((¬ x13 = 0 → post (some (.int (iI (-103)))) s12) ∧
 (x13 = 0 → ((¬ (s12.1 34 22) = (iI 20) → (let s14 : jSt := jv_u s12 34 22 ((s12.1 34 22) + (iI 1))
 jq_I d 120 [.ref 34, .int v1, .int v2] s14 (fun x16 s15 =>
 post (some (.int x16)) s15))) ∧
 ((s12.1 34 22) = (iI 20) → post (some (.int (iI (-103)))) s12)))))) ∧
 (x11 = 0 → post (some (.int (iI (-102)))) s10)))))))))
set_option maxRecDepth 100000 in
set_option maxHeartbeats 4000000 in
theorem ok_X9_best {d : Nat} {post : jPo} {σ : jSt} {v1 : Int32} {v2 : Int32} (h : vc_X9_best d post σ v1 v2) : jv_wp (d + 1) post (121, 0, [some (.ref 34), some (.int v1), some (.int v2)], [], σ) := jv_go_ok 36 [] _ _ _ h
def vc_X9_settledBy (d : Nat) (post : jPo) (σ : jSt) (v1 : Int32) : Prop :=
 jv_wp (d + 1) post (122, 2, [some (.ref 34), some (.int v1), some (.int (iI 0)), none], [], σ)
set_option maxRecDepth 100000 in
set_option maxHeartbeats 4000000 in
theorem ok_X9_settledBy {d : Nat} {post : jPo} {σ : jSt} {v1 : Int32} (h : vc_X9_settledBy d post σ v1) : jv_wp (d + 1) post (122, 0, [some (.ref 34), some (.int v1), none, none], [], σ) := jv_go_ok 3 [2, 31] _ _ _ h
def vc_X9_settledBy_L2 (d : Nat) (post : jPo) (σ : jSt) (v1 : Int32) (v2 : Int32) : Prop :=
 (((σ.1 34 3) ≤ v2 → jv_wp (d + 1) post (122, 31, [some (.ref 34), some (.int v1), some (.int (iI 0)), some (.int (iI 0))], [], σ)) ∧
 (¬ (σ.1 34 3) ≤ v2 → (vp_in v2 6 ∧ (let s1 : jSt := jv_u σ 38 v2.toNatClampNeg ((v1 >>> (v2 &&& 31)) &&& (iI 1))
 (let x2 : Int32 := (v2 + (iI 1))
 jv_wp (d + 1) post (122, 2, [some (.ref 34), some (.int v1), some (.int x2), none], [], s1))))))
set_option maxRecDepth 100000 in
set_option maxHeartbeats 4000000 in
theorem ok_X9_settledBy_L2 {d : Nat} {post : jPo} {σ : jSt} {v1 : Int32} {v2 : Int32} (h : vc_X9_settledBy_L2 d post σ v1 v2) : jv_wp (d + 1) post (122, 2, [some (.ref 34), some (.int v1), some (.int v2), none], [], σ) := jv_go_ok 16 [2, 31] _ _ _ h
def vc_X9_settledBy_L31 (d : Nat) (post : jPo) (σ : jSt) (v1 : Int32) (v2 : Int32) (v3 : Int32) : Prop :=
 (((σ.1 34 4) ≤ v3 → post (some (.int v2)) σ) ∧
 (¬ (σ.1 34 4) ≤ v3 → (vp_in v3 5 ∧ ((¬ (σ.1 43 v3.toNatClampNeg) = 0 → (let x1 : Int32 := (v2 + (iI 0))
 (let x2 : Int32 := (v3 + (iI 1))
 jv_wp (d + 1) post (122, 31, [some (.ref 34), some (.int v1), some (.int x1), some (.int x2)], [], σ)))) ∧
 ((σ.1 43 v3.toNatClampNeg) = 0 → (vp_in v3 5 ∧ jq_I d 96 [.ref 34, .int (σ.1 40 v3.toNatClampNeg), .int (σ.1 34 5)] σ (fun x4 s3 =>
 ((x4 = 0 → (let x5 : Int32 := (v2 + (iI 0))
 (let x6 : Int32 := (v3 + (iI 1))
 jv_wp (d + 1) post (122, 31, [some (.ref 34), some (.int v1), some (.int x5), some (.int x6)], [], s3)))) ∧
 (¬ x4 = 0 → (vp_in v3 5 ∧ jq_I d 96 [.ref 34, .int (s3.1 41 v3.toNatClampNeg), .int ((s3.1 34 5) + (iI 1))] s3 (fun x8 s7 =>
 ((x8 = 0 → (let x9 : Int32 := (v2 + (iI 0))
 (let x10 : Int32 := (v3 + (iI 1))
 jv_wp (d + 1) post (122, 31, [some (.ref 34), some (.int v1), some (.int x9), some (.int x10)], [], s7)))) ∧
 (¬ x8 = 0 → (let x11 : Int32 := (v2 + (iI 1))
 (let x12 : Int32 := (v3 + (iI 1))
 jv_wp (d + 1) post (122, 31, [some (.ref 34), some (.int v1), some (.int x11), some (.int x12)], [], s7))))))))))))))))
set_option maxRecDepth 100000 in
set_option maxHeartbeats 4000000 in
theorem ok_X9_settledBy_L31 {d : Nat} {post : jPo} {σ : jSt} {v1 : Int32} {v2 : Int32} {v3 : Int32} (h : vc_X9_settledBy_L31 d post σ v1 v2 v3) : jv_wp (d + 1) post (122, 31, [some (.ref 34), some (.int v1), some (.int v2), some (.int v3)], [], σ) := jv_go_ok 37 [2, 31] _ _ _ h
def vc_X9_liveOf (d : Nat) (post : jPo) (σ : jSt) (v1 : Int32) : Prop :=
 jq_V d 79 [.ref 38, .ref 47] σ (fun s1 =>
 jv_wp (d + 1) post (123, 15, [some (.ref 34), some (.int v1), some (.int (iI 0)), some (.int (iI 0)), none, none, none], [], s1))
set_option maxRecDepth 100000 in
set_option maxHeartbeats 4000000 in
theorem ok_X9_liveOf {d : Nat} {post : jPo} {σ : jSt} {v1 : Int32} (h : vc_X9_liveOf d post σ v1) : jv_wp (d + 1) post (123, 0, [some (.ref 34), some (.int v1), none, none, none, none, none], [], σ) := jv_go_ok 10 [15, 48] _ _ _ h
def vc_X9_liveOf_L15 (d : Nat) (post : jPo) (σ : jSt) (v1 : Int32) (v2 : Int32) (v3 : Int32) : Prop :=
 (((σ.1 34 3) ≤ v3 → jv_wp (d + 1) post (123, 48, [some (.ref 34), some (.int v1), some (.int v2), some (.int (iI 0)), some (.int (iI (-1))), some (.int (iI 0)), none], [], σ)) ∧
 (¬ (σ.1 34 3) ≤ v3 → (vp_in v3 6 ∧ (let x1 : Int32 := (v2 ||| ((σ.1 38 v3.toNatClampNeg) <<< (v3 &&& 31)))
 (let x2 : Int32 := (v3 + (iI 1))
 jv_wp (d + 1) post (123, 15, [some (.ref 34), some (.int v1), some (.int x1), some (.int x2), none, none, none], [], σ))))))
set_option maxRecDepth 100000 in
set_option maxHeartbeats 4000000 in
theorem ok_X9_liveOf_L15 {d : Nat} {post : jPo} {σ : jSt} {v1 : Int32} {v2 : Int32} {v3 : Int32} (h : vc_X9_liveOf_L15 d post σ v1 v2 v3) : jv_wp (d + 1) post (123, 15, [some (.ref 34), some (.int v1), some (.int v2), some (.int v3), none, none, none], [], σ) := jv_go_ok 16 [15, 48] _ _ _ h
def vc_X9_liveOf_L48 (d : Nat) (post : jPo) (σ : jSt) (v1 : Int32) (v2 : Int32) (v3 : Int32) (v4 : Int32) (v5 : Int32) (z6 : Option Value) : Prop :=
 ((((iI 1) <<< ((σ.1 34 3) &&& 31)) ≤ v5 → jq_V d 79 [.ref 47, .ref 38] σ (fun s1 =>
 ((¬ v1 = 0 → post (some (.int v3)) s1) ∧
 (v1 = 0 → post (some (.int (v4 / (iI 10)))) s1)))) ∧
 (¬ ((iI 1) <<< ((σ.1 34 3) &&& 31)) ≤ v5 → jq_I d 122 [.ref 34, .int v5] σ (fun x3 s2 =>
 jq_I d 98 [.int (v5 ^^^ v2)] s2 (fun x5 s4 =>
 (let x6 : Int32 := ((((iI 10) * x3) + (iI 6)) - x5)
 ((x6 ≤ v4 → ((x6 ≤ v4 → (let x7 : Int32 := (v5 + (iI 1))
 jv_wp (d + 1) post (123, 48, [some (.ref 34), some (.int v1), some (.int v2), some (.int v3), some (.int v4), some (.int x7), some (.int x6)], [], s4))) ∧
 (¬ x6 ≤ v4 → (let x8 : Int32 := (v5 + (iI 1))
 jv_wp (d + 1) post (123, 48, [some (.ref 34), some (.int v1), some (.int v2), some (.int v3), some (.int x6), some (.int x8), some (.int x6)], [], s4))))) ∧
 (¬ x6 ≤ v4 → ((x6 ≤ v4 → (let x9 : Int32 := (v5 + (iI 1))
 jv_wp (d + 1) post (123, 48, [some (.ref 34), some (.int v1), some (.int v2), some (.int v5), some (.int v4), some (.int x9), some (.int x6)], [], s4))) ∧
 (¬ x6 ≤ v4 → (let x10 : Int32 := (v5 + (iI 1))
 jv_wp (d + 1) post (123, 48, [some (.ref 34), some (.int v1), some (.int v2), some (.int v5), some (.int x6), some (.int x10), some (.int x6)], [], s4)))))))))))
set_option maxRecDepth 100000 in
set_option maxHeartbeats 4000000 in
theorem ok_X9_liveOf_L48 {d : Nat} {post : jPo} {σ : jSt} {v1 : Int32} {v2 : Int32} {v3 : Int32} {v4 : Int32} {v5 : Int32} {z6 : Option Value} (h : vc_X9_liveOf_L48 d post σ v1 v2 v3 v4 v5 z6) : jv_wp (d + 1) post (123, 48, [some (.ref 34), some (.int v1), some (.int v2), some (.int v3), some (.int v4), some (.int v5), z6], [], σ) := jv_go_ok 34 [15, 48] _ _ _ (show ((((iI 1) <<< ((σ.1 34 3) &&& 31)) ≤ v5 → jq_V d 79 [.ref 47, .ref 38] σ (fun s1 =>
 ((¬ v1 = 0 → post (some (.int v3)) s1) ∧
 (v1 = 0 → (¬ (iI 10) = 0 ∧ post (some (.int (v4 / (iI 10)))) s1))))) ∧
 (¬ ((iI 1) <<< ((σ.1 34 3) &&& 31)) ≤ v5 → jq_I d 122 [.ref 34, .int v5] σ (fun x3 s2 =>
 jq_I d 98 [.int (v5 ^^^ v2)] s2 (fun x5 s4 =>
 (let x6 : Int32 := ((((iI 10) * x3) + (iI 6)) - x5)
 ((x6 ≤ v4 → ((x6 ≤ v4 → (let x7 : Int32 := (v5 + (iI 1))
 jv_wp (d + 1) post (123, 48, [some (.ref 34), some (.int v1), some (.int v2), some (.int v3), some (.int v4), some (.int x7), some (.int x6)], [], s4))) ∧
 (¬ x6 ≤ v4 → (let x8 : Int32 := (v5 + (iI 1))
 jv_wp (d + 1) post (123, 48, [some (.ref 34), some (.int v1), some (.int v2), some (.int v3), some (.int x6), some (.int x8), some (.int x6)], [], s4))))) ∧
 (¬ x6 ≤ v4 → ((x6 ≤ v4 → (let x9 : Int32 := (v5 + (iI 1))
 jv_wp (d + 1) post (123, 48, [some (.ref 34), some (.int v1), some (.int v2), some (.int v5), some (.int v4), some (.int x9), some (.int x6)], [], s4))) ∧
 (¬ x6 ≤ v4 → (let x10 : Int32 := (v5 + (iI 1))
 jv_wp (d + 1) post (123, 48, [some (.ref 34), some (.int v1), some (.int v2), some (.int v5), some (.int x6), some (.int x10), some (.int x6)], [], s4))))))))))) from ⟨fun c237 => jq_V_con (((h).1 c237)) (fun s1 h238 => ⟨fun c239 => ((h238).1 c239), fun c239 => ⟨by decide +kernel, ((h238).2 c239)⟩⟩), fun c237 => ((h).2 c237)⟩)
def vc_X9_live (d : Nat) (post : jPo) (σ : jSt) (v1 : Int32) : Prop :=
 jq_I d 78 [.long (v1).toInt64, .long (Int64.ofNat 0), .long (Int64.ofNat 1)] σ (fun x2 s1 =>
 ((¬ x2 = 0 → jq_I d 89 [.ref 34] s1 (fun x4 s3 =>
 ((x4 = 0 → jq_I d 123 [.ref 34, .int v1] s3 (fun x6 s5 =>
 post (some (.int x6)) s5)) ∧
 (¬ x4 = 0 → post (some (.int (iI (-103)))) s3)))) ∧
 (x2 = 0 → post (some (.int (iI (-102)))) s1)))
set_option maxRecDepth 100000 in
set_option maxHeartbeats 4000000 in
theorem ok_X9_live {d : Nat} {post : jPo} {σ : jSt} {v1 : Int32} (h : vc_X9_live d post σ v1) : jv_wp (d + 1) post (124, 0, [some (.ref 34), some (.int v1)], [], σ) := jv_go_ok 13 [] _ _ _ h
def vc_X9_fogOf (d : Nat) (post : jPo) (σ : jSt) (v1 : Int32) (v2 : Int32) (v3 : Int32) (v4 : Int32) : Prop :=
 jv_wp (d + 1) post (125, 9, [some (.ref 34), some (.int v1), some (.int v2), some (.int v3), some (.int v4), some (.int (iI 0)), some (.int (iI 1)), some (.int (iI 0)), none, none, none], [], σ)
set_option maxRecDepth 100000 in
set_option maxHeartbeats 4000000 in
theorem ok_X9_fogOf {d : Nat} {post : jPo} {σ : jSt} {v1 : Int32} {v2 : Int32} {v3 : Int32} {v4 : Int32} (h : vc_X9_fogOf d post σ v1 v2 v3 v4) : jv_wp (d + 1) post (125, 0, [some (.ref 34), some (.int v1), some (.int v2), some (.int v3), some (.int v4), none, none, none, none, none, none], [], σ) := jv_go_ok 7 [9, 31, 49, 165] _ _ _ h
def vc_X9_fogOf_L9 (d : Nat) (post : jPo) (σ : jSt) (v1 : Int32) (v2 : Int32) (v3 : Int32) (v4 : Int32) (v5 : Int32) (v6 : Int32) (v7 : Int32) : Prop :=
 ((v2 ≤ v7 → jv_wp (d + 1) post (125, 31, [some (.ref 34), some (.int v1), some (.int v2), some (.int v3), some (.int v4), some (.int v5), some (.int v6), some (.int (iI 0)), none, none, none], [], σ)) ∧
 (¬ v2 ≤ v7 → (let x1 : Int32 := (v6 * (iI 10))
 (let x2 : Int32 := (v7 + (iI 1))
 jv_wp (d + 1) post (125, 9, [some (.ref 34), some (.int v1), some (.int v2), some (.int v3), some (.int v4), some (.int v5), some (.int x1), some (.int x2), none, none, none], [], σ)))))
set_option maxRecDepth 100000 in
set_option maxHeartbeats 4000000 in
theorem ok_X9_fogOf_L9 {d : Nat} {post : jPo} {σ : jSt} {v1 : Int32} {v2 : Int32} {v3 : Int32} {v4 : Int32} {v5 : Int32} {v6 : Int32} {v7 : Int32} (h : vc_X9_fogOf_L9 d post σ v1 v2 v3 v4 v5 v6 v7) : jv_wp (d + 1) post (125, 9, [some (.ref 34), some (.int v1), some (.int v2), some (.int v3), some (.int v4), some (.int v5), some (.int v6), some (.int v7), none, none, none], [], σ) := jv_go_ok 10 [9, 31, 49, 165] _ _ _ h
def vc_X9_fogOf_L31 (d : Nat) (post : jPo) (σ : jSt) (v1 : Int32) (v2 : Int32) (v3 : Int32) (v4 : Int32) (v5 : Int32) (v6 : Int32) (v7 : Int32) (z8 : Option Value) (z9 : Option Value) (z10 : Option Value) : Prop :=
 ((((iI 1) <<< (v2 &&& 31)) ≤ v7 → jv_wp (d + 1) post (125, 165, [some (.ref 34), some (.int v1), some (.int v2), some (.int v3), some (.int v4), some (.int v5), some (.int v6), some (.int v6), some (.int v5), z9, z10], [], σ)) ∧
 (¬ ((iI 1) <<< (v2 &&& 31)) ≤ v7 → jq_V d 99 [.ref 34] σ (fun s1 =>
 jv_wp (d + 1) post (125, 49, [some (.ref 34), some (.int v1), some (.int v2), some (.int v3), some (.int v4), some (.int v5), some (.int v6), some (.int v7), some (.int (iI 1)), some (.int (iI 0)), z10], [], s1))))
set_option maxRecDepth 100000 in
set_option maxHeartbeats 4000000 in
theorem ok_X9_fogOf_L31 {d : Nat} {post : jPo} {σ : jSt} {v1 : Int32} {v2 : Int32} {v3 : Int32} {v4 : Int32} {v5 : Int32} {v6 : Int32} {v7 : Int32} {z8 : Option Value} {z9 : Option Value} {z10 : Option Value} (h : vc_X9_fogOf_L31 d post σ v1 v2 v3 v4 v5 v6 v7 z8 z9 z10) : jv_wp (d + 1) post (125, 31, [some (.ref 34), some (.int v1), some (.int v2), some (.int v3), some (.int v4), some (.int v5), some (.int v6), some (.int v7), z8, z9, z10], [], σ) := jv_go_ok 12 [9, 31, 49, 165] _ _ _ h
def vc_X9_fogOf_L49 (d : Nat) (post : jPo) (σ : jSt) (v1 : Int32) (v2 : Int32) (v3 : Int32) (v4 : Int32) (v5 : Int32) (v6 : Int32) (v7 : Int32) (v8 : Int32) (v9 : Int32) (z10 : Option Value) : Prop :=
 ((v2 ≤ v9 → (vp_in v1 5 ∧ ((¬ (σ.1 45 v1.toNatClampNeg) = (iI 2) → (let x1 : Int32 := (v5 + (iI 0))
 (let x2 : Int32 := (v7 + (iI 1))
 jv_wp (d + 1) post (125, 31, [some (.ref 34), some (.int v1), some (.int v2), some (.int v3), some (.int v4), some (.int x1), some (.int v6), some (.int x2), some (.int v8), some (.int v9), z10], [], σ)))) ∧
 ((σ.1 45 v1.toNatClampNeg) = (iI 2) → (let x3 : Int32 := (v5 + v8)
 (let x4 : Int32 := (v7 + (iI 1))
 jv_wp (d + 1) post (125, 31, [some (.ref 34), some (.int v1), some (.int v2), some (.int v3), some (.int v4), some (.int x3), some (.int v6), some (.int x4), some (.int v8), some (.int v9), z10], [], σ))))))) ∧
 (¬ v2 ≤ v9 → ((¬ ((v7 >>> (v9 &&& 31)) &&& (iI 1)) = (iI 1) → (let x5 : Int32 := (v8 * ((iI 10) - v3))
 jq_I d 102 [.ref 34, .int v1, .int ((σ.1 34 5) + v9)] σ (fun x8 s7 =>
 ((x8 = 0 → (let x9 : Int32 := (v9 + (iI 1))
 jv_wp (d + 1) post (125, 49, [some (.ref 34), some (.int v1), some (.int v2), some (.int v3), some (.int v4), some (.int v5), some (.int v6), some (.int v7), some (.int x5), some (.int x9), some (.int (iI 0))], [], s7))) ∧
 (¬ x8 = 0 → jq_I d 103 [.ref 34, .int v1, .int ((s7.1 34 5) + v9)] s7 (fun x11 s10 =>
 (let x12 : Int32 := (v9 + (iI 1))
 jv_wp (d + 1) post (125, 49, [some (.ref 34), some (.int v1), some (.int v2), some (.int v3), some (.int v4), some (.int v5), some (.int v6), some (.int v7), some (.int x5), some (.int x12), some (.int (iI 0))], [], s10)))))))) ∧
 (((v7 >>> (v9 &&& 31)) &&& (iI 1)) = (iI 1) → (let x29 : Int32 := (v8 * v3)
 (let x30 : Int32 := (v9 + (iI 1))
 jv_wp (d + 1) post (125, 49, [some (.ref 34), some (.int v1), some (.int v2), some (.int v3), some (.int v4), some (.int v5), some (.int v6), some (.int v7), some (.int x29), some (.int x30), some (.int (iI 1))], [], σ)))))))
set_option maxRecDepth 100000 in
set_option maxHeartbeats 4000000 in
theorem ok_X9_fogOf_L49 {d : Nat} {post : jPo} {σ : jSt} {v1 : Int32} {v2 : Int32} {v3 : Int32} {v4 : Int32} {v5 : Int32} {v6 : Int32} {v7 : Int32} {v8 : Int32} {v9 : Int32} {z10 : Option Value} (h : vc_X9_fogOf_L49 d post σ v1 v2 v3 v4 v5 v6 v7 v8 v9 z10) : jv_wp (d + 1) post (125, 49, [some (.ref 34), some (.int v1), some (.int v2), some (.int v3), some (.int v4), some (.int v5), some (.int v6), some (.int v7), some (.int v8), some (.int v9), z10], [], σ) := jv_go_ok 42 [9, 31, 49, 165] _ _ _ (show ((v2 ≤ v9 → (vp_in v1 5 ∧ ((¬ (σ.1 45 v1.toNatClampNeg) = (iI 2) → (let x1 : Int32 := (v5 + (iI 0))
 (let x2 : Int32 := (v7 + (iI 1))
 jv_wp (d + 1) post (125, 31, [some (.ref 34), some (.int v1), some (.int v2), some (.int v3), some (.int v4), some (.int x1), some (.int v6), some (.int x2), some (.int v8), some (.int v9), z10], [], σ)))) ∧
 ((σ.1 45 v1.toNatClampNeg) = (iI 2) → (let x3 : Int32 := (v5 + v8)
 (let x4 : Int32 := (v7 + (iI 1))
 jv_wp (d + 1) post (125, 31, [some (.ref 34), some (.int v1), some (.int v2), some (.int v3), some (.int v4), some (.int x3), some (.int v6), some (.int x4), some (.int v8), some (.int v9), z10], [], σ))))))) ∧
 (¬ v2 ≤ v9 → ((¬ ((v7 >>> (v9 &&& 31)) &&& (iI 1)) = (iI 1) → (((iI 0) = 0 → (let x5 : Int32 := (v8 * ((iI 10) - v3))
 ((¬ (iI 0) = 0 → (let x6 : Int32 := (v9 + (iI 1))
 jv_wp (d + 1) post (125, 49, [some (.ref 34), some (.int v1), some (.int v2), some (.int v3), some (.int v4), some (.int v5), some (.int v6), some (.int v7), some (.int x5), some (.int x6), some (.int (iI 0))], [], σ))) ∧
 ((iI 0) = 0 → jq_I d 102 [.ref 34, .int v1, .int ((σ.1 34 5) + v9)] σ (fun x8 s7 =>
 ((x8 = 0 → (let x9 : Int32 := (v9 + (iI 1))
 jv_wp (d + 1) post (125, 49, [some (.ref 34), some (.int v1), some (.int v2), some (.int v3), some (.int v4), some (.int v5), some (.int v6), some (.int v7), some (.int x5), some (.int x9), some (.int (iI 0))], [], s7))) ∧
 (¬ x8 = 0 → jq_I d 103 [.ref 34, .int v1, .int ((s7.1 34 5) + v9)] s7 (fun x11 s10 =>
 (let x12 : Int32 := (v9 + (iI 1))
 jv_wp (d + 1) post (125, 49, [some (.ref 34), some (.int v1), some (.int v2), some (.int v3), some (.int v4), some (.int v5), some (.int v6), some (.int v7), some (.int x5), some (.int x12), some (.int (iI 0))], [], s10)))))))))) ∧
 (¬ (iI 0) = 0 → (let x13 : Int32 := (v8 * v3)
 ((¬ (iI 0) = 0 → (let x14 : Int32 := (v9 + (iI 1))
 jv_wp (d + 1) post (125, 49, [some (.ref 34), some (.int v1), some (.int v2), some (.int v3), some (.int v4), some (.int v5), some (.int v6), some (.int v7), some (.int x13), some (.int x14), some (.int (iI 0))], [], σ))) ∧
 ((iI 0) = 0 → jq_I d 102 [.ref 34, .int v1, .int ((σ.1 34 5) + v9)] σ (fun x16 s15 =>
 ((x16 = 0 → (let x17 : Int32 := (v9 + (iI 1))
 jv_wp (d + 1) post (125, 49, [some (.ref 34), some (.int v1), some (.int v2), some (.int v3), some (.int v4), some (.int v5), some (.int v6), some (.int v7), some (.int x13), some (.int x17), some (.int (iI 0))], [], s15))) ∧
 (¬ x16 = 0 → jq_I d 103 [.ref 34, .int v1, .int ((s15.1 34 5) + v9)] s15 (fun x19 s18 =>
 (let x20 : Int32 := (v9 + (iI 1))
 jv_wp (d + 1) post (125, 49, [some (.ref 34), some (.int v1), some (.int v2), some (.int v3), some (.int v4), some (.int v5), some (.int v6), some (.int v7), some (.int x13), some (.int x20), some (.int (iI 0))], [], s18)))))))))))) ∧
 (((v7 >>> (v9 &&& 31)) &&& (iI 1)) = (iI 1) → (((iI 1) = 0 → (let x21 : Int32 := (v8 * ((iI 10) - v3))
 ((¬ (iI 1) = 0 → (let x22 : Int32 := (v9 + (iI 1))
 jv_wp (d + 1) post (125, 49, [some (.ref 34), some (.int v1), some (.int v2), some (.int v3), some (.int v4), some (.int v5), some (.int v6), some (.int v7), some (.int x21), some (.int x22), some (.int (iI 1))], [], σ))) ∧
 ((iI 1) = 0 → jq_I d 102 [.ref 34, .int v1, .int ((σ.1 34 5) + v9)] σ (fun x24 s23 =>
 ((x24 = 0 → (let x25 : Int32 := (v9 + (iI 1))
 jv_wp (d + 1) post (125, 49, [some (.ref 34), some (.int v1), some (.int v2), some (.int v3), some (.int v4), some (.int v5), some (.int v6), some (.int v7), some (.int x21), some (.int x25), some (.int (iI 1))], [], s23))) ∧
 (¬ x24 = 0 → jq_I d 103 [.ref 34, .int v1, .int ((s23.1 34 5) + v9)] s23 (fun x27 s26 =>
 (let x28 : Int32 := (v9 + (iI 1))
 jv_wp (d + 1) post (125, 49, [some (.ref 34), some (.int v1), some (.int v2), some (.int v3), some (.int v4), some (.int v5), some (.int v6), some (.int v7), some (.int x21), some (.int x28), some (.int (iI 1))], [], s26)))))))))) ∧
 (¬ (iI 1) = 0 → (let x29 : Int32 := (v8 * v3)
 ((¬ (iI 1) = 0 → (let x30 : Int32 := (v9 + (iI 1))
 jv_wp (d + 1) post (125, 49, [some (.ref 34), some (.int v1), some (.int v2), some (.int v3), some (.int v4), some (.int v5), some (.int v6), some (.int v7), some (.int x29), some (.int x30), some (.int (iI 1))], [], σ))) ∧
 ((iI 1) = 0 → jq_I d 102 [.ref 34, .int v1, .int ((σ.1 34 5) + v9)] σ (fun x32 s31 =>
 ((x32 = 0 → (let x33 : Int32 := (v9 + (iI 1))
 jv_wp (d + 1) post (125, 49, [some (.ref 34), some (.int v1), some (.int v2), some (.int v3), some (.int v4), some (.int v5), some (.int v6), some (.int v7), some (.int x29), some (.int x33), some (.int (iI 1))], [], s31))) ∧
 (¬ x32 = 0 → jq_I d 103 [.ref 34, .int v1, .int ((s31.1 34 5) + v9)] s31 (fun x35 s34 =>
 (let x36 : Int32 := (v9 + (iI 1))
 jv_wp (d + 1) post (125, 49, [some (.ref 34), some (.int v1), some (.int v2), some (.int v3), some (.int v4), some (.int v5), some (.int v6), some (.int v7), some (.int x29), some (.int x36), some (.int (iI 1))], [], s34))))))))))))))) from ⟨fun c244 => ((h).1 c244), fun c244 => ⟨fun c246 => ⟨fun _ => ⟨fun q => absurd q (by decide +kernel), fun _ => ((((h).2 c244)).1 c246)⟩, fun q => absurd q (by decide +kernel)⟩, fun c246 => ⟨fun q => absurd q (by decide +kernel), fun _ => ⟨fun _ => ((((h).2 c244)).2 c246), fun q => absurd q (by decide +kernel)⟩⟩⟩⟩)
def vc_X9_fogOf_L165 (d : Nat) (post : jPo) (σ : jSt) (v1 : Int32) (v2 : Int32) (v3 : Int32) (v4 : Int32) (v5 : Int32) (v6 : Int32) (v7 : Int32) (v8 : Int32) (z9 : Option Value) (z10 : Option Value) : Prop :=
 ((v8 ≤ 0 → ((¬ v4 = 0 → (¬ v7 = 0 ∧ post (some (.int (v6 / v7))) σ)) ∧
 (v4 = 0 → (¬ v7 = 0 ∧ post (some (.int (v5 / v7))) σ)))) ∧
 (¬ v8 ≤ 0 → (¬ v8 = 0 ∧ (let x1 : Int32 := (v7 - v7 / v8 * v8)
 jv_wp (d + 1) post (125, 165, [some (.ref 34), some (.int v1), some (.int v2), some (.int v3), some (.int v4), some (.int v5), some (.int v6), some (.int v8), some (.int x1), some (.int x1), z10], [], σ)))))
set_option maxRecDepth 100000 in
set_option maxHeartbeats 4000000 in
theorem ok_X9_fogOf_L165 {d : Nat} {post : jPo} {σ : jSt} {v1 : Int32} {v2 : Int32} {v3 : Int32} {v4 : Int32} {v5 : Int32} {v6 : Int32} {v7 : Int32} {v8 : Int32} {z9 : Option Value} {z10 : Option Value} (h : vc_X9_fogOf_L165 d post σ v1 v2 v3 v4 v5 v6 v7 v8 z9 z10) : jv_wp (d + 1) post (125, 165, [some (.ref 34), some (.int v1), some (.int v2), some (.int v3), some (.int v4), some (.int v5), some (.int v6), some (.int v7), some (.int v8), z9, z10], [], σ) := jv_go_ok 12 [9, 31, 49, 165] _ _ _ h
def vc_X9_fog (d : Nat) (post : jPo) (σ : jSt) (v1 : Int32) (v2 : Int32) (v3 : Int32) (v4 : Int32) : Prop :=
 jq_I d 91 [.ref 34, .int v1] σ (fun x2 s1 =>
 ((¬ x2 = 0 → jq_I d 78 [.long (v2).toInt64, .long (Int64.ofNat 1), .long (Int64.ofNat 8)] s1 (fun x4 s3 =>
 ((x4 = 0 → post (some (.int (iI (-102)))) s3) ∧
 (¬ x4 = 0 → jq_I d 78 [.long (v3).toInt64, .long (Int64.ofNat 0), .long (Int64.ofNat 10)] s3 (fun x6 s5 =>
 ((x6 = 0 → post (some (.int (iI (-102)))) s5) ∧
 (¬ x6 = 0 → jq_I d 78 [.long (v4).toInt64, .long (Int64.ofNat 0), .long (Int64.ofNat 1)] s5 (fun x8 s7 =>
 ((¬ x8 = 0 → (vp_in v1 5 ∧ ((¬ (s7.1 43 v1.toNatClampNeg) = (iI 2) → jq_I d 125 [.ref 34, .int v1, .int v2, .int v3, .int v4] s7 (fun x10 s9 =>
 post (some (.int x10)) s9)) ∧
 ((s7.1 43 v1.toNatClampNeg) = (iI 2) → post (some (.int (iI (-103)))) s7)))) ∧
 (x8 = 0 → post (some (.int (iI (-102)))) s7)))))))))) ∧
 (x2 = 0 → post (some (.int (iI (-101)))) s1)))
set_option maxRecDepth 100000 in
set_option maxHeartbeats 4000000 in
theorem ok_X9_fog {d : Nat} {post : jPo} {σ : jSt} {v1 : Int32} {v2 : Int32} {v3 : Int32} {v4 : Int32} (h : vc_X9_fog d post σ v1 v2 v3 v4) : jv_wp (d + 1) post (126, 0, [some (.ref 34), some (.int v1), some (.int v2), some (.int v3), some (.int v4)], [], σ) := jv_go_ok 35 [] _ _ _ h
def vc_X9_see (d : Nat) (post : jPo) (σ : jSt) (v1 : Int32) (v2 : Int32) (v3 : Int32) : Prop :=
 jq_I d 90 [.ref 34, .int v1] σ (fun x2 s1 =>
 ((¬ x2 = 0 → jq_I d 78 [.long (v2).toInt64, .long (Int64.ofNat 0), .long (Int64.ofNat 31)] s1 (fun x4 s3 =>
 ((¬ x4 = 0 → ((¬ (s3.1 34 24) = (iI 6) → (vp_in ((iI 3) * (s3.1 34 24)) 18 ∧ (let s5 : jSt := jv_u s3 48 ((iI 3) * (s3.1 34 24)).toNatClampNeg v1
 (vp_in (((iI 3) * (s5.1 34 24)) + (iI 1)) 18 ∧ (let s6 : jSt := jv_u s5 48 (((iI 3) * (s5.1 34 24)) + (iI 1)).toNatClampNeg v2
 ((v3 = 0 → (vp_in (((iI 3) * (s6.1 34 24)) + (iI 2)) 18 ∧ (let s7 : jSt := jv_u s6 48 (((iI 3) * (s6.1 34 24)) + (iI 2)).toNatClampNeg (iI 0)
 (let s8 : jSt := jv_u s7 34 24 ((s7.1 34 24) + (iI 1))
 post (some (.int (s8.1 34 24))) s8)))) ∧
 (¬ v3 = 0 → (vp_in (((iI 3) * (s6.1 34 24)) + (iI 2)) 18 ∧ (let s9 : jSt := jv_u s6 48 (((iI 3) * (s6.1 34 24)) + (iI 2)).toNatClampNeg (iI 1)
 (let s10 : jSt := jv_u s9 34 24 ((s9.1 34 24) + (iI 1))
 post (some (.int (s10.1 34 24))) s10)))))))))) ∧
 ((s3.1 34 24) = (iI 6) → post (some (.int (iI (-104)))) s3))) ∧
 (x4 = 0 → post (some (.int (iI (-102)))) s3)))) ∧
 (x2 = 0 → post (some (.int (iI (-101)))) s1)))
set_option maxRecDepth 100000 in
set_option maxHeartbeats 4000000 in
theorem ok_X9_see {d : Nat} {post : jPo} {σ : jSt} {v1 : Int32} {v2 : Int32} {v3 : Int32} (h : vc_X9_see d post σ v1 v2 v3) : jv_wp (d + 1) post (127, 0, [some (.ref 34), some (.int v1), some (.int v2), some (.int v3)], [], σ) := jv_go_ok 54 [] _ _ _ h
def vc_X9_forget (d : Nat) (post : jPo) (σ : jSt)  : Prop :=
 (let x1 : Int32 := (σ.1 34 24)
 (let s2 : jSt := jv_u σ 34 24 (iI 0)
 post (some (.int x1)) s2))
set_option maxRecDepth 100000 in
set_option maxHeartbeats 4000000 in
theorem ok_X9_forget {d : Nat} {post : jPo} {σ : jSt} (h : vc_X9_forget d post σ ) : jv_wp (d + 1) post (128, 0, [some (.ref 34), none], [], σ) := jv_go_ok 8 [] _ _ _ h
def vc_X9_speakingSorts (d : Nat) (post : jPo) (σ : jSt) (v1 : Int32) (v2 : Int32) : Prop :=
 jq_V d 93 [.ref 34, .int ((σ.1 34 5) + v2)] σ (fun s1 =>
 jv_wp (d + 1) post (129, 15, [some (.ref 34), some (.int v1), some (.int v2), some (.int (iI 0)), some (.int (iI 0))], [], s1))
set_option maxRecDepth 100000 in
set_option maxHeartbeats 4000000 in
theorem ok_X9_speakingSorts {d : Nat} {post : jPo} {σ : jSt} {v1 : Int32} {v2 : Int32} (h : vc_X9_speakingSorts d post σ v1 v2) : jv_wp (d + 1) post (129, 0, [some (.ref 34), some (.int v1), some (.int v2), none, none], [], σ) := jv_go_ok 11 [15] _ _ _ h
def vc_X9_speakingSorts_L15 (d : Nat) (post : jPo) (σ : jSt) (v1 : Int32) (v2 : Int32) (v3 : Int32) (v4 : Int32) : Prop :=
 (((iI 10) ≤ v4 → post (some (.int v3)) σ) ∧
 (¬ (iI 10) ≤ v4 → (vp_in v1 6 ∧ jq_I d 95 [.ref 34, .int (v4 - v4 / (iI 5) * (iI 5)), .int (v4 / (iI 5)), .int (σ.1 38 v1.toNatClampNeg)] σ (fun x2 s1 =>
 ((x2 = 0 → (let x3 : Int32 := (v3 ||| (iI 0))
 (let x4 : Int32 := (v4 + (iI 1))
 jv_wp (d + 1) post (129, 15, [some (.ref 34), some (.int v1), some (.int v2), some (.int x3), some (.int x4)], [], s1)))) ∧
 (¬ x2 = 0 → (let x5 : Int32 := (v3 ||| ((iI 1) <<< (v4 &&& 31)))
 (let x6 : Int32 := (v4 + (iI 1))
 jv_wp (d + 1) post (129, 15, [some (.ref 34), some (.int v1), some (.int v2), some (.int x5), some (.int x6)], [], s1)))))))))
set_option maxRecDepth 100000 in
set_option maxHeartbeats 4000000 in
theorem ok_X9_speakingSorts_L15 {d : Nat} {post : jPo} {σ : jSt} {v1 : Int32} {v2 : Int32} {v3 : Int32} {v4 : Int32} (h : vc_X9_speakingSorts_L15 d post σ v1 v2 v3 v4) : jv_wp (d + 1) post (129, 15, [some (.ref 34), some (.int v1), some (.int v2), some (.int v3), some (.int v4)], [], σ) := jv_go_ok 26 [15] _ _ _ (show (((iI 10) ≤ v4 → post (some (.int v3)) σ) ∧
 (¬ (iI 10) ≤ v4 → (¬ (iI 5) = 0 ∧ (¬ (iI 5) = 0 ∧ (vp_in v1 6 ∧ jq_I d 95 [.ref 34, .int (v4 - v4 / (iI 5) * (iI 5)), .int (v4 / (iI 5)), .int (σ.1 38 v1.toNatClampNeg)] σ (fun x2 s1 =>
 ((x2 = 0 → (let x3 : Int32 := (v3 ||| (iI 0))
 (let x4 : Int32 := (v4 + (iI 1))
 jv_wp (d + 1) post (129, 15, [some (.ref 34), some (.int v1), some (.int v2), some (.int x3), some (.int x4)], [], s1)))) ∧
 (¬ x2 = 0 → (let x5 : Int32 := (v3 ||| ((iI 1) <<< (v4 &&& 31)))
 (let x6 : Int32 := (v4 + (iI 1))
 jv_wp (d + 1) post (129, 15, [some (.ref 34), some (.int v1), some (.int v2), some (.int x5), some (.int x6)], [], s1))))))))))) from ⟨fun c255 => ((h).1 c255), fun c255 => ⟨by decide +kernel, ⟨by decide +kernel, ((h).2 c255)⟩⟩⟩)
def vc_X9_sortsOf (d : Nat) (post : jPo) (σ : jSt) (v1 : Int32) : Prop :=
 jv_wp (d + 1) post (130, 6, [some (.ref 34), some (.int v1), some (.int (iI 1023)), some (.int (iI 0)), none], [], σ)
set_option maxRecDepth 100000 in
set_option maxHeartbeats 4000000 in
theorem ok_X9_sortsOf {d : Nat} {post : jPo} {σ : jSt} {v1 : Int32} (h : vc_X9_sortsOf d post σ v1) : jv_wp (d + 1) post (130, 0, [some (.ref 34), some (.int v1), none, none, none], [], σ) := jv_go_ok 5 [6] _ _ _ h
def vc_X9_sortsOf_L6 (d : Nat) (post : jPo) (σ : jSt) (v1 : Int32) (v2 : Int32) (v3 : Int32) (z4 : Option Value) : Prop :=
 ((((iI 3) * (σ.1 34 24)) ≤ v3 → post (some (.int v2)) σ) ∧
 (¬ ((iI 3) * (σ.1 34 24)) ≤ v3 → (vp_in (v3 + (iI 1)) 18 ∧ jq_I d 129 [.ref 34, .int v1, .int (σ.1 48 (v3 + (iI 1)).toNatClampNeg)] σ (fun x2 s1 =>
 (vp_in v3 18 ∧ ((¬ (s1.1 48 v3.toNatClampNeg) = v1 → (let x3 : Int32 := (v3 + (iI 3))
 jv_wp (d + 1) post (130, 6, [some (.ref 34), some (.int v1), some (.int v2), some (.int x3), some (.int x2)], [], s1))) ∧
 ((s1.1 48 v3.toNatClampNeg) = v1 → (vp_in (v3 + (iI 2)) 18 ∧ ((¬ (s1.1 48 (v3 + (iI 2)).toNatClampNeg) = (iI 1) → (let x4 : Int32 := (v2 &&& ((iI 1023) - x2))
 (let x5 : Int32 := (v3 + (iI 3))
 jv_wp (d + 1) post (130, 6, [some (.ref 34), some (.int v1), some (.int x4), some (.int x5), some (.int x2)], [], s1)))) ∧
 ((s1.1 48 (v3 + (iI 2)).toNatClampNeg) = (iI 1) → (let x6 : Int32 := (v2 &&& x2)
 (let x7 : Int32 := (v3 + (iI 3))
 jv_wp (d + 1) post (130, 6, [some (.ref 34), some (.int v1), some (.int x6), some (.int x7), some (.int x2)], [], s1)))))))))))))
set_option maxRecDepth 100000 in
set_option maxHeartbeats 4000000 in
theorem ok_X9_sortsOf_L6 {d : Nat} {post : jPo} {σ : jSt} {v1 : Int32} {v2 : Int32} {v3 : Int32} {z4 : Option Value} (h : vc_X9_sortsOf_L6 d post σ v1 v2 v3 z4) : jv_wp (d + 1) post (130, 6, [some (.ref 34), some (.int v1), some (.int v2), some (.int v3), z4], [], σ) := jv_go_ok 39 [6] _ _ _ h
def vc_X9_listenOf (d : Nat) (post : jPo) (σ : jSt) (v1 : Int32) : Prop :=
 jq_I d 130 [.ref 34, .int v1] σ (fun x2 s1 =>
 jv_wp (d + 1) post (131, 15, [some (.ref 34), some (.int v1), some (.int x2), some (.int (iI (-1))), some (.int (iI 11)), some (.int (iI 0)), none, none, none], [], s1))
set_option maxRecDepth 100000 in
set_option maxHeartbeats 4000000 in
theorem ok_X9_listenOf {d : Nat} {post : jPo} {σ : jSt} {v1 : Int32} (h : vc_X9_listenOf d post σ v1) : jv_wp (d + 1) post (131, 0, [some (.ref 34), some (.int v1), none, none, none, none, none, none, none], [], σ) := jv_go_ok 11 [15] _ _ _ h
def vc_X9_listenOf_L15 (d : Nat) (post : jPo) (σ : jSt) (v1 : Int32) (v2 : Int32) (v3 : Int32) (v4 : Int32) (v5 : Int32) (z6 : Option Value) (z7 : Option Value) (z8 : Option Value) : Prop :=
 (((iI 32) ≤ v5 → post (some (.int v3)) σ) ∧
 (¬ (iI 32) ≤ v5 → ((v2 = 0 → post (some (.int v3)) σ) ∧
 (¬ v2 = 0 → jq_I d 129 [.ref 34, .int v1, .int v5] σ (fun x2 s1 =>
 jq_I d 98 [.int (v2 &&& x2)] s1 (fun x4 s3 =>
 jq_I d 98 [.int v2] s3 (fun x6 s5 =>
 (let x7 : Int32 := (x6 - x4)
 ((x4 ≤ x7 → ((v4 ≤ x7 → ((v4 ≤ x7 → (let x8 : Int32 := (v5 + (iI 1))
 jv_wp (d + 1) post (131, 15, [some (.ref 34), some (.int v1), some (.int v2), some (.int v3), some (.int v4), some (.int x8), some (.int x4), some (.int x7), some (.int x7)], [], s5))) ∧
 (¬ v4 ≤ x7 → (let x9 : Int32 := (v5 + (iI 1))
 jv_wp (d + 1) post (131, 15, [some (.ref 34), some (.int v1), some (.int v2), some (.int v3), some (.int x7), some (.int x9), some (.int x4), some (.int x7), some (.int x7)], [], s5))))) ∧
 (¬ v4 ≤ x7 → ((v4 ≤ x7 → (let x10 : Int32 := (v5 + (iI 1))
 jv_wp (d + 1) post (131, 15, [some (.ref 34), some (.int v1), some (.int v2), some (.int v5), some (.int v4), some (.int x10), some (.int x4), some (.int x7), some (.int x7)], [], s5))) ∧
 (¬ v4 ≤ x7 → (let x11 : Int32 := (v5 + (iI 1))
 jv_wp (d + 1) post (131, 15, [some (.ref 34), some (.int v1), some (.int v2), some (.int v5), some (.int x7), some (.int x11), some (.int x4), some (.int x7), some (.int x7)], [], s5))))))) ∧
 (¬ x4 ≤ x7 → ((v4 ≤ x4 → ((v4 ≤ x4 → (let x12 : Int32 := (v5 + (iI 1))
 jv_wp (d + 1) post (131, 15, [some (.ref 34), some (.int v1), some (.int v2), some (.int v3), some (.int v4), some (.int x12), some (.int x4), some (.int x7), some (.int x4)], [], s5))) ∧
 (¬ v4 ≤ x4 → (let x13 : Int32 := (v5 + (iI 1))
 jv_wp (d + 1) post (131, 15, [some (.ref 34), some (.int v1), some (.int v2), some (.int v3), some (.int x4), some (.int x13), some (.int x4), some (.int x7), some (.int x4)], [], s5))))) ∧
 (¬ v4 ≤ x4 → ((v4 ≤ x4 → (let x14 : Int32 := (v5 + (iI 1))
 jv_wp (d + 1) post (131, 15, [some (.ref 34), some (.int v1), some (.int v2), some (.int v5), some (.int v4), some (.int x14), some (.int x4), some (.int x7), some (.int x4)], [], s5))) ∧
 (¬ v4 ≤ x4 → (let x15 : Int32 := (v5 + (iI 1))
 jv_wp (d + 1) post (131, 15, [some (.ref 34), some (.int v1), some (.int v2), some (.int v5), some (.int x4), some (.int x15), some (.int x4), some (.int x7), some (.int x4)], [], s5))))))))))))))))
set_option maxRecDepth 100000 in
set_option maxHeartbeats 4000000 in
theorem ok_X9_listenOf_L15 {d : Nat} {post : jPo} {σ : jSt} {v1 : Int32} {v2 : Int32} {v3 : Int32} {v4 : Int32} {v5 : Int32} {z6 : Option Value} {z7 : Option Value} {z8 : Option Value} (h : vc_X9_listenOf_L15 d post σ v1 v2 v3 v4 v5 z6 z7 z8) : jv_wp (d + 1) post (131, 15, [some (.ref 34), some (.int v1), some (.int v2), some (.int v3), some (.int v4), some (.int v5), z6, z7, z8], [], σ) := jv_go_ok 39 [15] _ _ _ h
def vc_X9_draw (d : Nat) (post : jPo) (σ : jSt) (v1 : Int32) : Prop :=
 (let s1 : jSt := jv_u σ 34 26 (((((Int64.ofNat 1103515245) * ((σ.1 34 26)).toInt64) + (Int64.ofNat 12345)) &&& (Int64.ofNat 2147483647))).toInt32
 (¬ (Int32.ofNat 65536) = 0 ∧ (¬ v1 = 0 ∧ post (some (.int (((s1.1 34 26) / (Int32.ofNat 65536)) - ((s1.1 34 26) / (Int32.ofNat 65536)) / v1 * v1))) s1)))
set_option maxRecDepth 100000 in
set_option maxHeartbeats 4000000 in
theorem ok_X9_draw {d : Nat} {post : jPo} {σ : jSt} {v1 : Int32} (h : vc_X9_draw d post σ v1) : jv_wp (d + 1) post (132, 0, [some (.ref 34), some (.int v1)], [], σ) := jv_go_ok 19 [] _ _ _ h
def vc_X9_years (d : Nat) (post : jPo) (σ : jSt) (v1 : Int32) (v2 : Int32) (v3 : Int32) : Prop :=
 jq_I d 78 [.long (v1).toInt64, .long (Int64.ofNat 1), .long (Int64.ofNat 60)] σ (fun x2 s1 =>
 ((x2 = 0 → post (some (.int (iI (-102)))) s1) ∧
 (¬ x2 = 0 → ((v2 < 0 → post (some (.int (iI (-102)))) s1) ∧
 (¬ v2 < 0 → jq_I d 78 [.long (v3).toInt64, .long (Int64.ofNat 0), .long (Int64.ofNat 2)] s1 (fun x4 s3 =>
 ((¬ x4 = 0 → jq_I d 89 [.ref 34] s3 (fun x6 s5 =>
 ((x6 = 0 → (let s7 : jSt := jv_u s5 34 26 v2
 jq_V d 99 [.ref 34] s7 (fun s8 =>
 jv_wp (d + 1) post (133, 59, [some (.ref 34), some (.int v1), some (.int v2), some (.int v3), some (.int (iI 0)), some (.int (iI 0)), some (.int (iI 0)), none, none], [], s8)))) ∧
 (¬ x6 = 0 → post (some (.int (iI (-103)))) s5)))) ∧
 (x4 = 0 → post (some (.int (iI (-102)))) s3))))))))
set_option maxRecDepth 100000 in
set_option maxHeartbeats 4000000 in
theorem ok_X9_years {d : Nat} {post : jPo} {σ : jSt} {v1 : Int32} {v2 : Int32} {v3 : Int32} (h : vc_X9_years d post σ v1 v2 v3) : jv_wp (d + 1) post (133, 0, [some (.ref 34), some (.int v1), some (.int v2), some (.int v3), none, none, none, none, none], [], σ) := jv_go_ok 29 [59] _ _ _ h
def vc_X9_years_L59 (d : Nat) (post : jPo) (σ : jSt) (v1 : Int32) (v2 : Int32) (v3 : Int32) (v4 : Int32) (v5 : Int32) (v6 : Int32) (z7 : Option Value) (z8 : Option Value) : Prop :=
 ((v1 ≤ v6 → ((¬ v3 = 0 → ((¬ v3 = (iI 1) → post (some (.int (σ.1 34 26))) σ) ∧
 (v3 = (iI 1) → post (some (.int v5)) σ))) ∧
 (v3 = 0 → post (some (.int v4)) σ))) ∧
 (¬ v1 ≤ v6 → jq_I d 132 [.ref 34, .int (σ.1 34 4)] σ (fun x2 s1 =>
 jq_I d 102 [.ref 34, .int x2, .int ((s1.1 34 5) + v6)] s1 (fun x4 s3 =>
 ((x4 = 0 → (let x5 : Int32 := (v6 + (iI 1))
 jv_wp (d + 1) post (133, 59, [some (.ref 34), some (.int v1), some (.int v2), some (.int v3), some (.int v4), some (.int v5), some (.int x5), some (.int x2), some (.int (iI (-1)))], [], s3))) ∧
 (¬ x4 = 0 → jq_I d 103 [.ref 34, .int x2, .int ((s3.1 34 5) + v6)] s3 (fun x11 s10 =>
 ((x11 = (iI (-1)) → (let x12 : Int32 := (v6 + (iI 1))
 jv_wp (d + 1) post (133, 59, [some (.ref 34), some (.int v1), some (.int v2), some (.int v3), some (.int v4), some (.int v5), some (.int x12), some (.int x2), some (.int x11)], [], s10))) ∧
 (¬ x11 = (iI (-1)) → (let x13 : Int32 := (v4 + x11)
 (let x14 : Int32 := (v5 + (iI 1))
 (vp_in x2 5 ∧ (let s15 : jSt := jv_u s10 45 x2.toNatClampNeg (iI 0)
 (let x16 : Int32 := (v6 + (iI 1))
 jv_wp (d + 1) post (133, 59, [some (.ref 34), some (.int v1), some (.int v2), some (.int v3), some (.int x13), some (.int x14), some (.int x16), some (.int x2), some (.int x11)], [], s15)))))))))))))))
set_option maxRecDepth 100000 in
set_option maxHeartbeats 4000000 in
theorem ok_X9_years_L59 {d : Nat} {post : jPo} {σ : jSt} {v1 : Int32} {v2 : Int32} {v3 : Int32} {v4 : Int32} {v5 : Int32} {v6 : Int32} {z7 : Option Value} {z8 : Option Value} (h : vc_X9_years_L59 d post σ v1 v2 v3 v4 v5 v6 z7 z8) : jv_wp (d + 1) post (133, 59, [some (.ref 34), some (.int v1), some (.int v2), some (.int v3), some (.int v4), some (.int v5), some (.int v6), z7, z8], [], σ) := jv_go_ok 41 [59] _ _ _ (show ((v1 ≤ v6 → ((¬ v3 = 0 → ((¬ v3 = (iI 1) → post (some (.int (σ.1 34 26))) σ) ∧
 (v3 = (iI 1) → post (some (.int v5)) σ))) ∧
 (v3 = 0 → post (some (.int v4)) σ))) ∧
 (¬ v1 ≤ v6 → jq_I d 132 [.ref 34, .int (σ.1 34 4)] σ (fun x2 s1 =>
 jq_I d 102 [.ref 34, .int x2, .int ((s1.1 34 5) + v6)] s1 (fun x4 s3 =>
 ((x4 = 0 → (((iI (-1)) = (iI (-1)) → (let x5 : Int32 := (v6 + (iI 1))
 jv_wp (d + 1) post (133, 59, [some (.ref 34), some (.int v1), some (.int v2), some (.int v3), some (.int v4), some (.int v5), some (.int x5), some (.int x2), some (.int (iI (-1)))], [], s3))) ∧
 (¬ (iI (-1)) = (iI (-1)) → (let x6 : Int32 := (v4 + (iI (-1)))
 (let x7 : Int32 := (v5 + (iI 1))
 (vp_in x2 5 ∧ (let s8 : jSt := jv_u s3 45 x2.toNatClampNeg (iI 0)
 (let x9 : Int32 := (v6 + (iI 1))
 jv_wp (d + 1) post (133, 59, [some (.ref 34), some (.int v1), some (.int v2), some (.int v3), some (.int x6), some (.int x7), some (.int x9), some (.int x2), some (.int (iI (-1)))], [], s8))))))))) ∧
 (¬ x4 = 0 → jq_I d 103 [.ref 34, .int x2, .int ((s3.1 34 5) + v6)] s3 (fun x11 s10 =>
 ((x11 = (iI (-1)) → (let x12 : Int32 := (v6 + (iI 1))
 jv_wp (d + 1) post (133, 59, [some (.ref 34), some (.int v1), some (.int v2), some (.int v3), some (.int v4), some (.int v5), some (.int x12), some (.int x2), some (.int x11)], [], s10))) ∧
 (¬ x11 = (iI (-1)) → (let x13 : Int32 := (v4 + x11)
 (let x14 : Int32 := (v5 + (iI 1))
 (vp_in x2 5 ∧ (let s15 : jSt := jv_u s10 45 x2.toNatClampNeg (iI 0)
 (let x16 : Int32 := (v6 + (iI 1))
 jv_wp (d + 1) post (133, 59, [some (.ref 34), some (.int v1), some (.int v2), some (.int v3), some (.int x13), some (.int x14), some (.int x16), some (.int x2), some (.int x11)], [], s15))))))))))))))) from ⟨fun c260 => ((h).1 c260), fun c260 => jq_I_con (((h).2 c260)) (fun x2 s1 h262 => jq_I_con (h262) (fun x4 s3 h263 => ⟨fun c264 => ⟨fun _ => ((h263).1 c264), fun q => absurd q (by decide +kernel)⟩, fun c264 => ((h263).2 c264)⟩))⟩)
def vc_X9_image (d : Nat) (post : jPo) (σ : jSt)  : Prop :=
 jq_I d 89 [.ref 34] σ (fun x2 s1 =>
 ((x2 = 0 → jq_V d 79 [.ref 36, .ref 49] s1 (fun s3 =>
 jq_V d 79 [.ref 38, .ref 50] s3 (fun s4 =>
 jq_V d 79 [.ref 39, .ref 51] s4 (fun s5 =>
 jq_V d 79 [.ref 42, .ref 52] s5 (fun s6 =>
 jq_V d 79 [.ref 43, .ref 53] s6 (fun s7 =>
 jq_V d 79 [.ref 44, .ref 54] s7 (fun s8 =>
 jq_V d 79 [.ref 48, .ref 55] s8 (fun s9 =>
 (let s10 : jSt := jv_u s9 34 28 (s9.1 34 5)
 (let s11 : jSt := jv_u s10 34 29 (s10.1 34 6)
 (let s12 : jSt := jv_u s11 34 30 (s11.1 34 24)
 (let s13 : jSt := jv_u s12 34 27 (s12.1 34 7)
 post (some (.int (s13.1 34 5))) s13)))))))))))) ∧
 (¬ x2 = 0 → post (some (.int (iI (-103)))) s1)))
set_option maxRecDepth 100000 in
set_option maxHeartbeats 4000000 in
theorem ok_X9_image {d : Nat} {post : jPo} {σ : jSt} (h : vc_X9_image d post σ ) : jv_wp (d + 1) post (134, 0, [some (.ref 34)], [], σ) := jv_go_ok 57 [] _ _ _ h
def vc_X9_restore (d : Nat) (post : jPo) (σ : jSt)  : Prop :=
 (((σ.1 34 27) = (σ.1 34 7) → jq_V d 79 [.ref 49, .ref 36] σ (fun s1 =>
 jq_V d 79 [.ref 50, .ref 38] s1 (fun s2 =>
 jq_V d 79 [.ref 51, .ref 39] s2 (fun s3 =>
 jq_V d 79 [.ref 52, .ref 42] s3 (fun s4 =>
 jq_V d 79 [.ref 53, .ref 43] s4 (fun s5 =>
 jq_V d 79 [.ref 54, .ref 44] s5 (fun s6 =>
 jq_V d 79 [.ref 55, .ref 48] s6 (fun s7 =>
 (let s8 : jSt := jv_u s7 34 5 (s7.1 34 28)
 (let s9 : jSt := jv_u s8 34 6 (s8.1 34 29)
 (let s10 : jSt := jv_u s9 34 24 (s9.1 34 30)
 post (some (.int (s10.1 34 5))) s10))))))))))) ∧
 (¬ (σ.1 34 27) = (σ.1 34 7) → post (some (.int (iI (-103)))) σ))
set_option maxRecDepth 100000 in
set_option maxHeartbeats 4000000 in
theorem ok_X9_restore {d : Nat} {post : jPo} {σ : jSt} (h : vc_X9_restore d post σ ) : jv_wp (d + 1) post (135, 0, [some (.ref 34)], [], σ) := jv_go_ok 55 [] _ _ _ h
def vc_X9_standing (d : Nat) (post : jPo) (σ : jSt) (v1 : Int32) : Prop :=
 jv_wp (d + 1) post (136, 4, [some (.ref 34), some (.int v1), some (.int (iI 0)), some (.int (iI 0))], [], σ)
set_option maxRecDepth 100000 in
set_option maxHeartbeats 4000000 in
theorem ok_X9_standing {d : Nat} {post : jPo} {σ : jSt} {v1 : Int32} (h : vc_X9_standing d post σ v1) : jv_wp (d + 1) post (136, 0, [some (.ref 34), some (.int v1), none, none], [], σ) := jv_go_ok 5 [4] _ _ _ h
def vc_X9_standing_L4 (d : Nat) (post : jPo) (σ : jSt) (v1 : Int32) (v2 : Int32) (v3 : Int32) : Prop :=
 (((σ.1 34 4) ≤ v3 → post (some (.int v2)) σ) ∧
 (¬ (σ.1 34 4) ≤ v3 → (vp_in v3 5 ∧ ((¬ (σ.1 43 v3.toNatClampNeg) = v1 → (let x1 : Int32 := (v2 + (iI 0))
 (let x2 : Int32 := (v3 + (iI 1))
 jv_wp (d + 1) post (136, 4, [some (.ref 34), some (.int v1), some (.int x1), some (.int x2)], [], σ)))) ∧
 ((σ.1 43 v3.toNatClampNeg) = v1 → (let x3 : Int32 := (v2 + (iI 1))
 (let x4 : Int32 := (v3 + (iI 1))
 jv_wp (d + 1) post (136, 4, [some (.ref 34), some (.int v1), some (.int x3), some (.int x4)], [], σ))))))))
set_option maxRecDepth 100000 in
set_option maxHeartbeats 4000000 in
theorem ok_X9_standing_L4 {d : Nat} {post : jPo} {σ : jSt} {v1 : Int32} {v2 : Int32} {v3 : Int32} (h : vc_X9_standing_L4 d post σ v1 v2 v3) : jv_wp (d + 1) post (136, 4, [some (.ref 34), some (.int v1), some (.int v2), some (.int v3)], [], σ) := jv_go_ok 18 [4] _ _ _ h
def vc_X9_onRight (d : Nat) (post : jPo) (σ : jSt)  : Prop :=
 jv_wp (d + 1) post (137, 4, [some (.ref 34), some (.int (iI 0)), some (.int (iI 0))], [], σ)
set_option maxRecDepth 100000 in
set_option maxHeartbeats 4000000 in
theorem ok_X9_onRight {d : Nat} {post : jPo} {σ : jSt} (h : vc_X9_onRight d post σ ) : jv_wp (d + 1) post (137, 0, [some (.ref 34), none, none], [], σ) := jv_go_ok 5 [4] _ _ _ h
def vc_X9_onRight_L4 (d : Nat) (post : jPo) (σ : jSt) (v1 : Int32) (v2 : Int32) : Prop :=
 (((σ.1 34 3) ≤ v2 → post (some (.int v1)) σ) ∧
 (¬ (σ.1 34 3) ≤ v2 → (vp_in v2 6 ∧ (let x1 : Int32 := (v1 + (σ.1 38 v2.toNatClampNeg))
 (let x2 : Int32 := (v2 + (iI 1))
 jv_wp (d + 1) post (137, 4, [some (.ref 34), some (.int x1), some (.int x2)], [], σ))))))
set_option maxRecDepth 100000 in
set_option maxHeartbeats 4000000 in
theorem ok_X9_onRight_L4 {d : Nat} {post : jPo} {σ : jSt} {v1 : Int32} {v2 : Int32} (h : vc_X9_onRight_L4 d post σ v1 v2) : jv_wp (d + 1) post (137, 4, [some (.ref 34), some (.int v1), some (.int v2)], [], σ) := jv_go_ok 14 [4] _ _ _ h
def vc_X9_countOf (d : Nat) (post : jPo) (σ : jSt) (v1 : Int32) : Prop :=
 ((v1 = (iI 0) → post (some (.int (σ.1 34 3))) σ) ∧
 (¬ v1 = (iI 0) → ((v1 = (iI 1) → post (some (.int (σ.1 34 4))) σ) ∧
 (¬ v1 = (iI 1) → ((v1 = (iI 2) → post (some (.int (σ.1 34 5))) σ) ∧
 (¬ v1 = (iI 2) → ((v1 = (iI 3) → jq_I d 97 [.ref 34, .int (σ.1 34 5)] σ (fun x2 s1 =>
 jq_I d 98 [.int x2] s1 (fun x4 s3 =>
 post (some (.int x4)) s3))) ∧
 (¬ v1 = (iI 3) → ((v1 = (iI 4) → jq_I d 137 [.ref 34] σ (fun x6 s5 =>
 post (some (.int x6)) s5)) ∧
 (¬ v1 = (iI 4) → ((v1 = (iI 5) → jq_I d 136 [.ref 34, .int (iI 1)] σ (fun x8 s7 =>
 post (some (.int x8)) s7)) ∧
 (¬ v1 = (iI 5) → ((v1 = (iI 6) → jq_I d 136 [.ref 34, .int (iI 2)] σ (fun x10 s9 =>
 post (some (.int x10)) s9)) ∧
 (¬ v1 = (iI 6) → ((v1 = (iI 7) → post (some (.int (σ.1 34 6))) σ) ∧
 (¬ v1 = (iI 7) → ((v1 = (iI 8) → post (some (.int (σ.1 34 24))) σ) ∧
 (¬ v1 = (iI 8) → ((v1 = (iI 9) → post (some (.int (σ.1 34 1))) σ) ∧
 (¬ v1 = (iI 9) → ((v1 = (iI 10) → post (some (.int (σ.1 34 7))) σ) ∧
 (¬ v1 = (iI 10) → ((v1 = (iI 11) → post (some (.int (σ.1 34 22))) σ) ∧
 (¬ v1 = (iI 11) → post (some (.int (iI (-102)))) σ))))))))))))))))))))))))
set_option maxRecDepth 100000 in
set_option maxHeartbeats 4000000 in
theorem ok_X9_countOf {d : Nat} {post : jPo} {σ : jSt} {v1 : Int32} (h : vc_X9_countOf d post σ v1) : jv_wp (d + 1) post (138, 0, [some (.ref 34), some (.int v1)], [], σ) := jv_go_ok 8 [] _ _ _ h
def vc_X9_count (d : Nat) (post : jPo) (σ : jSt) (v1 : Int32) : Prop :=
 jq_I d 138 [.ref 34, .int v1] σ (fun x2 s1 =>
 post (some (.int x2)) s1)
set_option maxRecDepth 100000 in
set_option maxHeartbeats 4000000 in
theorem ok_X9_count {d : Nat} {post : jPo} {σ : jSt} {v1 : Int32} (h : vc_X9_count d post σ v1) : jv_wp (d + 1) post (139, 0, [some (.ref 34), some (.int v1)], [], σ) := jv_go_ok 4 [] _ _ _ h
def vc_X9_mix (d : Nat) (post : jPo) (σ : jSt) (w1 : Int64) : Prop :=
 (let s1 : jSt := jv_h σ (((Int64.ofNat 31) * σ.2.1) + w1)
 post none s1)
set_option maxRecDepth 100000 in
set_option maxHeartbeats 4000000 in
theorem ok_X9_mix {d : Nat} {post : jPo} {σ : jSt} {w1 : Int64} (h : vc_X9_mix d post σ w1) : jv_wp (d + 1) post (140, 0, [some (.ref 34), some (.long w1), none], [], σ) := jv_go_ok 9 [] _ _ _ h
def vc_X9_sayRiver (d : Nat) (post : jPo) (σ : jSt)  : Prop :=
 jv_wp (d + 1) post (141, 2, [some (.ref 34), some (.int (iI 0))], [], σ)
set_option maxRecDepth 100000 in
set_option maxHeartbeats 4000000 in
theorem ok_X9_sayRiver {d : Nat} {post : jPo} {σ : jSt} (h : vc_X9_sayRiver d post σ ) : jv_wp (d + 1) post (141, 0, [some (.ref 34), none], [], σ) := jv_go_ok 3 [2, 29] _ _ _ h
def vc_X9_sayRiver_L2 (d : Nat) (post : jPo) (σ : jSt) (v1 : Int32) : Prop :=
 (((iI 4) ≤ v1 → jv_wp (d + 1) post (141, 29, [some (.ref 34), some (.int (iI 0))], [], σ)) ∧
 (¬ (iI 4) ≤ v1 → jq_I d 111 [.ref 34, .int (σ.1 34 5), .int v1] σ (fun x2 s1 =>
 jq_V d 140 [.ref 34, .long (x2).toInt64] s1 (fun s3 =>
 (let x4 : Int32 := (v1 + (iI 1))
 jv_wp (d + 1) post (141, 2, [some (.ref 34), some (.int x4)], [], s3))))))
set_option maxRecDepth 100000 in
set_option maxHeartbeats 4000000 in
theorem ok_X9_sayRiver_L2 {d : Nat} {post : jPo} {σ : jSt} {v1 : Int32} (h : vc_X9_sayRiver_L2 d post σ v1) : jv_wp (d + 1) post (141, 2, [some (.ref 34), some (.int v1)], [], σ) := jv_go_ok 14 [2, 29] _ _ _ h
def vc_X9_sayRiver_L29 (d : Nat) (post : jPo) (σ : jSt) (v1 : Int32) : Prop :=
 (((iI 4) ≤ v1 → jq_I d 123 [.ref 34, .int (iI 0)] σ (fun x2 s1 =>
 jq_V d 140 [.ref 34, .long (x2).toInt64] s1 (fun s3 =>
 jq_I d 123 [.ref 34, .int (iI 1)] s3 (fun x5 s4 =>
 jq_V d 140 [.ref 34, .long (x5).toInt64] s4 (fun s6 =>
 post none s6))))) ∧
 (¬ (iI 4) ≤ v1 → jq_I d 111 [.ref 34, .int ((σ.1 34 5) + (iI 40)), .int v1] σ (fun x8 s7 =>
 jq_V d 140 [.ref 34, .long (x8).toInt64] s7 (fun s9 =>
 (let x10 : Int32 := (v1 + (iI 1))
 jv_wp (d + 1) post (141, 29, [some (.ref 34), some (.int x10)], [], s9))))))
set_option maxRecDepth 100000 in
set_option maxHeartbeats 4000000 in
theorem ok_X9_sayRiver_L29 {d : Nat} {post : jPo} {σ : jSt} {v1 : Int32} (h : vc_X9_sayRiver_L29 d post σ v1) : jv_wp (d + 1) post (141, 29, [some (.ref 34), some (.int v1)], [], σ) := jv_go_ok 16 [2, 29] _ _ _ h
def vc_X9_digest (d : Nat) (post : jPo) (σ : jSt)  : Prop :=
 (let s1 : jSt := jv_h σ (Int64.ofNat 1279)
 jv_wp (d + 1) post (142, 9, [some (.ref 34), some (.int (iI 0)), none], [], s1))
set_option maxRecDepth 100000 in
set_option maxHeartbeats 4000000 in
theorem ok_X9_digest {d : Nat} {post : jPo} {σ : jSt} (h : vc_X9_digest d post σ ) : jv_wp (d + 1) post (142, 0, [some (.ref 34), none, none], [], σ) := jv_go_ok 6 [9, 19, 50, 60, 102, 129] _ _ _ h
def vc_X9_digest_L9 (d : Nat) (post : jPo) (σ : jSt) (v1 : Int32) (z2 : Option Value) : Prop :=
 (((σ.1 34 3) ≤ v1 → jv_wp (d + 1) post (142, 50, [some (.ref 34), some (.int (iI 0)), z2], [], σ)) ∧
 (¬ (σ.1 34 3) ≤ v1 → jv_wp (d + 1) post (142, 19, [some (.ref 34), some (.int v1), some (.int (iI 0))], [], σ)))
set_option maxRecDepth 100000 in
set_option maxHeartbeats 4000000 in
theorem ok_X9_digest_L9 {d : Nat} {post : jPo} {σ : jSt} {v1 : Int32} {z2 : Option Value} (h : vc_X9_digest_L9 d post σ v1 z2) : jv_wp (d + 1) post (142, 9, [some (.ref 34), some (.int v1), z2], [], σ) := jv_go_ok 7 [9, 19, 50, 60, 102, 129] _ _ _ h
def vc_X9_digest_L19 (d : Nat) (post : jPo) (σ : jSt) (v1 : Int32) (v2 : Int32) : Prop :=
 (((iI 8) ≤ v2 → (let x1 : Int32 := (v1 + (iI 1))
 jv_wp (d + 1) post (142, 9, [some (.ref 34), some (.int x1), some (.int v2)], [], σ))) ∧
 (¬ (iI 8) ≤ v2 → jq_I d 105 [.ref 34, .int v1, .int v2] σ (fun x3 s2 =>
 jq_V d 140 [.ref 34, .long (x3).toInt64] s2 (fun s4 =>
 (let x5 : Int32 := (v2 + (iI 1))
 jv_wp (d + 1) post (142, 19, [some (.ref 34), some (.int v1), some (.int x5)], [], s4))))))
set_option maxRecDepth 100000 in
set_option maxHeartbeats 4000000 in
theorem ok_X9_digest_L19 {d : Nat} {post : jPo} {σ : jSt} {v1 : Int32} {v2 : Int32} (h : vc_X9_digest_L19 d post σ v1 v2) : jv_wp (d + 1) post (142, 19, [some (.ref 34), some (.int v1), some (.int v2)], [], σ) := jv_go_ok 13 [9, 19, 50, 60, 102, 129] _ _ _ h
def vc_X9_digest_L50 (d : Nat) (post : jPo) (σ : jSt) (v1 : Int32) (z2 : Option Value) : Prop :=
 (((σ.1 34 4) ≤ v1 → jq_I d 89 [.ref 34] σ (fun x2 s1 =>
 ((¬ x2 = 0 → jv_wp (d + 1) post (142, 102, [some (.ref 34), some (.int (iI 0)), z2], [], s1)) ∧
 (x2 = 0 → jq_V d 141 [.ref 34] s1 (fun s3 =>
 jv_wp (d + 1) post (142, 102, [some (.ref 34), some (.int (iI 0)), z2], [], s3)))))) ∧
 (¬ (σ.1 34 4) ≤ v1 → jv_wp (d + 1) post (142, 60, [some (.ref 34), some (.int v1), some (.int (iI 0))], [], σ)))
set_option maxRecDepth 100000 in
set_option maxHeartbeats 4000000 in
theorem ok_X9_digest_L50 {d : Nat} {post : jPo} {σ : jSt} {v1 : Int32} {z2 : Option Value} (h : vc_X9_digest_L50 d post σ v1 z2) : jv_wp (d + 1) post (142, 50, [some (.ref 34), some (.int v1), z2], [], σ) := jv_go_ok 12 [9, 19, 50, 60, 102, 129] _ _ _ h
def vc_X9_digest_L60 (d : Nat) (post : jPo) (σ : jSt) (v1 : Int32) (v2 : Int32) : Prop :=
 (((iI 7) ≤ v2 → (let x1 : Int32 := (v1 + (iI 1))
 jv_wp (d + 1) post (142, 50, [some (.ref 34), some (.int x1), some (.int v2)], [], σ))) ∧
 (¬ (iI 7) ≤ v2 → jq_I d 109 [.ref 34, .int v1, .int v2] σ (fun x3 s2 =>
 jq_V d 140 [.ref 34, .long (x3).toInt64] s2 (fun s4 =>
 (let x5 : Int32 := (v2 + (iI 1))
 jv_wp (d + 1) post (142, 60, [some (.ref 34), some (.int v1), some (.int x5)], [], s4))))))
set_option maxRecDepth 100000 in
set_option maxHeartbeats 4000000 in
theorem ok_X9_digest_L60 {d : Nat} {post : jPo} {σ : jSt} {v1 : Int32} {v2 : Int32} (h : vc_X9_digest_L60 d post σ v1 v2) : jv_wp (d + 1) post (142, 60, [some (.ref 34), some (.int v1), some (.int v2)], [], σ) := jv_go_ok 13 [9, 19, 50, 60, 102, 129] _ _ _ h
def vc_X9_digest_L102 (d : Nat) (post : jPo) (σ : jSt) (v1 : Int32) (z2 : Option Value) : Prop :=
 (((σ.1 34 1) ≤ v1 → jv_wp (d + 1) post (142, 129, [some (.ref 34), some (.int (iI 0)), z2], [], σ)) ∧
 (¬ (σ.1 34 1) ≤ v1 → (vp_in v1 44 ∧ jq_V d 140 [.ref 34, .long ((σ.1 35 v1.toNatClampNeg)).toInt64] σ (fun s1 =>
 (let x2 : Int32 := (v1 + (iI 1))
 jv_wp (d + 1) post (142, 102, [some (.ref 34), some (.int x2), z2], [], s1))))))
set_option maxRecDepth 100000 in
set_option maxHeartbeats 4000000 in
theorem ok_X9_digest_L102 {d : Nat} {post : jPo} {σ : jSt} {v1 : Int32} {z2 : Option Value} (h : vc_X9_digest_L102 d post σ v1 z2) : jv_wp (d + 1) post (142, 102, [some (.ref 34), some (.int v1), z2], [], σ) := jv_go_ok 14 [9, 19, 50, 60, 102, 129] _ _ _ h
def vc_X9_digest_L129 (d : Nat) (post : jPo) (σ : jSt) (v1 : Int32) (z2 : Option Value) : Prop :=
 (((iI 12) ≤ v1 → post (some (.long σ.2.1)) σ) ∧
 (¬ (iI 12) ≤ v1 → jq_I d 138 [.ref 34, .int v1] σ (fun x2 s1 =>
 jq_V d 140 [.ref 34, .long (x2).toInt64] s1 (fun s3 =>
 (let x4 : Int32 := (v1 + (iI 1))
 jv_wp (d + 1) post (142, 129, [some (.ref 34), some (.int x4), z2], [], s3))))))
set_option maxRecDepth 100000 in
set_option maxHeartbeats 4000000 in
theorem ok_X9_digest_L129 {d : Nat} {post : jPo} {σ : jSt} {v1 : Int32} {z2 : Option Value} (h : vc_X9_digest_L129 d post σ v1 z2) : jv_wp (d + 1) post (142, 129, [some (.ref 34), some (.int v1), z2], [], σ) := jv_go_ok 12 [9, 19, 50, 60, 102, 129] _ _ _ h
def vc_X9_copy_43_45 (d : Nat) (post : jPo) (σ : jSt)  : Prop :=
 jv_wp (d + 1) post (79, 2, [some (.ref 43), some (.ref 45), some (.int (iI 0))], [], σ)
set_option maxRecDepth 100000 in
set_option maxHeartbeats 4000000 in
theorem ok_X9_copy_43_45 {d : Nat} {post : jPo} {σ : jSt} (h : vc_X9_copy_43_45 d post σ ) : jv_wp (d + 1) post (79, 0, [some (.ref 43), some (.ref 45), none], [], σ) := jv_go_ok 3 [2] _ _ _ h
def vc_X9_copy_43_45_L2 (d : Nat) (post : jPo) (σ : jSt) (v2 : Int32) : Prop :=
 (((Int32.ofNat 5) ≤ v2 → post none σ) ∧
 (¬ (Int32.ofNat 5) ≤ v2 → (vp_in v2 5 ∧ (vp_in v2 5 ∧ (let s1 : jSt := jv_u σ 45 v2.toNatClampNeg (σ.1 43 v2.toNatClampNeg)
 (let x2 : Int32 := (v2 + (iI 1))
 jv_wp (d + 1) post (79, 2, [some (.ref 43), some (.ref 45), some (.int x2)], [], s1)))))))
set_option maxRecDepth 100000 in
set_option maxHeartbeats 4000000 in
theorem ok_X9_copy_43_45_L2 {d : Nat} {post : jPo} {σ : jSt} {v2 : Int32} (h : vc_X9_copy_43_45_L2 d post σ v2) : jv_wp (d + 1) post (79, 2, [some (.ref 43), some (.ref 45), some (.int v2)], [], σ) := jv_go_ok 13 [2] _ _ _ h
def vc_X9_copy_44_46 (d : Nat) (post : jPo) (σ : jSt)  : Prop :=
 jv_wp (d + 1) post (79, 2, [some (.ref 44), some (.ref 46), some (.int (iI 0))], [], σ)
set_option maxRecDepth 100000 in
set_option maxHeartbeats 4000000 in
theorem ok_X9_copy_44_46 {d : Nat} {post : jPo} {σ : jSt} (h : vc_X9_copy_44_46 d post σ ) : jv_wp (d + 1) post (79, 0, [some (.ref 44), some (.ref 46), none], [], σ) := jv_go_ok 3 [2] _ _ _ h
def vc_X9_copy_44_46_L2 (d : Nat) (post : jPo) (σ : jSt) (v2 : Int32) : Prop :=
 (((Int32.ofNat 5) ≤ v2 → post none σ) ∧
 (¬ (Int32.ofNat 5) ≤ v2 → (vp_in v2 5 ∧ (vp_in v2 5 ∧ (let s1 : jSt := jv_u σ 46 v2.toNatClampNeg (σ.1 44 v2.toNatClampNeg)
 (let x2 : Int32 := (v2 + (iI 1))
 jv_wp (d + 1) post (79, 2, [some (.ref 44), some (.ref 46), some (.int x2)], [], s1)))))))
set_option maxRecDepth 100000 in
set_option maxHeartbeats 4000000 in
theorem ok_X9_copy_44_46_L2 {d : Nat} {post : jPo} {σ : jSt} {v2 : Int32} (h : vc_X9_copy_44_46_L2 d post σ v2) : jv_wp (d + 1) post (79, 2, [some (.ref 44), some (.ref 46), some (.int v2)], [], σ) := jv_go_ok 13 [2] _ _ _ h
def vc_X9_copy_45_43 (d : Nat) (post : jPo) (σ : jSt)  : Prop :=
 jv_wp (d + 1) post (79, 2, [some (.ref 45), some (.ref 43), some (.int (iI 0))], [], σ)
set_option maxRecDepth 100000 in
set_option maxHeartbeats 4000000 in
theorem ok_X9_copy_45_43 {d : Nat} {post : jPo} {σ : jSt} (h : vc_X9_copy_45_43 d post σ ) : jv_wp (d + 1) post (79, 0, [some (.ref 45), some (.ref 43), none], [], σ) := jv_go_ok 3 [2] _ _ _ h
def vc_X9_copy_45_43_L2 (d : Nat) (post : jPo) (σ : jSt) (v2 : Int32) : Prop :=
 (((Int32.ofNat 5) ≤ v2 → post none σ) ∧
 (¬ (Int32.ofNat 5) ≤ v2 → (vp_in v2 5 ∧ (vp_in v2 5 ∧ (let s1 : jSt := jv_u σ 43 v2.toNatClampNeg (σ.1 45 v2.toNatClampNeg)
 (let x2 : Int32 := (v2 + (iI 1))
 jv_wp (d + 1) post (79, 2, [some (.ref 45), some (.ref 43), some (.int x2)], [], s1)))))))
set_option maxRecDepth 100000 in
set_option maxHeartbeats 4000000 in
theorem ok_X9_copy_45_43_L2 {d : Nat} {post : jPo} {σ : jSt} {v2 : Int32} (h : vc_X9_copy_45_43_L2 d post σ v2) : jv_wp (d + 1) post (79, 2, [some (.ref 45), some (.ref 43), some (.int v2)], [], σ) := jv_go_ok 13 [2] _ _ _ h
def vc_X9_copy_46_44 (d : Nat) (post : jPo) (σ : jSt)  : Prop :=
 jv_wp (d + 1) post (79, 2, [some (.ref 46), some (.ref 44), some (.int (iI 0))], [], σ)
set_option maxRecDepth 100000 in
set_option maxHeartbeats 4000000 in
theorem ok_X9_copy_46_44 {d : Nat} {post : jPo} {σ : jSt} (h : vc_X9_copy_46_44 d post σ ) : jv_wp (d + 1) post (79, 0, [some (.ref 46), some (.ref 44), none], [], σ) := jv_go_ok 3 [2] _ _ _ h
def vc_X9_copy_46_44_L2 (d : Nat) (post : jPo) (σ : jSt) (v2 : Int32) : Prop :=
 (((Int32.ofNat 5) ≤ v2 → post none σ) ∧
 (¬ (Int32.ofNat 5) ≤ v2 → (vp_in v2 5 ∧ (vp_in v2 5 ∧ (let s1 : jSt := jv_u σ 44 v2.toNatClampNeg (σ.1 46 v2.toNatClampNeg)
 (let x2 : Int32 := (v2 + (iI 1))
 jv_wp (d + 1) post (79, 2, [some (.ref 46), some (.ref 44), some (.int x2)], [], s1)))))))
set_option maxRecDepth 100000 in
set_option maxHeartbeats 4000000 in
theorem ok_X9_copy_46_44_L2 {d : Nat} {post : jPo} {σ : jSt} {v2 : Int32} (h : vc_X9_copy_46_44_L2 d post σ v2) : jv_wp (d + 1) post (79, 2, [some (.ref 46), some (.ref 44), some (.int v2)], [], σ) := jv_go_ok 13 [2] _ _ _ h
def vc_X9_copy_38_47 (d : Nat) (post : jPo) (σ : jSt)  : Prop :=
 jv_wp (d + 1) post (79, 2, [some (.ref 38), some (.ref 47), some (.int (iI 0))], [], σ)
set_option maxRecDepth 100000 in
set_option maxHeartbeats 4000000 in
theorem ok_X9_copy_38_47 {d : Nat} {post : jPo} {σ : jSt} (h : vc_X9_copy_38_47 d post σ ) : jv_wp (d + 1) post (79, 0, [some (.ref 38), some (.ref 47), none], [], σ) := jv_go_ok 3 [2] _ _ _ h
def vc_X9_copy_38_47_L2 (d : Nat) (post : jPo) (σ : jSt) (v2 : Int32) : Prop :=
 (((Int32.ofNat 6) ≤ v2 → post none σ) ∧
 (¬ (Int32.ofNat 6) ≤ v2 → (vp_in v2 6 ∧ (vp_in v2 6 ∧ (let s1 : jSt := jv_u σ 47 v2.toNatClampNeg (σ.1 38 v2.toNatClampNeg)
 (let x2 : Int32 := (v2 + (iI 1))
 jv_wp (d + 1) post (79, 2, [some (.ref 38), some (.ref 47), some (.int x2)], [], s1)))))))
set_option maxRecDepth 100000 in
set_option maxHeartbeats 4000000 in
theorem ok_X9_copy_38_47_L2 {d : Nat} {post : jPo} {σ : jSt} {v2 : Int32} (h : vc_X9_copy_38_47_L2 d post σ v2) : jv_wp (d + 1) post (79, 2, [some (.ref 38), some (.ref 47), some (.int v2)], [], σ) := jv_go_ok 13 [2] _ _ _ h
def vc_X9_copy_47_38 (d : Nat) (post : jPo) (σ : jSt)  : Prop :=
 jv_wp (d + 1) post (79, 2, [some (.ref 47), some (.ref 38), some (.int (iI 0))], [], σ)
set_option maxRecDepth 100000 in
set_option maxHeartbeats 4000000 in
theorem ok_X9_copy_47_38 {d : Nat} {post : jPo} {σ : jSt} (h : vc_X9_copy_47_38 d post σ ) : jv_wp (d + 1) post (79, 0, [some (.ref 47), some (.ref 38), none], [], σ) := jv_go_ok 3 [2] _ _ _ h
def vc_X9_copy_47_38_L2 (d : Nat) (post : jPo) (σ : jSt) (v2 : Int32) : Prop :=
 (((Int32.ofNat 6) ≤ v2 → post none σ) ∧
 (¬ (Int32.ofNat 6) ≤ v2 → (vp_in v2 6 ∧ (vp_in v2 6 ∧ (let s1 : jSt := jv_u σ 38 v2.toNatClampNeg (σ.1 47 v2.toNatClampNeg)
 (let x2 : Int32 := (v2 + (iI 1))
 jv_wp (d + 1) post (79, 2, [some (.ref 47), some (.ref 38), some (.int x2)], [], s1)))))))
set_option maxRecDepth 100000 in
set_option maxHeartbeats 4000000 in
theorem ok_X9_copy_47_38_L2 {d : Nat} {post : jPo} {σ : jSt} {v2 : Int32} (h : vc_X9_copy_47_38_L2 d post σ v2) : jv_wp (d + 1) post (79, 2, [some (.ref 47), some (.ref 38), some (.int v2)], [], σ) := jv_go_ok 13 [2] _ _ _ h
def vc_X9_copy_36_49 (d : Nat) (post : jPo) (σ : jSt)  : Prop :=
 jv_wp (d + 1) post (79, 2, [some (.ref 36), some (.ref 49), some (.int (iI 0))], [], σ)
set_option maxRecDepth 100000 in
set_option maxHeartbeats 4000000 in
theorem ok_X9_copy_36_49 {d : Nat} {post : jPo} {σ : jSt} (h : vc_X9_copy_36_49 d post σ ) : jv_wp (d + 1) post (79, 0, [some (.ref 36), some (.ref 49), none], [], σ) := jv_go_ok 3 [2] _ _ _ h
def vc_X9_copy_36_49_L2 (d : Nat) (post : jPo) (σ : jSt) (v2 : Int32) : Prop :=
 (((Int32.ofNat 6) ≤ v2 → post none σ) ∧
 (¬ (Int32.ofNat 6) ≤ v2 → (vp_in v2 6 ∧ (vp_in v2 6 ∧ (let s1 : jSt := jv_u σ 49 v2.toNatClampNeg (σ.1 36 v2.toNatClampNeg)
 (let x2 : Int32 := (v2 + (iI 1))
 jv_wp (d + 1) post (79, 2, [some (.ref 36), some (.ref 49), some (.int x2)], [], s1)))))))
set_option maxRecDepth 100000 in
set_option maxHeartbeats 4000000 in
theorem ok_X9_copy_36_49_L2 {d : Nat} {post : jPo} {σ : jSt} {v2 : Int32} (h : vc_X9_copy_36_49_L2 d post σ v2) : jv_wp (d + 1) post (79, 2, [some (.ref 36), some (.ref 49), some (.int v2)], [], σ) := jv_go_ok 13 [2] _ _ _ h
def vc_X9_copy_38_50 (d : Nat) (post : jPo) (σ : jSt)  : Prop :=
 jv_wp (d + 1) post (79, 2, [some (.ref 38), some (.ref 50), some (.int (iI 0))], [], σ)
set_option maxRecDepth 100000 in
set_option maxHeartbeats 4000000 in
theorem ok_X9_copy_38_50 {d : Nat} {post : jPo} {σ : jSt} (h : vc_X9_copy_38_50 d post σ ) : jv_wp (d + 1) post (79, 0, [some (.ref 38), some (.ref 50), none], [], σ) := jv_go_ok 3 [2] _ _ _ h
def vc_X9_copy_38_50_L2 (d : Nat) (post : jPo) (σ : jSt) (v2 : Int32) : Prop :=
 (((Int32.ofNat 6) ≤ v2 → post none σ) ∧
 (¬ (Int32.ofNat 6) ≤ v2 → (vp_in v2 6 ∧ (vp_in v2 6 ∧ (let s1 : jSt := jv_u σ 50 v2.toNatClampNeg (σ.1 38 v2.toNatClampNeg)
 (let x2 : Int32 := (v2 + (iI 1))
 jv_wp (d + 1) post (79, 2, [some (.ref 38), some (.ref 50), some (.int x2)], [], s1)))))))
set_option maxRecDepth 100000 in
set_option maxHeartbeats 4000000 in
theorem ok_X9_copy_38_50_L2 {d : Nat} {post : jPo} {σ : jSt} {v2 : Int32} (h : vc_X9_copy_38_50_L2 d post σ v2) : jv_wp (d + 1) post (79, 2, [some (.ref 38), some (.ref 50), some (.int v2)], [], σ) := jv_go_ok 13 [2] _ _ _ h
def vc_X9_copy_39_51 (d : Nat) (post : jPo) (σ : jSt)  : Prop :=
 jv_wp (d + 1) post (79, 2, [some (.ref 39), some (.ref 51), some (.int (iI 0))], [], σ)
set_option maxRecDepth 100000 in
set_option maxHeartbeats 4000000 in
theorem ok_X9_copy_39_51 {d : Nat} {post : jPo} {σ : jSt} (h : vc_X9_copy_39_51 d post σ ) : jv_wp (d + 1) post (79, 0, [some (.ref 39), some (.ref 51), none], [], σ) := jv_go_ok 3 [2] _ _ _ h
def vc_X9_copy_39_51_L2 (d : Nat) (post : jPo) (σ : jSt) (v2 : Int32) : Prop :=
 (((Int32.ofNat 6) ≤ v2 → post none σ) ∧
 (¬ (Int32.ofNat 6) ≤ v2 → (vp_in v2 6 ∧ (vp_in v2 6 ∧ (let s1 : jSt := jv_u σ 51 v2.toNatClampNeg (σ.1 39 v2.toNatClampNeg)
 (let x2 : Int32 := (v2 + (iI 1))
 jv_wp (d + 1) post (79, 2, [some (.ref 39), some (.ref 51), some (.int x2)], [], s1)))))))
set_option maxRecDepth 100000 in
set_option maxHeartbeats 4000000 in
theorem ok_X9_copy_39_51_L2 {d : Nat} {post : jPo} {σ : jSt} {v2 : Int32} (h : vc_X9_copy_39_51_L2 d post σ v2) : jv_wp (d + 1) post (79, 2, [some (.ref 39), some (.ref 51), some (.int v2)], [], σ) := jv_go_ok 13 [2] _ _ _ h
def vc_X9_copy_42_52 (d : Nat) (post : jPo) (σ : jSt)  : Prop :=
 jv_wp (d + 1) post (79, 2, [some (.ref 42), some (.ref 52), some (.int (iI 0))], [], σ)
set_option maxRecDepth 100000 in
set_option maxHeartbeats 4000000 in
theorem ok_X9_copy_42_52 {d : Nat} {post : jPo} {σ : jSt} (h : vc_X9_copy_42_52 d post σ ) : jv_wp (d + 1) post (79, 0, [some (.ref 42), some (.ref 52), none], [], σ) := jv_go_ok 3 [2] _ _ _ h
def vc_X9_copy_42_52_L2 (d : Nat) (post : jPo) (σ : jSt) (v2 : Int32) : Prop :=
 (((Int32.ofNat 5) ≤ v2 → post none σ) ∧
 (¬ (Int32.ofNat 5) ≤ v2 → (vp_in v2 5 ∧ (vp_in v2 5 ∧ (let s1 : jSt := jv_u σ 52 v2.toNatClampNeg (σ.1 42 v2.toNatClampNeg)
 (let x2 : Int32 := (v2 + (iI 1))
 jv_wp (d + 1) post (79, 2, [some (.ref 42), some (.ref 52), some (.int x2)], [], s1)))))))
set_option maxRecDepth 100000 in
set_option maxHeartbeats 4000000 in
theorem ok_X9_copy_42_52_L2 {d : Nat} {post : jPo} {σ : jSt} {v2 : Int32} (h : vc_X9_copy_42_52_L2 d post σ v2) : jv_wp (d + 1) post (79, 2, [some (.ref 42), some (.ref 52), some (.int v2)], [], σ) := jv_go_ok 13 [2] _ _ _ h
def vc_X9_copy_43_53 (d : Nat) (post : jPo) (σ : jSt)  : Prop :=
 jv_wp (d + 1) post (79, 2, [some (.ref 43), some (.ref 53), some (.int (iI 0))], [], σ)
set_option maxRecDepth 100000 in
set_option maxHeartbeats 4000000 in
theorem ok_X9_copy_43_53 {d : Nat} {post : jPo} {σ : jSt} (h : vc_X9_copy_43_53 d post σ ) : jv_wp (d + 1) post (79, 0, [some (.ref 43), some (.ref 53), none], [], σ) := jv_go_ok 3 [2] _ _ _ h
def vc_X9_copy_43_53_L2 (d : Nat) (post : jPo) (σ : jSt) (v2 : Int32) : Prop :=
 (((Int32.ofNat 5) ≤ v2 → post none σ) ∧
 (¬ (Int32.ofNat 5) ≤ v2 → (vp_in v2 5 ∧ (vp_in v2 5 ∧ (let s1 : jSt := jv_u σ 53 v2.toNatClampNeg (σ.1 43 v2.toNatClampNeg)
 (let x2 : Int32 := (v2 + (iI 1))
 jv_wp (d + 1) post (79, 2, [some (.ref 43), some (.ref 53), some (.int x2)], [], s1)))))))
set_option maxRecDepth 100000 in
set_option maxHeartbeats 4000000 in
theorem ok_X9_copy_43_53_L2 {d : Nat} {post : jPo} {σ : jSt} {v2 : Int32} (h : vc_X9_copy_43_53_L2 d post σ v2) : jv_wp (d + 1) post (79, 2, [some (.ref 43), some (.ref 53), some (.int v2)], [], σ) := jv_go_ok 13 [2] _ _ _ h
def vc_X9_copy_44_54 (d : Nat) (post : jPo) (σ : jSt)  : Prop :=
 jv_wp (d + 1) post (79, 2, [some (.ref 44), some (.ref 54), some (.int (iI 0))], [], σ)
set_option maxRecDepth 100000 in
set_option maxHeartbeats 4000000 in
theorem ok_X9_copy_44_54 {d : Nat} {post : jPo} {σ : jSt} (h : vc_X9_copy_44_54 d post σ ) : jv_wp (d + 1) post (79, 0, [some (.ref 44), some (.ref 54), none], [], σ) := jv_go_ok 3 [2] _ _ _ h
def vc_X9_copy_44_54_L2 (d : Nat) (post : jPo) (σ : jSt) (v2 : Int32) : Prop :=
 (((Int32.ofNat 5) ≤ v2 → post none σ) ∧
 (¬ (Int32.ofNat 5) ≤ v2 → (vp_in v2 5 ∧ (vp_in v2 5 ∧ (let s1 : jSt := jv_u σ 54 v2.toNatClampNeg (σ.1 44 v2.toNatClampNeg)
 (let x2 : Int32 := (v2 + (iI 1))
 jv_wp (d + 1) post (79, 2, [some (.ref 44), some (.ref 54), some (.int x2)], [], s1)))))))
set_option maxRecDepth 100000 in
set_option maxHeartbeats 4000000 in
theorem ok_X9_copy_44_54_L2 {d : Nat} {post : jPo} {σ : jSt} {v2 : Int32} (h : vc_X9_copy_44_54_L2 d post σ v2) : jv_wp (d + 1) post (79, 2, [some (.ref 44), some (.ref 54), some (.int v2)], [], σ) := jv_go_ok 13 [2] _ _ _ h
def vc_X9_copy_48_55 (d : Nat) (post : jPo) (σ : jSt)  : Prop :=
 jv_wp (d + 1) post (79, 2, [some (.ref 48), some (.ref 55), some (.int (iI 0))], [], σ)
set_option maxRecDepth 100000 in
set_option maxHeartbeats 4000000 in
theorem ok_X9_copy_48_55 {d : Nat} {post : jPo} {σ : jSt} (h : vc_X9_copy_48_55 d post σ ) : jv_wp (d + 1) post (79, 0, [some (.ref 48), some (.ref 55), none], [], σ) := jv_go_ok 3 [2] _ _ _ h
def vc_X9_copy_48_55_L2 (d : Nat) (post : jPo) (σ : jSt) (v2 : Int32) : Prop :=
 (((Int32.ofNat 18) ≤ v2 → post none σ) ∧
 (¬ (Int32.ofNat 18) ≤ v2 → (vp_in v2 18 ∧ (vp_in v2 18 ∧ (let s1 : jSt := jv_u σ 55 v2.toNatClampNeg (σ.1 48 v2.toNatClampNeg)
 (let x2 : Int32 := (v2 + (iI 1))
 jv_wp (d + 1) post (79, 2, [some (.ref 48), some (.ref 55), some (.int x2)], [], s1)))))))
set_option maxRecDepth 100000 in
set_option maxHeartbeats 4000000 in
theorem ok_X9_copy_48_55_L2 {d : Nat} {post : jPo} {σ : jSt} {v2 : Int32} (h : vc_X9_copy_48_55_L2 d post σ v2) : jv_wp (d + 1) post (79, 2, [some (.ref 48), some (.ref 55), some (.int v2)], [], σ) := jv_go_ok 13 [2] _ _ _ h
def vc_X9_copy_49_36 (d : Nat) (post : jPo) (σ : jSt)  : Prop :=
 jv_wp (d + 1) post (79, 2, [some (.ref 49), some (.ref 36), some (.int (iI 0))], [], σ)
set_option maxRecDepth 100000 in
set_option maxHeartbeats 4000000 in
theorem ok_X9_copy_49_36 {d : Nat} {post : jPo} {σ : jSt} (h : vc_X9_copy_49_36 d post σ ) : jv_wp (d + 1) post (79, 0, [some (.ref 49), some (.ref 36), none], [], σ) := jv_go_ok 3 [2] _ _ _ h
def vc_X9_copy_49_36_L2 (d : Nat) (post : jPo) (σ : jSt) (v2 : Int32) : Prop :=
 (((Int32.ofNat 6) ≤ v2 → post none σ) ∧
 (¬ (Int32.ofNat 6) ≤ v2 → (vp_in v2 6 ∧ (vp_in v2 6 ∧ (let s1 : jSt := jv_u σ 36 v2.toNatClampNeg (σ.1 49 v2.toNatClampNeg)
 (let x2 : Int32 := (v2 + (iI 1))
 jv_wp (d + 1) post (79, 2, [some (.ref 49), some (.ref 36), some (.int x2)], [], s1)))))))
set_option maxRecDepth 100000 in
set_option maxHeartbeats 4000000 in
theorem ok_X9_copy_49_36_L2 {d : Nat} {post : jPo} {σ : jSt} {v2 : Int32} (h : vc_X9_copy_49_36_L2 d post σ v2) : jv_wp (d + 1) post (79, 2, [some (.ref 49), some (.ref 36), some (.int v2)], [], σ) := jv_go_ok 13 [2] _ _ _ h
def vc_X9_copy_50_38 (d : Nat) (post : jPo) (σ : jSt)  : Prop :=
 jv_wp (d + 1) post (79, 2, [some (.ref 50), some (.ref 38), some (.int (iI 0))], [], σ)
set_option maxRecDepth 100000 in
set_option maxHeartbeats 4000000 in
theorem ok_X9_copy_50_38 {d : Nat} {post : jPo} {σ : jSt} (h : vc_X9_copy_50_38 d post σ ) : jv_wp (d + 1) post (79, 0, [some (.ref 50), some (.ref 38), none], [], σ) := jv_go_ok 3 [2] _ _ _ h
def vc_X9_copy_50_38_L2 (d : Nat) (post : jPo) (σ : jSt) (v2 : Int32) : Prop :=
 (((Int32.ofNat 6) ≤ v2 → post none σ) ∧
 (¬ (Int32.ofNat 6) ≤ v2 → (vp_in v2 6 ∧ (vp_in v2 6 ∧ (let s1 : jSt := jv_u σ 38 v2.toNatClampNeg (σ.1 50 v2.toNatClampNeg)
 (let x2 : Int32 := (v2 + (iI 1))
 jv_wp (d + 1) post (79, 2, [some (.ref 50), some (.ref 38), some (.int x2)], [], s1)))))))
set_option maxRecDepth 100000 in
set_option maxHeartbeats 4000000 in
theorem ok_X9_copy_50_38_L2 {d : Nat} {post : jPo} {σ : jSt} {v2 : Int32} (h : vc_X9_copy_50_38_L2 d post σ v2) : jv_wp (d + 1) post (79, 2, [some (.ref 50), some (.ref 38), some (.int v2)], [], σ) := jv_go_ok 13 [2] _ _ _ h
def vc_X9_copy_51_39 (d : Nat) (post : jPo) (σ : jSt)  : Prop :=
 jv_wp (d + 1) post (79, 2, [some (.ref 51), some (.ref 39), some (.int (iI 0))], [], σ)
set_option maxRecDepth 100000 in
set_option maxHeartbeats 4000000 in
theorem ok_X9_copy_51_39 {d : Nat} {post : jPo} {σ : jSt} (h : vc_X9_copy_51_39 d post σ ) : jv_wp (d + 1) post (79, 0, [some (.ref 51), some (.ref 39), none], [], σ) := jv_go_ok 3 [2] _ _ _ h
def vc_X9_copy_51_39_L2 (d : Nat) (post : jPo) (σ : jSt) (v2 : Int32) : Prop :=
 (((Int32.ofNat 6) ≤ v2 → post none σ) ∧
 (¬ (Int32.ofNat 6) ≤ v2 → (vp_in v2 6 ∧ (vp_in v2 6 ∧ (let s1 : jSt := jv_u σ 39 v2.toNatClampNeg (σ.1 51 v2.toNatClampNeg)
 (let x2 : Int32 := (v2 + (iI 1))
 jv_wp (d + 1) post (79, 2, [some (.ref 51), some (.ref 39), some (.int x2)], [], s1)))))))
set_option maxRecDepth 100000 in
set_option maxHeartbeats 4000000 in
theorem ok_X9_copy_51_39_L2 {d : Nat} {post : jPo} {σ : jSt} {v2 : Int32} (h : vc_X9_copy_51_39_L2 d post σ v2) : jv_wp (d + 1) post (79, 2, [some (.ref 51), some (.ref 39), some (.int v2)], [], σ) := jv_go_ok 13 [2] _ _ _ h
def vc_X9_copy_52_42 (d : Nat) (post : jPo) (σ : jSt)  : Prop :=
 jv_wp (d + 1) post (79, 2, [some (.ref 52), some (.ref 42), some (.int (iI 0))], [], σ)
set_option maxRecDepth 100000 in
set_option maxHeartbeats 4000000 in
theorem ok_X9_copy_52_42 {d : Nat} {post : jPo} {σ : jSt} (h : vc_X9_copy_52_42 d post σ ) : jv_wp (d + 1) post (79, 0, [some (.ref 52), some (.ref 42), none], [], σ) := jv_go_ok 3 [2] _ _ _ h
def vc_X9_copy_52_42_L2 (d : Nat) (post : jPo) (σ : jSt) (v2 : Int32) : Prop :=
 (((Int32.ofNat 5) ≤ v2 → post none σ) ∧
 (¬ (Int32.ofNat 5) ≤ v2 → (vp_in v2 5 ∧ (vp_in v2 5 ∧ (let s1 : jSt := jv_u σ 42 v2.toNatClampNeg (σ.1 52 v2.toNatClampNeg)
 (let x2 : Int32 := (v2 + (iI 1))
 jv_wp (d + 1) post (79, 2, [some (.ref 52), some (.ref 42), some (.int x2)], [], s1)))))))
set_option maxRecDepth 100000 in
set_option maxHeartbeats 4000000 in
theorem ok_X9_copy_52_42_L2 {d : Nat} {post : jPo} {σ : jSt} {v2 : Int32} (h : vc_X9_copy_52_42_L2 d post σ v2) : jv_wp (d + 1) post (79, 2, [some (.ref 52), some (.ref 42), some (.int v2)], [], σ) := jv_go_ok 13 [2] _ _ _ h
def vc_X9_copy_53_43 (d : Nat) (post : jPo) (σ : jSt)  : Prop :=
 jv_wp (d + 1) post (79, 2, [some (.ref 53), some (.ref 43), some (.int (iI 0))], [], σ)
set_option maxRecDepth 100000 in
set_option maxHeartbeats 4000000 in
theorem ok_X9_copy_53_43 {d : Nat} {post : jPo} {σ : jSt} (h : vc_X9_copy_53_43 d post σ ) : jv_wp (d + 1) post (79, 0, [some (.ref 53), some (.ref 43), none], [], σ) := jv_go_ok 3 [2] _ _ _ h
def vc_X9_copy_53_43_L2 (d : Nat) (post : jPo) (σ : jSt) (v2 : Int32) : Prop :=
 (((Int32.ofNat 5) ≤ v2 → post none σ) ∧
 (¬ (Int32.ofNat 5) ≤ v2 → (vp_in v2 5 ∧ (vp_in v2 5 ∧ (let s1 : jSt := jv_u σ 43 v2.toNatClampNeg (σ.1 53 v2.toNatClampNeg)
 (let x2 : Int32 := (v2 + (iI 1))
 jv_wp (d + 1) post (79, 2, [some (.ref 53), some (.ref 43), some (.int x2)], [], s1)))))))
set_option maxRecDepth 100000 in
set_option maxHeartbeats 4000000 in
theorem ok_X9_copy_53_43_L2 {d : Nat} {post : jPo} {σ : jSt} {v2 : Int32} (h : vc_X9_copy_53_43_L2 d post σ v2) : jv_wp (d + 1) post (79, 2, [some (.ref 53), some (.ref 43), some (.int v2)], [], σ) := jv_go_ok 13 [2] _ _ _ h
def vc_X9_copy_54_44 (d : Nat) (post : jPo) (σ : jSt)  : Prop :=
 jv_wp (d + 1) post (79, 2, [some (.ref 54), some (.ref 44), some (.int (iI 0))], [], σ)
set_option maxRecDepth 100000 in
set_option maxHeartbeats 4000000 in
theorem ok_X9_copy_54_44 {d : Nat} {post : jPo} {σ : jSt} (h : vc_X9_copy_54_44 d post σ ) : jv_wp (d + 1) post (79, 0, [some (.ref 54), some (.ref 44), none], [], σ) := jv_go_ok 3 [2] _ _ _ h
def vc_X9_copy_54_44_L2 (d : Nat) (post : jPo) (σ : jSt) (v2 : Int32) : Prop :=
 (((Int32.ofNat 5) ≤ v2 → post none σ) ∧
 (¬ (Int32.ofNat 5) ≤ v2 → (vp_in v2 5 ∧ (vp_in v2 5 ∧ (let s1 : jSt := jv_u σ 44 v2.toNatClampNeg (σ.1 54 v2.toNatClampNeg)
 (let x2 : Int32 := (v2 + (iI 1))
 jv_wp (d + 1) post (79, 2, [some (.ref 54), some (.ref 44), some (.int x2)], [], s1)))))))
set_option maxRecDepth 100000 in
set_option maxHeartbeats 4000000 in
theorem ok_X9_copy_54_44_L2 {d : Nat} {post : jPo} {σ : jSt} {v2 : Int32} (h : vc_X9_copy_54_44_L2 d post σ v2) : jv_wp (d + 1) post (79, 2, [some (.ref 54), some (.ref 44), some (.int v2)], [], σ) := jv_go_ok 13 [2] _ _ _ h
def vc_X9_copy_55_48 (d : Nat) (post : jPo) (σ : jSt)  : Prop :=
 jv_wp (d + 1) post (79, 2, [some (.ref 55), some (.ref 48), some (.int (iI 0))], [], σ)
set_option maxRecDepth 100000 in
set_option maxHeartbeats 4000000 in
theorem ok_X9_copy_55_48 {d : Nat} {post : jPo} {σ : jSt} (h : vc_X9_copy_55_48 d post σ ) : jv_wp (d + 1) post (79, 0, [some (.ref 55), some (.ref 48), none], [], σ) := jv_go_ok 3 [2] _ _ _ h
def vc_X9_copy_55_48_L2 (d : Nat) (post : jPo) (σ : jSt) (v2 : Int32) : Prop :=
 (((Int32.ofNat 18) ≤ v2 → post none σ) ∧
 (¬ (Int32.ofNat 18) ≤ v2 → (vp_in v2 18 ∧ (vp_in v2 18 ∧ (let s1 : jSt := jv_u σ 48 v2.toNatClampNeg (σ.1 55 v2.toNatClampNeg)
 (let x2 : Int32 := (v2 + (iI 1))
 jv_wp (d + 1) post (79, 2, [some (.ref 55), some (.ref 48), some (.int x2)], [], s1)))))))
set_option maxRecDepth 100000 in
set_option maxHeartbeats 4000000 in
theorem ok_X9_copy_55_48_L2 {d : Nat} {post : jPo} {σ : jSt} {v2 : Int32} (h : vc_X9_copy_55_48_L2 d post σ v2) : jv_wp (d + 1) post (79, 2, [some (.ref 55), some (.ref 48), some (.int v2)], [], σ) := jv_go_ok 13 [2] _ _ _ h

