/-! formulas of the law (printed) -/
def vc_L_law_16 (d : Nat) (post : jPo) (σ : jSt)  : Prop :=
 jv_wp (d + 1) post (0, 18, [some (.ref 56), some (.ref 0), some (.ref 34), some (.int (iI 0))], [], σ)
set_option maxRecDepth 100000 in
set_option maxHeartbeats 4000000 in
theorem ok_L_law_16 {d : Nat} {post : jPo} {σ : jSt} (h : vc_L_law_16 d post σ ) : jv_wp (d + 1) post (0, 16, [some (.ref 56), some (.ref 0), some (.ref 34), none], [], σ) := jv_go_ok 3 [18] _ _ _ h
def vc_L_law_L18 (d : Nat) (post : jPo) (σ : jSt) (v3 : Int32) : Prop :=
 ((((Int32.ofNat σ.2.2.1) - (iI 5)) < v3 → post (some (.int (iI 1))) σ) ∧
 (¬ ((Int32.ofNat σ.2.2.1) - (iI 5)) < v3 → (vp_in v3 σ.2.2.1 ∧ ((((σ.2.2.2 v3.toNatClampNeg) &&& (iI 31)) = (iI 0) → (vp_in (v3 + (iI 1)) σ.2.2.1 ∧ jq_I d 54 [.ref 0, .int (σ.2.2.2 (v3 + (iI 1)).toNatClampNeg)] σ (fun x2 s1 =>
 (vp_in (v3 + (iI 1)) s1.2.2.1 ∧ jq_I d 80 [.ref 34, .int (s1.2.2.2 (v3 + (iI 1)).toNatClampNeg)] s1 (fun x4 s3 =>
 ((x2 = x4 → (let x5 : Int32 := (v3 + (iI 5))
 jv_wp (d + 1) post (0, 18, [some (.ref 56), some (.ref 0), some (.ref 34), some (.int x5)], [], s3))) ∧
 (¬ x2 = x4 → post (some (.int (iI 0))) s3))))))) ∧
 (¬ ((σ.2.2.2 v3.toNatClampNeg) &&& (iI 31)) = (iI 0) → ((((σ.2.2.2 v3.toNatClampNeg) &&& (iI 31)) = (iI 1) → jq_I d 55 [.ref 0] σ (fun x7 s6 =>
 jq_I d 81 [.ref 34] s6 (fun x9 s8 =>
 ((x7 = x9 → (let x10 : Int32 := (v3 + (iI 5))
 jv_wp (d + 1) post (0, 18, [some (.ref 56), some (.ref 0), some (.ref 34), some (.int x10)], [], s8))) ∧
 (¬ x7 = x9 → post (some (.int (iI 0))) s8))))) ∧
 (¬ ((σ.2.2.2 v3.toNatClampNeg) &&& (iI 31)) = (iI 1) → ((((σ.2.2.2 v3.toNatClampNeg) &&& (iI 31)) = (iI 2) → jq_I d 56 [.ref 0] σ (fun x12 s11 =>
 jq_I d 87 [.ref 34] s11 (fun x14 s13 =>
 ((x12 = x14 → (let x15 : Int32 := (v3 + (iI 5))
 jv_wp (d + 1) post (0, 18, [some (.ref 56), some (.ref 0), some (.ref 34), some (.int x15)], [], s13))) ∧
 (¬ x12 = x14 → post (some (.int (iI 0))) s13))))) ∧
 (¬ ((σ.2.2.2 v3.toNatClampNeg) &&& (iI 31)) = (iI 2) → ((((σ.2.2.2 v3.toNatClampNeg) &&& (iI 31)) = (iI 3) → jq_I d 57 [.ref 0] σ (fun x17 s16 =>
 jq_I d 88 [.ref 34] s16 (fun x19 s18 =>
 ((x17 = x19 → (let x20 : Int32 := (v3 + (iI 5))
 jv_wp (d + 1) post (0, 18, [some (.ref 56), some (.ref 0), some (.ref 34), some (.int x20)], [], s18))) ∧
 (¬ x17 = x19 → post (some (.int (iI 0))) s18))))) ∧
 (¬ ((σ.2.2.2 v3.toNatClampNeg) &&& (iI 31)) = (iI 3) → ((((σ.2.2.2 v3.toNatClampNeg) &&& (iI 31)) = (iI 4) → (vp_in (v3 + (iI 1)) σ.2.2.1 ∧ (vp_in (v3 + (iI 2)) σ.2.2.1 ∧ jq_I d 58 [.ref 0, .int (σ.2.2.2 (v3 + (iI 1)).toNatClampNeg), .int (σ.2.2.2 (v3 + (iI 2)).toNatClampNeg)] σ (fun x22 s21 =>
 (vp_in (v3 + (iI 1)) s21.2.2.1 ∧ (vp_in (v3 + (iI 2)) s21.2.2.1 ∧ jq_I d 106 [.ref 34, .int (s21.2.2.2 (v3 + (iI 1)).toNatClampNeg), .int (s21.2.2.2 (v3 + (iI 2)).toNatClampNeg)] s21 (fun x24 s23 =>
 ((x22 = x24 → (let x25 : Int32 := (v3 + (iI 5))
 jv_wp (d + 1) post (0, 18, [some (.ref 56), some (.ref 0), some (.ref 34), some (.int x25)], [], s23))) ∧
 (¬ x22 = x24 → post (some (.int (iI 0))) s23))))))))) ∧
 (¬ ((σ.2.2.2 v3.toNatClampNeg) &&& (iI 31)) = (iI 4) → ((((σ.2.2.2 v3.toNatClampNeg) &&& (iI 31)) = (iI 5) → (vp_in (v3 + (iI 1)) σ.2.2.1 ∧ (vp_in (v3 + (iI 2)) σ.2.2.1 ∧ jq_I d 59 [.ref 0, .int (σ.2.2.2 (v3 + (iI 1)).toNatClampNeg), .int (σ.2.2.2 (v3 + (iI 2)).toNatClampNeg)] σ (fun x27 s26 =>
 (vp_in (v3 + (iI 1)) s26.2.2.1 ∧ (vp_in (v3 + (iI 2)) s26.2.2.1 ∧ jq_I d 107 [.ref 34, .int (s26.2.2.2 (v3 + (iI 1)).toNatClampNeg), .int (s26.2.2.2 (v3 + (iI 2)).toNatClampNeg)] s26 (fun x29 s28 =>
 ((x27 = x29 → (let x30 : Int32 := (v3 + (iI 5))
 jv_wp (d + 1) post (0, 18, [some (.ref 56), some (.ref 0), some (.ref 34), some (.int x30)], [], s28))) ∧
 (¬ x27 = x29 → post (some (.int (iI 0))) s28))))))))) ∧
 (¬ ((σ.2.2.2 v3.toNatClampNeg) &&& (iI 31)) = (iI 5) → ((((σ.2.2.2 v3.toNatClampNeg) &&& (iI 31)) = (iI 6) → (vp_in (v3 + (iI 1)) σ.2.2.1 ∧ (vp_in (v3 + (iI 2)) σ.2.2.1 ∧ jq_I d 60 [.ref 0, .int (σ.2.2.2 (v3 + (iI 1)).toNatClampNeg), .int (σ.2.2.2 (v3 + (iI 2)).toNatClampNeg)] σ (fun x32 s31 =>
 (vp_in (v3 + (iI 1)) s31.2.2.1 ∧ (vp_in (v3 + (iI 2)) s31.2.2.1 ∧ jq_I d 110 [.ref 34, .int (s31.2.2.2 (v3 + (iI 1)).toNatClampNeg), .int (s31.2.2.2 (v3 + (iI 2)).toNatClampNeg)] s31 (fun x34 s33 =>
 ((x32 = x34 → (let x35 : Int32 := (v3 + (iI 5))
 jv_wp (d + 1) post (0, 18, [some (.ref 56), some (.ref 0), some (.ref 34), some (.int x35)], [], s33))) ∧
 (¬ x32 = x34 → post (some (.int (iI 0))) s33))))))))) ∧
 (¬ ((σ.2.2.2 v3.toNatClampNeg) &&& (iI 31)) = (iI 6) → ((((σ.2.2.2 v3.toNatClampNeg) &&& (iI 31)) = (iI 7) → (vp_in (v3 + (iI 1)) σ.2.2.1 ∧ (vp_in (v3 + (iI 2)) σ.2.2.1 ∧ jq_I d 61 [.ref 0, .int (σ.2.2.2 (v3 + (iI 1)).toNatClampNeg), .int (σ.2.2.2 (v3 + (iI 2)).toNatClampNeg)] σ (fun x37 s36 =>
 (vp_in (v3 + (iI 1)) s36.2.2.1 ∧ (vp_in (v3 + (iI 2)) s36.2.2.1 ∧ jq_I d 112 [.ref 34, .int (s36.2.2.2 (v3 + (iI 1)).toNatClampNeg), .int (s36.2.2.2 (v3 + (iI 2)).toNatClampNeg)] s36 (fun x39 s38 =>
 ((x37 = x39 → (let x40 : Int32 := (v3 + (iI 5))
 jv_wp (d + 1) post (0, 18, [some (.ref 56), some (.ref 0), some (.ref 34), some (.int x40)], [], s38))) ∧
 (¬ x37 = x39 → post (some (.int (iI 0))) s38))))))))) ∧
 (¬ ((σ.2.2.2 v3.toNatClampNeg) &&& (iI 31)) = (iI 7) → ((((σ.2.2.2 v3.toNatClampNeg) &&& (iI 31)) = (iI 8) → (vp_in (v3 + (iI 1)) σ.2.2.1 ∧ jq_I d 62 [.ref 0, .int (σ.2.2.2 (v3 + (iI 1)).toNatClampNeg)] σ (fun x42 s41 =>
 (vp_in (v3 + (iI 1)) s41.2.2.1 ∧ jq_I d 113 [.ref 34, .int (s41.2.2.2 (v3 + (iI 1)).toNatClampNeg)] s41 (fun x44 s43 =>
 ((x42 = x44 → (let x45 : Int32 := (v3 + (iI 5))
 jv_wp (d + 1) post (0, 18, [some (.ref 56), some (.ref 0), some (.ref 34), some (.int x45)], [], s43))) ∧
 (¬ x42 = x44 → post (some (.int (iI 0))) s43))))))) ∧
 (¬ ((σ.2.2.2 v3.toNatClampNeg) &&& (iI 31)) = (iI 8) → ((((σ.2.2.2 v3.toNatClampNeg) &&& (iI 31)) = (iI 9) → jq_I d 63 [.ref 0] σ (fun x47 s46 =>
 jq_I d 114 [.ref 34] s46 (fun x49 s48 =>
 ((x47 = x49 → (let x50 : Int32 := (v3 + (iI 5))
 jv_wp (d + 1) post (0, 18, [some (.ref 56), some (.ref 0), some (.ref 34), some (.int x50)], [], s48))) ∧
 (¬ x47 = x49 → post (some (.int (iI 0))) s48))))) ∧
 (¬ ((σ.2.2.2 v3.toNatClampNeg) &&& (iI 31)) = (iI 9) → ((((σ.2.2.2 v3.toNatClampNeg) &&& (iI 31)) = (iI 10) → (vp_in (v3 + (iI 1)) σ.2.2.1 ∧ jq_I d 64 [.ref 0, .int (σ.2.2.2 (v3 + (iI 1)).toNatClampNeg)] σ (fun x52 s51 =>
 (vp_in (v3 + (iI 1)) s51.2.2.1 ∧ jq_I d 115 [.ref 34, .int (s51.2.2.2 (v3 + (iI 1)).toNatClampNeg)] s51 (fun x54 s53 =>
 ((x52 = x54 → (let x55 : Int32 := (v3 + (iI 5))
 jv_wp (d + 1) post (0, 18, [some (.ref 56), some (.ref 0), some (.ref 34), some (.int x55)], [], s53))) ∧
 (¬ x52 = x54 → post (some (.int (iI 0))) s53))))))) ∧
 (¬ ((σ.2.2.2 v3.toNatClampNeg) &&& (iI 31)) = (iI 10) → ((((σ.2.2.2 v3.toNatClampNeg) &&& (iI 31)) = (iI 11) → (vp_in (v3 + (iI 1)) σ.2.2.1 ∧ (vp_in (v3 + (iI 2)) σ.2.2.1 ∧ jq_I d 65 [.ref 0, .int (σ.2.2.2 (v3 + (iI 1)).toNatClampNeg), .int (σ.2.2.2 (v3 + (iI 2)).toNatClampNeg)] σ (fun x57 s56 =>
 (vp_in (v3 + (iI 1)) s56.2.2.1 ∧ (vp_in (v3 + (iI 2)) s56.2.2.1 ∧ jq_I d 116 [.ref 34, .int (s56.2.2.2 (v3 + (iI 1)).toNatClampNeg), .int (s56.2.2.2 (v3 + (iI 2)).toNatClampNeg)] s56 (fun x59 s58 =>
 ((x57 = x59 → (let x60 : Int32 := (v3 + (iI 5))
 jv_wp (d + 1) post (0, 18, [some (.ref 56), some (.ref 0), some (.ref 34), some (.int x60)], [], s58))) ∧
 (¬ x57 = x59 → post (some (.int (iI 0))) s58))))))))) ∧
 (¬ ((σ.2.2.2 v3.toNatClampNeg) &&& (iI 31)) = (iI 11) → ((((σ.2.2.2 v3.toNatClampNeg) &&& (iI 31)) = (iI 12) → (vp_in (v3 + (iI 1)) σ.2.2.1 ∧ (vp_in (v3 + (iI 2)) σ.2.2.1 ∧ (vp_in (v3 + (iI 3)) σ.2.2.1 ∧ jq_I d 66 [.ref 0, .int (σ.2.2.2 (v3 + (iI 1)).toNatClampNeg), .int (σ.2.2.2 (v3 + (iI 2)).toNatClampNeg), .int (σ.2.2.2 (v3 + (iI 3)).toNatClampNeg)] σ (fun x62 s61 =>
 (vp_in (v3 + (iI 1)) s61.2.2.1 ∧ (vp_in (v3 + (iI 2)) s61.2.2.1 ∧ (vp_in (v3 + (iI 3)) s61.2.2.1 ∧ jq_I d 117 [.ref 34, .int (s61.2.2.2 (v3 + (iI 1)).toNatClampNeg), .int (s61.2.2.2 (v3 + (iI 2)).toNatClampNeg), .int (s61.2.2.2 (v3 + (iI 3)).toNatClampNeg)] s61 (fun x64 s63 =>
 ((x62 = x64 → (let x65 : Int32 := (v3 + (iI 5))
 jv_wp (d + 1) post (0, 18, [some (.ref 56), some (.ref 0), some (.ref 34), some (.int x65)], [], s63))) ∧
 (¬ x62 = x64 → post (some (.int (iI 0))) s63))))))))))) ∧
 (¬ ((σ.2.2.2 v3.toNatClampNeg) &&& (iI 31)) = (iI 12) → ((((σ.2.2.2 v3.toNatClampNeg) &&& (iI 31)) = (iI 13) → (vp_in (v3 + (iI 1)) σ.2.2.1 ∧ (vp_in (v3 + (iI 2)) σ.2.2.1 ∧ jq_I d 67 [.ref 0, .int (σ.2.2.2 (v3 + (iI 1)).toNatClampNeg), .int (σ.2.2.2 (v3 + (iI 2)).toNatClampNeg)] σ (fun x67 s66 =>
 (vp_in (v3 + (iI 1)) s66.2.2.1 ∧ (vp_in (v3 + (iI 2)) s66.2.2.1 ∧ jq_I d 121 [.ref 34, .int (s66.2.2.2 (v3 + (iI 1)).toNatClampNeg), .int (s66.2.2.2 (v3 + (iI 2)).toNatClampNeg)] s66 (fun x69 s68 =>
 ((x67 = x69 → (let x70 : Int32 := (v3 + (iI 5))
 jv_wp (d + 1) post (0, 18, [some (.ref 56), some (.ref 0), some (.ref 34), some (.int x70)], [], s68))) ∧
 (¬ x67 = x69 → post (some (.int (iI 0))) s68))))))))) ∧
 (¬ ((σ.2.2.2 v3.toNatClampNeg) &&& (iI 31)) = (iI 13) → ((((σ.2.2.2 v3.toNatClampNeg) &&& (iI 31)) = (iI 14) → (vp_in (v3 + (iI 1)) σ.2.2.1 ∧ jq_I d 68 [.ref 0, .int (σ.2.2.2 (v3 + (iI 1)).toNatClampNeg)] σ (fun x72 s71 =>
 (vp_in (v3 + (iI 1)) s71.2.2.1 ∧ jq_I d 124 [.ref 34, .int (s71.2.2.2 (v3 + (iI 1)).toNatClampNeg)] s71 (fun x74 s73 =>
 ((x72 = x74 → (let x75 : Int32 := (v3 + (iI 5))
 jv_wp (d + 1) post (0, 18, [some (.ref 56), some (.ref 0), some (.ref 34), some (.int x75)], [], s73))) ∧
 (¬ x72 = x74 → post (some (.int (iI 0))) s73))))))) ∧
 (¬ ((σ.2.2.2 v3.toNatClampNeg) &&& (iI 31)) = (iI 14) → ((((σ.2.2.2 v3.toNatClampNeg) &&& (iI 31)) = (iI 15) → (vp_in (v3 + (iI 1)) σ.2.2.1 ∧ (vp_in (v3 + (iI 2)) σ.2.2.1 ∧ (vp_in (v3 + (iI 3)) σ.2.2.1 ∧ (vp_in (v3 + (iI 4)) σ.2.2.1 ∧ jq_I d 69 [.ref 0, .int (σ.2.2.2 (v3 + (iI 1)).toNatClampNeg), .int (σ.2.2.2 (v3 + (iI 2)).toNatClampNeg), .int (σ.2.2.2 (v3 + (iI 3)).toNatClampNeg), .int (σ.2.2.2 (v3 + (iI 4)).toNatClampNeg)] σ (fun x77 s76 =>
 (vp_in (v3 + (iI 1)) s76.2.2.1 ∧ (vp_in (v3 + (iI 2)) s76.2.2.1 ∧ (vp_in (v3 + (iI 3)) s76.2.2.1 ∧ (vp_in (v3 + (iI 4)) s76.2.2.1 ∧ jq_I d 126 [.ref 34, .int (s76.2.2.2 (v3 + (iI 1)).toNatClampNeg), .int (s76.2.2.2 (v3 + (iI 2)).toNatClampNeg), .int (s76.2.2.2 (v3 + (iI 3)).toNatClampNeg), .int (s76.2.2.2 (v3 + (iI 4)).toNatClampNeg)] s76 (fun x79 s78 =>
 ((x77 = x79 → (let x80 : Int32 := (v3 + (iI 5))
 jv_wp (d + 1) post (0, 18, [some (.ref 56), some (.ref 0), some (.ref 34), some (.int x80)], [], s78))) ∧
 (¬ x77 = x79 → post (some (.int (iI 0))) s78))))))))))))) ∧
 (¬ ((σ.2.2.2 v3.toNatClampNeg) &&& (iI 31)) = (iI 15) → ((((σ.2.2.2 v3.toNatClampNeg) &&& (iI 31)) = (iI 16) → (vp_in (v3 + (iI 1)) σ.2.2.1 ∧ (vp_in (v3 + (iI 2)) σ.2.2.1 ∧ (vp_in (v3 + (iI 3)) σ.2.2.1 ∧ (((σ.2.2.2 (v3 + (iI 3)).toNatClampNeg) = 0 → jq_I d 70 [.ref 0, .int (σ.2.2.2 (v3 + (iI 1)).toNatClampNeg), .int (σ.2.2.2 (v3 + (iI 2)).toNatClampNeg), .int (iI 0)] σ (fun x82 s81 =>
 (vp_in (v3 + (iI 1)) s81.2.2.1 ∧ (vp_in (v3 + (iI 2)) s81.2.2.1 ∧ (vp_in (v3 + (iI 3)) s81.2.2.1 ∧ (((s81.2.2.2 (v3 + (iI 3)).toNatClampNeg) = 0 → jq_I d 127 [.ref 34, .int (s81.2.2.2 (v3 + (iI 1)).toNatClampNeg), .int (s81.2.2.2 (v3 + (iI 2)).toNatClampNeg), .int (iI 0)] s81 (fun x84 s83 =>
 ((x82 = x84 → (let x85 : Int32 := (v3 + (iI 5))
 jv_wp (d + 1) post (0, 18, [some (.ref 56), some (.ref 0), some (.ref 34), some (.int x85)], [], s83))) ∧
 (¬ x82 = x84 → post (some (.int (iI 0))) s83)))) ∧
 (¬ (s81.2.2.2 (v3 + (iI 3)).toNatClampNeg) = 0 → jq_I d 127 [.ref 34, .int (s81.2.2.2 (v3 + (iI 1)).toNatClampNeg), .int (s81.2.2.2 (v3 + (iI 2)).toNatClampNeg), .int (iI 1)] s81 (fun x87 s86 =>
 ((x82 = x87 → (let x88 : Int32 := (v3 + (iI 5))
 jv_wp (d + 1) post (0, 18, [some (.ref 56), some (.ref 0), some (.ref 34), some (.int x88)], [], s86))) ∧
 (¬ x82 = x87 → post (some (.int (iI 0))) s86)))))))))) ∧
 (¬ (σ.2.2.2 (v3 + (iI 3)).toNatClampNeg) = 0 → jq_I d 70 [.ref 0, .int (σ.2.2.2 (v3 + (iI 1)).toNatClampNeg), .int (σ.2.2.2 (v3 + (iI 2)).toNatClampNeg), .int (iI 1)] σ (fun x90 s89 =>
 (vp_in (v3 + (iI 1)) s89.2.2.1 ∧ (vp_in (v3 + (iI 2)) s89.2.2.1 ∧ (vp_in (v3 + (iI 3)) s89.2.2.1 ∧ (((s89.2.2.2 (v3 + (iI 3)).toNatClampNeg) = 0 → jq_I d 127 [.ref 34, .int (s89.2.2.2 (v3 + (iI 1)).toNatClampNeg), .int (s89.2.2.2 (v3 + (iI 2)).toNatClampNeg), .int (iI 0)] s89 (fun x92 s91 =>
 ((x90 = x92 → (let x93 : Int32 := (v3 + (iI 5))
 jv_wp (d + 1) post (0, 18, [some (.ref 56), some (.ref 0), some (.ref 34), some (.int x93)], [], s91))) ∧
 (¬ x90 = x92 → post (some (.int (iI 0))) s91)))) ∧
 (¬ (s89.2.2.2 (v3 + (iI 3)).toNatClampNeg) = 0 → jq_I d 127 [.ref 34, .int (s89.2.2.2 (v3 + (iI 1)).toNatClampNeg), .int (s89.2.2.2 (v3 + (iI 2)).toNatClampNeg), .int (iI 1)] s89 (fun x95 s94 =>
 ((x90 = x95 → (let x96 : Int32 := (v3 + (iI 5))
 jv_wp (d + 1) post (0, 18, [some (.ref 56), some (.ref 0), some (.ref 34), some (.int x96)], [], s94))) ∧
 (¬ x90 = x95 → post (some (.int (iI 0))) s94))))))))))))))) ∧
 (¬ ((σ.2.2.2 v3.toNatClampNeg) &&& (iI 31)) = (iI 16) → ((((σ.2.2.2 v3.toNatClampNeg) &&& (iI 31)) = (iI 17) → jq_I d 71 [.ref 0] σ (fun x98 s97 =>
 jq_I d 128 [.ref 34] s97 (fun x100 s99 =>
 ((x98 = x100 → (let x101 : Int32 := (v3 + (iI 5))
 jv_wp (d + 1) post (0, 18, [some (.ref 56), some (.ref 0), some (.ref 34), some (.int x101)], [], s99))) ∧
 (¬ x98 = x100 → post (some (.int (iI 0))) s99))))) ∧
 (¬ ((σ.2.2.2 v3.toNatClampNeg) &&& (iI 31)) = (iI 17) → ((((σ.2.2.2 v3.toNatClampNeg) &&& (iI 31)) = (iI 18) → (vp_in (v3 + (iI 1)) σ.2.2.1 ∧ (vp_in (v3 + (iI 2)) σ.2.2.1 ∧ (vp_in (v3 + (iI 3)) σ.2.2.1 ∧ jq_I d 72 [.ref 0, .int (σ.2.2.2 (v3 + (iI 1)).toNatClampNeg), .int (σ.2.2.2 (v3 + (iI 2)).toNatClampNeg), .int (σ.2.2.2 (v3 + (iI 3)).toNatClampNeg)] σ (fun x103 s102 =>
 (vp_in (v3 + (iI 1)) s102.2.2.1 ∧ (vp_in (v3 + (iI 2)) s102.2.2.1 ∧ (vp_in (v3 + (iI 3)) s102.2.2.1 ∧ jq_I d 133 [.ref 34, .int (s102.2.2.2 (v3 + (iI 1)).toNatClampNeg), .int (s102.2.2.2 (v3 + (iI 2)).toNatClampNeg), .int (s102.2.2.2 (v3 + (iI 3)).toNatClampNeg)] s102 (fun x105 s104 =>
 ((x103 = x105 → (let x106 : Int32 := (v3 + (iI 5))
 jv_wp (d + 1) post (0, 18, [some (.ref 56), some (.ref 0), some (.ref 34), some (.int x106)], [], s104))) ∧
 (¬ x103 = x105 → post (some (.int (iI 0))) s104))))))))))) ∧
 (¬ ((σ.2.2.2 v3.toNatClampNeg) &&& (iI 31)) = (iI 18) → ((((σ.2.2.2 v3.toNatClampNeg) &&& (iI 31)) = (iI 19) → jq_I d 73 [.ref 0] σ (fun x108 s107 =>
 jq_I d 134 [.ref 34] s107 (fun x110 s109 =>
 ((x108 = x110 → (let x111 : Int32 := (v3 + (iI 5))
 jv_wp (d + 1) post (0, 18, [some (.ref 56), some (.ref 0), some (.ref 34), some (.int x111)], [], s109))) ∧
 (¬ x108 = x110 → post (some (.int (iI 0))) s109))))) ∧
 (¬ ((σ.2.2.2 v3.toNatClampNeg) &&& (iI 31)) = (iI 19) → ((((σ.2.2.2 v3.toNatClampNeg) &&& (iI 31)) = (iI 20) → jq_I d 74 [.ref 0] σ (fun x113 s112 =>
 jq_I d 135 [.ref 34] s112 (fun x115 s114 =>
 ((x113 = x115 → (let x116 : Int32 := (v3 + (iI 5))
 jv_wp (d + 1) post (0, 18, [some (.ref 56), some (.ref 0), some (.ref 34), some (.int x116)], [], s114))) ∧
 (¬ x113 = x115 → post (some (.int (iI 0))) s114))))) ∧
 (¬ ((σ.2.2.2 v3.toNatClampNeg) &&& (iI 31)) = (iI 20) → ((((σ.2.2.2 v3.toNatClampNeg) &&& (iI 31)) = (iI 21) → (vp_in (v3 + (iI 1)) σ.2.2.1 ∧ jq_I d 75 [.ref 0, .int (σ.2.2.2 (v3 + (iI 1)).toNatClampNeg)] σ (fun x118 s117 =>
 (vp_in (v3 + (iI 1)) s117.2.2.1 ∧ jq_I d 139 [.ref 34, .int (s117.2.2.2 (v3 + (iI 1)).toNatClampNeg)] s117 (fun x120 s119 =>
 ((x118 = x120 → (let x121 : Int32 := (v3 + (iI 5))
 jv_wp (d + 1) post (0, 18, [some (.ref 56), some (.ref 0), some (.ref 34), some (.int x121)], [], s119))) ∧
 (¬ x118 = x120 → post (some (.int (iI 0))) s119))))))) ∧
 (¬ ((σ.2.2.2 v3.toNatClampNeg) &&& (iI 31)) = (iI 21) → ((((σ.2.2.2 v3.toNatClampNeg) &&& (iI 31)) = (iI 22) → jq_L d 76 [.ref 0] σ (fun x123 s122 =>
 jq_L d 142 [.ref 34] s122 (fun x125 s124 =>
 (((lg_cmp x123 x125) = 0 → (let x126 : Int32 := (v3 + (iI 5))
 jv_wp (d + 1) post (0, 18, [some (.ref 56), some (.ref 0), some (.ref 34), some (.int x126)], [], s124))) ∧
 (¬ (lg_cmp x123 x125) = 0 → post (some (.int (iI 0))) s124))))) ∧
 (¬ ((σ.2.2.2 v3.toNatClampNeg) &&& (iI 31)) = (iI 22) → (let x127 : Int32 := (v3 + (iI 5))
 jv_wp (d + 1) post (0, 18, [some (.ref 56), some (.ref 0), some (.ref 34), some (.int x127)], [], σ)))))))))))))))))))))))))))))))))))))))))))))))))))
set_option maxRecDepth 100000 in
set_option maxHeartbeats 4000000 in
theorem ok_L_law_L18 {d : Nat} {post : jPo} {σ : jSt} {v3 : Int32} (h : vc_L_law_L18 d post σ v3) : jv_wp (d + 1) post (0, 18, [some (.ref 56), some (.ref 0), some (.ref 34), some (.int v3)], [], σ) := jv_go_ok 60 [18] _ _ _ (show ((((Int32.ofNat σ.2.2.1) - (iI 5)) < v3 → (((iI 1) = 0 ∨ (iI 1) = 1) ∧ post (some (.int (iI 1))) σ)) ∧
 (¬ ((Int32.ofNat σ.2.2.1) - (iI 5)) < v3 → (vp_in v3 σ.2.2.1 ∧ ((((σ.2.2.2 v3.toNatClampNeg) &&& (iI 31)) = (iI 0) → (vp_in (v3 + (iI 1)) σ.2.2.1 ∧ jq_I d 54 [.ref 0, .int (σ.2.2.2 (v3 + (iI 1)).toNatClampNeg)] σ (fun x2 s1 =>
 (vp_in (v3 + (iI 1)) s1.2.2.1 ∧ jq_I d 80 [.ref 34, .int (s1.2.2.2 (v3 + (iI 1)).toNatClampNeg)] s1 (fun x4 s3 =>
 ((x2 = x4 → (let x5 : Int32 := (v3 + (iI 5))
 jv_wp (d + 1) post (0, 18, [some (.ref 56), some (.ref 0), some (.ref 34), some (.int x5)], [], s3))) ∧
 (¬ x2 = x4 → (((iI 0) = 0 ∨ (iI 0) = 1) ∧ post (some (.int (iI 0))) s3)))))))) ∧
 (¬ ((σ.2.2.2 v3.toNatClampNeg) &&& (iI 31)) = (iI 0) → ((((σ.2.2.2 v3.toNatClampNeg) &&& (iI 31)) = (iI 1) → jq_I d 55 [.ref 0] σ (fun x7 s6 =>
 jq_I d 81 [.ref 34] s6 (fun x9 s8 =>
 ((x7 = x9 → (let x10 : Int32 := (v3 + (iI 5))
 jv_wp (d + 1) post (0, 18, [some (.ref 56), some (.ref 0), some (.ref 34), some (.int x10)], [], s8))) ∧
 (¬ x7 = x9 → (((iI 0) = 0 ∨ (iI 0) = 1) ∧ post (some (.int (iI 0))) s8)))))) ∧
 (¬ ((σ.2.2.2 v3.toNatClampNeg) &&& (iI 31)) = (iI 1) → ((((σ.2.2.2 v3.toNatClampNeg) &&& (iI 31)) = (iI 2) → jq_I d 56 [.ref 0] σ (fun x12 s11 =>
 jq_I d 87 [.ref 34] s11 (fun x14 s13 =>
 ((x12 = x14 → (let x15 : Int32 := (v3 + (iI 5))
 jv_wp (d + 1) post (0, 18, [some (.ref 56), some (.ref 0), some (.ref 34), some (.int x15)], [], s13))) ∧
 (¬ x12 = x14 → (((iI 0) = 0 ∨ (iI 0) = 1) ∧ post (some (.int (iI 0))) s13)))))) ∧
 (¬ ((σ.2.2.2 v3.toNatClampNeg) &&& (iI 31)) = (iI 2) → ((((σ.2.2.2 v3.toNatClampNeg) &&& (iI 31)) = (iI 3) → jq_I d 57 [.ref 0] σ (fun x17 s16 =>
 jq_I d 88 [.ref 34] s16 (fun x19 s18 =>
 ((x17 = x19 → (let x20 : Int32 := (v3 + (iI 5))
 jv_wp (d + 1) post (0, 18, [some (.ref 56), some (.ref 0), some (.ref 34), some (.int x20)], [], s18))) ∧
 (¬ x17 = x19 → (((iI 0) = 0 ∨ (iI 0) = 1) ∧ post (some (.int (iI 0))) s18)))))) ∧
 (¬ ((σ.2.2.2 v3.toNatClampNeg) &&& (iI 31)) = (iI 3) → ((((σ.2.2.2 v3.toNatClampNeg) &&& (iI 31)) = (iI 4) → (vp_in (v3 + (iI 1)) σ.2.2.1 ∧ (vp_in (v3 + (iI 2)) σ.2.2.1 ∧ jq_I d 58 [.ref 0, .int (σ.2.2.2 (v3 + (iI 1)).toNatClampNeg), .int (σ.2.2.2 (v3 + (iI 2)).toNatClampNeg)] σ (fun x22 s21 =>
 (vp_in (v3 + (iI 1)) s21.2.2.1 ∧ (vp_in (v3 + (iI 2)) s21.2.2.1 ∧ jq_I d 106 [.ref 34, .int (s21.2.2.2 (v3 + (iI 1)).toNatClampNeg), .int (s21.2.2.2 (v3 + (iI 2)).toNatClampNeg)] s21 (fun x24 s23 =>
 ((x22 = x24 → (let x25 : Int32 := (v3 + (iI 5))
 jv_wp (d + 1) post (0, 18, [some (.ref 56), some (.ref 0), some (.ref 34), some (.int x25)], [], s23))) ∧
 (¬ x22 = x24 → (((iI 0) = 0 ∨ (iI 0) = 1) ∧ post (some (.int (iI 0))) s23)))))))))) ∧
 (¬ ((σ.2.2.2 v3.toNatClampNeg) &&& (iI 31)) = (iI 4) → ((((σ.2.2.2 v3.toNatClampNeg) &&& (iI 31)) = (iI 5) → (vp_in (v3 + (iI 1)) σ.2.2.1 ∧ (vp_in (v3 + (iI 2)) σ.2.2.1 ∧ jq_I d 59 [.ref 0, .int (σ.2.2.2 (v3 + (iI 1)).toNatClampNeg), .int (σ.2.2.2 (v3 + (iI 2)).toNatClampNeg)] σ (fun x27 s26 =>
 (vp_in (v3 + (iI 1)) s26.2.2.1 ∧ (vp_in (v3 + (iI 2)) s26.2.2.1 ∧ jq_I d 107 [.ref 34, .int (s26.2.2.2 (v3 + (iI 1)).toNatClampNeg), .int (s26.2.2.2 (v3 + (iI 2)).toNatClampNeg)] s26 (fun x29 s28 =>
 ((x27 = x29 → (let x30 : Int32 := (v3 + (iI 5))
 jv_wp (d + 1) post (0, 18, [some (.ref 56), some (.ref 0), some (.ref 34), some (.int x30)], [], s28))) ∧
 (¬ x27 = x29 → (((iI 0) = 0 ∨ (iI 0) = 1) ∧ post (some (.int (iI 0))) s28)))))))))) ∧
 (¬ ((σ.2.2.2 v3.toNatClampNeg) &&& (iI 31)) = (iI 5) → ((((σ.2.2.2 v3.toNatClampNeg) &&& (iI 31)) = (iI 6) → (vp_in (v3 + (iI 1)) σ.2.2.1 ∧ (vp_in (v3 + (iI 2)) σ.2.2.1 ∧ jq_I d 60 [.ref 0, .int (σ.2.2.2 (v3 + (iI 1)).toNatClampNeg), .int (σ.2.2.2 (v3 + (iI 2)).toNatClampNeg)] σ (fun x32 s31 =>
 (vp_in (v3 + (iI 1)) s31.2.2.1 ∧ (vp_in (v3 + (iI 2)) s31.2.2.1 ∧ jq_I d 110 [.ref 34, .int (s31.2.2.2 (v3 + (iI 1)).toNatClampNeg), .int (s31.2.2.2 (v3 + (iI 2)).toNatClampNeg)] s31 (fun x34 s33 =>
 ((x32 = x34 → (let x35 : Int32 := (v3 + (iI 5))
 jv_wp (d + 1) post (0, 18, [some (.ref 56), some (.ref 0), some (.ref 34), some (.int x35)], [], s33))) ∧
 (¬ x32 = x34 → (((iI 0) = 0 ∨ (iI 0) = 1) ∧ post (some (.int (iI 0))) s33)))))))))) ∧
 (¬ ((σ.2.2.2 v3.toNatClampNeg) &&& (iI 31)) = (iI 6) → ((((σ.2.2.2 v3.toNatClampNeg) &&& (iI 31)) = (iI 7) → (vp_in (v3 + (iI 1)) σ.2.2.1 ∧ (vp_in (v3 + (iI 2)) σ.2.2.1 ∧ jq_I d 61 [.ref 0, .int (σ.2.2.2 (v3 + (iI 1)).toNatClampNeg), .int (σ.2.2.2 (v3 + (iI 2)).toNatClampNeg)] σ (fun x37 s36 =>
 (vp_in (v3 + (iI 1)) s36.2.2.1 ∧ (vp_in (v3 + (iI 2)) s36.2.2.1 ∧ jq_I d 112 [.ref 34, .int (s36.2.2.2 (v3 + (iI 1)).toNatClampNeg), .int (s36.2.2.2 (v3 + (iI 2)).toNatClampNeg)] s36 (fun x39 s38 =>
 ((x37 = x39 → (let x40 : Int32 := (v3 + (iI 5))
 jv_wp (d + 1) post (0, 18, [some (.ref 56), some (.ref 0), some (.ref 34), some (.int x40)], [], s38))) ∧
 (¬ x37 = x39 → (((iI 0) = 0 ∨ (iI 0) = 1) ∧ post (some (.int (iI 0))) s38)))))))))) ∧
 (¬ ((σ.2.2.2 v3.toNatClampNeg) &&& (iI 31)) = (iI 7) → ((((σ.2.2.2 v3.toNatClampNeg) &&& (iI 31)) = (iI 8) → (vp_in (v3 + (iI 1)) σ.2.2.1 ∧ jq_I d 62 [.ref 0, .int (σ.2.2.2 (v3 + (iI 1)).toNatClampNeg)] σ (fun x42 s41 =>
 (vp_in (v3 + (iI 1)) s41.2.2.1 ∧ jq_I d 113 [.ref 34, .int (s41.2.2.2 (v3 + (iI 1)).toNatClampNeg)] s41 (fun x44 s43 =>
 ((x42 = x44 → (let x45 : Int32 := (v3 + (iI 5))
 jv_wp (d + 1) post (0, 18, [some (.ref 56), some (.ref 0), some (.ref 34), some (.int x45)], [], s43))) ∧
 (¬ x42 = x44 → (((iI 0) = 0 ∨ (iI 0) = 1) ∧ post (some (.int (iI 0))) s43)))))))) ∧
 (¬ ((σ.2.2.2 v3.toNatClampNeg) &&& (iI 31)) = (iI 8) → ((((σ.2.2.2 v3.toNatClampNeg) &&& (iI 31)) = (iI 9) → jq_I d 63 [.ref 0] σ (fun x47 s46 =>
 jq_I d 114 [.ref 34] s46 (fun x49 s48 =>
 ((x47 = x49 → (let x50 : Int32 := (v3 + (iI 5))
 jv_wp (d + 1) post (0, 18, [some (.ref 56), some (.ref 0), some (.ref 34), some (.int x50)], [], s48))) ∧
 (¬ x47 = x49 → (((iI 0) = 0 ∨ (iI 0) = 1) ∧ post (some (.int (iI 0))) s48)))))) ∧
 (¬ ((σ.2.2.2 v3.toNatClampNeg) &&& (iI 31)) = (iI 9) → ((((σ.2.2.2 v3.toNatClampNeg) &&& (iI 31)) = (iI 10) → (vp_in (v3 + (iI 1)) σ.2.2.1 ∧ jq_I d 64 [.ref 0, .int (σ.2.2.2 (v3 + (iI 1)).toNatClampNeg)] σ (fun x52 s51 =>
 (vp_in (v3 + (iI 1)) s51.2.2.1 ∧ jq_I d 115 [.ref 34, .int (s51.2.2.2 (v3 + (iI 1)).toNatClampNeg)] s51 (fun x54 s53 =>
 ((x52 = x54 → (let x55 : Int32 := (v3 + (iI 5))
 jv_wp (d + 1) post (0, 18, [some (.ref 56), some (.ref 0), some (.ref 34), some (.int x55)], [], s53))) ∧
 (¬ x52 = x54 → (((iI 0) = 0 ∨ (iI 0) = 1) ∧ post (some (.int (iI 0))) s53)))))))) ∧
 (¬ ((σ.2.2.2 v3.toNatClampNeg) &&& (iI 31)) = (iI 10) → ((((σ.2.2.2 v3.toNatClampNeg) &&& (iI 31)) = (iI 11) → (vp_in (v3 + (iI 1)) σ.2.2.1 ∧ (vp_in (v3 + (iI 2)) σ.2.2.1 ∧ jq_I d 65 [.ref 0, .int (σ.2.2.2 (v3 + (iI 1)).toNatClampNeg), .int (σ.2.2.2 (v3 + (iI 2)).toNatClampNeg)] σ (fun x57 s56 =>
 (vp_in (v3 + (iI 1)) s56.2.2.1 ∧ (vp_in (v3 + (iI 2)) s56.2.2.1 ∧ jq_I d 116 [.ref 34, .int (s56.2.2.2 (v3 + (iI 1)).toNatClampNeg), .int (s56.2.2.2 (v3 + (iI 2)).toNatClampNeg)] s56 (fun x59 s58 =>
 ((x57 = x59 → (let x60 : Int32 := (v3 + (iI 5))
 jv_wp (d + 1) post (0, 18, [some (.ref 56), some (.ref 0), some (.ref 34), some (.int x60)], [], s58))) ∧
 (¬ x57 = x59 → (((iI 0) = 0 ∨ (iI 0) = 1) ∧ post (some (.int (iI 0))) s58)))))))))) ∧
 (¬ ((σ.2.2.2 v3.toNatClampNeg) &&& (iI 31)) = (iI 11) → ((((σ.2.2.2 v3.toNatClampNeg) &&& (iI 31)) = (iI 12) → (vp_in (v3 + (iI 1)) σ.2.2.1 ∧ (vp_in (v3 + (iI 2)) σ.2.2.1 ∧ (vp_in (v3 + (iI 3)) σ.2.2.1 ∧ jq_I d 66 [.ref 0, .int (σ.2.2.2 (v3 + (iI 1)).toNatClampNeg), .int (σ.2.2.2 (v3 + (iI 2)).toNatClampNeg), .int (σ.2.2.2 (v3 + (iI 3)).toNatClampNeg)] σ (fun x62 s61 =>
 (vp_in (v3 + (iI 1)) s61.2.2.1 ∧ (vp_in (v3 + (iI 2)) s61.2.2.1 ∧ (vp_in (v3 + (iI 3)) s61.2.2.1 ∧ jq_I d 117 [.ref 34, .int (s61.2.2.2 (v3 + (iI 1)).toNatClampNeg), .int (s61.2.2.2 (v3 + (iI 2)).toNatClampNeg), .int (s61.2.2.2 (v3 + (iI 3)).toNatClampNeg)] s61 (fun x64 s63 =>
 ((x62 = x64 → (let x65 : Int32 := (v3 + (iI 5))
 jv_wp (d + 1) post (0, 18, [some (.ref 56), some (.ref 0), some (.ref 34), some (.int x65)], [], s63))) ∧
 (¬ x62 = x64 → (((iI 0) = 0 ∨ (iI 0) = 1) ∧ post (some (.int (iI 0))) s63)))))))))))) ∧
 (¬ ((σ.2.2.2 v3.toNatClampNeg) &&& (iI 31)) = (iI 12) → ((((σ.2.2.2 v3.toNatClampNeg) &&& (iI 31)) = (iI 13) → (vp_in (v3 + (iI 1)) σ.2.2.1 ∧ (vp_in (v3 + (iI 2)) σ.2.2.1 ∧ jq_I d 67 [.ref 0, .int (σ.2.2.2 (v3 + (iI 1)).toNatClampNeg), .int (σ.2.2.2 (v3 + (iI 2)).toNatClampNeg)] σ (fun x67 s66 =>
 (vp_in (v3 + (iI 1)) s66.2.2.1 ∧ (vp_in (v3 + (iI 2)) s66.2.2.1 ∧ jq_I d 121 [.ref 34, .int (s66.2.2.2 (v3 + (iI 1)).toNatClampNeg), .int (s66.2.2.2 (v3 + (iI 2)).toNatClampNeg)] s66 (fun x69 s68 =>
 ((x67 = x69 → (let x70 : Int32 := (v3 + (iI 5))
 jv_wp (d + 1) post (0, 18, [some (.ref 56), some (.ref 0), some (.ref 34), some (.int x70)], [], s68))) ∧
 (¬ x67 = x69 → (((iI 0) = 0 ∨ (iI 0) = 1) ∧ post (some (.int (iI 0))) s68)))))))))) ∧
 (¬ ((σ.2.2.2 v3.toNatClampNeg) &&& (iI 31)) = (iI 13) → ((((σ.2.2.2 v3.toNatClampNeg) &&& (iI 31)) = (iI 14) → (vp_in (v3 + (iI 1)) σ.2.2.1 ∧ jq_I d 68 [.ref 0, .int (σ.2.2.2 (v3 + (iI 1)).toNatClampNeg)] σ (fun x72 s71 =>
 (vp_in (v3 + (iI 1)) s71.2.2.1 ∧ jq_I d 124 [.ref 34, .int (s71.2.2.2 (v3 + (iI 1)).toNatClampNeg)] s71 (fun x74 s73 =>
 ((x72 = x74 → (let x75 : Int32 := (v3 + (iI 5))
 jv_wp (d + 1) post (0, 18, [some (.ref 56), some (.ref 0), some (.ref 34), some (.int x75)], [], s73))) ∧
 (¬ x72 = x74 → (((iI 0) = 0 ∨ (iI 0) = 1) ∧ post (some (.int (iI 0))) s73)))))))) ∧
 (¬ ((σ.2.2.2 v3.toNatClampNeg) &&& (iI 31)) = (iI 14) → ((((σ.2.2.2 v3.toNatClampNeg) &&& (iI 31)) = (iI 15) → (vp_in (v3 + (iI 1)) σ.2.2.1 ∧ (vp_in (v3 + (iI 2)) σ.2.2.1 ∧ (vp_in (v3 + (iI 3)) σ.2.2.1 ∧ (vp_in (v3 + (iI 4)) σ.2.2.1 ∧ jq_I d 69 [.ref 0, .int (σ.2.2.2 (v3 + (iI 1)).toNatClampNeg), .int (σ.2.2.2 (v3 + (iI 2)).toNatClampNeg), .int (σ.2.2.2 (v3 + (iI 3)).toNatClampNeg), .int (σ.2.2.2 (v3 + (iI 4)).toNatClampNeg)] σ (fun x77 s76 =>
 (vp_in (v3 + (iI 1)) s76.2.2.1 ∧ (vp_in (v3 + (iI 2)) s76.2.2.1 ∧ (vp_in (v3 + (iI 3)) s76.2.2.1 ∧ (vp_in (v3 + (iI 4)) s76.2.2.1 ∧ jq_I d 126 [.ref 34, .int (s76.2.2.2 (v3 + (iI 1)).toNatClampNeg), .int (s76.2.2.2 (v3 + (iI 2)).toNatClampNeg), .int (s76.2.2.2 (v3 + (iI 3)).toNatClampNeg), .int (s76.2.2.2 (v3 + (iI 4)).toNatClampNeg)] s76 (fun x79 s78 =>
 ((x77 = x79 → (let x80 : Int32 := (v3 + (iI 5))
 jv_wp (d + 1) post (0, 18, [some (.ref 56), some (.ref 0), some (.ref 34), some (.int x80)], [], s78))) ∧
 (¬ x77 = x79 → (((iI 0) = 0 ∨ (iI 0) = 1) ∧ post (some (.int (iI 0))) s78)))))))))))))) ∧
 (¬ ((σ.2.2.2 v3.toNatClampNeg) &&& (iI 31)) = (iI 15) → ((((σ.2.2.2 v3.toNatClampNeg) &&& (iI 31)) = (iI 16) → (vp_in (v3 + (iI 1)) σ.2.2.1 ∧ (vp_in (v3 + (iI 2)) σ.2.2.1 ∧ (vp_in (v3 + (iI 3)) σ.2.2.1 ∧ (((σ.2.2.2 (v3 + (iI 3)).toNatClampNeg) = 0 → jq_I d 70 [.ref 0, .int (σ.2.2.2 (v3 + (iI 1)).toNatClampNeg), .int (σ.2.2.2 (v3 + (iI 2)).toNatClampNeg), .int (iI 0)] σ (fun x82 s81 =>
 (vp_in (v3 + (iI 1)) s81.2.2.1 ∧ (vp_in (v3 + (iI 2)) s81.2.2.1 ∧ (vp_in (v3 + (iI 3)) s81.2.2.1 ∧ (((s81.2.2.2 (v3 + (iI 3)).toNatClampNeg) = 0 → jq_I d 127 [.ref 34, .int (s81.2.2.2 (v3 + (iI 1)).toNatClampNeg), .int (s81.2.2.2 (v3 + (iI 2)).toNatClampNeg), .int (iI 0)] s81 (fun x84 s83 =>
 ((x82 = x84 → (let x85 : Int32 := (v3 + (iI 5))
 jv_wp (d + 1) post (0, 18, [some (.ref 56), some (.ref 0), some (.ref 34), some (.int x85)], [], s83))) ∧
 (¬ x82 = x84 → (((iI 0) = 0 ∨ (iI 0) = 1) ∧ post (some (.int (iI 0))) s83))))) ∧
 (¬ (s81.2.2.2 (v3 + (iI 3)).toNatClampNeg) = 0 → jq_I d 127 [.ref 34, .int (s81.2.2.2 (v3 + (iI 1)).toNatClampNeg), .int (s81.2.2.2 (v3 + (iI 2)).toNatClampNeg), .int (iI 1)] s81 (fun x87 s86 =>
 ((x82 = x87 → (let x88 : Int32 := (v3 + (iI 5))
 jv_wp (d + 1) post (0, 18, [some (.ref 56), some (.ref 0), some (.ref 34), some (.int x88)], [], s86))) ∧
 (¬ x82 = x87 → (((iI 0) = 0 ∨ (iI 0) = 1) ∧ post (some (.int (iI 0))) s86))))))))))) ∧
 (¬ (σ.2.2.2 (v3 + (iI 3)).toNatClampNeg) = 0 → jq_I d 70 [.ref 0, .int (σ.2.2.2 (v3 + (iI 1)).toNatClampNeg), .int (σ.2.2.2 (v3 + (iI 2)).toNatClampNeg), .int (iI 1)] σ (fun x90 s89 =>
 (vp_in (v3 + (iI 1)) s89.2.2.1 ∧ (vp_in (v3 + (iI 2)) s89.2.2.1 ∧ (vp_in (v3 + (iI 3)) s89.2.2.1 ∧ (((s89.2.2.2 (v3 + (iI 3)).toNatClampNeg) = 0 → jq_I d 127 [.ref 34, .int (s89.2.2.2 (v3 + (iI 1)).toNatClampNeg), .int (s89.2.2.2 (v3 + (iI 2)).toNatClampNeg), .int (iI 0)] s89 (fun x92 s91 =>
 ((x90 = x92 → (let x93 : Int32 := (v3 + (iI 5))
 jv_wp (d + 1) post (0, 18, [some (.ref 56), some (.ref 0), some (.ref 34), some (.int x93)], [], s91))) ∧
 (¬ x90 = x92 → (((iI 0) = 0 ∨ (iI 0) = 1) ∧ post (some (.int (iI 0))) s91))))) ∧
 (¬ (s89.2.2.2 (v3 + (iI 3)).toNatClampNeg) = 0 → jq_I d 127 [.ref 34, .int (s89.2.2.2 (v3 + (iI 1)).toNatClampNeg), .int (s89.2.2.2 (v3 + (iI 2)).toNatClampNeg), .int (iI 1)] s89 (fun x95 s94 =>
 ((x90 = x95 → (let x96 : Int32 := (v3 + (iI 5))
 jv_wp (d + 1) post (0, 18, [some (.ref 56), some (.ref 0), some (.ref 34), some (.int x96)], [], s94))) ∧
 (¬ x90 = x95 → (((iI 0) = 0 ∨ (iI 0) = 1) ∧ post (some (.int (iI 0))) s94)))))))))))))))) ∧
 (¬ ((σ.2.2.2 v3.toNatClampNeg) &&& (iI 31)) = (iI 16) → ((((σ.2.2.2 v3.toNatClampNeg) &&& (iI 31)) = (iI 17) → jq_I d 71 [.ref 0] σ (fun x98 s97 =>
 jq_I d 128 [.ref 34] s97 (fun x100 s99 =>
 ((x98 = x100 → (let x101 : Int32 := (v3 + (iI 5))
 jv_wp (d + 1) post (0, 18, [some (.ref 56), some (.ref 0), some (.ref 34), some (.int x101)], [], s99))) ∧
 (¬ x98 = x100 → (((iI 0) = 0 ∨ (iI 0) = 1) ∧ post (some (.int (iI 0))) s99)))))) ∧
 (¬ ((σ.2.2.2 v3.toNatClampNeg) &&& (iI 31)) = (iI 17) → ((((σ.2.2.2 v3.toNatClampNeg) &&& (iI 31)) = (iI 18) → (vp_in (v3 + (iI 1)) σ.2.2.1 ∧ (vp_in (v3 + (iI 2)) σ.2.2.1 ∧ (vp_in (v3 + (iI 3)) σ.2.2.1 ∧ jq_I d 72 [.ref 0, .int (σ.2.2.2 (v3 + (iI 1)).toNatClampNeg), .int (σ.2.2.2 (v3 + (iI 2)).toNatClampNeg), .int (σ.2.2.2 (v3 + (iI 3)).toNatClampNeg)] σ (fun x103 s102 =>
 (vp_in (v3 + (iI 1)) s102.2.2.1 ∧ (vp_in (v3 + (iI 2)) s102.2.2.1 ∧ (vp_in (v3 + (iI 3)) s102.2.2.1 ∧ jq_I d 133 [.ref 34, .int (s102.2.2.2 (v3 + (iI 1)).toNatClampNeg), .int (s102.2.2.2 (v3 + (iI 2)).toNatClampNeg), .int (s102.2.2.2 (v3 + (iI 3)).toNatClampNeg)] s102 (fun x105 s104 =>
 ((x103 = x105 → (let x106 : Int32 := (v3 + (iI 5))
 jv_wp (d + 1) post (0, 18, [some (.ref 56), some (.ref 0), some (.ref 34), some (.int x106)], [], s104))) ∧
 (¬ x103 = x105 → (((iI 0) = 0 ∨ (iI 0) = 1) ∧ post (some (.int (iI 0))) s104)))))))))))) ∧
 (¬ ((σ.2.2.2 v3.toNatClampNeg) &&& (iI 31)) = (iI 18) → ((((σ.2.2.2 v3.toNatClampNeg) &&& (iI 31)) = (iI 19) → jq_I d 73 [.ref 0] σ (fun x108 s107 =>
 jq_I d 134 [.ref 34] s107 (fun x110 s109 =>
 ((x108 = x110 → (let x111 : Int32 := (v3 + (iI 5))
 jv_wp (d + 1) post (0, 18, [some (.ref 56), some (.ref 0), some (.ref 34), some (.int x111)], [], s109))) ∧
 (¬ x108 = x110 → (((iI 0) = 0 ∨ (iI 0) = 1) ∧ post (some (.int (iI 0))) s109)))))) ∧
 (¬ ((σ.2.2.2 v3.toNatClampNeg) &&& (iI 31)) = (iI 19) → ((((σ.2.2.2 v3.toNatClampNeg) &&& (iI 31)) = (iI 20) → jq_I d 74 [.ref 0] σ (fun x113 s112 =>
 jq_I d 135 [.ref 34] s112 (fun x115 s114 =>
 ((x113 = x115 → (let x116 : Int32 := (v3 + (iI 5))
 jv_wp (d + 1) post (0, 18, [some (.ref 56), some (.ref 0), some (.ref 34), some (.int x116)], [], s114))) ∧
 (¬ x113 = x115 → (((iI 0) = 0 ∨ (iI 0) = 1) ∧ post (some (.int (iI 0))) s114)))))) ∧
 (¬ ((σ.2.2.2 v3.toNatClampNeg) &&& (iI 31)) = (iI 20) → ((((σ.2.2.2 v3.toNatClampNeg) &&& (iI 31)) = (iI 21) → (vp_in (v3 + (iI 1)) σ.2.2.1 ∧ jq_I d 75 [.ref 0, .int (σ.2.2.2 (v3 + (iI 1)).toNatClampNeg)] σ (fun x118 s117 =>
 (vp_in (v3 + (iI 1)) s117.2.2.1 ∧ jq_I d 139 [.ref 34, .int (s117.2.2.2 (v3 + (iI 1)).toNatClampNeg)] s117 (fun x120 s119 =>
 ((x118 = x120 → (let x121 : Int32 := (v3 + (iI 5))
 jv_wp (d + 1) post (0, 18, [some (.ref 56), some (.ref 0), some (.ref 34), some (.int x121)], [], s119))) ∧
 (¬ x118 = x120 → (((iI 0) = 0 ∨ (iI 0) = 1) ∧ post (some (.int (iI 0))) s119)))))))) ∧
 (¬ ((σ.2.2.2 v3.toNatClampNeg) &&& (iI 31)) = (iI 21) → ((((σ.2.2.2 v3.toNatClampNeg) &&& (iI 31)) = (iI 22) → jq_L d 76 [.ref 0] σ (fun x123 s122 =>
 jq_L d 142 [.ref 34] s122 (fun x125 s124 =>
 (((lg_cmp x123 x125) = 0 → (let x126 : Int32 := (v3 + (iI 5))
 jv_wp (d + 1) post (0, 18, [some (.ref 56), some (.ref 0), some (.ref 34), some (.int x126)], [], s124))) ∧
 (¬ (lg_cmp x123 x125) = 0 → (((iI 0) = 0 ∨ (iI 0) = 1) ∧ post (some (.int (iI 0))) s124)))))) ∧
 (¬ ((σ.2.2.2 v3.toNatClampNeg) &&& (iI 31)) = (iI 22) → (let x127 : Int32 := (v3 + (iI 5))
 jv_wp (d + 1) post (0, 18, [some (.ref 56), some (.ref 0), some (.ref 34), some (.int x127)], [], σ))))))))))))))))))))))))))))))))))))))))))))))))))) from ⟨fun c1 => ⟨by decide +kernel, ((h).1 c1)⟩, fun c1 => ⟨(((h).2 c1)).1, ⟨fun c5 => ⟨((((((h).2 c1)).2).1 c5)).1, jq_I_con (((((((h).2 c1)).2).1 c5)).2) (fun x2 s1 h7 => ⟨(h7).1, jq_I_con ((h7).2) (fun x4 s3 h9 => ⟨fun c10 => ((h9).1 c10), fun c10 => ⟨by decide +kernel, ((h9).2 c10)⟩⟩)⟩)⟩, fun c5 => ⟨fun c14 => jq_I_con ((((((((h).2 c1)).2).2 c5)).1 c14)) (fun x7 s6 h15 => jq_I_con (h15) (fun x9 s8 h16 => ⟨fun c17 => ((h16).1 c17), fun c17 => ⟨by decide +kernel, ((h16).2 c17)⟩⟩)), fun c14 => ⟨fun c21 => jq_I_con ((((((((((h).2 c1)).2).2 c5)).2 c14)).1 c21)) (fun x12 s11 h22 => jq_I_con (h22) (fun x14 s13 h23 => ⟨fun c24 => ((h23).1 c24), fun c24 => ⟨by decide +kernel, ((h23).2 c24)⟩⟩)), fun c21 => ⟨fun c28 => jq_I_con ((((((((((((h).2 c1)).2).2 c5)).2 c14)).2 c21)).1 c28)) (fun x17 s16 h29 => jq_I_con (h29) (fun x19 s18 h30 => ⟨fun c31 => ((h30).1 c31), fun c31 => ⟨by decide +kernel, ((h30).2 c31)⟩⟩)), fun c28 => ⟨fun c35 => ⟨((((((((((((((h).2 c1)).2).2 c5)).2 c14)).2 c21)).2 c28)).1 c35)).1, ⟨(((((((((((((((h).2 c1)).2).2 c5)).2 c14)).2 c21)).2 c28)).1 c35)).2).1, jq_I_con ((((((((((((((((h).2 c1)).2).2 c5)).2 c14)).2 c21)).2 c28)).1 c35)).2).2) (fun x22 s21 h38 => ⟨(h38).1, ⟨((h38).2).1, jq_I_con (((h38).2).2) (fun x24 s23 h41 => ⟨fun c42 => ((h41).1 c42), fun c42 => ⟨by decide +kernel, ((h41).2 c42)⟩⟩)⟩⟩)⟩⟩, fun c35 => ⟨fun c46 => ⟨((((((((((((((((h).2 c1)).2).2 c5)).2 c14)).2 c21)).2 c28)).2 c35)).1 c46)).1, ⟨(((((((((((((((((h).2 c1)).2).2 c5)).2 c14)).2 c21)).2 c28)).2 c35)).1 c46)).2).1, jq_I_con ((((((((((((((((((h).2 c1)).2).2 c5)).2 c14)).2 c21)).2 c28)).2 c35)).1 c46)).2).2) (fun x27 s26 h49 => ⟨(h49).1, ⟨((h49).2).1, jq_I_con (((h49).2).2) (fun x29 s28 h52 => ⟨fun c53 => ((h52).1 c53), fun c53 => ⟨by decide +kernel, ((h52).2 c53)⟩⟩)⟩⟩)⟩⟩, fun c46 => ⟨fun c57 => ⟨((((((((((((((((((h).2 c1)).2).2 c5)).2 c14)).2 c21)).2 c28)).2 c35)).2 c46)).1 c57)).1, ⟨(((((((((((((((((((h).2 c1)).2).2 c5)).2 c14)).2 c21)).2 c28)).2 c35)).2 c46)).1 c57)).2).1, jq_I_con ((((((((((((((((((((h).2 c1)).2).2 c5)).2 c14)).2 c21)).2 c28)).2 c35)).2 c46)).1 c57)).2).2) (fun x32 s31 h60 => ⟨(h60).1, ⟨((h60).2).1, jq_I_con (((h60).2).2) (fun x34 s33 h63 => ⟨fun c64 => ((h63).1 c64), fun c64 => ⟨by decide +kernel, ((h63).2 c64)⟩⟩)⟩⟩)⟩⟩, fun c57 => ⟨fun c68 => ⟨((((((((((((((((((((h).2 c1)).2).2 c5)).2 c14)).2 c21)).2 c28)).2 c35)).2 c46)).2 c57)).1 c68)).1, ⟨(((((((((((((((((((((h).2 c1)).2).2 c5)).2 c14)).2 c21)).2 c28)).2 c35)).2 c46)).2 c57)).1 c68)).2).1, jq_I_con ((((((((((((((((((((((h).2 c1)).2).2 c5)).2 c14)).2 c21)).2 c28)).2 c35)).2 c46)).2 c57)).1 c68)).2).2) (fun x37 s36 h71 => ⟨(h71).1, ⟨((h71).2).1, jq_I_con (((h71).2).2) (fun x39 s38 h74 => ⟨fun c75 => ((h74).1 c75), fun c75 => ⟨by decide +kernel, ((h74).2 c75)⟩⟩)⟩⟩)⟩⟩, fun c68 => ⟨fun c79 => ⟨((((((((((((((((((((((h).2 c1)).2).2 c5)).2 c14)).2 c21)).2 c28)).2 c35)).2 c46)).2 c57)).2 c68)).1 c79)).1, jq_I_con (((((((((((((((((((((((h).2 c1)).2).2 c5)).2 c14)).2 c21)).2 c28)).2 c35)).2 c46)).2 c57)).2 c68)).1 c79)).2) (fun x42 s41 h81 => ⟨(h81).1, jq_I_con ((h81).2) (fun x44 s43 h83 => ⟨fun c84 => ((h83).1 c84), fun c84 => ⟨by decide +kernel, ((h83).2 c84)⟩⟩)⟩)⟩, fun c79 => ⟨fun c88 => jq_I_con ((((((((((((((((((((((((h).2 c1)).2).2 c5)).2 c14)).2 c21)).2 c28)).2 c35)).2 c46)).2 c57)).2 c68)).2 c79)).1 c88)) (fun x47 s46 h89 => jq_I_con (h89) (fun x49 s48 h90 => ⟨fun c91 => ((h90).1 c91), fun c91 => ⟨by decide +kernel, ((h90).2 c91)⟩⟩)), fun c88 => ⟨fun c95 => ⟨((((((((((((((((((((((((((h).2 c1)).2).2 c5)).2 c14)).2 c21)).2 c28)).2 c35)).2 c46)).2 c57)).2 c68)).2 c79)).2 c88)).1 c95)).1, jq_I_con (((((((((((((((((((((((((((h).2 c1)).2).2 c5)).2 c14)).2 c21)).2 c28)).2 c35)).2 c46)).2 c57)).2 c68)).2 c79)).2 c88)).1 c95)).2) (fun x52 s51 h97 => ⟨(h97).1, jq_I_con ((h97).2) (fun x54 s53 h99 => ⟨fun c100 => ((h99).1 c100), fun c100 => ⟨by decide +kernel, ((h99).2 c100)⟩⟩)⟩)⟩, fun c95 => ⟨fun c104 => ⟨((((((((((((((((((((((((((((h).2 c1)).2).2 c5)).2 c14)).2 c21)).2 c28)).2 c35)).2 c46)).2 c57)).2 c68)).2 c79)).2 c88)).2 c95)).1 c104)).1, ⟨(((((((((((((((((((((((((((((h).2 c1)).2).2 c5)).2 c14)).2 c21)).2 c28)).2 c35)).2 c46)).2 c57)).2 c68)).2 c79)).2 c88)).2 c95)).1 c104)).2).1, jq_I_con ((((((((((((((((((((((((((((((h).2 c1)).2).2 c5)).2 c14)).2 c21)).2 c28)).2 c35)).2 c46)).2 c57)).2 c68)).2 c79)).2 c88)).2 c95)).1 c104)).2).2) (fun x57 s56 h107 => ⟨(h107).1, ⟨((h107).2).1, jq_I_con (((h107).2).2) (fun x59 s58 h110 => ⟨fun c111 => ((h110).1 c111), fun c111 => ⟨by decide +kernel, ((h110).2 c111)⟩⟩)⟩⟩)⟩⟩, fun c104 => ⟨fun c115 => ⟨((((((((((((((((((((((((((((((h).2 c1)).2).2 c5)).2 c14)).2 c21)).2 c28)).2 c35)).2 c46)).2 c57)).2 c68)).2 c79)).2 c88)).2 c95)).2 c104)).1 c115)).1, ⟨(((((((((((((((((((((((((((((((h).2 c1)).2).2 c5)).2 c14)).2 c21)).2 c28)).2 c35)).2 c46)).2 c57)).2 c68)).2 c79)).2 c88)).2 c95)).2 c104)).1 c115)).2).1, ⟨((((((((((((((((((((((((((((((((h).2 c1)).2).2 c5)).2 c14)).2 c21)).2 c28)).2 c35)).2 c46)).2 c57)).2 c68)).2 c79)).2 c88)).2 c95)).2 c104)).1 c115)).2).2).1, jq_I_con (((((((((((((((((((((((((((((((((h).2 c1)).2).2 c5)).2 c14)).2 c21)).2 c28)).2 c35)).2 c46)).2 c57)).2 c68)).2 c79)).2 c88)).2 c95)).2 c104)).1 c115)).2).2).2) (fun x62 s61 h119 => ⟨(h119).1, ⟨((h119).2).1, ⟨(((h119).2).2).1, jq_I_con ((((h119).2).2).2) (fun x64 s63 h123 => ⟨fun c124 => ((h123).1 c124), fun c124 => ⟨by decide +kernel, ((h123).2 c124)⟩⟩)⟩⟩⟩)⟩⟩⟩, fun c115 => ⟨fun c128 => ⟨((((((((((((((((((((((((((((((((h).2 c1)).2).2 c5)).2 c14)).2 c21)).2 c28)).2 c35)).2 c46)).2 c57)).2 c68)).2 c79)).2 c88)).2 c95)).2 c104)).2 c115)).1 c128)).1, ⟨(((((((((((((((((((((((((((((((((h).2 c1)).2).2 c5)).2 c14)).2 c21)).2 c28)).2 c35)).2 c46)).2 c57)).2 c68)).2 c79)).2 c88)).2 c95)).2 c104)).2 c115)).1 c128)).2).1, jq_I_con ((((((((((((((((((((((((((((((((((h).2 c1)).2).2 c5)).2 c14)).2 c21)).2 c28)).2 c35)).2 c46)).2 c57)).2 c68)).2 c79)).2 c88)).2 c95)).2 c104)).2 c115)).1 c128)).2).2) (fun x67 s66 h131 => ⟨(h131).1, ⟨((h131).2).1, jq_I_con (((h131).2).2) (fun x69 s68 h134 => ⟨fun c135 => ((h134).1 c135), fun c135 => ⟨by decide +kernel, ((h134).2 c135)⟩⟩)⟩⟩)⟩⟩, fun c128 => ⟨fun c139 => ⟨((((((((((((((((((((((((((((((((((h).2 c1)).2).2 c5)).2 c14)).2 c21)).2 c28)).2 c35)).2 c46)).2 c57)).2 c68)).2 c79)).2 c88)).2 c95)).2 c104)).2 c115)).2 c128)).1 c139)).1, jq_I_con (((((((((((((((((((((((((((((((((((h).2 c1)).2).2 c5)).2 c14)).2 c21)).2 c28)).2 c35)).2 c46)).2 c57)).2 c68)).2 c79)).2 c88)).2 c95)).2 c104)).2 c115)).2 c128)).1 c139)).2) (fun x72 s71 h141 => ⟨(h141).1, jq_I_con ((h141).2) (fun x74 s73 h143 => ⟨fun c144 => ((h143).1 c144), fun c144 => ⟨by decide +kernel, ((h143).2 c144)⟩⟩)⟩)⟩, fun c139 => ⟨fun c148 => ⟨((((((((((((((((((((((((((((((((((((h).2 c1)).2).2 c5)).2 c14)).2 c21)).2 c28)).2 c35)).2 c46)).2 c57)).2 c68)).2 c79)).2 c88)).2 c95)).2 c104)).2 c115)).2 c128)).2 c139)).1 c148)).1, ⟨(((((((((((((((((((((((((((((((((((((h).2 c1)).2).2 c5)).2 c14)).2 c21)).2 c28)).2 c35)).2 c46)).2 c57)).2 c68)).2 c79)).2 c88)).2 c95)).2 c104)).2 c115)).2 c128)).2 c139)).1 c148)).2).1, ⟨((((((((((((((((((((((((((((((((((((((h).2 c1)).2).2 c5)).2 c14)).2 c21)).2 c28)).2 c35)).2 c46)).2 c57)).2 c68)).2 c79)).2 c88)).2 c95)).2 c104)).2 c115)).2 c128)).2 c139)).1 c148)).2).2).1, ⟨(((((((((((((((((((((((((((((((((((((((h).2 c1)).2).2 c5)).2 c14)).2 c21)).2 c28)).2 c35)).2 c46)).2 c57)).2 c68)).2 c79)).2 c88)).2 c95)).2 c104)).2 c115)).2 c128)).2 c139)).1 c148)).2).2).2).1, jq_I_con ((((((((((((((((((((((((((((((((((((((((h).2 c1)).2).2 c5)).2 c14)).2 c21)).2 c28)).2 c35)).2 c46)).2 c57)).2 c68)).2 c79)).2 c88)).2 c95)).2 c104)).2 c115)).2 c128)).2 c139)).1 c148)).2).2).2).2) (fun x77 s76 h153 => ⟨(h153).1, ⟨((h153).2).1, ⟨(((h153).2).2).1, ⟨((((h153).2).2).2).1, jq_I_con (((((h153).2).2).2).2) (fun x79 s78 h158 => ⟨fun c159 => ((h158).1 c159), fun c159 => ⟨by decide +kernel, ((h158).2 c159)⟩⟩)⟩⟩⟩⟩)⟩⟩⟩⟩, fun c148 => ⟨fun c163 => ⟨((((((((((((((((((((((((((((((((((((((h).2 c1)).2).2 c5)).2 c14)).2 c21)).2 c28)).2 c35)).2 c46)).2 c57)).2 c68)).2 c79)).2 c88)).2 c95)).2 c104)).2 c115)).2 c128)).2 c139)).2 c148)).1 c163)).1, ⟨(((((((((((((((((((((((((((((((((((((((h).2 c1)).2).2 c5)).2 c14)).2 c21)).2 c28)).2 c35)).2 c46)).2 c57)).2 c68)).2 c79)).2 c88)).2 c95)).2 c104)).2 c115)).2 c128)).2 c139)).2 c148)).1 c163)).2).1, ⟨((((((((((((((((((((((((((((((((((((((((h).2 c1)).2).2 c5)).2 c14)).2 c21)).2 c28)).2 c35)).2 c46)).2 c57)).2 c68)).2 c79)).2 c88)).2 c95)).2 c104)).2 c115)).2 c128)).2 c139)).2 c148)).1 c163)).2).2).1, ⟨fun c167 => jq_I_con (((((((((((((((((((((((((((((((((((((((((((h).2 c1)).2).2 c5)).2 c14)).2 c21)).2 c28)).2 c35)).2 c46)).2 c57)).2 c68)).2 c79)).2 c88)).2 c95)).2 c104)).2 c115)).2 c128)).2 c139)).2 c148)).1 c163)).2).2).2).1 c167)) (fun x82 s81 h168 => ⟨(h168).1, ⟨((h168).2).1, ⟨(((h168).2).2).1, ⟨fun c172 => jq_I_con ((((((h168).2).2).2).1 c172)) (fun x84 s83 h173 => ⟨fun c174 => ((h173).1 c174), fun c174 => ⟨by decide +kernel, ((h173).2 c174)⟩⟩), fun c172 => jq_I_con ((((((h168).2).2).2).2 c172)) (fun x87 s86 h178 => ⟨fun c179 => ((h178).1 c179), fun c179 => ⟨by decide +kernel, ((h178).2 c179)⟩⟩)⟩⟩⟩⟩), fun c167 => jq_I_con (((((((((((((((((((((((((((((((((((((((((((h).2 c1)).2).2 c5)).2 c14)).2 c21)).2 c28)).2 c35)).2 c46)).2 c57)).2 c68)).2 c79)).2 c88)).2 c95)).2 c104)).2 c115)).2 c128)).2 c139)).2 c148)).1 c163)).2).2).2).2 c167)) (fun x90 s89 h183 => ⟨(h183).1, ⟨((h183).2).1, ⟨(((h183).2).2).1, ⟨fun c187 => jq_I_con ((((((h183).2).2).2).1 c187)) (fun x92 s91 h188 => ⟨fun c189 => ((h188).1 c189), fun c189 => ⟨by decide +kernel, ((h188).2 c189)⟩⟩), fun c187 => jq_I_con ((((((h183).2).2).2).2 c187)) (fun x95 s94 h193 => ⟨fun c194 => ((h193).1 c194), fun c194 => ⟨by decide +kernel, ((h193).2 c194)⟩⟩)⟩⟩⟩⟩)⟩⟩⟩⟩, fun c163 => ⟨fun c198 => jq_I_con ((((((((((((((((((((((((((((((((((((((((h).2 c1)).2).2 c5)).2 c14)).2 c21)).2 c28)).2 c35)).2 c46)).2 c57)).2 c68)).2 c79)).2 c88)).2 c95)).2 c104)).2 c115)).2 c128)).2 c139)).2 c148)).2 c163)).1 c198)) (fun x98 s97 h199 => jq_I_con (h199) (fun x100 s99 h200 => ⟨fun c201 => ((h200).1 c201), fun c201 => ⟨by decide +kernel, ((h200).2 c201)⟩⟩)), fun c198 => ⟨fun c205 => ⟨((((((((((((((((((((((((((((((((((((((((((h).2 c1)).2).2 c5)).2 c14)).2 c21)).2 c28)).2 c35)).2 c46)).2 c57)).2 c68)).2 c79)).2 c88)).2 c95)).2 c104)).2 c115)).2 c128)).2 c139)).2 c148)).2 c163)).2 c198)).1 c205)).1, ⟨(((((((((((((((((((((((((((((((((((((((((((h).2 c1)).2).2 c5)).2 c14)).2 c21)).2 c28)).2 c35)).2 c46)).2 c57)).2 c68)).2 c79)).2 c88)).2 c95)).2 c104)).2 c115)).2 c128)).2 c139)).2 c148)).2 c163)).2 c198)).1 c205)).2).1, ⟨((((((((((((((((((((((((((((((((((((((((((((h).2 c1)).2).2 c5)).2 c14)).2 c21)).2 c28)).2 c35)).2 c46)).2 c57)).2 c68)).2 c79)).2 c88)).2 c95)).2 c104)).2 c115)).2 c128)).2 c139)).2 c148)).2 c163)).2 c198)).1 c205)).2).2).1, jq_I_con (((((((((((((((((((((((((((((((((((((((((((((h).2 c1)).2).2 c5)).2 c14)).2 c21)).2 c28)).2 c35)).2 c46)).2 c57)).2 c68)).2 c79)).2 c88)).2 c95)).2 c104)).2 c115)).2 c128)).2 c139)).2 c148)).2 c163)).2 c198)).1 c205)).2).2).2) (fun x103 s102 h209 => ⟨(h209).1, ⟨((h209).2).1, ⟨(((h209).2).2).1, jq_I_con ((((h209).2).2).2) (fun x105 s104 h213 => ⟨fun c214 => ((h213).1 c214), fun c214 => ⟨by decide +kernel, ((h213).2 c214)⟩⟩)⟩⟩⟩)⟩⟩⟩, fun c205 => ⟨fun c218 => jq_I_con ((((((((((((((((((((((((((((((((((((((((((((h).2 c1)).2).2 c5)).2 c14)).2 c21)).2 c28)).2 c35)).2 c46)).2 c57)).2 c68)).2 c79)).2 c88)).2 c95)).2 c104)).2 c115)).2 c128)).2 c139)).2 c148)).2 c163)).2 c198)).2 c205)).1 c218)) (fun x108 s107 h219 => jq_I_con (h219) (fun x110 s109 h220 => ⟨fun c221 => ((h220).1 c221), fun c221 => ⟨by decide +kernel, ((h220).2 c221)⟩⟩)), fun c218 => ⟨fun c225 => jq_I_con ((((((((((((((((((((((((((((((((((((((((((((((h).2 c1)).2).2 c5)).2 c14)).2 c21)).2 c28)).2 c35)).2 c46)).2 c57)).2 c68)).2 c79)).2 c88)).2 c95)).2 c104)).2 c115)).2 c128)).2 c139)).2 c148)).2 c163)).2 c198)).2 c205)).2 c218)).1 c225)) (fun x113 s112 h226 => jq_I_con (h226) (fun x115 s114 h227 => ⟨fun c228 => ((h227).1 c228), fun c228 => ⟨by decide +kernel, ((h227).2 c228)⟩⟩)), fun c225 => ⟨fun c232 => ⟨((((((((((((((((((((((((((((((((((((((((((((((((h).2 c1)).2).2 c5)).2 c14)).2 c21)).2 c28)).2 c35)).2 c46)).2 c57)).2 c68)).2 c79)).2 c88)).2 c95)).2 c104)).2 c115)).2 c128)).2 c139)).2 c148)).2 c163)).2 c198)).2 c205)).2 c218)).2 c225)).1 c232)).1, jq_I_con (((((((((((((((((((((((((((((((((((((((((((((((((h).2 c1)).2).2 c5)).2 c14)).2 c21)).2 c28)).2 c35)).2 c46)).2 c57)).2 c68)).2 c79)).2 c88)).2 c95)).2 c104)).2 c115)).2 c128)).2 c139)).2 c148)).2 c163)).2 c198)).2 c205)).2 c218)).2 c225)).1 c232)).2) (fun x118 s117 h234 => ⟨(h234).1, jq_I_con ((h234).2) (fun x120 s119 h236 => ⟨fun c237 => ((h236).1 c237), fun c237 => ⟨by decide +kernel, ((h236).2 c237)⟩⟩)⟩)⟩, fun c232 => ⟨fun c241 => jq_L_con ((((((((((((((((((((((((((((((((((((((((((((((((((h).2 c1)).2).2 c5)).2 c14)).2 c21)).2 c28)).2 c35)).2 c46)).2 c57)).2 c68)).2 c79)).2 c88)).2 c95)).2 c104)).2 c115)).2 c128)).2 c139)).2 c148)).2 c163)).2 c198)).2 c205)).2 c218)).2 c225)).2 c232)).1 c241)) (fun x123 s122 h242 => jq_L_con (h242) (fun x125 s124 h243 => ⟨fun c244 => ((h243).1 c244), fun c244 => ⟨by decide +kernel, ((h243).2 c244)⟩⟩)), fun c241 => (((((((((((((((((((((((((((((((((((((((((((((((((h).2 c1)).2).2 c5)).2 c14)).2 c21)).2 c28)).2 c35)).2 c46)).2 c57)).2 c68)).2 c79)).2 c88)).2 c95)).2 c104)).2 c115)).2 c128)).2 c139)).2 c148)).2 c163)).2 c198)).2 c205)).2 c218)).2 c225)).2 c232)).2 c241)⟩⟩⟩⟩⟩⟩⟩⟩⟩⟩⟩⟩⟩⟩⟩⟩⟩⟩⟩⟩⟩⟩⟩⟩⟩)
