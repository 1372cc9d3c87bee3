/-! a World of the class's: what is only read -/
def vc_X7_hasRiver (d : Nat) (post : jPo) (σ : jSt)  : Prop :=
 (((σ.1 3 8) ≤ 0 → (((iI 0) = 0 ∨ (iI 0) = 1) ∧ post (some (.int (iI 0))) σ)) ∧
 (¬ (σ.1 3 8) ≤ 0 → (((iI 1) = 0 ∨ (iI 1) = 1) ∧ post (some (.int (iI 1))) σ)))
set_option maxRecDepth 100000 in
set_option maxHeartbeats 4000000 in
theorem ok_X7_hasRiver {d : Nat} {post : jPo} {σ : jSt} (h : vc_X7_hasRiver d post σ ) : jv_wp (d + 1) post (33, 0, [some (.ref 3)], [], σ) := jv_go_ok 6 [] _ _ _ h
def vc_X7_knowsPerson (d : Nat) (post : jPo) (σ : jSt) (p : Int32) : Prop :=
 ((p < 0 → (((iI 0) = 0 ∨ (iI 0) = 1) ∧ post (some (.int (iI 0))) σ)) ∧
 (¬ p < 0 → (((σ.1 3 8) ≤ p → (((iI 0) = 0 ∨ (iI 0) = 1) ∧ post (some (.int (iI 0))) σ)) ∧
 (¬ (σ.1 3 8) ≤ p → (((iI 1) = 0 ∨ (iI 1) = 1) ∧ post (some (.int (iI 1))) σ)))))
set_option maxRecDepth 100000 in
set_option maxHeartbeats 4000000 in
theorem ok_X7_knowsPerson {d : Nat} {post : jPo} {σ : jSt} {p : Int32} (h : vc_X7_knowsPerson d post σ p) : jv_wp (d + 1) post (34, 0, [some (.ref 3), some (.int p)], [], σ) := jv_go_ok 9 [] _ _ _ h
def vc_X7_knowsMatter (d : Nat) (post : jPo) (σ : jSt) (m : Int32) : Prop :=
 ((m < 0 → (((iI 0) = 0 ∨ (iI 0) = 1) ∧ post (some (.int (iI 0))) σ)) ∧
 (¬ m < 0 → (((σ.1 3 9) ≤ m → (((iI 0) = 0 ∨ (iI 0) = 1) ∧ post (some (.int (iI 0))) σ)) ∧
 (¬ (σ.1 3 9) ≤ m → (((iI 1) = 0 ∨ (iI 1) = 1) ∧ post (some (.int (iI 1))) σ)))))
set_option maxRecDepth 100000 in
set_option maxHeartbeats 4000000 in
theorem ok_X7_knowsMatter {d : Nat} {post : jPo} {σ : jSt} {m : Int32} (h : vc_X7_knowsMatter d post σ m) : jv_wp (d + 1) post (35, 0, [some (.ref 3), some (.int m)], [], σ) := jv_go_ok 9 [] _ _ _ h
def vc_X7_bankOf (d : Nat) (post : jPo) (σ : jSt) (p : Int32) : Prop :=
 post (some (.int (((σ.1 3 10) >>> (p &&& 31)) &&& (iI 1)))) σ
set_option maxRecDepth 100000 in
set_option maxHeartbeats 4000000 in
theorem ok_X7_bankOf {d : Nat} {post : jPo} {σ : jSt} {p : Int32} (h : vc_X7_bankOf d post σ p) : jv_wp (d + 1) post (38, 0, [some (.ref 3), some (.int p)], [], σ) := jv_go_ok 7 [] _ _ _ h
def vc_X7_speaks (d : Nat) (post : jPo) (σ : jSt) (p : Int32) (dy : Int32) : Prop :=
 jq_I d 4 [.int dy] σ (fun x2 s1 =>
 jq_I d 38 [.ref 3, .int p] s1 (fun x4 s3 =>
 jq_I d 40 [.ref 3, .int x2, .int p, .int x4] s3 (fun x6 s5 =>
 ((x6 = 0 ∨ x6 = 1) ∧ post (some (.int x6)) s5))))
set_option maxRecDepth 100000 in
set_option maxHeartbeats 4000000 in
theorem ok_X7_speaks {d : Nat} {post : jPo} {σ : jSt} {p : Int32} {dy : Int32} (h : vc_X7_speaks d post σ p dy) : jv_wp (d + 1) post (39, 0, [some (.ref 3), some (.int p), some (.int dy)], [], σ) := jv_go_ok 9 [] _ _ _ h
def vc_X7_speaksWith (d : Nat) (post : jPo) (σ : jSt) (v : Int32) (p : Int32) (b : Int32) : Prop :=
 (vp_in p 6 ∧ (vp_in p 6 ∧ (let x1 : Int32 := ((σ.1 4 p.toNatClampNeg) + ((iI 5) * (σ.1 5 p.toNatClampNeg)))
 jq_I d 32 [.int v, .int b] σ (fun x3 s2 =>
 ((¬ ((x3 >>> (x1 &&& 31)) &&& (iI 1)) = (iI 1) → (((iI 0) = 0 ∨ (iI 0) = 1) ∧ post (some (.int (iI 0))) s2)) ∧
 (((x3 >>> (x1 &&& 31)) &&& (iI 1)) = (iI 1) → (((iI 1) = 0 ∨ (iI 1) = 1) ∧ post (some (.int (iI 1))) s2)))))))
set_option maxRecDepth 100000 in
set_option maxHeartbeats 4000000 in
theorem ok_X7_speaksWith {d : Nat} {post : jPo} {σ : jSt} {v : Int32} {p : Int32} {b : Int32} (h : vc_X7_speaksWith d post σ v p b) : jv_wp (d + 1) post (40, 0, [some (.ref 3), some (.int v), some (.int p), some (.int b), none], [], σ) := jv_go_ok 24 [] _ _ _ h
def vc_X7_speakersOn (d : Nat) (post : jPo) (σ : jSt) (dy : Int32) : Prop :=
 jq_I d 42 [.ref 3, .int dy, .int (σ.1 3 10)] σ (fun x2 s1 =>
 post (some (.int x2)) s1)
set_option maxRecDepth 100000 in
set_option maxHeartbeats 4000000 in
theorem ok_X7_speakersOn {d : Nat} {post : jPo} {σ : jSt} {dy : Int32} (h : vc_X7_speakersOn d post σ dy) : jv_wp (d + 1) post (41, 0, [some (.ref 3), some (.int dy)], [], σ) := jv_go_ok 6 [] _ _ _ h
def vc_X7_speakersIf (d : Nat) (post : jPo) (σ : jSt) (dy : Int32) (r : Int32) : Prop :=
 jq_I d 4 [.int dy] σ (fun x2 s1 =>
 jv_wp (d + 1) post (42, 11, [some (.ref 3), some (.int dy), some (.int r), some (.int x2), some (.int (iI 0)), some (.int (iI 0))], [], s1))
set_option maxRecDepth 100000 in
set_option maxHeartbeats 4000000 in
theorem ok_X7_speakersIf {d : Nat} {post : jPo} {σ : jSt} {dy : Int32} {r : Int32} (h : vc_X7_speakersIf d post σ dy r) : jv_wp (d + 1) post (42, 0, [some (.ref 3), some (.int dy), some (.int r), none, none, none], [], σ) := jv_go_ok 8 [11] _ _ _ h
def vc_X7_speakersIf_L (d : Nat) (post : jPo) (σ : jSt) (dy : Int32) (r : Int32) (v : Int32) (s : Int32) (p : Int32) : Prop :=
 (((σ.1 3 8) ≤ p → post (some (.int s)) σ) ∧
 (¬ (σ.1 3 8) ≤ p → jq_I d 40 [.ref 3, .int v, .int p, .int ((r >>> (p &&& 31)) &&& (iI 1))] σ (fun x2 s1 =>
 ((x2 = 0 → (let x3 : Int32 := (p + (iI 1))
 jv_wp (d + 1) post (42, 11, [some (.ref 3), some (.int dy), some (.int r), some (.int v), some (.int s), some (.int x3)], [], s1))) ∧
 (¬ x2 = 0 → (let x4 : Int32 := (s ||| ((iI 1) <<< (p &&& 31)))
 (let x5 : Int32 := (p + (iI 1))
 jv_wp (d + 1) post (42, 11, [some (.ref 3), some (.int dy), some (.int r), some (.int v), some (.int x4), some (.int x5)], [], s1))))))))
set_option maxRecDepth 100000 in
set_option maxHeartbeats 4000000 in
theorem ok_X7_speakersIf_L {d : Nat} {post : jPo} {σ : jSt} {dy : Int32} {r : Int32} {v : Int32} {s : Int32} {p : Int32} (h : vc_X7_speakersIf_L d post σ dy r v s p) : jv_wp (d + 1) post (42, 11, [some (.ref 3), some (.int dy), some (.int r), some (.int v), some (.int s), some (.int p)], [], σ) := jv_go_ok 23 [11] _ _ _ h
def vc_X7_speakingDays (d : Nat) (post : jPo) (σ : jSt) (p : Int32) : Prop :=
 jv_wp (d + 1) post (43, 4, [some (.ref 3), some (.int p), some (.int (iI 0)), some (.int (iI 0))], [], σ)
set_option maxRecDepth 100000 in
set_option maxHeartbeats 4000000 in
theorem ok_X7_speakingDays {d : Nat} {post : jPo} {σ : jSt} {p : Int32} (h : vc_X7_speakingDays d post σ p) : jv_wp (d + 1) post (43, 0, [some (.ref 3), some (.int p), none, none], [], σ) := jv_go_ok 5 [4] _ _ _ h
def vc_X7_speakingDays_L (d : Nat) (post : jPo) (σ : jSt) (p : Int32) (n : Int32) (i : Int32) : Prop :=
 (((iI 31) ≤ i → post (some (.int n)) σ) ∧
 (¬ (iI 31) ≤ i → jq_I d 39 [.ref 3, .int p, .int ((σ.1 3 11) + i)] σ (fun x2 s1 =>
 ((x2 = 0 → (let x3 : Int32 := (i + (iI 1))
 jv_wp (d + 1) post (43, 4, [some (.ref 3), some (.int p), some (.int n), some (.int x3)], [], s1))) ∧
 (¬ x2 = 0 → (let x4 : Int32 := (n + (iI 1))
 (let x5 : Int32 := (i + (iI 1))
 jv_wp (d + 1) post (43, 4, [some (.ref 3), some (.int p), some (.int x4), some (.int x5)], [], s1))))))))
set_option maxRecDepth 100000 in
set_option maxHeartbeats 4000000 in
theorem ok_X7_speakingDays_L {d : Nat} {post : jPo} {σ : jSt} {p : Int32} {n : Int32} {i : Int32} (h : vc_X7_speakingDays_L d post σ p n i) : jv_wp (d + 1) post (43, 4, [some (.ref 3), some (.int p), some (.int n), some (.int i)], [], σ) := jv_go_ok 15 [4] _ _ _ h
def vc_X7_standing (d : Nat) (post : jPo) (σ : jSt) (m : Int32) : Prop :=
 (vp_in m 5 ∧ ((¬ (σ.1 10 m.toNatClampNeg) = (iI (-2)) → (vp_in m 5 ∧ ((¬ (σ.1 10 m.toNatClampNeg) = (iI (-1)) → post (some (.int (iI 1))) σ) ∧
 ((σ.1 10 m.toNatClampNeg) = (iI (-1)) → post (some (.int (iI 0))) σ)))) ∧
 ((σ.1 10 m.toNatClampNeg) = (iI (-2)) → post (some (.int (iI 2))) σ)))
set_option maxRecDepth 100000 in
set_option maxHeartbeats 4000000 in
theorem ok_X7_standing {d : Nat} {post : jPo} {σ : jSt} {m : Int32} (h : vc_X7_standing d post σ m) : jv_wp (d + 1) post (46, 0, [some (.ref 3), some (.int m)], [], σ) := jv_go_ok 15 [] _ _ _ h
def vc_X7_howManyStand (d : Nat) (post : jPo) (σ : jSt) (so : Int32) : Prop :=
 jv_wp (d + 1) post (47, 4, [some (.ref 3), some (.int so), some (.int (iI 0)), some (.int (iI 0))], [], σ)
set_option maxRecDepth 100000 in
set_option maxHeartbeats 4000000 in
theorem ok_X7_howManyStand {d : Nat} {post : jPo} {σ : jSt} {so : Int32} (h : vc_X7_howManyStand d post σ so) : jv_wp (d + 1) post (47, 0, [some (.ref 3), some (.int so), none, none], [], σ) := jv_go_ok 5 [4] _ _ _ h
def vc_X7_howManyStand_L (d : Nat) (post : jPo) (σ : jSt) (so : Int32) (n : Int32) (m : Int32) : Prop :=
 (((σ.1 3 9) ≤ m → post (some (.int n)) σ) ∧
 (¬ (σ.1 3 9) ≤ m → jq_I d 46 [.ref 3, .int m] σ (fun x2 s1 =>
 ((¬ x2 = so → (let x3 : Int32 := (m + (iI 1))
 jv_wp (d + 1) post (47, 4, [some (.ref 3), some (.int so), some (.int n), some (.int x3)], [], s1))) ∧
 (x2 = so → (let x4 : Int32 := (n + (iI 1))
 (let x5 : Int32 := (m + (iI 1))
 jv_wp (d + 1) post (47, 4, [some (.ref 3), some (.int so), some (.int x4), some (.int x5)], [], s1))))))))
set_option maxRecDepth 100000 in
set_option maxHeartbeats 4000000 in
theorem ok_X7_howManyStand_L {d : Nat} {post : jPo} {σ : jSt} {so : Int32} {n : Int32} {m : Int32} (h : vc_X7_howManyStand_L d post σ so n m) : jv_wp (d + 1) post (47, 4, [some (.ref 3), some (.int so), some (.int n), some (.int m)], [], σ) := jv_go_ok 13 [4] _ _ _ h
def vc_X7_askedSince (d : Nat) (post : jPo) (σ : jSt) (m : Int32) : Prop :=
 jq_I d 46 [.ref 3, .int m] σ (fun x2 s1 =>
 ((¬ x2 = (iI 1) → post (some (.int (iI (-1)))) s1) ∧
 (x2 = (iI 1) → (vp_in m 5 ∧ post (some (.int ((s1.1 3 11) - (s1.1 10 m.toNatClampNeg)))) s1))))
set_option maxRecDepth 100000 in
set_option maxHeartbeats 4000000 in
theorem ok_X7_askedSince {d : Nat} {post : jPo} {σ : jSt} {m : Int32} (h : vc_X7_askedSince d post σ m) : jv_wp (d + 1) post (48, 0, [some (.ref 3), some (.int m)], [], σ) := jv_go_ok 14 [] _ _ _ h
def vc_X7_worthToday (d : Nat) (post : jPo) (σ : jSt) (m : Int32) : Prop :=
 jq_I d 46 [.ref 3, .int m] σ (fun x2 s1 =>
 ((¬ x2 = (iI 1) → (((iI 0) = 0 → post (some (.int (iI (-1)))) s1) ∧
 (¬ (iI 0) = 0 → (vp_in m 5 ∧ jq_I d 51 [.ref 3, .int m, .int (s1.1 10 m.toNatClampNeg), .int (s1.1 3 11)] s1 (fun x4 s3 =>
 post (some (.int x4)) s3))))) ∧
 (x2 = (iI 1) → (vp_in m 5 ∧ jq_I d 41 [.ref 3, .int (s1.1 3 11)] s1 (fun x6 s5 =>
 jq_I d 50 [.ref 3, .int m, .int (s1.1 10 m.toNatClampNeg), .int (s1.1 3 11), .int x6] s5 (fun x8 s7 =>
 ((x8 = 0 → (((iI 0) = 0 → post (some (.int (iI (-1)))) s7) ∧
 (¬ (iI 0) = 0 → (vp_in m 5 ∧ jq_I d 51 [.ref 3, .int m, .int (s7.1 10 m.toNatClampNeg), .int (s7.1 3 11)] s7 (fun x10 s9 =>
 post (some (.int x10)) s9))))) ∧
 (¬ x8 = 0 → (((iI 1) = 0 → post (some (.int (iI (-1)))) s7) ∧
 (¬ (iI 1) = 0 → (vp_in m 5 ∧ jq_I d 51 [.ref 3, .int m, .int (s7.1 10 m.toNatClampNeg), .int (s7.1 3 11)] s7 (fun x12 s11 =>
 post (some (.int x12)) s11))))))))))))
set_option maxRecDepth 100000 in
set_option maxHeartbeats 4000000 in
theorem ok_X7_worthToday {d : Nat} {post : jPo} {σ : jSt} {m : Int32} (h : vc_X7_worthToday d post σ m) : jv_wp (d + 1) post (49, 0, [some (.ref 3), some (.int m), none], [], σ) := jv_go_ok 35 [] _ _ _ h
def vc_X7_canBeSaid (d : Nat) (post : jPo) (σ : jSt) (m : Int32) (a : Int32) (dy : Int32) (s : Int32) : Prop :=
 ((¬ a = (iI (-2)) → ((¬ a = (iI (-1)) → ((dy ≤ a → (((iI 0) = 0 ∨ (iI 0) = 1) ∧ post (some (.int (iI 0))) σ)) ∧
 (¬ dy ≤ a → (vp_in m 5 ∧ ((¬ ((s >>> ((σ.1 8 m.toNatClampNeg) &&& 31)) &&& (iI 1)) = (iI 1) → (((iI 0) = 0 ∨ (iI 0) = 1) ∧ post (some (.int (iI 0))) σ)) ∧
 (((s >>> ((σ.1 8 m.toNatClampNeg) &&& 31)) &&& (iI 1)) = (iI 1) → (((iI 1) = 0 ∨ (iI 1) = 1) ∧ post (some (.int (iI 1))) σ))))))) ∧
 (a = (iI (-1)) → (vp_in m 5 ∧ ((¬ ((s >>> ((σ.1 7 m.toNatClampNeg) &&& 31)) &&& (iI 1)) = (iI 1) → (((iI 0) = 0 ∨ (iI 0) = 1) ∧ post (some (.int (iI 0))) σ)) ∧
 (((s >>> ((σ.1 7 m.toNatClampNeg) &&& 31)) &&& (iI 1)) = (iI 1) → (((iI 1) = 0 ∨ (iI 1) = 1) ∧ post (some (.int (iI 1))) σ))))))) ∧
 (a = (iI (-2)) → (((iI 0) = 0 ∨ (iI 0) = 1) ∧ post (some (.int (iI 0))) σ)))
set_option maxRecDepth 100000 in
set_option maxHeartbeats 4000000 in
theorem ok_X7_canBeSaid {d : Nat} {post : jPo} {σ : jSt} {m : Int32} {a : Int32} {dy : Int32} {s : Int32} (h : vc_X7_canBeSaid d post σ m a dy s) : jv_wp (d + 1) post (50, 0, [some (.ref 3), some (.int m), some (.int a), some (.int dy), some (.int s)], [], σ) := jv_go_ok 22 [] _ _ _ h
def vc_X7_settledFor (d : Nat) (post : jPo) (σ : jSt) (m : Int32) (a : Int32) (dy : Int32) : Prop :=
 (vp_in m 5 ∧ (let x1 : Int32 := (σ.1 7 m.toNatClampNeg)
 (vp_in m 5 ∧ (let x2 : Int32 := (σ.1 8 m.toNatClampNeg)
 jq_I d 34 [.ref 3, .int x1] σ (fun x4 s3 =>
 ((x4 = 0 → post (some (.int (iI 0))) s3) ∧
 (¬ x4 = 0 → jq_I d 34 [.ref 3, .int x2] s3 (fun x6 s5 =>
 ((¬ x6 = 0 → (vp_in x1 6 ∧ ((([] : List Value).map fun v => v.category).sum ≤ 8 ∧ (let x7 : Int32 := (if ((dy - a) - (s5.1 6 x1.toNatClampNeg)) < (iI 0) then (iI 0) else ((dy - a) - (s5.1 6 x1.toNatClampNeg)))
 (vp_in m 5 ∧ ((([] : List Value).map fun v => v.category).sum ≤ 8 ∧ (let x8 : Int32 := (if ((s5.1 9 m.toNatClampNeg) - x7) < (iI 0) then (iI 0) else ((s5.1 9 m.toNatClampNeg) - x7))
 (vp_in x2 6 ∧ ((¬ (s5.1 4 x2.toNatClampNeg) = (iI 4) → (vp_in x2 6 ∧ ((¬ (s5.1 4 x2.toNatClampNeg) = (iI 1) → post (some (.int x8)) s5) ∧
 ((s5.1 4 x2.toNatClampNeg) = (iI 1) → (¬ (iI 2) = 0 ∧ post (some (.int (x8 / (iI 2)))) s5))))) ∧
 ((s5.1 4 x2.toNatClampNeg) = (iI 4) → ((([] : List Value).map fun v => v.category).sum ≤ 8 ∧ post (some (.int (if (x8 - (iI 1)) < (iI 0) then (iI 0) else (x8 - (iI 1))))) s5))))))))))) ∧
 (x6 = 0 → post (some (.int (iI 0))) s5))))))))))
set_option maxRecDepth 100000 in
set_option maxHeartbeats 4000000 in
theorem ok_X7_settledFor {d : Nat} {post : jPo} {σ : jSt} {m : Int32} {a : Int32} {dy : Int32} (h : vc_X7_settledFor d post σ m a dy) : jv_wp (d + 1) post (51, 0, [some (.ref 3), some (.int m), some (.int a), some (.int dy), none, none, none, none], [], σ) := jv_go_ok 55 [] _ _ _ h
section WX
variable {α : rA} {σ : jSt} {d : Nat} {k : Int32 → jSt → Prop}
theorem q_hasRiver (hV : rV α) (hX : rX 3 α σ) (h : k (jb (decide (0 < α 0 0))) σ) : jq_I (d + 1) 33 [.ref 3] σ k := by
  have := hV.P
  refine ok_X7_hasRiver ?_
  unfold vc_X7_hasRiver
  rw [hX.P, iI_le0 ⟨by omega, by omega⟩, jb_t, jb_f]
  refine ⟨fun c => ⟨jb_z _, _, rfl, ?_⟩, fun c => ⟨jb_z _, _, rfl, ?_⟩⟩
  · rwa [decide_eq_false (by omega)] at h
  · rwa [decide_eq_true (by omega)] at h
/-- any int as a person's number -/
theorem q_knowsPerson (hV : rV α) (hX : rX 3 α σ) {z : Int} (hz : iR z) (h : k (jb (decide (0 ≤ z ∧ z < α 0 0))) σ) : jq_I (d + 1) 34 [.ref 3, .int (iI z)] σ k := by
  have := hV.P
  refine ok_X7_knowsPerson ?_
  unfold vc_X7_knowsPerson
  rw [hX.P, iI_le ⟨by omega, by omega⟩ hz, iI_lt0 hz, jb_t, jb_f]
  refine ⟨fun c => ⟨jb_z _, _, rfl, ?_⟩, fun c => ⟨fun c2 => ⟨jb_z _, _, rfl, ?_⟩, fun c2 => ⟨jb_z _, _, rfl, ?_⟩⟩⟩
  · rwa [decide_eq_false (by omega)] at h
  · rwa [decide_eq_false (by omega)] at h
  · rwa [decide_eq_true (by omega)] at h
theorem q_knowsMatter (hV : rV α) (hX : rX 3 α σ) {z : Int} (hz : iR z) (h : k (jb (decide (0 ≤ z ∧ z < α 0 1))) σ) : jq_I (d + 1) 35 [.ref 3, .int (iI z)] σ k := by
  have := hV.M
  refine ok_X7_knowsMatter ?_
  unfold vc_X7_knowsMatter
  rw [hX.M, iI_le ⟨by omega, by omega⟩ hz, iI_lt0 hz, jb_t, jb_f]
  refine ⟨fun c => ⟨jb_z _, _, rfl, ?_⟩, fun c => ⟨fun c2 => ⟨jb_z _, _, rfl, ?_⟩, fun c2 => ⟨jb_z _, _, rfl, ?_⟩⟩⟩
  · rwa [decide_eq_false (by omega)] at h
  · rwa [decide_eq_false (by omega)] at h
  · rwa [decide_eq_true (by omega)] at h
theorem jbN {b n : Nat} (hb : b < 2) (h : n = b) : jb (n == 1) = iI (b : Nat) := by
  subst h
  rcases (show n = 0 ∨ n = 1 by omega) with rfl | rfl <;> decide +kernel
theorem q_bankOf (hV : rV α) (hX : rX 3 α σ) {p : Nat} (hp : p < α 0 0) (h : k (iI (α 3 p : Nat)) σ) : jq_I (d + 1) 38 [.ref 3, .int (iI p)] σ k := by
  have h6 := hV.P
  have hr := lt64 (rt_lt α) h6
  refine ok_X7_bankOf ⟨_, rfl, ?_⟩
  rw [hX.rt, iI_bit (by omega) (by omega), rt_bit hp, jbN (hV.p hp).2.2.1 rfl]
  exact h
theorem spS_bit {v k b bk : Nat} (hk : k < 5) (hb : b < 2) : (spS v bk).testBit (k + 5 * b) = spk v k b bk := by
  unfold spS
  rw [bsN_bit, show (k + 5 * b) % 5 = k by omega, show (k + 5 * b) / 5 = b by omega]
  simp; omega
theorem spS_lt (v bk : Nat) : spS v bk < 1024 := bsN_lt _ 10
theorem q_speaksWith (hV : rV α) (hX : rX 3 α σ) {p dy b : Nat} (hp : p < α 0 0) (hb : b < 2) (h : k (jb (spk (vo dy) (α 1 p) (α 2 p) b)) σ) : jq_I (d + 2) 40 [.ref 3, .int (iI (vo dy : Nat)), .int (iI p), .int (iI b)] σ k := by
  have h6 := hV.P
  have hc : (iI (p : Int)).toNatClampNeg = p := iI_clamp (by omega)
  have hin : vp_in (iI (p : Int)) 6 := (iI_in (by omega) 6).mpr (by omega)
  have hv := hV.p hp
  refine ok_X7_speaksWith ⟨hin, hin, ?_⟩
  dsimp only
  refine q_speaking hb ?_
  have hl := spS_lt (vo dy) b
  rw [hc, hX.kd hp, hX.bn hp, iI_mul, iI_add, show ((α 1 p : Nat) : Int) + 5 * ((α 2 p : Nat) : Int) = ((α 1 p + 5 * α 2 p : Nat) : Int) by omega, iI_bit (by omega) (by omega), spS_bit hv.1 hv.2.1, jb_1, jb_t, jb_f]
  refine ⟨fun c => ⟨jb_z _, _, rfl, ?_⟩, fun c => ⟨jb_z _, _, rfl, ?_⟩⟩
  · rwa [show spk (vo dy) (α 1 p) (α 2 p) b = false by simpa using c] at h
  · rwa [c] at h
theorem q_speaks (hV : rV α) (hX : rX 3 α σ) {p dy : Nat} (hp : p < α 0 0) (hd : dy < 2147483648) (h : k (jb (sp α dy p)) σ) : jq_I (d + 3) 39 [.ref 3, .int (iI p), .int (iI dy)] σ k :=
  ok_X7_speaks (q_voicesOn hd (q_bankOf hV hX hp (q_speaksWith hV hX hp (hV.p hp).2.2.1 ⟨jb_z _, _, rfl, h⟩)))
theorem w_speakersIf (hV : rV α) (hX : rX 3 α σ) {post : jPo} {dy r : Nat} (hr : r < 2147483648) (h : post (some (.int (iI (spI α dy r : Nat)))) σ) :
    ∀ (n p : Nat), p + n = α 0 0 → jv_wp (d + 3) post (42, 11, [some (.ref 3), some (.int (iI dy)), some (.int (iI r)), some (.int (iI (vo dy : Nat))), some (.int (iI (bsN (fun p => spk (vo dy) (α 1 p) (α 2 p) (if r.testBit p then 1 else 0)) p : Nat))), some (.int (iI p))], [], σ) := by
  have h6 := hV.P
  intro n
  induction n with
  | zero =>
    intro p hp
    refine ok_X7_speakersIf_L ⟨fun _ => ?_, fun c => absurd ?_ c⟩
    · unfold spI at h
      rwa [show α 0 0 = p by omega] at h
    · rw [hX.P, iI_le ⟨by omega, by omega⟩ ⟨by omega, by omega⟩]; omega
  | succ n ih =>
    intro p hp
    refine ok_X7_speakersIf_L ⟨fun c => absurd c ?_, fun _ => ?_⟩
    · rw [hX.P, iI_le ⟨by omega, by omega⟩ ⟨by omega, by omega⟩]; omega
    · rw [iI_bit hr (by omega), show jb (r.testBit p) = iI (((if r.testBit p then 1 else 0 : Nat)) : Nat) by cases r.testBit p <;> decide +kernel]
      refine q_speaksWith hV hX (by omega) (by split <;> omega) ?_
      have ih := ih (p + 1) (by omega)
      unfold bsN at ih
      dsimp only
      rw [iI_add, show (p : Int) + 1 = ((p + 1 : Nat) : Int) by omega, iI_sbit (by omega), jb_0]
      refine ⟨fun c => ?_, fun c => ?_⟩
      · rwa [c] at ih
      · rwa [show spk (vo dy) (α 1 p) (α 2 p) (if r.testBit p then 1 else 0) = true by simpa using c] at ih
theorem q_speakersIf (hV : rV α) (hX : rX 3 α σ) {dy r : Nat} (hd : dy < 2147483648) (hr : r < 2147483648) (h : k (iI (spI α dy r : Nat)) σ) : jq_I (d + 3) 42 [.ref 3, .int (iI dy), .int (iI r)] σ k :=
  ok_X7_speakersIf (q_voicesOn hd (w_speakersIf hV hX hr ⟨_, rfl, h⟩ (α 0 0) 0 (by omega)))
theorem q_speakersOn (hV : rV α) (hX : rX 3 α σ) {dy : Nat} (hd : dy < 2147483648) (h : k (iI (spB α dy : Nat)) σ) : jq_I (d + 4) 41 [.ref 3, .int (iI dy)] σ k := by
  have hr := lt64 (rt_lt α) hV.P
  refine ok_X7_speakersOn ?_
  unfold vc_X7_speakersOn
  rw [hX.rt]
  exact q_speakersIf hV hX hd (by omega) ⟨_, rfl, by rw [spI_rt hV]; exact h⟩
theorem w_speakingDays (hV : rV α) (hX : rX 3 α σ) {post : jPo} {p : Nat} (hp : p < α 0 0) (h : post (some (.int (iI (cnN (fun n => sp α (α 0 2 + n) p) 31 : Nat)))) σ) :
    ∀ (n i : Nat), i + n = 31 → jv_wp (d + 4) post (43, 4, [some (.ref 3), some (.int (iI p)), some (.int (iI (cnN (fun n => sp α (α 0 2 + n) p) i : Nat))), some (.int (iI i))], [], σ) := by
  have htd := hV.td
  intro n
  induction n with
  | zero =>
    intro i hi
    refine ok_X7_speakingDays_L ⟨fun _ => ?_, fun c => absurd ?_ c⟩
    · rwa [show 31 = i by omega] at h
    · rw [iI_le ⟨by omega, by omega⟩ ⟨by omega, by omega⟩]; omega
  | succ n ih =>
    intro i hi
    refine ok_X7_speakingDays_L ⟨fun c => absurd c ?_, fun _ => ?_⟩
    · rw [iI_le ⟨by omega, by omega⟩ ⟨by omega, by omega⟩]; omega
    · rw [hX.td, iI_add, show ((α 0 2 : Nat) : Int) + (i : Int) = ((α 0 2 + i : Nat) : Int) by omega]
      refine q_speaks hV hX hp (by omega) ?_
      have ih := ih (i + 1) (by omega)
      unfold cnN at ih
      dsimp only
      rw [iI_add, iI_add, show (i : Int) + 1 = ((i + 1 : Nat) : Int) by omega, jb_0]
      refine ⟨fun c => ?_, fun c => ?_⟩
      · rwa [c] at ih
      · rw [show sp α (α 0 2 + i) p = true by simpa using c] at ih
        exact ih
theorem q_speakingDays (hV : rV α) (hX : rX 3 α σ) {p : Nat} (hp : p < α 0 0) (h : k (iI (cnN (fun n => sp α (α 0 2 + n) p) 31 : Nat)) σ) : jq_I (d + 4) 43 [.ref 3, .int (iI p)] σ k :=
  ok_X7_speakingDays (w_speakingDays hV hX hp ⟨_, rfl, h⟩ 31 0 (by omega))
/-- how it stands: 0, 1, 2 -/
def stN (a : Nat) : Nat := if a = 0 then 0 else if a = 1 then 2 else 1
theorem zA_0 (a : Nat) : zA a = -1 ↔ a = 0 := by unfold zA; split <;> (try split) <;> omega
theorem zA_1 (a : Nat) : zA a = -2 ↔ a = 1 := by unfold zA; split <;> (try split) <;> omega
theorem zA_R {a : Nat} (h : a < 100000) : iR (zA a) := by unfold zA iR; split <;> (try split) <;> omega
theorem zA_2 {a : Nat} (h : 2 ≤ a) : zA a = (a : Int) - 2 := by unfold zA; rw [if_neg (by omega), if_neg (by omega)]
theorem q_standing (hV : rV α) (hX : rX 3 α σ) {m : Nat} (hm : m < α 0 1) (h : k (iI (stN (α 8 m) : Nat)) σ) : jq_I (d + 1) 46 [.ref 3, .int (iI m)] σ k := by
  have h5 := hV.M
  have htd := hV.td
  have hv := hV.m hm
  have hc : (iI (m : Int)).toNatClampNeg = m := iI_clamp (by omega)
  have hin : vp_in (iI (m : Int)) 5 := (iI_in (by omega) 5).mpr (by omega)
  have hR := zA_R (a := α 8 m) (by omega)
  refine ok_X7_standing ⟨hin, ?_⟩
  rw [hc, hX.st hm, iI_eq hR ⟨by omega, by omega⟩, iI_eq hR ⟨by omega, by omega⟩, zA_0, zA_1]
  unfold stN at h
  refine ⟨fun c => ⟨hin, fun c2 => ?_, fun c2 => ?_⟩, fun c => ?_⟩
  · rw [if_neg c2, if_neg c] at h; exact ⟨_, rfl, h⟩
  · rw [if_pos c2] at h; exact ⟨_, rfl, h⟩
  · rw [if_neg (by omega), if_pos c] at h; exact ⟨_, rfl, h⟩
theorem w_howManyStand (hV : rV α) (hX : rX 3 α σ) {post : jPo} {so : Nat} (hso : so < 3) (h : post (some (.int (iI (cnN (fun m => stN (α 8 m) == so) (α 0 1) : Nat)))) σ) :
    ∀ (n i : Nat), i + n = α 0 1 → jv_wp (d + 2) post (47, 4, [some (.ref 3), some (.int (iI so)), some (.int (iI (cnN (fun m => stN (α 8 m) == so) i : Nat))), some (.int (iI i))], [], σ) := by
  have h5 := hV.M
  intro n
  induction n with
  | zero =>
    intro i hi
    refine ok_X7_howManyStand_L ⟨fun _ => ?_, fun c => absurd ?_ c⟩
    · rwa [show α 0 1 = i by omega] at h
    · rw [hX.M, iI_le ⟨by omega, by omega⟩ ⟨by omega, by omega⟩]; omega
  | succ n ih =>
    intro i hi
    refine ok_X7_howManyStand_L ⟨fun c => absurd c ?_, fun _ => ?_⟩
    · rw [hX.M, iI_le ⟨by omega, by omega⟩ ⟨by omega, by omega⟩]; omega
    · refine q_standing hV hX (by omega) ?_
      have ih := ih (i + 1) (by omega)
      unfold cnN at ih
      dsimp only
      have hs : stN (α 8 i) < 3 := by unfold stN; split <;> (try split) <;> omega
      rw [iI_add, iI_add, show (i : Int) + 1 = ((i + 1 : Nat) : Int) by omega, iI_eq ⟨by omega, by omega⟩ ⟨by omega, by omega⟩]
      refine ⟨fun c => ?_, fun c => ?_⟩
      · rw [if_neg (by simp; omega)] at ih; exact ih
      · rw [if_pos (by simp; omega)] at ih; exact ih
theorem q_howManyStand (hV : rV α) (hX : rX 3 α σ) {so : Nat} (hso : so < 3) (h : k (iI (cnN (fun m => stN (α 8 m) == so) (α 0 1) : Nat)) σ) : jq_I (d + 2) 47 [.ref 3, .int (iI so)] σ k :=
  ok_X7_howManyStand (w_howManyStand hV hX hso ⟨_, rfl, h⟩ (α 0 1) 0 (by omega))
/-- since how many days; -1 -/
def asN (α : rA) (m : Nat) : Int := if stN (α 8 m) = 1 then (α 0 2 : Int) + 2 - α 8 m else -1
theorem stN_1 {a : Nat} : stN a = 1 ↔ 2 ≤ a := by unfold stN; split <;> (try split) <;> omega
theorem stN_lt (a : Nat) : stN a < 3 := by unfold stN; split <;> (try split) <;> omega
theorem q_askedSince (hV : rV α) (hX : rX 3 α σ) {m : Nat} (hm : m < α 0 1) (h : k (iI (asN α m)) σ) : jq_I (d + 2) 48 [.ref 3, .int (iI m)] σ k := by
  have h5 := hV.M
  have hc : (iI (m : Int)).toNatClampNeg = m := iI_clamp (by omega)
  have hin : vp_in (iI (m : Int)) 5 := (iI_in (by omega) 5).mpr (by omega)
  have hs := stN_lt (α 8 m)
  refine ok_X7_askedSince (q_standing hV hX hm ?_)
  rw [iI_eq ⟨by omega, by omega⟩ ⟨by omega, by omega⟩, hc, hX.td, hX.st hm, iI_sub]
  unfold asN at h
  refine ⟨fun c => ?_, fun c => ⟨hin, ?_⟩⟩
  · rw [if_neg (by omega)] at h; exact ⟨_, rfl, h⟩
  · rw [if_pos (by omega)] at h
    rw [zA_2 (stN_1.mp (by omega)), show ((α 0 2 : Nat) : Int) - ((α 8 m : Nat) - 2) = (α 0 2 : Int) + 2 - α 8 m by omega]
    exact ⟨_, rfl, h⟩
theorem q_canBeSaid (hV : rV α) (hX : rX 3 α σ) {m a dy : Nat} (hm : m < α 0 1) (ha : a < 100000) (hd : dy < 100000) (h : k (jb (cbs α m a dy)) σ) : jq_I (d + 1) 50 [.ref 3, .int (iI m), .int (iI (zA a)), .int (iI dy), .int (iI (spB α dy : Nat))] σ k := by
  have h5 := hV.M
  have h6 := hV.P
  have hv := hV.m hm
  have hc : (iI (m : Int)).toNatClampNeg = m := iI_clamp (by omega)
  have hin : vp_in (iI (m : Int)) 5 := (iI_in (by omega) 5).mpr (by omega)
  have hR := zA_R (a := a) ha
  have hB := lt64 (show spB α dy < 2 ^ α 0 0 from bsN_lt _ _) h6
  have hb : ∀ p, p < α 0 0 → (spB α dy).testBit p = sp α dy p := fun p hp => by unfold spB; rw [bsN_bit]; simp [hp]
  refine ok_X7_canBeSaid ?_
  unfold vc_X7_canBeSaid
  rw [hc, hX.ak hm, hX.aw hm, iI_eq hR ⟨by omega, by omega⟩, iI_eq hR ⟨by omega, by omega⟩, zA_0, zA_1, iI_le ⟨by omega, by omega⟩ hR, iI_bit (by omega) (by omega), iI_bit (by omega) (by omega), hb _ hv.1, hb _ hv.2.1, jb_1, jb_1, jb_t, jb_f]
  unfold cbs at h
  refine ⟨fun c => ⟨fun c2 => ⟨fun c3 => ⟨jb_z _, _, rfl, ?_⟩, fun c3 => ⟨hin, fun c4 => ⟨jb_z _, _, rfl, ?_⟩, fun c4 => ⟨jb_z _, _, rfl, ?_⟩⟩⟩, fun c2 => ⟨hin, fun c4 => ⟨jb_z _, _, rfl, ?_⟩, fun c4 => ⟨jb_z _, _, rfl, ?_⟩⟩⟩, fun c => ⟨jb_z _, _, rfl, ?_⟩⟩
  · rw [zA_2 (by omega)] at c3
    rwa [if_neg c, if_neg c2, decide_eq_false (by omega), Bool.false_and] at h
  · rw [if_neg c, if_neg c2, show sp α dy (α 6 m) = false by simpa using c4, Bool.and_false] at h; exact h
  · rw [zA_2 (by omega)] at c3
    rwa [if_neg c, if_neg c2, c4, decide_eq_true (by omega)] at h
  · rwa [if_neg c, if_pos c2, show sp α dy (α 5 m) = false by simpa using c4] at h
  · rwa [if_neg c, if_pos c2, c4] at h
  · rwa [if_pos c] at h
theorem mxI {z : Int} (hz : iR z) : (if iI z < iI 0 then iI 0 else iI z) = iI ((z.toNat : Nat) : Int) := by
  by_cases c : z < 0
  · rw [if_pos (by rw [iI_lt hz ⟨by omega, by omega⟩]; exact c)]; exact congrArg iI (by omega)
  · rw [if_neg (by rw [iI_lt hz ⟨by omega, by omega⟩]; exact c)]; exact congrArg iI (by omega)
theorem q_settledFor (hV : rV α) (hX : rX 3 α σ) {m a dy : Nat} (hm : m < α 0 1) (ha : 2 ≤ a) (had : a ≤ dy + 2) (hd : dy < 100000) (h : k (iI (sfo α m a dy : Nat)) σ) : jq_I (d + 2) 51 [.ref 3, .int (iI m), .int (iI (zA a)), .int (iI dy)] σ k := by
  have h5 := hV.M
  have h6 := hV.P
  have hv := hV.m hm
  have hva := hV.p hv.1
  have hvb := hV.p hv.2.1
  have hc : (iI (m : Int)).toNatClampNeg = m := iI_clamp (by omega)
  have hca : (iI ((α 5 m : Nat) : Int)).toNatClampNeg = α 5 m := iI_clamp (by omega)
  have hcb : (iI ((α 6 m : Nat) : Int)).toNatClampNeg = α 6 m := iI_clamp (by omega)
  have hin : vp_in (iI (m : Int)) 5 := (iI_in (by omega) 5).mpr (by omega)
  have hina : vp_in (iI ((α 5 m : Nat) : Int)) 6 := (iI_in (by omega) 6).mpr (by omega)
  have hinb : vp_in (iI ((α 6 m : Nat) : Int)) 6 := (iI_in (by omega) 6).mpr (by omega)
  refine ok_X7_settledFor ⟨hin, ?_⟩
  rw [hc, hX.ak hm, hX.aw hm]
  refine ⟨hin, q_knowsPerson hV hX ⟨by omega, by omega⟩ ⟨fun c => ?_, fun _ => q_knowsPerson hV hX ⟨by omega, by omega⟩ ⟨fun _ => ⟨hina, Nat.zero_le _, ?_⟩, fun c => ?_⟩⟩⟩
  · exfalso; rw [jb_0] at c; simp at c; omega
  · rw [hca, hX.me hv.1, iI_sub, iI_sub, mxI ⟨by rw [zA_2 ha]; omega, by rw [zA_2 ha]; omega⟩, hX.wo hm, hcb, hX.kd hv.2.1]
    refine ⟨hin, Nat.zero_le _, ?_⟩
    rw [zA_2 ha]
    have e : (iI ((α 7 m : Nat) : Int) - iI ((((dy : Int) - ((a : Int) - 2) - ((α 4 (α 5 m) : Nat) : Int)).toNat : Nat) : Int)) = iI ((α 7 m : Int) - ((dy + 2 - a - α 4 (α 5 m) : Nat) : Int)) := by
      rw [iI_sub]; exact congrArg iI (by omega)
    rw [e, mxI ⟨by omega, by omega⟩, show ((α 7 m : Int) - ((dy + 2 - a - α 4 (α 5 m) : Nat) : Int)).toNat = α 7 m - (dy + 2 - a - α 4 (α 5 m)) by omega, iI_eq ⟨by omega, by omega⟩ ⟨by omega, by omega⟩, iI_eq ⟨by omega, by omega⟩ ⟨by omega, by omega⟩]
    unfold sfo at h
    dsimp only at h
    refine ⟨hinb, fun c => ⟨hinb, fun c2 => ?_, fun c2 => ⟨n0I (by omega) (by omega), ?_⟩⟩, fun c => ⟨Nat.zero_le _, ?_⟩⟩
    · rw [if_neg (by omega), if_neg (by omega)] at h; exact ⟨_, rfl, h⟩
    · rw [if_neg (by omega), if_pos (by omega)] at h
      rw [show (iI 2 : Int32) = iI ((2 : Nat) : Int) from rfl, iI_div (by omega) (by omega) (by omega)]
      exact ⟨_, rfl, h⟩
    · rw [if_pos (by omega)] at h
      rw [iI_sub, mxI ⟨by omega, by omega⟩]
      refine ⟨_, rfl, ?_⟩
      rwa [show ((((α 7 m - (dy + 2 - a - α 4 (α 5 m)) : Nat) : Int) - 1).toNat) = α 7 m - (dy + 2 - a - α 4 (α 5 m)) - 1 by omega]
  · exfalso; rw [jb_0] at c; simp at c; omega
/-- for how much it would be settled today; -1 -/
def wtN (α : rA) (m : Nat) : Int := if stN (α 8 m) = 1 ∧ cbs α m (α 8 m) (α 0 2) = true then (sfo α m (α 8 m) (α 0 2) : Int) else -1
theorem q_worthToday (hV : rV α) (hX : rX 3 α σ) {m : Nat} (hm : m < α 0 1) (h : k (iI (wtN α m)) σ) : jq_I (d + 5) 49 [.ref 3, .int (iI m)] σ k := by
  have h5 := hV.M
  have htd := hV.td
  have hv := hV.m hm
  have hc : (iI (m : Int)).toNatClampNeg = m := iI_clamp (by omega)
  have hin : vp_in (iI (m : Int)) 5 := (iI_in (by omega) 5).mpr (by omega)
  have hs := stN_lt (α 8 m)
  refine ok_X7_worthToday (q_standing hV hX hm ?_)
  rw [iI_eq ⟨by omega, by omega⟩ ⟨by omega, by omega⟩, hc, hX.td, hX.st hm]
  unfold wtN at h
  refine ⟨fun c => ⟨fun _ => ?_, fun c2 => absurd iI_0.symm c2⟩, fun c => ⟨hin, q_speakersOn hV hX (by omega) (q_canBeSaid hV hX hm (by omega) (by omega) ⟨fun c2 => ⟨fun _ => ?_, fun c2 => absurd iI_0.symm c2⟩, fun c2 => ⟨fun c3 => absurd c3 (n0I (by omega) (by omega)), fun _ => ⟨hin, ?_⟩⟩⟩)⟩⟩
  · rw [if_neg (by omega)] at h; exact ⟨_, rfl, h⟩
  · rw [jb_0] at c2
    rw [if_neg (by simp [c2])] at h; exact ⟨_, rfl, h⟩
  · rw [jb_0] at c2
    have c2 : cbs α m (α 8 m) (α 0 2) = true := by simpa using c2
    rw [if_pos ⟨by omega, c2⟩] at h
    rw [hX.td, hX.st hm]
    exact q_settledFor hV hX hm (stN_1.mp (by omega)) (by omega) (by omega) ⟨_, rfl, h⟩
end WX
