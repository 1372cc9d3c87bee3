/-! the calendar, and who speaks: the class's side -/
def vc_X0_monthAndDate (d : Nat) (post : jPo) (σ : jSt) (day : Int32) : Prop :=
 (¬ (iI 1461) = 0 ∧ (let x1 : Int32 := (day - day / (iI 1461) * (iI 1461))
 ((x1 < (iI 1095) → jv_wp (d + 1) post (5, 19, [some (.int day), some (.int x1), some (.int (iI 0)), none, none, none, none], [], σ)) ∧
 (¬ x1 < (iI 1095) → jv_wp (d + 1) post (5, 19, [some (.int day), some (.int x1), some (.int (iI 1)), none, none, none, none], [], σ)))))
set_option maxRecDepth 100000 in
set_option maxHeartbeats 4000000 in
theorem ok_X0_monthAndDate {d : Nat} {post : jPo} {σ : jSt} {day : Int32} (h : vc_X0_monthAndDate d post σ day) : jv_wp (d + 1) post (5, 0, [some (.int day), none, none, none, none, none, none], [], σ) := jv_go_ok 11 [19, 43] _ _ _ h
def vc_X0_monthAndDate_A (d : Nat) (post : jPo) (σ : jSt) (day : Int32) (inf : Int32) (lp : Int32) : Prop :=
 ((lp = 0 → (¬ (iI 365) = 0 ∧ (let x1 : Int32 := (inf - inf / (iI 365) * (iI 365))
 jv_wp (d + 1) post (5, 43, [some (.int day), some (.int inf), some (.int lp), some (.int x1), some (.int (iI 0)), some (.int (iI 0)), none], [], σ)))) ∧
 (¬ lp = 0 → (let x2 : Int32 := (inf - (iI 1095))
 jv_wp (d + 1) post (5, 43, [some (.int day), some (.int inf), some (.int lp), some (.int x2), some (.int (iI 0)), some (.int (iI 0)), none], [], σ))))
set_option maxRecDepth 100000 in
set_option maxHeartbeats 4000000 in
theorem ok_X0_monthAndDate_A {d : Nat} {post : jPo} {σ : jSt} {day : Int32} {inf : Int32} {lp : Int32} (h : vc_X0_monthAndDate_A d post σ day inf lp) : jv_wp (d + 1) post (5, 19, [some (.int day), some (.int inf), some (.int lp), none, none, none, none], [], σ) := jv_go_ok 12 [43] _ _ _ h
def vc_X0_monthAndDate_L (d : Nat) (post : jPo) (σ : jSt) (day : Int32) (inf : Int32) (lp : Int32) (left : Int32) (mo : Int32) (i : Int32) (z6 : Option Value) : Prop :=
 (((Int32.ofNat 12) ≤ i → post (some (.int ((((mo + (iI 1)) * (iI 32)) + left) + (iI 1)))) σ) ∧
 (¬ (Int32.ofNat 12) ≤ i → ((¬ i = (iI 1) → (vp_in i 12 ∧ (let x1 : Int32 := (jv_mon i.toNatClampNeg)
 ((x1 ≤ left → (let x2 : Int32 := (left - x1)
 (let x3 : Int32 := (i + (iI 1))
 jv_wp (d + 1) post (5, 43, [some (.int day), some (.int inf), some (.int lp), some (.int x2), some (.int mo), some (.int x3), some (.int x1)], [], σ)))) ∧
 (¬ x1 ≤ left → post (some (.int ((((i + (iI 1)) * (iI 32)) + left) + (iI 1)))) σ))))) ∧
 (i = (iI 1) → ((lp = 0 → (vp_in i 12 ∧ (let x4 : Int32 := (jv_mon i.toNatClampNeg)
 ((x4 ≤ left → (let x5 : Int32 := (left - x4)
 (let x6 : Int32 := (i + (iI 1))
 jv_wp (d + 1) post (5, 43, [some (.int day), some (.int inf), some (.int lp), some (.int x5), some (.int mo), some (.int x6), some (.int x4)], [], σ)))) ∧
 (¬ x4 ≤ left → post (some (.int ((((i + (iI 1)) * (iI 32)) + left) + (iI 1)))) σ))))) ∧
 (¬ lp = 0 → (vp_in i 12 ∧ (let x7 : Int32 := ((jv_mon i.toNatClampNeg) + (iI 1))
 ((x7 ≤ left → (let x8 : Int32 := (left - x7)
 (let x9 : Int32 := (i + (iI 1))
 jv_wp (d + 1) post (5, 43, [some (.int day), some (.int inf), some (.int lp), some (.int x8), some (.int mo), some (.int x9), some (.int x7)], [], σ)))) ∧
 (¬ x7 ≤ left → post (some (.int ((((i + (iI 1)) * (iI 32)) + left) + (iI 1)))) σ))))))))))
set_option maxRecDepth 100000 in
set_option maxHeartbeats 4000000 in
theorem ok_X0_monthAndDate_L {d : Nat} {post : jPo} {σ : jSt} {day : Int32} {inf : Int32} {lp : Int32} {left : Int32} {mo : Int32} {i : Int32} {z6 : Option Value} (h : vc_X0_monthAndDate_L d post σ day inf lp left mo i z6) : jv_wp (d + 1) post (5, 43, [some (.int day), some (.int inf), some (.int lp), some (.int left), some (.int mo), some (.int i), z6], [], σ) := jv_go_ok 32 [43] _ _ _ h
def vc_X0_yearOf (d : Nat) (post : jPo) (σ : jSt) (day : Int32) : Prop :=
 (¬ (iI 1461) = 0 ∧ (¬ (iI 1461) = 0 ∧ (¬ (iI 365) = 0 ∧ ((([.int ((day / (iI 1461)) * (iI 4))] : List Value).map fun v => v.category).sum ≤ 8 ∧ post (some (.int (((day / (iI 1461)) * (iI 4)) + (if (iI 3) < ((day - day / (iI 1461) * (iI 1461)) / (iI 365)) then (iI 3) else ((day - day / (iI 1461) * (iI 1461)) / (iI 365)))))) σ))))
set_option maxRecDepth 100000 in
set_option maxHeartbeats 4000000 in
theorem ok_X0_yearOf {d : Nat} {post : jPo} {σ : jSt} {day : Int32} (h : vc_X0_yearOf d post σ day) : jv_wp (d + 1) post (1, 0, [some (.int day)], [], σ) := jv_go_ok 14 [] _ _ _ h
def vc_X0_monthOf (d : Nat) (post : jPo) (σ : jSt) (day : Int32) : Prop :=
 jq_I d 5 [.int day] σ (fun x2 s1 =>
 (¬ (iI 32) = 0 ∧ post (some (.int (x2 / (iI 32)))) s1))
set_option maxRecDepth 100000 in
set_option maxHeartbeats 4000000 in
theorem ok_X0_monthOf {d : Nat} {post : jPo} {σ : jSt} {day : Int32} (h : vc_X0_monthOf d post σ day) : jv_wp (d + 1) post (2, 0, [some (.int day)], [], σ) := jv_go_ok 5 [] _ _ _ h
def vc_X0_dateOf (d : Nat) (post : jPo) (σ : jSt) (day : Int32) : Prop :=
 jq_I d 5 [.int day] σ (fun x2 s1 =>
 (¬ (iI 32) = 0 ∧ post (some (.int (x2 - x2 / (iI 32) * (iI 32)))) s1))
set_option maxRecDepth 100000 in
set_option maxHeartbeats 4000000 in
theorem ok_X0_dateOf {d : Nat} {post : jPo} {σ : jSt} {day : Int32} (h : vc_X0_dateOf d post σ day) : jv_wp (d + 1) post (3, 0, [some (.int day)], [], σ) := jv_go_ok 5 [] _ _ _ h
def vc_X0_voicesOn (d : Nat) (post : jPo) (σ : jSt) (day : Int32) : Prop :=
 jq_I d 5 [.int day] σ (fun x2 s1 =>
 ((¬ x2 = (iI 93) → (¬ (iI 32) = 0 ∧ (let x3 : Int32 := (x2 - x2 / (iI 32) * (iI 32))
 (¬ (iI 2) = 0 ∧ ((¬ (x3 - x3 / (iI 2) * (iI 2)) = (iI 1) → ((¬ x3 = (iI 1) → post (some (.int (iI 2))) s1) ∧
 (x3 = (iI 1) → post (some (.int ((iI 2) ||| (iI 4)))) s1))) ∧
 ((x3 - x3 / (iI 2) * (iI 2)) = (iI 1) → ((¬ x3 = (iI 1) → post (some (.int (iI 1))) s1) ∧
 (x3 = (iI 1) → post (some (.int ((iI 1) ||| (iI 4)))) s1)))))))) ∧
 (x2 = (iI 93) → post (some (.int (iI 3))) s1)))
set_option maxRecDepth 100000 in
set_option maxHeartbeats 4000000 in
theorem ok_X0_voicesOn {d : Nat} {post : jPo} {σ : jSt} {day : Int32} (h : vc_X0_voicesOn d post σ day) : jv_wp (d + 1) post (4, 0, [some (.int day), none, none, none], [], σ) := jv_go_ok 26 [] _ _ _ h
def vc_X6_isKind (d : Nat) (post : jPo) (σ : jSt) (k : Int32) (t : Int32) : Prop :=
 ((t = 0 → (((iI 1) = 0 ∨ (iI 1) = 1) ∧ post (some (.int (iI 1))) σ)) ∧
 (¬ t = 0 → ((k = t → (((iI 1) = 0 ∨ (iI 1) = 1) ∧ post (some (.int (iI 1))) σ)) ∧
 (¬ k = t → ((¬ k = (iI 4) → (((iI 0) = 0 ∨ (iI 0) = 1) ∧ post (some (.int (iI 0))) σ)) ∧
 (k = (iI 4) → ((¬ t = (iI 1) → (((iI 0) = 0 ∨ (iI 0) = 1) ∧ post (some (.int (iI 0))) σ)) ∧
 (t = (iI 1) → (((iI 1) = 0 ∨ (iI 1) = 1) ∧ post (some (.int (iI 1))) σ)))))))))
set_option maxRecDepth 100000 in
set_option maxHeartbeats 4000000 in
theorem ok_X6_isKind {d : Nat} {post : jPo} {σ : jSt} {k : Int32} {t : Int32} (h : vc_X6_isKind d post σ k t) : jv_wp (d + 1) post (31, 0, [some (.int k), some (.int t)], [], σ) := jv_go_ok 14 [] _ _ _ h
def vc_X6_speaking (d : Nat) (post : jPo) (σ : jSt) (v : Int32) (b : Int32) : Prop :=
 ((¬ ((v >>> (b &&& 31)) &&& (iI 1)) = (iI 1) → jv_wp (d + 1) post (32, 19, [some (.int v), some (.int b), some (.int (iI 0)), some (.int (iI 594))], [], σ)) ∧
 (((v >>> (b &&& 31)) &&& (iI 1)) = (iI 1) → jv_wp (d + 1) post (32, 19, [some (.int v), some (.int b), some (.int (iI 1)), some (.int (iI 594))], [], σ)))
set_option maxRecDepth 100000 in
set_option maxHeartbeats 4000000 in
theorem ok_X6_speaking {d : Nat} {post : jPo} {σ : jSt} {v : Int32} {b : Int32} (h : vc_X6_speaking d post σ v b) : jv_wp (d + 1) post (32, 0, [some (.int v), some (.int b), none, none], [], σ) := jv_go_ok 13 [19] _ _ _ h
def vc_X6_speaking_A (d : Nat) (post : jPo) (σ : jSt) (v : Int32) (b : Int32) (bm : Int32) (s : Int32) : Prop :=
 ((bm = 0 → jv_wp (d + 1) post (32, 28, [some (.int v), some (.int b), some (.int bm), some (.int s)], [], σ)) ∧
 (¬ bm = 0 → (let x1 : Int32 := (s ||| (iI 33))
 jv_wp (d + 1) post (32, 28, [some (.int v), some (.int b), some (.int bm), some (.int x1)], [], σ))))
set_option maxRecDepth 100000 in
set_option maxHeartbeats 4000000 in
theorem ok_X6_speaking_A {d : Nat} {post : jPo} {σ : jSt} {v : Int32} {b : Int32} {bm : Int32} {s : Int32} (h : vc_X6_speaking_A d post σ v b bm s) : jv_wp (d + 1) post (32, 19, [some (.int v), some (.int b), some (.int bm), some (.int s)], [], σ) := jv_go_ok 7 [28] _ _ _ h
def vc_X6_speaking_B (d : Nat) (post : jPo) (σ : jSt) (v : Int32) (b : Int32) (bm : Int32) (s : Int32) : Prop :=
 ((¬ bm = 0 → (let x1 : Int32 := (s ||| (iI 132))
 jv_wp (d + 1) post (32, 44, [some (.int v), some (.int b), some (.int bm), some (.int x1)], [], σ))) ∧
 (bm = 0 → (((v &&& (iI 4)) = 0 → jv_wp (d + 1) post (32, 44, [some (.int v), some (.int b), some (.int bm), some (.int s)], [], σ)) ∧
 (¬ (v &&& (iI 4)) = 0 → (let x2 : Int32 := (s ||| (iI 132))
 jv_wp (d + 1) post (32, 44, [some (.int v), some (.int b), some (.int bm), some (.int x2)], [], σ))))))
set_option maxRecDepth 100000 in
set_option maxHeartbeats 4000000 in
theorem ok_X6_speaking_B {d : Nat} {post : jPo} {σ : jSt} {v : Int32} {b : Int32} {bm : Int32} {s : Int32} (h : vc_X6_speaking_B d post σ v b bm s) : jv_wp (d + 1) post (32, 28, [some (.int v), some (.int b), some (.int bm), some (.int s)], [], σ) := jv_go_ok 11 [44] _ _ _ h
def vc_X6_speaking_C (d : Nat) (post : jPo) (σ : jSt) (v : Int32) (b : Int32) (bm : Int32) (s : Int32) : Prop :=
 (((v &&& (iI 1)) = 0 → jv_wp (d + 1) post (32, 55, [some (.int v), some (.int b), some (.int bm), some (.int s)], [], σ)) ∧
 (¬ (v &&& (iI 1)) = 0 → (let x1 : Int32 := (s ||| (iI 8))
 jv_wp (d + 1) post (32, 55, [some (.int v), some (.int b), some (.int bm), some (.int x1)], [], σ))))
set_option maxRecDepth 100000 in
set_option maxHeartbeats 4000000 in
theorem ok_X6_speaking_C {d : Nat} {post : jPo} {σ : jSt} {v : Int32} {b : Int32} {bm : Int32} {s : Int32} (h : vc_X6_speaking_C d post σ v b bm s) : jv_wp (d + 1) post (32, 44, [some (.int v), some (.int b), some (.int bm), some (.int s)], [], σ) := jv_go_ok 9 [55] _ _ _ h
def vc_X6_speaking_D (d : Nat) (post : jPo) (σ : jSt) (v : Int32) (b : Int32) (bm : Int32) (s : Int32) : Prop :=
 (((v &&& (iI 2)) = 0 → jv_wp (d + 1) post (32, 67, [some (.int v), some (.int b), some (.int bm), some (.int s)], [], σ)) ∧
 (¬ (v &&& (iI 2)) = 0 → (let x1 : Int32 := (s ||| (iI 256))
 jv_wp (d + 1) post (32, 67, [some (.int v), some (.int b), some (.int bm), some (.int x1)], [], σ))))
set_option maxRecDepth 100000 in
set_option maxHeartbeats 4000000 in
theorem ok_X6_speaking_D {d : Nat} {post : jPo} {σ : jSt} {v : Int32} {b : Int32} {bm : Int32} {s : Int32} (h : vc_X6_speaking_D d post σ v b bm s) : jv_wp (d + 1) post (32, 55, [some (.int v), some (.int b), some (.int bm), some (.int s)], [], σ) := jv_go_ok 9 [67] _ _ _ h
def vc_X6_speaking_E (d : Nat) (post : jPo) (σ : jSt) (v : Int32) (b : Int32) (bm : Int32) (s : Int32) : Prop :=
 post (some (.int s)) σ
set_option maxRecDepth 100000 in
set_option maxHeartbeats 4000000 in
theorem ok_X6_speaking_E {d : Nat} {post : jPo} {σ : jSt} {v : Int32} {b : Int32} {bm : Int32} {s : Int32} (h : vc_X6_speaking_E d post σ v b bm s) : jv_wp (d + 1) post (32, 67, [some (.int v), some (.int b), some (.int bm), some (.int s)], [], σ) := jv_go_ok 2 [] _ _ _ h
def vc_J6_bitCount (d : Nat) (post : jPo) (σ : jSt) (x : Int32) : Prop :=
 (let x1 : Int32 := (x - (((x).toUInt32 >>> (((iI 1)).toUInt32 &&& Int32.toUInt32 31)).toInt32 &&& (Int32.ofNat 1431655765)))
 (let x2 : Int32 := ((x1 &&& (Int32.ofNat 858993459)) + (((x1).toUInt32 >>> (((iI 2)).toUInt32 &&& Int32.toUInt32 31)).toInt32 &&& (Int32.ofNat 858993459)))
 (let x3 : Int32 := ((x2 + ((x2).toUInt32 >>> (((iI 4)).toUInt32 &&& Int32.toUInt32 31)).toInt32) &&& (Int32.ofNat 252645135))
 (let x4 : Int32 := (x3 + ((x3).toUInt32 >>> (((iI 8)).toUInt32 &&& Int32.toUInt32 31)).toInt32)
 (let x5 : Int32 := (x4 + ((x4).toUInt32 >>> (((iI 16)).toUInt32 &&& Int32.toUInt32 31)).toInt32)
 post (some (.int (x5 &&& (iI 63)))) σ)))))
set_option maxRecDepth 100000 in
set_option maxHeartbeats 4000000 in
theorem ok_J6_bitCount {d : Nat} {post : jPo} {σ : jSt} {x : Int32} (h : vc_J6_bitCount d post σ x) : jv_wp (d + 1) post (143, 0, [some (.int x)], [], σ) := jv_go_ok 42 [] _ _ _ h
section Cal
def monN (i : Nat) : Nat := ([31, 28, 31, 30, 31, 30, 31, 31, 30, 31, 30, 31] : List Nat).getD i 0
def moL (leap : Bool) (i : Nat) : Nat := if i = 1 ∧ leap = true then monN i + 1 else monN i
def mdL (leap : Bool) : Nat → Nat → Nat → Nat
  | 0, _, l => 32 + l + 1
  | n + 1, i, l => if moL leap i ≤ l then mdL leap n (i + 1) (l - moL leap i) else (i + 1) * 32 + l + 1
/-- month and date of a day -/
def mad (day : Nat) : Nat := if 1095 ≤ day % 1461 then mdL true 12 0 (day % 1461 - 1095) else mdL false 12 0 (day % 1461 % 365)
theorem monN_ok : ∀ j : Nat, j < 12 → jv_mon j = iI (monN j : Int) := by decide +kernel
theorem monN_lt (j : Nat) : monN j ≤ 31 := by
  by_cases h : j < 12
  · have : ∀ j : Nat, j < 12 → monN j ≤ 31 := by decide +kernel
    exact this j h
  · unfold monN
    rw [List.getD_eq_getElem?_getD, List.getElem?_eq_none (by simp; omega)]; simp
theorem pI {post : jPo} {σ : jSt} {a b : Int} (h : post (some (.int (iI a))) σ) (e : a = b) : post (some (.int (iI b))) σ := e ▸ h
theorem wp_mdL {d : Nat} {post : jPo} {σ : jSt} {day inf : Int32} (leap : Bool) : ∀ (n i l : Nat) (z : Option Value), i + n = 12 → l < 1000 → post (some (.int (iI (mdL leap n i l : Nat)))) σ →
    jv_wp (d + 1) post (5, 43, [some (.int day), some (.int inf), some (.int (jb leap)), some (.int (iI l)), some (.int (iI 0)), some (.int (iI i)), z], [], σ) := by
  intro n
  induction n with
  | zero =>
    intro i l z hi hl h
    refine ok_X0_monthAndDate_L ⟨fun _ => ?_, fun c => absurd ?_ c⟩
    · simp only [iI_add, iI_mul]
      refine pI h ?_
      simp only [mdL]; omega
    · rw [iI_ofNat, iI_le ⟨by omega, by omega⟩ ⟨by omega, by omega⟩]; omega
  | succ n ih =>
    intro i l z hi hl h
    have hc : (iI (i : Int)).toNatClampNeg = i := iI_clamp (by omega)
    have hm := monN_ok i (by omega)
    have hb := monN_lt i
    have hin : vp_in (iI (i : Int)) 12 := (iI_in (by omega) 12).mpr (by omega)
    unfold mdL at h
    have fin : ∀ (x : Nat), x = moL leap i → x ≤ 32 → ((iI (x : Int) ≤ iI (l : Int) → jv_wp (d + 1) post (5, 43, [some (.int day), some (.int inf), some (.int (jb leap)), some (.int (iI l - iI x)), some (.int (iI 0)), some (.int (iI i + iI 1)), some (.int (iI x))], [], σ)) ∧
        (¬ iI (x : Int) ≤ iI (l : Int) → post (some (.int ((((iI i + iI 1) * iI 32) + iI l) + iI 1))) σ)) := by
      intro x hx hx2
      refine ⟨fun c => ?_, fun c => ?_⟩
      · rw [iI_le ⟨by omega, by omega⟩ ⟨by omega, by omega⟩] at c
        rw [if_pos (by omega)] at h
        rw [iI_sub, iI_add, show (l : Int) - x = ((l - moL leap i : Nat) : Int) by omega, show (i : Int) + 1 = ((i + 1 : Nat) : Int) by omega]
        exact ih (i + 1) _ _ (by omega) (by omega) h
      · rw [iI_le ⟨by omega, by omega⟩ ⟨by omega, by omega⟩] at c
        rw [if_neg (by omega)] at h
        simp only [iI_add, iI_mul]
        refine pI h ?_
        omega
    refine ok_X0_monthAndDate_L ⟨fun c => absurd c ?_, fun _ => ⟨fun c => ⟨hin, ?_⟩, fun c => ⟨fun c2 => ⟨hin, ?_⟩, fun c2 => ⟨hin, ?_⟩⟩⟩⟩
    · rw [iI_ofNat, iI_le ⟨by omega, by omega⟩ ⟨by omega, by omega⟩]; omega
    · rw [iI_eq ⟨by omega, by omega⟩ ⟨by omega, by omega⟩] at c
      rw [hc, hm]
      exact fin (monN i) (by unfold moL; rw [if_neg (by omega)]) (by omega)
    · rw [iI_eq ⟨by omega, by omega⟩ ⟨by omega, by omega⟩] at c
      rw [jb_0] at c2
      rw [hc, hm]
      exact fin (monN i) (by unfold moL; rw [if_neg (by simp [c2])]) (by omega)
    · rw [iI_eq ⟨by omega, by omega⟩ ⟨by omega, by omega⟩] at c
      rw [jb_0] at c2
      rw [hc, hm, iI_add]
      exact fin (monN i + 1) (by unfold moL; rw [if_pos ⟨by omega, by simpa using c2⟩]) (by omega)
theorem s_mad {d : Nat} {post : jPo} {σ : jSt} {day : Nat} (hd : day < 2147483648) (h : post (some (.int (iI (mad day : Nat)))) σ) : jv_wp (d + 1) post (jv_en 5 [.int (iI day)] σ) := by
  have hr : iI (day : Int) - iI (day : Int) / iI 1461 * iI 1461 = iI ((day % 1461 : Nat) : Int) := iI_rem (b := 1461) hd (by omega) (by omega)
  unfold mad at h
  have n0 : ∀ k : Int, 0 < k → k < 100000 → ¬ iI k = 0 := fun k h1 h2 e => by
    rw [iI_0, iI_eq ⟨by omega, by omega⟩ ⟨by omega, by omega⟩] at e; omega
  refine ok_X0_monthAndDate ⟨n0 _ (by omega) (by omega), ?_⟩
  rw [hr]
  refine ⟨fun c => ?_, fun c => ?_⟩
  · rw [iI_lt ⟨by omega, by omega⟩ ⟨by omega, by omega⟩] at c
    rw [if_neg (by omega)] at h
    refine ok_X0_monthAndDate_A ⟨fun _ => ⟨n0 _ (by omega) (by omega), ?_⟩, fun c => absurd iI_0.symm c⟩
    have h2 : iI ((day % 1461 : Nat) : Int) - iI ((day % 1461 : Nat) : Int) / iI 365 * iI 365 = iI ((day % 1461 % 365 : Nat) : Int) := iI_rem (b := 365) (by omega) (by omega) (by omega)
    dsimp only
    rw [h2]
    exact wp_mdL false 12 0 _ none (by omega) (by omega) h
  · rw [iI_lt ⟨by omega, by omega⟩ ⟨by omega, by omega⟩] at c
    rw [if_pos (by omega)] at h
    refine ok_X0_monthAndDate_A ⟨fun c => absurd c (n0 _ (by omega) (by omega)), fun _ => ?_⟩
    dsimp only
    rw [iI_sub, show ((day % 1461 : Nat) : Int) - 1095 = ((day % 1461 - 1095 : Nat) : Int) by omega]
    exact wp_mdL true 12 0 _ none (by omega) (by omega) h
theorem n0I {k : Int} (h1 : 0 < k) (h2 : k < 100000) : ¬ iI k = 0 := fun e => by
  rw [iI_0, iI_eq ⟨by omega, by omega⟩ ⟨by omega, by omega⟩] at e; omega
theorem mdL_lt (leap : Bool) : ∀ n i l, l < 1000 → i + n ≤ 12 → 32 < mdL leap n i l ∧ mdL leap n i l < 2000
  | 0, i, l, h, h2 => by simp only [mdL]; omega
  | n + 1, i, l, h, h2 => by
    unfold mdL
    split
    · exact mdL_lt leap n (i + 1) _ (by omega) (by omega)
    · omega
theorem mad_lt (day : Nat) : 32 < mad day ∧ mad day < 2000 := by
  unfold mad
  split
  · exact mdL_lt _ _ _ _ (by omega) (by omega)
  · exact mdL_lt _ _ _ _ (by omega) (by omega)
theorem q_mad {d : Nat} {σ : jSt} {day : Nat} {k : Int32 → jSt → Prop} (hd : day < 2147483648) (h : k (iI (mad day : Nat)) σ) : jq_I (d + 1) 5 [.int (iI day)] σ k := s_mad hd ⟨_, rfl, h⟩
def yeN (day : Nat) : Nat := day / 1461 * 4 + (if 3 < day % 1461 / 365 then 3 else day % 1461 / 365)
theorem q_yearOf {d : Nat} {σ : jSt} {day : Nat} {k : Int32 → jSt → Prop} (hd : day < 1000000) (h : k (iI (yeN day : Nat)) σ) : jq_I (d + 1) 1 [.int (iI day)] σ k := by
  have hr : iI (day : Int) - iI (day : Int) / iI 1461 * iI 1461 = iI ((day % 1461 : Nat) : Int) := iI_rem (b := 1461) (by omega) (by omega) (by omega)
  have hq : iI (day : Int) / iI 1461 = iI ((day / 1461 : Nat) : Int) := iI_div (b := 1461) (by omega) (by omega) (by omega)
  have hq2 : iI ((day % 1461 : Nat) : Int) / iI 365 = iI ((day % 1461 / 365 : Nat) : Int) := iI_div (b := 365) (by omega) (by omega) (by omega)
  refine ok_X0_yearOf ⟨n0I (by omega) (by omega), n0I (by omega) (by omega), n0I (by omega) (by omega), Nat.le_of_ble_eq_true rfl, ?_⟩
  rw [hr, hq, hq2]
  refine ⟨_, rfl, ?_⟩
  have : (iI ((day / 1461 : Nat) : Int) * iI 4 + (if iI 3 < iI ((day % 1461 / 365 : Nat) : Int) then iI 3 else iI ((day % 1461 / 365 : Nat) : Int))) = iI (yeN day : Nat) := by
    unfold yeN
    by_cases c : 3 < day % 1461 / 365
    · rw [if_pos c, if_pos (by rw [iI_lt ⟨by omega, by omega⟩ ⟨by omega, by omega⟩]; omega), iI_mul, iI_add]; exact congrArg iI (by omega)
    · rw [if_neg c, if_neg (by rw [iI_lt ⟨by omega, by omega⟩ ⟨by omega, by omega⟩]; omega), iI_mul, iI_add]; exact congrArg iI (by omega)
  rw [this]; exact h
theorem q_monthOf {d : Nat} {σ : jSt} {day : Nat} {k : Int32 → jSt → Prop} (hd : day < 2147483648) (h : k (iI (mad day / 32 : Nat)) σ) : jq_I (d + 2) 2 [.int (iI day)] σ k := by
  have hl := mad_lt day
  refine ok_X0_monthOf (q_mad hd ⟨n0I (by omega) (by omega), _, rfl, ?_⟩)
  rw [show (iI 32 : Int32) = iI ((32 : Nat) : Int) from rfl, iI_div (by omega) (by omega) (by omega)]; exact h
theorem q_dateOf {d : Nat} {σ : jSt} {day : Nat} {k : Int32 → jSt → Prop} (hd : day < 2147483648) (h : k (iI (mad day % 32 : Nat)) σ) : jq_I (d + 2) 3 [.int (iI day)] σ k := by
  have hl := mad_lt day
  refine ok_X0_dateOf (q_mad hd ⟨n0I (by omega) (by omega), _, rfl, ?_⟩)
  rw [show (iI 32 : Int32) = iI ((32 : Nat) : Int) from rfl, iI_rem (by omega) (by omega) (by omega)]; exact h
/-- which banks may speak (1 left, 2 right), and 4: the first of a month -/
def vo (day : Nat) : Nat := if mad day = 93 then 3 else if mad day % 32 = 1 then 5 else if mad day % 2 = 1 then 1 else 2
theorem q_voicesOn {d : Nat} {σ : jSt} {day : Nat} {k : Int32 → jSt → Prop} (hd : day < 2147483648) (h : k (iI (vo day : Nat)) σ) : jq_I (d + 2) 4 [.int (iI day)] σ k := by
  have hl := mad_lt day
  refine ok_X0_voicesOn (q_mad hd ?_)
  have h32 : iI ((mad day : Nat) : Int) - iI ((mad day : Nat) : Int) / iI 32 * iI 32 = iI ((mad day % 32 : Nat) : Int) := iI_rem (b := 32) (by omega) (by omega) (by omega)
  have h2 : iI ((mad day % 32 : Nat) : Int) - iI ((mad day % 32 : Nat) : Int) / iI 2 * iI 2 = iI ((mad day % 32 % 2 : Nat) : Int) := iI_rem (b := 2) (by omega) (by omega) (by omega)
  unfold vo at h
  refine ⟨fun c => ⟨n0I (by omega) (by omega), ?_⟩, fun c => ?_⟩
  · rw [iI_eq ⟨by omega, by omega⟩ ⟨by omega, by omega⟩] at c
    rw [if_neg (by omega)] at h
    rw [h32]
    refine ⟨n0I (by omega) (by omega), ?_⟩
    rw [h2]
    refine ⟨fun c1 => ⟨fun c2 => ?_, fun c2 => ?_⟩, fun c1 => ⟨fun c2 => ?_, fun c2 => ?_⟩⟩
    all_goals rw [iI_eq ⟨by omega, by omega⟩ ⟨by omega, by omega⟩] at c1 c2
    · rw [if_neg (by omega), if_neg (by omega)] at h; exact ⟨_, rfl, h⟩
    · exfalso; omega
    · rw [if_neg (by omega), if_pos (by omega)] at h; exact ⟨_, rfl, h⟩
    · rw [if_pos (by omega)] at h; exact ⟨_, rfl, h⟩
  · rw [iI_eq ⟨by omega, by omega⟩ ⟨by omega, by omega⟩] at c
    rw [if_pos (by omega)] at h; exact ⟨_, rfl, h⟩
theorem vo_in (day : Nat) : vo day = 1 ∨ vo day = 2 ∨ vo day = 3 ∨ vo day = 5 := by
  unfold vo
  split
  · omega
  · split
    · omega
    · split <;> omega
def isK (k t : Nat) : Bool := t == 0 || k == t || (k == 4 && t == 1)
theorem q_isKind {d : Nat} {σ : jSt} {a t : Nat} {k : Int32 → jSt → Prop} (ha : a < 5) (ht : t < 5) (h : k (jb (isK a t)) σ) : jq_I (d + 1) 31 [.int (iI a), .int (iI t)] σ k := by
  have z : ∀ b : Bool, (jb b = 0 ∨ jb b = 1) ∧ (isK a t = b → (∃ x, some (Value.int (jb b)) = some (.int x) ∧ k x σ)) := fun b => ⟨jb_z b, fun e => ⟨_, rfl, by rw [← e]; exact h⟩⟩
  have e0 : iI (t : Int) = 0 ↔ t = 0 := by rw [iI_0, iI_eq ⟨by omega, by omega⟩ ⟨by omega, by omega⟩]; omega
  have e1 : iI (a : Int) = iI (t : Int) ↔ a = t := by rw [iI_eq ⟨by omega, by omega⟩ ⟨by omega, by omega⟩]; omega
  have e2 : iI (a : Int) = iI 4 ↔ a = 4 := by rw [iI_eq ⟨by omega, by omega⟩ ⟨by omega, by omega⟩]; omega
  have e3 : iI (t : Int) = iI 1 ↔ t = 1 := by rw [iI_eq ⟨by omega, by omega⟩ ⟨by omega, by omega⟩]; omega
  refine ok_X6_isKind ?_
  unfold vc_X6_isKind
  rw [e0, e1, e2, e3, jb_t, jb_f]
  refine ⟨fun c => ⟨(z true).1, (z true).2 (by simp [isK, c])⟩, fun c => ⟨fun c1 => ⟨(z true).1, (z true).2 (by simp [isK, c1])⟩, fun c1 => ⟨fun c2 => ⟨(z false).1, (z false).2 (by simp [isK, c, c1, c2])⟩, fun c2 => ⟨fun c3 => ⟨(z false).1, (z false).2 (by simp [isK, c, c1, c3])⟩, fun c3 => ⟨(z true).1, (z true).2 (by simp [isK, c2, c3])⟩⟩⟩⟩⟩
/-- the sorts that speak, as the class's code has them -/
def spE (v b : Int32) : Int32 :=
  let bm := (v >>> (b &&& 31)) &&& iI 1 = iI 1
  let s := if bm then iI 594 ||| iI 33 else iI 594
  let s := if bm then s ||| iI 132 else if v &&& iI 4 = 0 then s else s ||| iI 132
  let s := if v &&& iI 1 = 0 then s else s ||| iI 8
  if v &&& iI 2 = 0 then s else s ||| iI 256
theorem s_speaking {d : Nat} {post : jPo} {σ : jSt} {v b : Int32} (h : post (some (.int (spE v b))) σ) : jv_wp (d + 1) post (jv_en 32 [.int v, .int b] σ) := by
  have hD : ∀ (bm s : Int32), post (some (.int (if v &&& iI 2 = 0 then s else s ||| iI 256))) σ → jv_wp (d + 1) post (32, 55, [some (.int v), some (.int b), some (.int bm), some (.int s)], [], σ) := by
    intro bm s h
    refine ok_X6_speaking_D ⟨fun c => ?_, fun c => ?_⟩
    · rw [if_pos c] at h; exact ok_X6_speaking_E h
    · rw [if_neg c] at h; exact ok_X6_speaking_E h
  have hC : ∀ (bm s : Int32), (∀ s', s' = (if v &&& iI 1 = 0 then s else s ||| iI 8) → post (some (.int (if v &&& iI 2 = 0 then s' else s' ||| iI 256))) σ) → jv_wp (d + 1) post (32, 44, [some (.int v), some (.int b), some (.int bm), some (.int s)], [], σ) := by
    intro bm s h
    refine ok_X6_speaking_C ⟨fun c => ?_, fun c => ?_⟩
    · exact hD _ _ (h _ (if_pos c).symm)
    · exact hD _ _ (h _ (if_neg c).symm)
  have hB : ∀ (s : Int32) (bm : Bool), (∀ s', s' = (if bm = true then s ||| iI 132 else if v &&& iI 4 = 0 then s else s ||| iI 132) → (∀ s'', s'' = (if v &&& iI 1 = 0 then s' else s' ||| iI 8) → post (some (.int (if v &&& iI 2 = 0 then s'' else s'' ||| iI 256))) σ)) → jv_wp (d + 1) post (32, 28, [some (.int v), some (.int b), some (.int (jb bm)), some (.int s)], [], σ) := by
    intro s bm h
    refine ok_X6_speaking_B ⟨fun c => ?_, fun c => ⟨fun c2 => ?_, fun c2 => ?_⟩⟩
    · rw [jb_0] at c
      exact hC _ _ (h _ (if_pos (by simpa using c)).symm)
    · rw [jb_0] at c
      refine hC _ _ (h _ ?_)
      rw [c, if_pos c2]; rfl
    · rw [jb_0] at c
      refine hC _ _ (h _ ?_)
      rw [c, if_neg c2]; rfl
  have hA : ∀ (bm : Bool), (∀ s', s' = (if bm = true then iI 594 ||| iI 33 else iI 594) → (∀ s'', s'' = (if bm = true then s' ||| iI 132 else if v &&& iI 4 = 0 then s' else s' ||| iI 132) → (∀ s3, s3 = (if v &&& iI 1 = 0 then s'' else s'' ||| iI 8) → post (some (.int (if v &&& iI 2 = 0 then s3 else s3 ||| iI 256))) σ))) → jv_wp (d + 1) post (32, 19, [some (.int v), some (.int b), some (.int (jb bm)), some (.int (iI 594))], [], σ) := by
    intro bm h
    refine ok_X6_speaking_A ⟨fun c => ?_, fun c => ?_⟩
    · rw [jb_0] at c
      subst c
      exact hB _ false (h _ rfl)
    · rw [jb_0] at c
      have c : bm = true := by simpa using c
      subst c
      exact hB _ true (h _ rfl)
  refine ok_X6_speaking ⟨fun c => ?_, fun c => ?_⟩
  · refine hA false ?_
    rintro s rfl s2 rfl s3 rfl
    unfold spE at h
    simp only [c, if_false] at h
    exact h
  · refine hA true ?_
    rintro s rfl s2 rfl s3 rfl
    unfold spE at h
    simp only [c, if_true] at h
    exact h
/-- who of a sort (kind, born) speaks on a bank with such voices -/
def spk (v k b bk : Nat) : Bool := if k = 1 ∨ k = 4 then true else if k = 2 then v.testBit bk || v.testBit 2 else if k = 3 then v.testBit b else v.testBit bk
/-- the sorts that speak, as bits -/
def spS (v bk : Nat) : Nat := bsN (fun i => spk v (i % 5) (i / 5) bk) 10
theorem spE_ok {v b : Nat} (hv : v = 1 ∨ v = 2 ∨ v = 3 ∨ v = 5) (hb : b < 2) : spE (iI v) (iI b) = iI (spS v b : Nat) := by
  have h : ∀ b : Nat, b < 2 → ∀ v ∈ ([1, 2, 3, 5] : List Nat), spE (iI v) (iI b) = iI (spS v b : Nat) := by decide +kernel
  exact h b hb v (by simp; exact hv)
theorem q_speaking {d : Nat} {σ : jSt} {day b : Nat} {k : Int32 → jSt → Prop} (hb : b < 2) (h : k (iI (spS (vo day) b : Nat)) σ) : jq_I (d + 1) 32 [.int (iI (vo day : Nat)), .int (iI b)] σ k :=
  s_speaking ⟨_, rfl, by rw [spE_ok (vo_in day) hb]; exact h⟩
def bcE (x : Int32) : Int32 :=
  let x1 : Int32 := (x - (((x).toUInt32 >>> (((iI 1)).toUInt32 &&& Int32.toUInt32 31)).toInt32 &&& (Int32.ofNat 1431655765)))
  let x2 : Int32 := ((x1 &&& (Int32.ofNat 858993459)) + (((x1).toUInt32 >>> (((iI 2)).toUInt32 &&& Int32.toUInt32 31)).toInt32 &&& (Int32.ofNat 858993459)))
  let x3 : Int32 := ((x2 + ((x2).toUInt32 >>> (((iI 4)).toUInt32 &&& Int32.toUInt32 31)).toInt32) &&& (Int32.ofNat 252645135))
  let x4 : Int32 := (x3 + ((x3).toUInt32 >>> (((iI 8)).toUInt32 &&& Int32.toUInt32 31)).toInt32)
  let x5 : Int32 := (x4 + ((x4).toUInt32 >>> (((iI 16)).toUInt32 &&& Int32.toUInt32 31)).toInt32)
  x5 &&& (iI 63)
theorem bcE_ok : ∀ n : Nat, n < 1024 → bcE (iI n) = iI (pcN 12 n : Nat) := by decide +kernel
theorem q_bitCount {d : Nat} {σ : jSt} {n : Nat} {k : Int32 → jSt → Prop} (hn : n < 1024) (h : k (iI (pcN 12 n : Nat)) σ) : jq_I (d + 1) 143 [.int (iI n)] σ k := by
  refine ok_J6_bitCount ?_
  show ∃ x, some (Value.int (bcE (iI n))) = some (.int x) ∧ k x σ
  exact ⟨_, rfl, by rw [bcE_ok n hn]; exact h⟩
end Cal
