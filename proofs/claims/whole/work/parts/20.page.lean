/-! the page: letters, faults -/
section Pg
variable {σ : jSt} {d : Nat} {k : Int32 → jSt → Prop}
abbrev lI (z : Int) : Int64 := Int64.ofInt z
theorem lI_toInt {a : Int} (h : iR a) : (lI a).toInt = a := by
  unfold iR at h
  exact Int64.toInt_ofInt_of_le (by simp; omega) (by simp; omega)
theorem lI_i {a : Int} (h : iR a) : (iI a).toInt64 = lI a := by
  apply Int64.toInt_inj.mp
  rw [Int32.toInt_toInt64, iI_toInt h, lI_toInt h]
theorem lI_lt {a b : Int} (ha : iR a) (hb : iR b) : lI a < lI b ↔ a < b := by rw [Int64.lt_iff_toInt_lt, lI_toInt ha, lI_toInt hb]
theorem lI_eq {a b : Int} (ha : iR a) (hb : iR b) : lI a = lI b ↔ a = b := by
  constructor
  · intro h
    have := congrArg Int64.toInt h
    rwa [lI_toInt ha, lI_toInt hb] at this
  · intro h; rw [h]
theorem lc_lt {a b : Int} (ha : iR a) (hb : iR b) : lg_cmp (lI a) (lI b) < 0 ↔ a < b := by
  unfold lg_cmp
  split
  · next h =>
    rw [gt_iff_lt, lI_lt hb ha] at h
    exact ⟨fun q => absurd q (by decide +kernel), fun q => by omega⟩
  · next h1 =>
    rw [gt_iff_lt, lI_lt hb ha] at h1
    split
    · next h =>
      rw [lI_eq ha hb] at h
      exact ⟨fun q => absurd q (by decide +kernel), fun q => by omega⟩
    · next h =>
      rw [lI_eq ha hb] at h
      exact ⟨fun _ => by omega, fun _ => by decide +kernel⟩
theorem lc_gt {a b : Int} (ha : iR a) (hb : iR b) : 0 < lg_cmp (lI a) (lI b) ↔ b < a := by
  unfold lg_cmp
  split
  · next h =>
    rw [gt_iff_lt, lI_lt hb ha] at h
    exact ⟨fun _ => h, fun _ => by decide +kernel⟩
  · next h1 =>
    rw [gt_iff_lt, lI_lt hb ha] at h1
    split
    · exact ⟨fun q => absurd q (by decide +kernel), fun q => by omega⟩
    · exact ⟨fun q => absurd q (by decide +kernel), fun q => by omega⟩
theorem q_in {a b c : Int} (ha : iR a) (hb : iR b) (hc : iR c) (h : k (jb (decide (b ≤ a ∧ a ≤ c))) σ) : jq_I (d + 1) 78 [.long (lI a), .long (lI b), .long (lI c)] σ k := by
  refine ok_X9_in ?_
  unfold vc_X9_in
  rw [lc_lt ha hb, lc_gt ha hc, jb_t, jb_f]
  refine ⟨fun c => ⟨_, rfl, ?_⟩, fun c => ⟨fun c2 => ⟨_, rfl, ?_⟩, fun c2 => ⟨_, rfl, ?_⟩⟩⟩
  · rwa [decide_eq_false (by omega)] at h
  · rwa [decide_eq_false (by omega)] at h
  · rwa [decide_eq_true (by omega)] at h
/-- the kind that a letter tells; -1 -/
def kdL (c : Nat) : Int := if c = 112 then 0 else if c = 109 then 1 else if c = 116 then 2 else if c = 100 then 3 else if c = 102 then 4 else -1
theorem kdL_in (c : Nat) : -1 ≤ kdL c ∧ kdL c ≤ 4 := by unfold kdL; repeat' split
                                                        all_goals omega
theorem w_ixc {post : jPo} {c : Nat} {f : Int32} : ∀ (n i : Nat), i + n = 5 → (∀ j, j < i → jv_byt j ≠ iI c) → post (some (.int (iI (kdL c)))) σ → (∀ i, i < 5 → jv_byt i = iI c → kdL c = i) → ((∀ i, i < 5 → jv_byt i ≠ iI c) → kdL c = -1) →
    jv_wp (d + 1) post (150, 7, [some (.ref 59), some (.int f), some (.int (iI 0)), some (.int (iI 5)), some (.int (iI c)), some (.int (iI i))], [], σ) := by
  intro n
  induction n with
  | zero =>
    intro i hi hj h e1 e2
    refine ok_J1_indexOfChar_L7 ⟨fun _ => ?_, fun c => absurd ?_ c⟩
    · rwa [e2 (fun j hj' => hj j (by omega))] at h
    · rw [iI_le ⟨by omega, by omega⟩ ⟨by omega, by omega⟩]; omega
  | succ n ih =>
    intro i hi hj h e1 e2
    have hc : (iI (i : Int)).toNatClampNeg = i := iI_clamp (by omega)
    have hin : vp_in (iI (i : Int)) 5 := (iI_in (by omega) 5).mpr (by omega)
    refine ok_J1_indexOfChar_L7 ⟨fun c => absurd c ?_, fun _ => ⟨hin, ?_⟩⟩
    · rw [iI_le ⟨by omega, by omega⟩ ⟨by omega, by omega⟩]; omega
    · rw [hc, iI_add, show (i : Int) + 1 = ((i + 1 : Nat) : Int) by omega]
      refine ⟨fun c => ih (i + 1) (by omega) (fun j hj' => ?_) h e1 e2, fun c => ?_⟩
      · by_cases e : j = i
        · subst e; exact c
        · exact hj j (by omega)
      · rwa [e1 i (by omega) c] at h
theorem kdL_e1 : ∀ c : Nat, c < 127 → ∀ i : Nat, i < 5 → jv_byt i = iI c → kdL c = i := by decide +kernel
theorem kdL_e2 : ∀ c : Nat, c < 127 → (∀ i : Nat, i < 5 → jv_byt i ≠ iI c) → kdL c = -1 := by decide +kernel
theorem c16 : ∀ c : Nat, c < 127 → ((iI (c : Int)).toUInt32 % 65536).toInt32 = iI c ∧ (iI (c : Int)).toInt8.toInt32 = iI c := by decide +kernel
theorem q_kindOf {c : Nat} (hc : c < 127) (h : k (iI (kdL c)) σ) : jq_I (d + 6) 22 [.int (iI c)] σ k := by
  refine ok_X3_kindOf ?_
  unfold vc_X3_kindOf
  rw [(c16 c hc).1]
  refine ok_J0_indexOf (ok_J0_indexOf2 (ok_J0_isLatin1 ⟨_, rfl, fun c => absurd c (by decide +kernel), fun _ => ok_J0_length (ok_J0_coder ⟨_, rfl, _, rfl, ?_⟩)⟩))
  rw [show ((Int32.ofNat 5) >>> ((0 : Int32) &&& 31)) = iI 5 by decide +kernel]
  refine ok_J1_indexOf (ok_J1_canEncode ?_)
  refine ⟨fun c => absurd ((iI_lt0 ⟨by omega, by omega⟩).mp c) (by omega), fun _ => ⟨fun c => absurd ((iI_lt ⟨by omega, by omega⟩ ⟨by omega, by omega⟩).mp c) (by omega), fun _ => ⟨_, rfl, fun _ => ?_, fun c => absurd c (by decide +kernel)⟩⟩⟩
  rw [if_neg (show ¬ (iI 0 < iI 0) by decide +kernel), if_neg (show ¬ (Int32.ofNat 5 < iI 5) by decide +kernel)]
  refine ⟨fun _ => ok_J1_indexOfChar ?_, fun c => absurd (by decide +kernel) c⟩
  unfold vc_J1_indexOfChar
  rw [(c16 c hc).2]
  exact w_ixc 5 0 (by omega) (fun j hj => absurd hj (by omega)) ⟨_, rfl, _, rfl, _, rfl, _, rfl, _, rfl, h⟩ (kdL_e1 c hc) (kdL_e2 c hc)
theorem q_kindBy {c : Nat} (hc : c < 127) (h : k (iI (kdL c)) σ) : jq_I (d + 1) 82 [.int (iI c)] σ k := by
  refine ok_X9_kindBy ?_
  have ec : ∀ j : Int, 0 ≤ j → j < 1000 → (iI (c : Int) = iI j ↔ (c : Int) = j) := fun j h1 h2 => iI_eq ⟨by omega, by omega⟩ ⟨by omega, by omega⟩
  unfold vc_X9_kindBy
  rw [ec 100 (by omega) (by omega), ec 102 (by omega) (by omega), ec 109 (by omega) (by omega), ec 112 (by omega) (by omega), ec 116 (by omega) (by omega)]
  have fin : ∀ z : Int, kdL c = z → (∃ x, some (Value.int (iI z)) = some (.int x) ∧ k x σ) := fun z e => ⟨_, rfl, by rw [← e]; exact h⟩
  refine ⟨fun c1 => fin 3 ?_, fun c1 => ⟨fun c2 => fin 4 ?_, fun c2 => ⟨fun c3 => fin 1 ?_, fun c3 => ⟨fun c4 => fin 0 ?_, fun c4 => ⟨fun c5 => fin 2 ?_, fun c5 => fin (-1) ?_⟩⟩⟩⟩⟩
  all_goals unfold kdL
  all_goals (repeat' split) <;> omega
end Pg
/-- the page of the class, of the reference -/
def pX (g : Nat → Nat) (n : Nat) (σ : jSt) : Prop := σ.1 1 1 = iI (n : Nat) ∧ ∀ i, i < n → σ.1 2 i = iI (g i : Nat)
def pM (g : Nat → Nat) (n : Nat) (σ : jSt) : Prop := σ.1 34 1 = iI (n : Nat) ∧ ∀ i, i < n → σ.1 35 i = iI (g i : Nat)
def pV (g : Nat → Nat) (n : Nat) : Prop := n ≤ 44 ∧ ∀ i, i < n → 1 ≤ g i ∧ g i ≤ 126
/-- may this letter stand there, among people; among matters of so many people -/
def fpl (g : Nat → Nat) (i : Nat) : Bool := if i % 4 = 0 then decide (0 ≤ kdL (g i)) else if i % 4 = 1 then decide (g i = 108 ∨ g i = 114) else if i % 4 = 2 then decide (48 ≤ g i ∧ g i ≤ 57) else decide ((g i = 44 ∧ i < 23) ∨ (g i = 59 ∧ 3 < i))
def fmt (g : Nat → Nat) (i P : Nat) : Bool := if i % 4 = 0 then decide (48 ≤ g i ∧ g i < 48 + P) else if i % 4 = 1 then decide (48 ≤ g i ∧ g i < 48 + P ∧ g i ≠ g (i - 1)) else if i % 4 = 2 then decide (49 ≤ g i ∧ g i ≤ 57) else decide (g i = 44 ∧ i < 4 * P + 19)
/-- the fault, and how many people are told ahead of it -/
def fsc (g : Nat → Nat) : Nat → Nat → Nat → Nat × Nat
  | 0, i, P => (i, P)
  | k + 1, i, P => if P = 0 then (if fpl g i then fsc g k (i + 1) (if g i = 59 then i / 4 + 1 else 0) else (i, P)) else (if fmt g i P then fsc g k (i + 1) P else (i, P))
section Pf
variable {σ : jSt} {d : Nat} {k : Int32 → jSt → Prop} {g : Nat → Nat} {n : Nat}
theorem q_fitsPeople (hV : pV g n) (hX : pX g n σ) {i : Nat} (hi : i < n) (h : k (jb (fpl g i)) σ) : jq_I (d + 7) 17 [.ref 1, .int (iI i)] σ k := by
  have h44 := hV.1
  have hg := hV.2 i hi
  have hc : (iI (i : Int)).toNatClampNeg = i := iI_clamp (by omega)
  have hin : vp_in (iI (i : Int)) 44 := (iI_in (by omega) 44).mpr (by omega)
  have hr : iI (i : Int) - iI (i : Int) / iI 4 * iI 4 = iI ((i % 4 : Nat) : Int) := iI_rem (b := 4) (by omega) (by omega) (by omega)
  have hq : iI (i : Int) / iI 4 = iI ((i / 4 : Nat) : Int) := iI_div (b := 4) (by omega) (by omega) (by omega)
  have eg : ∀ j : Int, 0 ≤ j → j < 1000 → (iI ((g i : Nat) : Int) = iI j ↔ ((g i : Nat) : Int) = j) := fun j h1 h2 => iI_eq ⟨by omega, by omega⟩ ⟨by omega, by omega⟩
  have er : ∀ j : Int, 0 ≤ j → j < 1000 → (iI ((i % 4 : Nat) : Int) = iI j ↔ ((i % 4 : Nat) : Int) = j) := fun j h1 h2 => iI_eq ⟨by omega, by omega⟩ ⟨by omega, by omega⟩
  have fin : ∀ b : Bool, fpl g i = b → (∃ x, some (Value.int (jb b)) = some (.int x) ∧ k x σ) := fun b e => ⟨_, rfl, by rw [← e]; exact h⟩
  refine ok_X3_fitsPeople ?_
  unfold vc_X3_fitsPeople
  dsimp only
  rw [hc, hX.2 i hi, hr, hq, iI_add, er 0 (by omega) (by omega), er 1 (by omega) (by omega), er 2 (by omega) (by omega), eg 108 (by omega) (by omega), eg 114 (by omega) (by omega), eg 44 (by omega) (by omega), eg 59 (by omega) (by omega), iI_lt (a := ((g i : Nat) : Int)) ⟨by omega, by omega⟩ ⟨by omega, by omega⟩, iI_lt (b := ((g i : Nat) : Int)) ⟨by omega, by omega⟩ ⟨by omega, by omega⟩, iI_lt (a := ((i / 4 : Nat) : Int) + 1) (b := 2) ⟨by omega, by omega⟩ ⟨by omega, by omega⟩, iI_lt (a := ((i / 4 : Nat) : Int) + 1) (b := 6) ⟨by omega, by omega⟩ ⟨by omega, by omega⟩, jb_t, jb_f]
  refine ⟨hin, fun c => q_kindOf (by omega) ?_, fun c => ⟨fun c1 => ⟨fun c2 => fin true ?_, fun c2 => ⟨fun c3 => fin false ?_, fun c3 => fin true ?_⟩⟩, fun c1 => ⟨fun c2 => ⟨fun c3 => fin false ?_, fun c3 => ⟨fun c4 => fin false ?_, fun c4 => fin true ?_⟩⟩, fun c2 => ⟨fun c3 => ⟨fun c4 => fin false ?_, fun c4 => ⟨fun c5 => fin false ?_, fun c5 => fin true ?_⟩⟩, fun c3 => ⟨fun c4 => fin true ?_, fun c4 => ⟨fun c5 => fin false ?_, fun c5 => ⟨fun c6 => fin false ?_, fun c6 => fin true ?_⟩⟩⟩⟩⟩⟩⟩
  · have hk := kdL_in (g i)
    rw [iI_lt0 ⟨by omega, by omega⟩]
    refine ⟨fun c2 => fin false ?_, fun c2 => fin true ?_⟩
    · unfold fpl; rw [if_pos (by omega), decide_eq_false (by omega)]
    · unfold fpl; rw [if_pos (by omega), decide_eq_true (by omega)]
  · unfold fpl; rw [if_neg (by omega), if_pos (by omega), decide_eq_true (by omega)]
  · unfold fpl; rw [if_neg (by omega), if_pos (by omega), decide_eq_false (by omega)]
  · unfold fpl; rw [if_neg (by omega), if_pos (by omega), decide_eq_true (by omega)]
  · unfold fpl; rw [if_neg (by omega), if_neg (by omega), if_pos (by omega), decide_eq_false (by omega)]
  · unfold fpl; rw [if_neg (by omega), if_neg (by omega), if_pos (by omega), decide_eq_false (by omega)]
  · unfold fpl; rw [if_neg (by omega), if_neg (by omega), if_pos (by omega), decide_eq_true (by omega)]
  · unfold fpl; rw [if_neg (by omega), if_neg (by omega), if_neg (by omega), decide_eq_false (by omega)]
  · unfold fpl; rw [if_neg (by omega), if_neg (by omega), if_neg (by omega), decide_eq_false (by omega)]
  · unfold fpl; rw [if_neg (by omega), if_neg (by omega), if_neg (by omega), decide_eq_true (by omega)]
  · unfold fpl; rw [if_neg (by omega), if_neg (by omega), if_neg (by omega), decide_eq_true (by omega)]
  · unfold fpl; rw [if_neg (by omega), if_neg (by omega), if_neg (by omega), decide_eq_false (by omega)]
  · exfalso; omega
  · exfalso; omega
end Pf
