/-! the page: faults (reference), letters, blank -/
section Pf3
variable {σ : jSt} {d : Nat} {k : Int32 → jSt → Prop} {g : Nat → Nat} {n : Nat}
def fS (c k : Nat) : Prop := c = 34 ∧ k = 2
theorem fS_m (c k : Nat) (h : fS c k) : mS c k := by unfold fS at h; unfold mS; omega
theorem pM.mv {σ' : jSt} (h : pM g n σ) (e : eS mS σ σ') : pM g n σ' := by
  refine ⟨?_, fun i hi => ?_⟩
  · rw [e.2 _ _ (by unfold mS; omega)]; exact h.1
  · rw [e.2 _ _ (by unfold mS; omega)]; exact h.2 i hi
theorem pX.mv {σ' : jSt} (h : pX g n σ) (e : eS mS σ σ') : pX g n σ' := by
  refine ⟨?_, fun i hi => ?_⟩
  · rw [e.2 _ _ (by unfold mS; omega)]; exact h.1
  · rw [e.2 _ _ (by unfold mS; omega)]; exact h.2 i hi
theorem q_isPersonLetter (hV : pV g n) (hM : pM g n σ) {i : Nat} (hi : i < n) (h0 : ¬ (fpl g i = true ∧ g i = 59) → k (jb (fpl g i)) σ) (h1 : fpl g i = true → g i = 59 → k (jb true) (jv_u σ 34 2 (iI i))) : jq_I (d + 2) 83 [.ref 34, .int (iI i)] σ k := by
  have h44 := hV.1
  have hg := hV.2 i hi
  have hc : (iI (i : Int)).toNatClampNeg = i := iI_clamp (by omega)
  have hin : vp_in (iI (i : Int)) 44 := (iI_in (by omega) 44).mpr (by omega)
  have hr : iI (i : Int) - iI (i : Int) / iI 4 * iI 4 = iI ((i % 4 : Nat) : Int) := iI_rem (b := 4) (by omega) (by omega) (by omega)
  have eg : ∀ j : Int, 0 ≤ j → j < 1000 → (iI ((g i : Nat) : Int) = iI j ↔ ((g i : Nat) : Int) = j) := fun j h1 h2 => iI_eq ⟨by omega, by omega⟩ ⟨by omega, by omega⟩
  have er : ∀ j : Int, 0 ≤ j → j < 1000 → (iI ((i % 4 : Nat) : Int) = iI j ↔ ((i % 4 : Nat) : Int) = j) := fun j h1 h2 => iI_eq ⟨by omega, by omega⟩ ⟨by omega, by omega⟩
  have fin : ∀ b : Bool, fpl g i = b → (b = true → g i ≠ 59) → (∃ x, some (Value.int (jb b)) = some (.int x) ∧ k x σ) := fun b e e2 => ⟨_, rfl, by rw [← e]; exact h0 (fun q => e2 (by rw [← e]; exact q.1) q.2)⟩
  refine ok_X9_isPersonLetter ?_
  unfold vc_X9_isPersonLetter
  dsimp only
  rw [hc, hM.2 i hi, hr, er 0 (by omega) (by omega), er 1 (by omega) (by omega), er 2 (by omega) (by omega), eg 108 (by omega) (by omega), eg 114 (by omega) (by omega), eg 44 (by omega) (by omega), eg 59 (by omega) (by omega), lI_i (a := ((g i : Nat) : Int)) ⟨by omega, by omega⟩, iI_le (a := 23) (b := (i : Int)) ⟨by omega, by omega⟩ ⟨by omega, by omega⟩, iI_le (a := (i : Int)) (b := 3) ⟨by omega, by omega⟩ ⟨by omega, by omega⟩, jb_t, jb_f]
  refine ⟨hin, fun c => q_kindBy (by omega) ?_, fun c => ⟨fun c1 => ⟨fun c2 => fin true ?_ (fun _ => by omega), fun c2 => ⟨fun c3 => fin false ?_ (fun e => by cases e), fun c3 => fin true ?_ (fun _ => by omega)⟩⟩, fun c1 => ⟨fun c2 => ?_, fun c2 => ⟨fun c3 => ⟨fun c4 => fin false ?_ (fun e => by cases e), fun c4 => ⟨fun c5 => fin false ?_ (fun e => by cases e), fun c5 => fin true ?_ (fun _ => by omega)⟩⟩, fun c3 => ⟨fun c4 => ⟨fun c5 => fin false ?_ (fun e => by cases e), fun c5 => absurd c5 (by omega)⟩, fun c4 => ⟨_, rfl, h1 ?_ (by omega)⟩⟩⟩⟩⟩⟩
  · have hk := kdL_in (g i)
    rw [iI_eq ⟨by omega, by omega⟩ ⟨by omega, by omega⟩]
    refine ⟨fun c2 => fin false ?_ (fun e => by cases e), fun c2 => fin true ?_ (fun _ e => ?_)⟩
    · unfold fpl; rw [if_pos (by omega), decide_eq_false (by omega)]
    · unfold fpl; rw [if_pos (by omega), decide_eq_true (by omega)]
    · rw [e] at c2; exact c2 (by decide +kernel)
  · unfold fpl; rw [if_neg (by omega), if_pos (by omega), decide_eq_true (by omega)]
  · unfold fpl; rw [if_neg (by omega), if_pos (by omega), decide_eq_false (by omega)]
  · unfold fpl; rw [if_neg (by omega), if_pos (by omega), decide_eq_true (by omega)]
  · refine q_in (a := ((g i : Nat) : Int)) (b := 48) (c := 57) ⟨by omega, by omega⟩ ⟨by omega, by omega⟩ ⟨by omega, by omega⟩ ⟨jb_z _, ?_⟩
    refine fin _ ?_ (fun e => ?_)
    · unfold fpl; rw [if_neg (by omega), if_neg (by omega), if_pos (by omega)]
      by_cases q : 48 ≤ g i ∧ g i ≤ 57
      · rw [decide_eq_true q, decide_eq_true (by omega)]
      · rw [decide_eq_false q, decide_eq_false (by omega)]
    · have := of_decide_eq_true e; omega
  · unfold fpl; rw [if_neg (by omega), if_neg (by omega), if_neg (by omega), decide_eq_false (by omega)]
  · unfold fpl; rw [if_neg (by omega), if_neg (by omega), if_neg (by omega), decide_eq_false (by omega)]
  · unfold fpl; rw [if_neg (by omega), if_neg (by omega), if_neg (by omega), decide_eq_true (by omega)]
  · unfold fpl; rw [if_neg (by omega), if_neg (by omega), if_neg (by omega), decide_eq_false (by omega)]
  · unfold fpl; rw [if_neg (by omega), if_neg (by omega), if_neg (by omega), decide_eq_true (by omega)]
theorem q_isPersonDigit {P c : Nat} (hP1 : 1 ≤ P) (hP6 : P ≤ 6) (hc : c ≤ 126) (hE : σ.1 34 2 = iI ((4 * P : Nat) - 1 : Int)) (h : k (jb (decide (48 ≤ c ∧ c < 48 + P))) σ) : jq_I (d + 2) 84 [.ref 34, .int (iI c)] σ k := by
  refine ok_X9_isPersonDigit ?_
  unfold vc_X9_isPersonDigit
  have e1 : (iI 48 + (iI (((4 * P : Nat) : Int) - 1) + iI 1) / iI 4) - iI 1 = iI (47 + (P : Int)) := by
    rw [iI_add, show ((4 * P : Nat) : Int) - 1 + 1 = ((4 * P : Nat) : Int) by omega, show (iI 4 : Int32) = iI ((4 : Nat) : Int) from rfl, iI_div (by omega) (by omega) (by omega), iI_add, iI_sub]
    exact congrArg iI (by omega)
  rw [hE, e1, lI_i (a := (c : Int)) ⟨by omega, by omega⟩, lI_i (a := 47 + (P : Int)) ⟨by omega, by omega⟩]
  refine q_in (a := (c : Int)) (b := 48) (c := 47 + (P : Int)) ⟨by omega, by omega⟩ ⟨by omega, by omega⟩ ⟨by omega, by omega⟩ ⟨jb_z _, _, rfl, ?_⟩
  by_cases q : 48 ≤ c ∧ c < 48 + P
  · rw [decide_eq_true q] at h; rw [decide_eq_true (by omega)]; exact h
  · rw [decide_eq_false q] at h; rw [decide_eq_false (by omega)]; exact h
theorem q_isMatterLetter (hV : pV g n) (hM : pM g n σ) {i P : Nat} (hi : i < n) (hP1 : 1 ≤ P) (hP6 : P ≤ 6) (hiP : 4 * P ≤ i) (hE : σ.1 34 2 = iI ((4 * P : Nat) - 1 : Int)) (h : k (jb (fmt g i P)) σ) : jq_I (d + 3) 85 [.ref 34, .int (iI i)] σ k := by
  have h44 := hV.1
  have hg := hV.2 i hi
  have hg1 := hV.2 (i - 1) (by omega)
  have hc : (iI (i : Int)).toNatClampNeg = i := iI_clamp (by omega)
  have hc1 : (iI ((i - 1 : Nat) : Int)).toNatClampNeg = i - 1 := iI_clamp (by omega)
  have hin : vp_in (iI (i : Int)) 44 := (iI_in (by omega) 44).mpr (by omega)
  have hin1 : vp_in (iI ((i - 1 : Nat) : Int)) 44 := (iI_in (by omega) 44).mpr (by omega)
  have hr : iI ((i - 4 * P : Nat) : Int) - iI ((i - 4 * P : Nat) : Int) / iI 4 * iI 4 = iI (((i - 4 * P) % 4 : Nat) : Int) := iI_rem (b := 4) (by omega) (by omega) (by omega)
  have hm : (i - 4 * P) % 4 = i % 4 := by omega
  rw [hm] at hr
  have er : ∀ j : Int, 0 ≤ j → j < 1000 → (iI ((i % 4 : Nat) : Int) = iI j ↔ ((i % 4 : Nat) : Int) = j) := fun j h1 h2 => iI_eq ⟨by omega, by omega⟩ ⟨by omega, by omega⟩
  have fin : ∀ b : Bool, fmt g i P = b → (∃ x, some (Value.int (jb b)) = some (.int x) ∧ k x σ) := fun b e => ⟨_, rfl, by rw [← e]; exact h⟩
  refine ok_X9_isMatterLetter ?_
  unfold vc_X9_isMatterLetter
  dsimp only
  rw [hc, hM.2 i hi, hE, iI_sub (i : Int) (((4 * P : Nat) : Int) - 1), iI_sub, iI_sub (i : Int) 1, show (i : Int) - (((4 * P : Nat) : Int) - 1) - 1 = ((i - 4 * P : Nat) : Int) by omega, show (i : Int) - 1 = ((i - 1 : Nat) : Int) by omega, hr, er 0 (by omega) (by omega), er 1 (by omega) (by omega), er 2 (by omega) (by omega), iI_eq (a := ((g i : Nat) : Int)) (b := 44) ⟨by omega, by omega⟩ ⟨by omega, by omega⟩, iI_le (a := 19) (b := ((i - 4 * P : Nat) : Int)) ⟨by omega, by omega⟩ ⟨by omega, by omega⟩, lI_i (a := ((g i : Nat) : Int)) ⟨by omega, by omega⟩]
  refine ⟨hin, fun c => q_isPersonDigit hP1 hP6 hg.2 hE ⟨jb_z _, fin _ ?_⟩, fun c => ⟨fun c1 => q_isPersonDigit hP1 hP6 hg.2 hE ?_, fun c1 => ⟨fun c2 => q_in (a := ((g i : Nat) : Int)) (b := 49) (c := 57) ⟨by omega, by omega⟩ ⟨by omega, by omega⟩ ⟨by omega, by omega⟩ ⟨jb_z _, fin _ ?_⟩, fun c2 => ?_⟩⟩⟩
  · unfold fmt; rw [if_pos (by omega)]
  · rw [hc1, hM.2 (i - 1) (by omega), jb_0, iI_eq ⟨by omega, by omega⟩ ⟨by omega, by omega⟩, jb_t, jb_f]
    have f1 : ∀ b : Bool, (48 ≤ g i ∧ g i < 48 + P ∧ g i ≠ g (i - 1) ↔ b = true) → fmt g i P = b := fun b q => by
      unfold fmt; rw [if_neg (by omega), if_pos (by omega)]; cases b
      · exact decide_eq_false (fun w => by simpa using q.mp w)
      · exact decide_eq_true (q.mpr rfl)
    refine ⟨fun c2 => fin _ (f1 _ ?_), fun c2 => ⟨hin1, fun c3 => fin _ (f1 _ ?_), fun c3 => fin _ (f1 _ ?_)⟩⟩
    · have := of_decide_eq_false c2
      simp; omega
    · simp; omega
    · have := of_decide_eq_true (show decide (48 ≤ g i ∧ g i < 48 + P) = true by simpa using c2)
      simp; omega
  · unfold fmt; rw [if_neg (by omega), if_neg (by omega), if_pos (by omega)]
    by_cases q : 49 ≤ g i ∧ g i ≤ 57
    · rw [decide_eq_true q, decide_eq_true (by omega)]
    · rw [decide_eq_false q, decide_eq_false (by omega)]
  · rw [jb_t, jb_f]
    have f3 : ∀ b : Bool, (g i = 44 ∧ i < 4 * P + 19 ↔ b = true) → fmt g i P = b := fun b q => by
      unfold fmt; rw [if_neg (by omega), if_neg (by omega), if_neg (by omega)]; cases b
      · exact decide_eq_false (fun w => by simpa using q.mp w)
      · exact decide_eq_true (q.mpr rfl)
    refine ⟨fun c3 => fin _ (f3 _ ?_), fun c3 => ⟨fun c4 => fin _ (f3 _ ?_), fun c4 => fin _ (f3 _ ?_)⟩⟩
    all_goals simp
    all_goals omega
/-- the place of ';' (0: none) -/
def enN (P : Nat) : Int := if P = 0 then 0 else ((4 * P : Nat) - 1 : Int)
theorem w_faultOf (hV : pV g n) {post : jPo} : ∀ (m i P : Nat) (σ : jSt), pM g n σ → σ.1 34 2 = iI (enN P) → i + m = n → (P = 0 → i ≤ 23) → (0 < P → P ≤ 6 ∧ 4 * P ≤ i) →
    (∀ σ', eS fS σ σ' → σ'.1 34 2 = iI (enN (fsc g m i P).2) → post (some (.int (iI ((fsc g m i P).1 : Nat)))) σ') →
    jv_wp (d + 4) post (86, 7, [some (.ref 34), some (.int (iI i))], [], σ) := by
  have h44 := hV.1
  intro m
  induction m with
  | zero =>
    intro i P σ hM hE hi h0 h1 h
    refine ok_X9_faultOf_L7 ⟨fun _ => h σ eS.rf hE, fun c => absurd ?_ c⟩
    rw [hM.1, iI_le ⟨by omega, by omega⟩ ⟨by omega, by omega⟩]; omega
  | succ m ih =>
    intro i P σ hM hE hi h0 h1 h
    unfold fsc at h
    refine ok_X9_faultOf_L7 ⟨fun c => absurd c ?_, fun _ => ?_⟩
    · rw [hM.1, iI_le ⟨by omega, by omega⟩ ⟨by omega, by omega⟩]; omega
    · by_cases hP0 : P = 0
      · subst hP0
        rw [if_pos rfl] at h
        have hE0 : σ.1 34 2 = iI 0 := hE
        refine ⟨fun c => absurd (by rw [hE0]; exact iI_0.symm) c, fun _ => ?_⟩
        have hi23 := h0 rfl
        refine q_isPersonLetter hV hM (by omega) (fun q => ?_) (fun q1 q2 => ?_)
        · rw [iI_add, show (i : Int) + 1 = ((i + 1 : Nat) : Int) by omega, jb_0]
          refine ⟨fun c => ?_, fun c => ?_⟩
          · rw [c] at h; exact h σ eS.rf hE
          · have c : fpl g i = true := by simpa using c
            have n59 : g i ≠ 59 := fun e => q ⟨c, e⟩
            rw [if_pos c, if_neg n59] at h
            refine ih (i + 1) 0 σ hM hE (by omega) (fun _ => ?_) (fun e => absurd e (by omega)) h
            by_cases e23 : i = 23
            · subst e23; exact absurd (fpl_23 c) n59
            · omega
        · rw [if_pos q1, if_pos q2] at h
          have hp := fpl_59 q1 q2
          rw [iI_add, show (i : Int) + 1 = ((i + 1 : Nat) : Int) by omega, jb_0]
          refine ⟨fun c => absurd c (by decide), fun _ => ?_⟩
          have hEu : eS fS σ (jv_u σ 34 2 (iI i)) := eS.u ⟨rfl, rfl⟩
          refine ih (i + 1) (i / 4 + 1) _ (hM.mv (hEu.wk fS_m)) ?_ (by omega) (fun e => absurd e (by omega)) (fun _ => ⟨by omega, by omega⟩) (fun σ' hE' => h σ' (hEu.tr hE'))
          rw [jv_u_at, if_pos ⟨rfl, rfl⟩]
          unfold enN
          rw [if_neg (by omega)]
          exact congrArg iI (by omega)
      · rw [if_neg hP0] at h
        have hh := h1 (by omega)
        have hE1 : σ.1 34 2 = iI ((4 * P : Nat) - 1 : Int) := by rw [hE]; unfold enN; rw [if_neg hP0]
        refine ⟨fun _ => ?_, fun c => ?_⟩
        · refine q_isMatterLetter hV hM (by omega) (by omega) hh.1 hh.2 hE1 ?_
          rw [iI_add, show (i : Int) + 1 = ((i + 1 : Nat) : Int) by omega, jb_0]
          refine ⟨fun c => ?_, fun c => ?_⟩
          · rw [c] at h; exact h σ eS.rf hE
          · rw [if_pos (by simpa using c)] at h
            exact ih (i + 1) P σ hM hE (by omega) (fun e => absurd e hP0) (fun _ => ⟨hh.1, by omega⟩) h
        · rw [hE1, iI_eq0 ⟨by omega, by omega⟩] at c; omega
theorem q_faultOf (hV : pV g n) (hM : pM g n σ) (h : ∀ σ', eS fS σ σ' → σ'.1 34 2 = iI (enN (fsc g n 0 0).2) → k (iI ((fsc g n 0 0).1 : Nat)) σ') : jq_I (d + 4) 86 [.ref 34] σ k := by
  refine ok_X9_faultOf ?_
  have hEu : eS fS σ (jv_u σ 34 2 (iI 0)) := eS.u ⟨rfl, rfl⟩
  exact w_faultOf hV n 0 0 _ (hM.mv (hEu.wk fS_m)) (by rw [jv_u_at, if_pos ⟨rfl, rfl⟩]; rfl) (by omega) (fun _ => by omega) (fun e => absurd e (by omega)) (fun σ' hE hE2 => ⟨_, rfl, h σ' (hEu.tr hE) hE2⟩)
end Pf3
