/-! the page: faults, both sides -/
section Pf2
variable {σ : jSt} {d : Nat} {k : Int32 → jSt → Prop} {g : Nat → Nat} {n : Nat}
theorem q_fitsMatters (hV : pV g n) (hX : pX g n σ) {i P : Nat} (hi : i < n) (hP1 : 1 ≤ P) (hP6 : P ≤ 6) (hiP : 4 * P ≤ i) (h : k (jb (fmt g i P)) σ) : jq_I (d + 1) 18 [.ref 1, .int (iI i), .int (iI P)] σ k := by
  have h44 := hV.1
  have hg := hV.2 i hi
  have hg1 := hV.2 (i - 1) (by omega)
  have hc : (iI (i : Int)).toNatClampNeg = i := iI_clamp (by omega)
  have hc1 : (iI ((i - 1 : Nat) : Int)).toNatClampNeg = i - 1 := iI_clamp (by omega)
  have hin : vp_in (iI (i : Int)) 44 := (iI_in (by omega) 44).mpr (by omega)
  have hin1 : vp_in (iI ((i - 1 : Nat) : Int)) 44 := (iI_in (by omega) 44).mpr (by omega)
  have hr : iI (i : Int) - iI (i : Int) / iI 4 * iI 4 = iI ((i % 4 : Nat) : Int) := iI_rem (b := 4) (by omega) (by omega) (by omega)
  have hq : iI (i : Int) / iI 4 = iI ((i / 4 : Nat) : Int) := iI_div (b := 4) (by omega) (by omega) (by omega)
  have er : ∀ j : Int, 0 ≤ j → j < 1000 → (iI ((i % 4 : Nat) : Int) = iI j ↔ ((i % 4 : Nat) : Int) = j) := fun j h1 h2 => iI_eq ⟨by omega, by omega⟩ ⟨by omega, by omega⟩
  have fin : ∀ b : Bool, fmt g i P = b → (∃ x, some (Value.int (jb b)) = some (.int x) ∧ k x σ) := fun b e => ⟨_, rfl, by rw [← e]; exact h⟩
  refine ok_X3_fitsMatters ?_
  unfold vc_X3_fitsMatters
  dsimp only
  rw [hc, hX.2 i hi, hr, hq, iI_sub (i : Int) 1, show (i : Int) - 1 = ((i - 1 : Nat) : Int) by omega, hc1, hX.2 (i - 1) (by omega), iI_add, iI_add, iI_sub, er 0 (by omega) (by omega), er 1 (by omega) (by omega), er 2 (by omega) (by omega), iI_eq (a := ((g i : Nat) : Int)) (b := 44) ⟨by omega, by omega⟩ ⟨by omega, by omega⟩, iI_eq (a := ((g i : Nat) : Int)) (b := ((g (i - 1) : Nat) : Int)) ⟨by omega, by omega⟩ ⟨by omega, by omega⟩, iI_lt (a := ((g i : Nat) : Int)) (b := 48) ⟨by omega, by omega⟩ ⟨by omega, by omega⟩, iI_lt (a := ((g i : Nat) : Int)) (b := 49) ⟨by omega, by omega⟩ ⟨by omega, by omega⟩, iI_lt (a := 57) (b := ((g i : Nat) : Int)) ⟨by omega, by omega⟩ ⟨by omega, by omega⟩, iI_le (a := 48 + (P : Int)) (b := ((g i : Nat) : Int)) ⟨by omega, by omega⟩ ⟨by omega, by omega⟩, iI_le (a := 5) (b := ((i / 4 : Nat) : Int) + 1 - (P : Int)) ⟨by omega, by omega⟩ ⟨by omega, by omega⟩, jb_t, jb_f]
  have f0 : i % 4 = 0 → ∀ b : Bool, (48 ≤ g i ∧ g i < 48 + P ↔ b = true) → fmt g i P = b := fun e b q => by
    unfold fmt; rw [if_pos e]; cases b <;> simp at q ⊢ <;> omega
  have f1 : i % 4 = 1 → ∀ b : Bool, (48 ≤ g i ∧ g i < 48 + P ∧ g i ≠ g (i - 1) ↔ b = true) → fmt g i P = b := fun e b q => by
    unfold fmt; rw [if_neg (by omega), if_pos e]; cases b
    · exact decide_eq_false (fun w => by simpa using q.mp w)
    · exact decide_eq_true (q.mpr rfl)
  have f2 : i % 4 = 2 → ∀ b : Bool, (49 ≤ g i ∧ g i ≤ 57 ↔ b = true) → fmt g i P = b := fun e b q => by
    unfold fmt; rw [if_neg (by omega), if_neg (by omega), if_pos e]; cases b <;> simp at q ⊢ <;> omega
  have f3 : i % 4 = 3 → ∀ b : Bool, (g i = 44 ∧ i < 4 * P + 19 ↔ b = true) → fmt g i P = b := fun e b q => by
    unfold fmt; rw [if_neg (by omega), if_neg (by omega), if_neg (by omega)]; cases b
    · exact decide_eq_false (fun w => by simpa using q.mp w)
    · exact decide_eq_true (q.mpr rfl)
  have tl : (¬ ((i % 4 : Nat) : Int) = 1 → ((((i % 4 : Nat) : Int) = 2 → ((((g i : Nat) : Int) < 49 → (∃ x, some (Value.int (jb false)) = some (.int x) ∧ k x σ)) ∧ (¬ ((g i : Nat) : Int) < 49 → ((57 < ((g i : Nat) : Int) → (∃ x, some (Value.int (jb false)) = some (.int x) ∧ k x σ)) ∧ (¬ 57 < ((g i : Nat) : Int) → (∃ x, some (Value.int (jb true)) = some (.int x) ∧ k x σ)))))) ∧ (¬ ((i % 4 : Nat) : Int) = 2 → (¬ ((i % 4 : Nat) : Int) = 0 → ((¬ ((g i : Nat) : Int) = 44 → (∃ x, some (Value.int (jb false)) = some (.int x) ∧ k x σ)) ∧ (((g i : Nat) : Int) = 44 → ((5 ≤ ((i / 4 : Nat) : Int) + 1 - (P : Int) → (∃ x, some (Value.int (jb false)) = some (.int x) ∧ k x σ)) ∧ (¬ 5 ≤ ((i / 4 : Nat) : Int) + 1 - (P : Int) → (∃ x, some (Value.int (jb true)) = some (.int x) ∧ k x σ)))))))) ) := by
    intro e1
    refine ⟨fun e2 => ⟨fun c => fin _ (f2 (by omega) _ ?_), fun c => ⟨fun c2 => fin _ (f2 (by omega) _ ?_), fun c2 => fin _ (f2 (by omega) _ ?_)⟩⟩, fun e2 e0 => ⟨fun c => fin _ (f3 (by omega) _ ?_), fun c => ⟨fun c2 => fin _ (f3 (by omega) _ ?_), fun c2 => fin _ (f3 (by omega) _ ?_)⟩⟩⟩
    all_goals simp
    all_goals omega
  refine ⟨hin, fun a => ⟨fun c => fin _ (f0 (by omega) _ ?_), fun c => ⟨fun c1 => fin _ (f1 (by omega) _ ?_), fun c1 => ⟨(tl c1).1, fun c2 => (tl c1).2 c2 c⟩⟩⟩, fun a => ⟨fun a2 => ⟨fun c => fin _ (f0 (by omega) _ ?_), fun c => ⟨fun c1 => fin _ (f1 (by omega) _ ?_), fun c1 => ⟨(tl c1).1, fun c2 => (tl c1).2 c2 c⟩⟩⟩, fun a2 => ⟨fun c => fin _ (f0 (by omega) _ ?_), fun c => ⟨fun c1 => ⟨hin1, fun c2 => fin _ (f1 (by omega) _ ?_), fun c2 => fin _ (f1 (by omega) _ ?_)⟩, fun c1 => ⟨(tl c1).1, fun c2 => (tl c1).2 c2 c⟩⟩⟩⟩⟩
  all_goals simp
  all_goals omega
theorem fpl_59 {i : Nat} (h : fpl g i = true) (e : g i = 59) : i % 4 = 3 ∧ 3 < i := by
  unfold fpl at h
  rw [e] at h
  split at h
  · exact absurd h (by decide +kernel)
  · split at h
    · exact absurd h (by decide +kernel)
    · split at h
      · exact absurd h (by decide +kernel)
      · simp at h; omega
theorem fpl_23 (h : fpl g 23 = true) : g 23 = 59 := by
  unfold fpl at h
  simp at h; omega
theorem fmt_59 {i P : Nat} (hP : P ≤ 6) (h : fmt g i P = true) : g i ≠ 59 := by
  unfold fmt at h
  intro e
  rw [e] at h
  split at h
  · simp at h; omega
  · split at h
    · simp at h; omega
    · split at h <;> simp at h
theorem w_firstFault (hV : pV g n) (hX : pX g n σ) {post : jPo} : ∀ (m i P : Nat) (z : Option Value), i + m = n → (P = 0 → i ≤ 23) → (0 < P → P ≤ 6 ∧ 4 * P ≤ i) → post (some (.int (iI ((fsc g m i P).1 : Nat)))) σ →
    jv_wp (d + 8) post (16, 4, [some (.ref 1), some (.int (iI P)), some (.int (iI i)), z], [], σ) := by
  have h44 := hV.1
  intro m
  induction m with
  | zero =>
    intro i P z hi h0 h1 h
    have hP : P ≤ 6 := by
      by_cases e : P = 0
      · omega
      · exact (h1 (by omega)).1
    refine ok_X3_firstFault_L4 ⟨fun _ => ?_, fun c => absurd ?_ c⟩
    · rw [hX.1]
      simp only [fsc] at h
      rwa [show i = n by omega] at h
    · rw [hX.1, iI_le ⟨by omega, by omega⟩ ⟨by omega, by omega⟩]; omega
  | succ m ih =>
    intro i P z hi h0 h1 h
    have hP : P ≤ 6 := by
      by_cases e : P = 0
      · omega
      · exact (h1 (by omega)).1
    have hg := hV.2 i (by omega)
    have hc : (iI (i : Int)).toNatClampNeg = i := iI_clamp (by omega)
    have hin : vp_in (iI (i : Int)) 44 := (iI_in (by omega) 44).mpr (by omega)
    have hq : iI (i : Int) / iI 4 = iI ((i / 4 : Nat) : Int) := iI_div (b := 4) (by omega) (by omega) (by omega)
    unfold fsc at h
    refine ok_X3_firstFault_L4 ⟨fun c => absurd c ?_, fun _ => ?_⟩
    · rw [hX.1, iI_le ⟨by omega, by omega⟩ ⟨by omega, by omega⟩]; omega
    · rw [iI_eq0 ⟨by omega, by omega⟩, hq, hc, iI_add, iI_add, show (i : Int) + 1 = ((i + 1 : Nat) : Int) by omega, show ((i / 4 : Nat) : Int) + 1 = ((i / 4 + 1 : Nat) : Int) by omega]
      refine ⟨fun c => ?_, fun c => ?_⟩
      · rw [if_neg (by omega)] at h
        have hh := h1 (by omega)
        refine q_fitsMatters hV hX (by omega) (by omega) hP hh.2 ?_
        rw [jb_0, hX.2 i (by omega), iI_eq ⟨by omega, by omega⟩ ⟨by omega, by omega⟩]
        refine ⟨fun c2 => ⟨hin, fun c3 => ?_, fun c3 => ?_⟩, fun c2 => ?_⟩
        · rw [if_pos (by simpa using c2)] at h
          exact ih (i + 1) P _ (by omega) (fun e => by omega) (fun e => ⟨hP, by omega⟩) h
        · exact absurd (show g i = 59 by omega) (fmt_59 hP (by simpa using c2))
        · rw [c2] at h; exact h
      · rw [if_pos (by omega)] at h
        refine q_fitsPeople hV hX (by omega) ?_
        rw [jb_0, hX.2 i (by omega), iI_eq ⟨by omega, by omega⟩ ⟨by omega, by omega⟩]
        have hP0 : P = 0 := by omega
        subst hP0
        refine ⟨fun c2 => ⟨hin, fun c3 => ?_, fun c3 => ?_⟩, fun c2 => ?_⟩
        · have c2 : fpl g i = true := by simpa using c2
          rw [if_pos c2, if_neg (by omega)] at h
          refine ih (i + 1) 0 _ (by omega) (fun e => ?_) (fun e => absurd e (by omega)) h
          by_cases e23 : i = 23
          · subst e23; exact absurd (fpl_23 c2) (by omega)
          · have := h0 rfl; omega
        · have c2 : fpl g i = true := by simpa using c2
          have e59 : g i = 59 := by omega
          have hp := fpl_59 c2 e59
          rw [if_pos c2, if_pos e59] at h
          have := h0 rfl
          exact ih (i + 1) (i / 4 + 1) _ (by omega) (fun e => absurd e (by omega)) (fun _ => ⟨by omega, by omega⟩) h
        · rw [c2] at h; exact h
theorem q_firstFault (hV : pV g n) (hX : pX g n σ) (h : k (iI ((fsc g n 0 0).1 : Nat)) σ) : jq_I (d + 8) 16 [.ref 1] σ k :=
  ok_X3_firstFault (w_firstFault hV hX n 0 0 none (by omega) (fun _ => by omega) (fun e => absurd e (by omega)) ⟨_, rfl, h⟩)
end Pf2
