/-! a page that is a river -/
section Rv
variable {g : Nat → Nat} {n : Nat}
theorem fsc_B : ∀ (m i P : Nat), P ≠ 0 → ∀ r Q, fsc g m i P = (r, Q) → Q = P ∧ (r = i + m → ∀ j, i ≤ j → j < i + m → fmt g j P = true)
  | 0, i, P, hP, r, Q, h => by
    simp only [fsc, Prod.mk.injEq] at h
    exact ⟨h.2.symm, fun _ j h1 h2 => absurd h1 (by omega)⟩
  | m + 1, i, P, hP, r, Q, h => by
    unfold fsc at h
    rw [if_neg hP] at h
    split at h
    · next hf =>
      obtain ⟨h1, h2⟩ := fsc_B m (i + 1) P hP r Q h
      refine ⟨h1, fun hr j j1 j2 => ?_⟩
      by_cases e : j = i
      · subst e; exact hf
      · exact h2 (by omega) j (by omega) (by omega)
    · simp only [Prod.mk.injEq] at h
      exact ⟨h.2.symm, fun hr => by omega⟩
theorem fsc_A : ∀ (m i : Nat), ∀ Q, fsc g m i 0 = (i + m, Q) → (∀ j, j < i → g j ≠ 59) → (Q = 0 → ∀ j, j < i + m → g j ≠ 59) ∧ (Q ≠ 0 → ∃ e, i ≤ e ∧ e < i + m ∧ g e = 59 ∧ Q = e / 4 + 1 ∧ e % 4 = 3 ∧ 3 < e ∧ (∀ j, i ≤ j → j ≤ e → fpl g j = true) ∧ (∀ j, j < e → g j ≠ 59) ∧ (∀ j, e < j → j < i + m → fmt g j Q = true))
  | 0, i, Q, h, hj => by
    simp only [fsc, Prod.mk.injEq] at h
    exact ⟨fun _ j j1 => hj j (by omega), fun q => absurd h.2.symm q⟩
  | m + 1, i, Q, h, hj => by
    unfold fsc at h
    rw [if_pos rfl] at h
    split at h
    · next hf =>
      by_cases e59 : g i = 59
      · rw [if_pos e59, show i + (m + 1) = i + 1 + m by omega] at h
        obtain ⟨h1, h2⟩ := fsc_B m (i + 1) (i / 4 + 1) (by omega) _ _ h
        have hp := fpl_59 hf e59
        refine ⟨fun q => by omega, fun _ => ⟨i, by omega, by omega, e59, h1, hp.1, hp.2, fun j j1 j2 => ?_, hj, fun j j1 j2 => ?_⟩⟩
        · rw [show j = i by omega]; exact hf
        · rw [h1]; exact h2 rfl j (by omega) (by omega)
      · rw [if_neg e59, show i + (m + 1) = i + 1 + m by omega] at h
        have hj' : ∀ j, j < i + 1 → g j ≠ 59 := fun j j1 => by
          by_cases e : j = i
          · subst e; exact e59
          · exact hj j (by omega)
        obtain ⟨h1, h2⟩ := fsc_A m (i + 1) Q h hj'
        refine ⟨fun q j j1 => h1 q j (by omega), fun q => ?_⟩
        obtain ⟨e, e1, e2, e3, e4, e5, e6, e7, e8, e9⟩ := h2 q
        refine ⟨e, by omega, by omega, e3, e4, e5, e6, fun j j1 j2 => ?_, e8, fun j j1 j2 => e9 j j1 (by omega)⟩
        by_cases q : j = i
        · subst q; exact hf
        · exact e7 j (by omega) j2
    · simp only [Prod.mk.injEq] at h
      omega
/-- what a river's page is -/
def rvF (g : Nat → Nat) (n P : Nat) : Prop := 2 ≤ P ∧ P ≤ 6 ∧ n % 4 = 3 ∧ 4 * P + 3 ≤ n ∧ n ≤ 4 * P + 19 ∧ (∀ j, j < 4 * P → fpl g j = true) ∧ g (4 * P - 1) = 59 ∧ (∀ j, j < 4 * P - 1 → g j ≠ 59) ∧ (∀ j, 4 * P ≤ j → j < n → fmt g j P = true)
theorem rv_of {P : Nat} (h : fsc g n 0 0 = (n, P)) (hP : P ≠ 0) (h3 : n % 4 = 3) : rvF g n P := by
  obtain ⟨-, h2⟩ := fsc_A n 0 P (by rw [Nat.zero_add]; exact h) (fun j hj => absurd hj (by omega))
  obtain ⟨e, e1, e2, e3, e4, e5, e6, e7, e8, e9⟩ := h2 hP
  have hP4 : 4 * P = e + 1 := by omega
  have h23 : e ≤ 23 := by
    by_cases q : e ≤ 23
    · exact q
    · exact absurd (fpl_23 (e7 23 (by omega) (by omega))) (e8 23 (by omega))
  have h19 : n ≤ 4 * P + 19 := by
    by_cases q : n ≤ 4 * P + 19
    · exact q
    · have := e9 (4 * P + 19) (by omega) (by omega)
      unfold fmt at this
      rw [if_neg (by omega), if_neg (by omega), if_neg (by omega)] at this
      have := of_decide_eq_true this
      omega
  refine ⟨by omega, by omega, h3, by omega, h19, fun j hj => e7 j (by omega) (by omega), ?_, fun j hj => e8 j (by omega), fun j j1 j2 => e9 j (by omega) (by omega)⟩
  rw [show 4 * P - 1 = e by omega]; exact e3
/-- the river that a page is -/
def rP (g : Nat → Nat) (n P : Nat) : rA := fun a b => match a with
  | 0 => if b = 0 then P else if b = 1 then (n + 1) / 4 - P else 0
  | 1 => (kdL (g (4 * b))).toNat
  | 2 => if g (4 * b + 1) = 114 then 1 else 0
  | 3 => if g (4 * b + 1) = 114 then 1 else 0
  | 4 => g (4 * b + 2) - 48
  | 5 => g (4 * (P + b)) - 48
  | 6 => g (4 * (P + b) + 1) - 48
  | 7 => g (4 * (P + b) + 2) - 48
  | _ => 0
theorem rv_p {P p : Nat} (h : rvF g n P) (hp : p < P) : 0 ≤ kdL (g (4 * p)) ∧ (g (4 * p + 1) = 108 ∨ g (4 * p + 1) = 114) ∧ 48 ≤ g (4 * p + 2) ∧ g (4 * p + 2) ≤ 57 := by
  obtain ⟨h1, h2, h3, h4, h5, h6, h7, h8, h9⟩ := h
  have a0 := h6 (4 * p) (by omega)
  have a1 := h6 (4 * p + 1) (by omega)
  have a2 := h6 (4 * p + 2) (by omega)
  unfold fpl at a0 a1 a2
  rw [if_pos (by omega)] at a0
  rw [if_neg (by omega), if_pos (by omega)] at a1
  rw [if_neg (by omega), if_neg (by omega), if_pos (by omega)] at a2
  have a0 := of_decide_eq_true a0
  have a1 := of_decide_eq_true a1
  have a2 := of_decide_eq_true a2
  exact ⟨a0, a1, a2.1, a2.2⟩
theorem rv_m {P m : Nat} (h : rvF g n P) (hm : m < (n + 1) / 4 - P) : 48 ≤ g (4 * (P + m)) ∧ g (4 * (P + m)) < 48 + P ∧ 48 ≤ g (4 * (P + m) + 1) ∧ g (4 * (P + m) + 1) < 48 + P ∧ 49 ≤ g (4 * (P + m) + 2) ∧ g (4 * (P + m) + 2) ≤ 57 := by
  obtain ⟨h1, h2, h3, h4, h5, h6, h7, h8, h9⟩ := h
  have a0 := h9 (4 * (P + m)) (by omega) (by omega)
  have a1 := h9 (4 * (P + m) + 1) (by omega) (by omega)
  have a2 := h9 (4 * (P + m) + 2) (by omega) (by omega)
  unfold fmt at a0 a1 a2
  rw [if_pos (by omega)] at a0
  rw [if_neg (by omega), if_pos (by omega)] at a1
  rw [if_neg (by omega), if_neg (by omega), if_pos (by omega)] at a2
  have a0 := of_decide_eq_true a0
  have a1 := of_decide_eq_true a1
  have a2 := of_decide_eq_true a2
  omega
theorem rv_V {P : Nat} (h : rvF g n P) : rV (rP g n P) := by
  have hp := fun p hp => rv_p (p := p) h hp
  have hm := fun m hm => rv_m (m := m) h hm
  obtain ⟨h1, h2, h3, h4, h5, h6, h7, h8, h9⟩ := h
  refine ⟨h2, by show (n + 1) / 4 - P ≤ 5; omega, Nat.zero_le _, Nat.zero_le _, fun p hp' => ?_, fun m hm' => ?_, fun i hi => absurd hi (Nat.not_lt_zero _), ?_⟩
  · have := hp p hp'
    have k4 := (kdL_in (g (4 * p))).2
    refine ⟨?_, ?_, ?_, ?_⟩
    · show (kdL (g (4 * p))).toNat < 5; omega
    · show (if g (4 * p + 1) = 114 then 1 else 0) < 2; split <;> omega
    · show (if g (4 * p + 1) = 114 then 1 else 0) < 2; split <;> omega
    · show g (4 * p + 2) - 48 < 10; omega
  · have := hm m hm'
    refine ⟨?_, ?_, ?_, ?_, Nat.zero_le _⟩
    · show g (4 * (P + m)) - 48 < P; omega
    · show g (4 * (P + m) + 1) - 48 < P; omega
    · show 1 ≤ g (4 * (P + m) + 2) - 48; omega
    · show g (4 * (P + m) + 2) - 48 ≤ 9; omega
  · show 0 < (n + 1) / 4 - P ↔ 0 < P; omega
end Rv
section Rc
variable {σ : jSt} {d : Nat} {k : Int32 → jSt → Prop} {g : Nat → Nat} {n : Nat}
theorem w_peopleTold (hV : pV g n) (hX : pX g n σ) {post : jPo} : ∀ (m j : Nat), j + m = 12 → (∀ i, i < j → g (4 * i + 3) ≠ 59 ∨ n ≤ 4 * i + 3) →
    ((∀ i, 4 * i + 3 < n → g (4 * i + 3) ≠ 59) → post (some (.int (iI 0))) σ) → (∀ i, 4 * i + 3 < n → g (4 * i + 3) = 59 → (∀ i', i' < i → g (4 * i' + 3) ≠ 59) → post (some (.int (iI ((i + 1 : Nat) : Int)))) σ) →
    jv_wp (d + 1) post (20, 2, [some (.ref 1), some (.int (iI ((4 * j + 3 : Nat) : Int)))], [], σ) := by
  have h44 := hV.1
  intro m
  induction m with
  | zero =>
    intro j hj hn h0 h1
    refine ok_X3_peopleTold_L2 ⟨fun _ => h0 (fun i hi => ?_), fun c => absurd ?_ c⟩
    · rcases hn i (by omega) with q | q
      · exact q
      · omega
    · rw [hX.1, iI_le ⟨by omega, by omega⟩ ⟨by omega, by omega⟩]; omega
  | succ m ih =>
    intro j hj hn h0 h1
    refine ok_X3_peopleTold_L2 ?_
    unfold vc_X3_peopleTold_L2
    rw [hX.1, iI_le ⟨by omega, by omega⟩ ⟨by omega, by omega⟩]
    refine ⟨fun c => h0 (fun i hi => ?_), fun c => ?_⟩
    · rcases hn i (by omega) with q | q
      · exact q
      · omega
    · have hg := hV.2 (4 * j + 3) (by omega)
      have hc : (iI ((4 * j + 3 : Nat) : Int)).toNatClampNeg = 4 * j + 3 := iI_clamp (by omega)
      have hin : vp_in (iI ((4 * j + 3 : Nat) : Int)) 44 := (iI_in (by omega) 44).mpr (by omega)
      have hq : iI ((4 * j + 3 : Nat) : Int) / iI 4 = iI (((4 * j + 3) / 4 : Nat) : Int) := iI_div (b := 4) (by omega) (by omega) (by omega)
      rw [hc, hX.2 _ (by omega), iI_eq ⟨by omega, by omega⟩ ⟨by omega, by omega⟩, hq, iI_add, iI_add, show ((4 * j + 3 : Nat) : Int) + 4 = ((4 * (j + 1) + 3 : Nat) : Int) by omega, show (((4 * j + 3) / 4 : Nat) : Int) + 1 = ((j + 1 : Nat) : Int) by omega]
      refine ⟨hin, fun c2 => ih (j + 1) (by omega) (fun i hi => ?_) h0 h1, fun c2 => h1 j (by omega) (by omega) (fun i hi => ?_)⟩
      · by_cases e : i = j
        · subst e; exact Or.inl (by omega)
        · exact hn i (by omega)
      · rcases hn i hi with q | q
        · exact q
        · omega
theorem q_peopleTold (hV : pV g n) (hX : pX g n σ) {P : Nat} (hf : fsc g n 0 0 = (n, P)) (h : k (iI (P : Nat)) σ) : jq_I (d + 1) 20 [.ref 1] σ k := by
  obtain ⟨q0, q1⟩ := fsc_A n 0 P (by rw [Nat.zero_add]; exact hf) (fun j hj => absurd hj (by omega))
  refine ok_X3_peopleTold (w_peopleTold hV hX 12 0 (by omega) (fun i hi => absurd hi (by omega)) (fun hno => ?_) (fun i hi he hf => ?_))
  · by_cases e : P = 0
    · rw [e] at h; exact ⟨_, rfl, h⟩
    · obtain ⟨x, e1, e2, e3, e4, e5, e6, e7, e8, e9⟩ := q1 e
      exact absurd (by rw [show 4 * (x / 4) + 3 = x by omega]; exact e3) (hno (x / 4) (by omega))
  · by_cases e : P = 0
    · exact absurd he (q0 e _ (by omega))
    · obtain ⟨x, e1, e2, e3, e4, e5, e6, e7, e8, e9⟩ := q1 e
      have hx : i = x / 4 := by
        rcases Nat.lt_trichotomy i (x / 4) with q | q | q
        · exact absurd he (e8 _ (by omega))
        · exact q
        · exact absurd (by rw [show 4 * (x / 4) + 3 = x by omega]; exact e3) (hf (x / 4) q)
      rw [e4, ← hx] at h
      exact ⟨_, rfl, h⟩
/-- the page is a river -/
def whl (g : Nat → Nat) (n : Nat) : Bool := decide (n % 4 = 3 ∧ (fsc g n 0 0).1 = n ∧ (fsc g n 0 0).2 ≠ 0)
theorem fsc_le : ∀ (m i P : Nat), (fsc g m i P).1 ≤ i + m
  | 0, i, P => by simp [fsc]
  | m + 1, i, P => by
    unfold fsc
    split
    · split
      · exact Nat.le_trans (fsc_le m (i + 1) _) (by omega)
      · simp
    · split
      · exact Nat.le_trans (fsc_le m (i + 1) _) (by omega)
      · simp
theorem fsc_P6 (hV : pV g n) : fsc g n 0 0 = (n, (fsc g n 0 0).2) → (fsc g n 0 0).2 ≤ 11 := by
  intro hf
  have h44 := hV.1
  obtain ⟨-, q1⟩ := fsc_A n 0 _ (by rw [Nat.zero_add]; exact hf) (fun j hj => absurd hj (by omega))
  by_cases e : (fsc g n 0 0).2 = 0
  · omega
  · obtain ⟨x, e1, e2, e3, e4, e5, e6, e7, e8, e9⟩ := q1 e
    omega
theorem q_isWhole (hV : pV g n) (hX : pX g n σ) (h : k (jb (whl g n)) σ) : jq_I (d + 9) 19 [.ref 1] σ k := by
  have h44 := hV.1
  have hle := fsc_le (g := g) n 0 0
  have hr : iI (n : Int) - iI (n : Int) / iI 4 * iI 4 = iI ((n % 4 : Nat) : Int) := iI_rem (b := 4) (by omega) (by omega) (by omega)
  refine ok_X3_isWhole ?_
  unfold vc_X3_isWhole
  rw [hX.1, hr, iI_eq ⟨by omega, by omega⟩ ⟨by omega, by omega⟩]
  unfold whl at h
  refine ⟨fun c => ⟨_, rfl, ?_⟩, fun c => q_firstFault hV hX ?_⟩
  · rw [decide_eq_false (by omega)] at h; rw [jb_f]; exact h
  · rw [hX.1, iI_eq ⟨by omega, by omega⟩ ⟨by omega, by omega⟩]
    refine ⟨fun c2 => ⟨_, rfl, ?_⟩, fun c2 => ?_⟩
    · rw [decide_eq_false (by omega)] at h; rw [jb_f]; exact h
    · have hf : fsc g n 0 0 = (n, (fsc g n 0 0).2) := Prod.ext (by show (fsc g n 0 0).1 = n; omega) rfl
      have h11 := fsc_P6 hV hf
      refine q_peopleTold hV hX hf ?_
      rw [iI_le0 ⟨by omega, by omega⟩]
      refine ⟨fun c3 => ⟨_, rfl, ?_⟩, fun c3 => ⟨_, rfl, ?_⟩⟩
      · rw [decide_eq_false (by omega)] at h; rw [jb_f]; exact h
      · rw [decide_eq_true (by omega)] at h; rw [jb_t]; exact h
end Rc
