/-! fog: lowest terms, shares, both sides' sums -/
def frI (D P i j v w : Nat) : Prop := ∃ a b, a ≤ i ∧ b ≤ j ∧ P = v * (2 ^ a * 5 ^ b) ∧ w = 2 ^ (D - a) * 5 ^ (D - b) ∧ (a = i ∨ v % 2 = 1) ∧ (b = j ∨ v % 5 ≠ 0)
theorem frI_0 (D P : Nat) : frI D P 0 0 P (10 ^ D) := ⟨0, 0, Nat.le_refl _, Nat.le_refl _, by simp, by rw [Nat.sub_zero, ← Nat.mul_pow], Or.inl rfl, Or.inl rfl⟩
theorem frI_2 {D P i j v w : Nat} (h : frI D P i j v w) (hi : i < D) (e : v % 2 = 0) : frI D P (i + 1) j (v / 2) (w / 2) := by
  obtain ⟨a, b, h1, h2, h3, h4, h5, h6⟩ := h
  have ha : a = i := by omega
  subst ha
  obtain ⟨u, rfl⟩ : ∃ u, v = 2 * u := ⟨v / 2, by omega⟩
  refine ⟨a + 1, b, Nat.le_refl _, h2, ?_, ?_, Or.inl rfl, ?_⟩
  · rw [show 2 * u / 2 = u by omega, h3, Nat.pow_succ]; grind
  · rw [h4, show D - a = D - (a + 1) + 1 by omega, Nat.pow_succ, show 2 ^ (D - (a + 1)) * 2 * 5 ^ (D - b) = 2 ^ (D - (a + 1)) * 5 ^ (D - b) * 2 by grind]
    exact Nat.mul_div_cancel _ (by omega)
  · rw [show 2 * u / 2 = u by omega]; omega
theorem frI_2' {D P i j v w : Nat} (h : frI D P i j v w) (e : ¬ v % 2 = 0) : frI D P (i + 1) j v w := by
  obtain ⟨a, b, h1, h2, h3, h4, h5, h6⟩ := h
  exact ⟨a, b, by omega, h2, h3, h4, Or.inr (by omega), h6⟩
theorem frI_5 {D P i j v w : Nat} (h : frI D P i j v w) (hj : j < D) (e : v % 5 = 0) : frI D P i (j + 1) (v / 5) (w / 5) := by
  obtain ⟨a, b, h1, h2, h3, h4, h5, h6⟩ := h
  have hb : b = j := by omega
  subst hb
  obtain ⟨u, rfl⟩ : ∃ u, v = 5 * u := ⟨v / 5, by omega⟩
  refine ⟨a, b + 1, h1, Nat.le_refl _, ?_, ?_, ?_, Or.inl rfl⟩
  · rw [show 5 * u / 5 = u by omega, h3, Nat.pow_succ 5]; grind
  · rw [h4, show D - b = D - (b + 1) + 1 by omega, Nat.pow_succ 5, ← Nat.mul_assoc]
    exact Nat.mul_div_cancel _ (by omega)
  · rw [show 5 * u / 5 = u by omega]; omega
theorem frI_5' {D P i j v w : Nat} (h : frI D P i j v w) (e : ¬ v % 5 = 0) : frI D P i (j + 1) v w := by
  obtain ⟨a, b, h1, h2, h3, h4, h5, h6⟩ := h
  exact ⟨a, b, h1, by omega, h3, h4, h5, Or.inr e⟩
theorem cop2 {v : Nat} (h : v % 2 = 1) : Nat.gcd v 2 = 1 := by rw [Nat.gcd_comm, Nat.gcd_rec, h]; rfl
theorem cop5 {v : Nat} (h : v % 5 ≠ 0) : Nat.gcd v 5 = 1 := by
  rw [Nat.gcd_comm, Nat.gcd_rec]
  rcases (show v % 5 = 1 ∨ v % 5 = 2 ∨ v % 5 = 3 ∨ v % 5 = 4 by omega) with e | e | e | e <;> rw [e] <;> rfl
theorem frI_D {D P v w : Nat} (h : frI D P D D v w) : v = P / Nat.gcd (10 ^ D) P ∧ w = 10 ^ D / Nat.gcd (10 ^ D) P := by
  obtain ⟨a, b, h1, h2, h3, h4, h5, h6⟩ := h
  have e10 : 10 ^ D = w * (2 ^ a * 5 ^ b) := by
    rw [show (10 : Nat) ^ D = 2 ^ D * 5 ^ D from Nat.mul_pow 2 5 D, h4]
    have e2 : (2 : Nat) ^ D = 2 ^ (D - a) * 2 ^ a := by rw [← Nat.pow_add]; congr 1; omega
    have e5 : (5 : Nat) ^ D = 5 ^ (D - b) * 5 ^ b := by rw [← Nat.pow_add]; congr 1; omega
    rw [e2, e5]; grind
  have hc : Nat.gcd v w = 1 := by
    rw [h4]
    have g2 : Nat.Coprime v (2 ^ (D - a)) := by
      rcases h5 with e | e
      · rw [e, Nat.sub_self]; exact Nat.coprime_one_right v
      · exact Nat.Coprime.pow_right _ (cop2 e)
    have g5 : Nat.Coprime v (5 ^ (D - b)) := by
      rcases h6 with e | e
      · rw [e, Nat.sub_self]; exact Nat.coprime_one_right v
      · exact Nat.Coprime.pow_right _ (cop5 e)
    exact Nat.Coprime.mul_right g2 g5
  have hp : 0 < 2 ^ a * 5 ^ b := Nat.mul_pos (Nat.pow_pos (by omega)) (Nat.pow_pos (by omega))
  have hg : Nat.gcd (10 ^ D) P = 2 ^ a * 5 ^ b := by rw [e10, h3, Nat.gcd_mul_right, Nat.gcd_comm, hc, Nat.one_mul]
  rw [hg, e10, h3, Nat.mul_div_cancel _ hp, Nat.mul_div_cancel _ hp]
  exact ⟨rfl, rfl⟩
theorem p10_8 {D : Nat} (h : D ≤ 8) : 10 ^ D ≤ 100000000 := Nat.le_trans (Nat.pow_le_pow_right (by omega) h) (by decide)
section Low
variable {σ : jSt} {d : Nat} {k : Int32 → jSt → Prop}
theorem w_low2 {post : jPo} {D P : Nat} (hD : D ≤ 8) {x tl : Int32} (h0 : tl = 0 → post (some (.int (iI ((10 ^ D / Nat.gcd (10 ^ D) P : Nat) : Int)))) σ) (h1 : ¬ tl = 0 → post (some (.int (iI ((P / Nat.gcd (10 ^ D) P : Nat) : Int)))) σ) :
    ∀ (n i v w : Nat), i + n = D → frI D P i i v w → v < 2147483648 → w < 2147483648 → jv_wp (d + 1) post (14, 30, [some (.int x), some (.int (iI D)), some (.int tl), some (.int (iI v)), some (.int (iI w)), some (.int (iI i))], [], σ) := by
  intro n
  induction n with
  | zero =>
    intro i v w hi hf hv hw
    have e : i = D := by omega
    subst e
    obtain ⟨e1, e2⟩ := frI_D hf
    refine ok_X2_lowestTerms_L30 ⟨fun _ => ⟨fun c => ?_, fun c => ?_⟩, fun c => absurd ?_ c⟩
    · rw [e2]; exact h0 c
    · rw [e1]; exact h1 c
    · rw [iI_le ⟨by omega, by omega⟩ ⟨by omega, by omega⟩]; omega
  | succ n ih =>
    intro i v w hi hf hv hw
    have d2 : ∀ z : Nat, z < 2147483648 → iI (z : Int) / iI 2 = iI ((z / 2 : Nat) : Int) := fun z hz => iI_div (b := 2) hz (by omega) (by omega)
    have d5 : ∀ z : Nat, z < 2147483648 → iI (z : Int) / iI 5 = iI ((z / 5 : Nat) : Int) := fun z hz => iI_div (b := 5) hz (by omega) (by omega)
    have m2 : ∀ z : Nat, z < 2147483648 → iI (z : Int) - iI (z : Int) / iI 2 * iI 2 = iI ((z % 2 : Nat) : Int) := fun z hz => iI_rem (b := 2) hz (by omega) (by omega)
    have m5 : ∀ z : Nat, z < 2147483648 → iI (z : Int) - iI (z : Int) / iI 5 * iI 5 = iI ((z % 5 : Nat) : Int) := fun z hz => iI_rem (b := 5) hz (by omega) (by omega)
    have z2 : ∀ z : Nat, iI ((z % 2 : Nat) : Int) = 0 ↔ z % 2 = 0 := fun z => by rw [iI_eq0 ⟨by omega, by omega⟩]; omega
    have z5 : ∀ z : Nat, iI ((z % 5 : Nat) : Int) = 0 ↔ z % 5 = 0 := fun z => by rw [iI_eq0 ⟨by omega, by omega⟩]; omega
    refine ok_X2_lowestTerms_L30 ⟨fun c => absurd c ?_, fun _ => ?_⟩
    · rw [iI_le ⟨by omega, by omega⟩ ⟨by omega, by omega⟩]; omega
    · rw [m2 v hv, m5 v hv, d2 v hv]
      dsimp only
      rw [m5 (v / 2) (by omega), d5 v hv, d2 w hw, d5 (v / 2) (by omega), d5 w hw, d5 (w / 2) (by omega), z2, z5, z5, iI_add, show (i : Int) + 1 = ((i + 1 : Nat) : Int) by omega]
      refine ⟨fun c => ⟨fun c2 => ?_, fun c2 => ?_⟩, fun c => ⟨fun c2 => ?_, fun c2 => ?_⟩⟩
      · exact ih (i + 1) v w (by omega) (frI_5' (frI_2' hf c) c2) hv hw
      · exact ih (i + 1) (v / 5) (w / 5) (by omega) (frI_5 (frI_2' hf c) (by omega) c2) (by omega) (by omega)
      · exact ih (i + 1) (v / 2) (w / 2) (by omega) (frI_5' (frI_2 hf (by omega) c) c2) (by omega) (by omega)
      · exact ih (i + 1) (v / 2 / 5) (w / 2 / 5) (by omega) (frI_5 (frI_2 hf (by omega) c) (by omega) c2) (by omega) (by omega)
theorem p10_s (i : Nat) : iI ((10 ^ i : Nat) : Int) * iI 10 = iI ((10 ^ (i + 1) : Nat) : Int) := by
  rw [iI_mul, Nat.pow_succ, Int.natCast_mul]; rfl
theorem w_low1 {post : jPo} {D : Nat} (hD : D ≤ 8) {x tl : Int32} (h : jv_wp (d + 1) post (14, 30, [some (.int x), some (.int (iI D)), some (.int tl), some (.int x), some (.int (iI ((10 ^ D : Nat) : Int))), some (.int (iI 0))], [], σ)) :
    ∀ (n i : Nat), i + n = D → jv_wp (d + 1) post (14, 8, [some (.int x), some (.int (iI D)), some (.int tl), some (.int x), some (.int (iI ((10 ^ i : Nat) : Int))), some (.int (iI i))], [], σ) := by
  intro n
  induction n with
  | zero =>
    intro i hi
    have e : i = D := by omega
    subst e
    refine ok_X2_lowestTerms_L8 ⟨fun _ => h, fun c => absurd ?_ c⟩
    rw [iI_le ⟨by omega, by omega⟩ ⟨by omega, by omega⟩]; omega
  | succ n ih =>
    intro i hi
    refine ok_X2_lowestTerms_L8 ⟨fun c => absurd c ?_, fun _ => ?_⟩
    · rw [iI_le ⟨by omega, by omega⟩ ⟨by omega, by omega⟩]; omega
    · rw [p10_s, iI_add, show (i : Int) + 1 = ((i + 1 : Nat) : Int) by omega]
      exact ih (i + 1) (by omega)
theorem q_lowestTerms {D P : Nat} (hD : D ≤ 8) (hP : P ≤ 100000000) {tl : Int32} (h0 : tl = 0 → k (iI ((10 ^ D / Nat.gcd (10 ^ D) P : Nat) : Int)) σ) (h1 : ¬ tl = 0 → k (iI ((P / Nat.gcd (10 ^ D) P : Nat) : Int)) σ) : jq_I (d + 1) 14 [.int (iI P), .int (iI D), .int tl] σ k := by
  have := p10_8 hD
  exact ok_X2_lowestTerms (w_low1 hD (w_low2 hD (fun c => ⟨_, rfl, h0 c⟩) (fun c => ⟨_, rfl, h1 c⟩) D 0 P _ (by omega) (frI_0 D P) (by omega) (by omega)) D 0 (by omega))
end Low
