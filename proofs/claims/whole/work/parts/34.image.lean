/-! image and restore: what is seen is copied -/
section Im
variable {σ : jSt} {d : Nat}
theorem w_ssk {post : jPo} : ∀ (n i : Nat) (σ : jSt), i + n = 6 → (∀ j, j < 6 → σ.1 14 j = 0 ∨ σ.1 14 j = 1) → (∀ σ', σ'.2 = σ.2 → (∀ c k, c ≠ 24 → c ≠ 25 → c ≠ 26 → σ'.1 c k = σ.1 c k) → (∀ j, i ≤ j → j < 6 → σ'.1 24 j = σ.1 12 j ∧ σ'.1 25 j = σ.1 13 j ∧ σ'.1 26 j = σ.1 14 j) → (∀ j, j < i → σ'.1 24 j = σ.1 24 j ∧ σ'.1 25 j = σ.1 25 j ∧ σ'.1 26 j = σ.1 26 j) → post none σ') → jv_wp (d + 1) post (30, 10, [some (.ref 23), some (.ref 11), some (.int (iI i))], [], σ) := by
  intro n
  induction n with
  | zero =>
    intro i σ hi hb h
    refine ok_X5_copyFrom_k_L10 ⟨fun _ => h σ rfl (fun _ _ _ _ _ => rfl) (fun j h1 h2 => absurd h1 (by omega)) (fun _ _ => ⟨rfl, rfl, rfl⟩), fun c => absurd ?_ c⟩
    rw [iI_le ⟨by omega, by omega⟩ ⟨by omega, by omega⟩]; omega
  | succ n ih =>
    intro i σ hi hb h
    have hc : (iI (i : Int)).toNatClampNeg = i := iI_clamp (by omega)
    have hin : vp_in (iI (i : Int)) 6 := (iI_in (by omega) 6).mpr (by omega)
    refine ok_X5_copyFrom_k_L10 ⟨fun c => absurd c ?_, fun _ => ⟨hin, hin, hin, hin, hin, hin, ?_⟩⟩
    · rw [iI_le ⟨by omega, by omega⟩ ⟨by omega, by omega⟩]; omega
    dsimp only
    rw [hc, iI_add, show (i : Int) + 1 = ((i + 1 : Nat) : Int) by omega]
    simp (decide := true) only [jv_u_at, false_and, ite_false]
    refine ⟨hb i (by omega), ?_⟩
    generalize hs : jv_u (jv_u (jv_u σ 24 i (σ.1 12 i)) 25 i (σ.1 13 i)) 26 i (σ.1 14 i) = s
    have he : ∀ c k, ¬ (c = 24 ∧ k = i) → ¬ (c = 25 ∧ k = i) → ¬ (c = 26 ∧ k = i) → s.1 c k = σ.1 c k := fun c k e1 e2 e3 => by rw [← hs, jv_u_at, if_neg e3, jv_u_at, if_neg e2, jv_u_at, if_neg e1]
    have t1 : s.1 24 i = σ.1 12 i := by rw [← hs, jv_u_at, if_neg (by omega), jv_u_at, if_neg (by omega), jv_u_at, if_pos ⟨rfl, rfl⟩]
    have t2 : s.1 25 i = σ.1 13 i := by rw [← hs, jv_u_at, if_neg (by omega), jv_u_at, if_pos ⟨rfl, rfl⟩]
    have t3 : s.1 26 i = σ.1 14 i := by rw [← hs, jv_u_at, if_pos ⟨rfl, rfl⟩]
    have t0 : s.2 = σ.2 := by rw [← hs]; rfl
    refine ih (i + 1) s (by omega) (fun j hj => by rw [he 14 j (by omega) (by omega) (by omega)]; exact hb j hj) (fun σ' h1 h2 h3 h4 => h σ' (h1.trans t0) (fun c k e1 e2 e3 => (h2 c k e1 e2 e3).trans (he c k (by omega) (by omega) (by omega))) (fun j k1 k2 => ?_) (fun j k1 => ?_))
    · by_cases e : j = i
      · have := h4 j (by omega)
        rw [e] at this ⊢
        exact ⟨this.1.trans t1, this.2.1.trans t2, this.2.2.trans t3⟩
      · have := h3 j (by omega) k2
        exact ⟨this.1.trans (he 12 j (by omega) (by omega) (by omega)), this.2.1.trans (he 13 j (by omega) (by omega) (by omega)), this.2.2.trans (he 14 j (by omega) (by omega) (by omega))⟩
    · have := h4 j (by omega)
      exact ⟨this.1.trans (he 24 j (by omega) (by omega) (by omega)), this.2.1.trans (he 25 j (by omega) (by omega) (by omega)), this.2.2.trans (he 26 j (by omega) (by omega) (by omega))⟩
theorem w_ssr {post : jPo} : ∀ (n i : Nat) (σ : jSt), i + n = 6 → (∀ j, j < 6 → σ.1 26 j = 0 ∨ σ.1 26 j = 1) → (∀ σ', σ'.2 = σ.2 → (∀ c k, c ≠ 12 → c ≠ 13 → c ≠ 14 → σ'.1 c k = σ.1 c k) → (∀ j, i ≤ j → j < 6 → σ'.1 12 j = σ.1 24 j ∧ σ'.1 13 j = σ.1 25 j ∧ σ'.1 14 j = σ.1 26 j) → (∀ j, j < i → σ'.1 12 j = σ.1 12 j ∧ σ'.1 13 j = σ.1 13 j ∧ σ'.1 14 j = σ.1 14 j) → post none σ') → jv_wp (d + 1) post (30, 10, [some (.ref 11), some (.ref 23), some (.int (iI i))], [], σ) := by
  intro n
  induction n with
  | zero =>
    intro i σ hi hb h
    refine ok_X5_copyFrom_r_L10 ⟨fun _ => h σ rfl (fun _ _ _ _ _ => rfl) (fun j h1 h2 => absurd h1 (by omega)) (fun _ _ => ⟨rfl, rfl, rfl⟩), fun c => absurd ?_ c⟩
    rw [iI_le ⟨by omega, by omega⟩ ⟨by omega, by omega⟩]; omega
  | succ n ih =>
    intro i σ hi hb h
    have hc : (iI (i : Int)).toNatClampNeg = i := iI_clamp (by omega)
    have hin : vp_in (iI (i : Int)) 6 := (iI_in (by omega) 6).mpr (by omega)
    refine ok_X5_copyFrom_r_L10 ⟨fun c => absurd c ?_, fun _ => ⟨hin, hin, hin, hin, hin, hin, ?_⟩⟩
    · rw [iI_le ⟨by omega, by omega⟩ ⟨by omega, by omega⟩]; omega
    dsimp only
    rw [hc, iI_add, show (i : Int) + 1 = ((i + 1 : Nat) : Int) by omega]
    simp (decide := true) only [jv_u_at, false_and, ite_false]
    refine ⟨hb i (by omega), ?_⟩
    generalize hs : jv_u (jv_u (jv_u σ 12 i (σ.1 24 i)) 13 i (σ.1 25 i)) 14 i (σ.1 26 i) = s
    have he : ∀ c k, ¬ (c = 12 ∧ k = i) → ¬ (c = 13 ∧ k = i) → ¬ (c = 14 ∧ k = i) → s.1 c k = σ.1 c k := fun c k e1 e2 e3 => by rw [← hs, jv_u_at, if_neg e3, jv_u_at, if_neg e2, jv_u_at, if_neg e1]
    have t1 : s.1 12 i = σ.1 24 i := by rw [← hs, jv_u_at, if_neg (by omega), jv_u_at, if_neg (by omega), jv_u_at, if_pos ⟨rfl, rfl⟩]
    have t2 : s.1 13 i = σ.1 25 i := by rw [← hs, jv_u_at, if_neg (by omega), jv_u_at, if_pos ⟨rfl, rfl⟩]
    have t3 : s.1 14 i = σ.1 26 i := by rw [← hs, jv_u_at, if_pos ⟨rfl, rfl⟩]
    have t0 : s.2 = σ.2 := by rw [← hs]; rfl
    refine ih (i + 1) s (by omega) (fun j hj => by rw [he 26 j (by omega) (by omega) (by omega)]; exact hb j hj) (fun σ' h1 h2 h3 h4 => h σ' (h1.trans t0) (fun c k e1 e2 e3 => (h2 c k e1 e2 e3).trans (he c k (by omega) (by omega) (by omega))) (fun j k1 k2 => ?_) (fun j k1 => ?_))
    · by_cases e : j = i
      · have := h4 j (by omega)
        rw [e] at this ⊢
        exact ⟨this.1.trans t1, this.2.1.trans t2, this.2.2.trans t3⟩
      · have := h3 j (by omega) k2
        exact ⟨this.1.trans (he 24 j (by omega) (by omega) (by omega)), this.2.1.trans (he 25 j (by omega) (by omega) (by omega)), this.2.2.trans (he 26 j (by omega) (by omega) (by omega))⟩
    · have := h4 j (by omega)
      exact ⟨this.1.trans (he 12 j (by omega) (by omega) (by omega)), this.2.1.trans (he 13 j (by omega) (by omega) (by omega)), this.2.2.trans (he 14 j (by omega) (by omega) (by omega))⟩
end Im
