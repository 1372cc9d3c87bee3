/-! the reference: rows copied -/
/-- row b is row a now, up to n; nothing else has changed -/
def cpS (a b n : Nat) (σ σ' : jSt) : Prop := σ'.2 = σ.2 ∧ (∀ c k, c ≠ b → σ'.1 c k = σ.1 c k) ∧ (∀ k, k < n → σ'.1 b k = σ.1 a k) ∧ (∀ k, n ≤ k → σ'.1 b k = σ.1 b k)
section Cp
variable {σ : jSt} {d : Nat} {K : jSt → Prop}
theorem w_cp_43_45 {post : jPo} : ∀ (n i : Nat) (σ : jSt), i + n = 5 → (∀ σ', σ'.2 = σ.2 → (∀ c k, c ≠ 45 → σ'.1 c k = σ.1 c k) → (∀ k, i ≤ k → k < 5 → σ'.1 45 k = σ.1 43 k) → (∀ k, (k < i ∨ 5 ≤ k) → σ'.1 45 k = σ.1 45 k) → post none σ') → jv_wp (d + 1) post (79, 2, [some (.ref 43), some (.ref 45), some (.int (iI i))], [], σ) := by
  intro n
  induction n with
  | zero =>
    intro i σ hi h
    refine ok_X9_copy_43_45_L2 ⟨fun _ => h σ rfl (fun _ _ _ => rfl) (fun k h1 h2 => absurd h1 (by omega)) (fun _ _ => rfl), fun c => absurd ?_ c⟩
    rw [iI_ofNat, iI_le ⟨by omega, by omega⟩ ⟨by omega, by omega⟩]; omega
  | succ n ih =>
    intro i σ hi h
    have hc : (iI (i : Int)).toNatClampNeg = i := iI_clamp (by omega)
    have hin : vp_in (iI (i : Int)) 5 := (iI_in (by omega) 5).mpr (by omega)
    refine ok_X9_copy_43_45_L2 ⟨fun c => absurd c ?_, fun _ => ⟨hin, hin, ?_⟩⟩
    · rw [iI_ofNat, iI_le ⟨by omega, by omega⟩ ⟨by omega, by omega⟩]; omega
    · rw [hc, iI_add, show (i : Int) + 1 = ((i + 1 : Nat) : Int) by omega]
      refine ih (i + 1) _ (by omega) (fun σ' h1 h2 h3 h4 => h σ' h1 (fun c k hc => ?_) (fun k k1 k2 => ?_) (fun k k1 => ?_))
      · rw [h2 c k hc, jv_u_at, if_neg (by omega)]
      · by_cases e : k = i
        · rw [h4 k (by omega), jv_u_at, if_pos ⟨rfl, e⟩, e]
        · rw [h3 k (by omega) k2, jv_u_at, if_neg (by omega)]
      · rw [h4 k (by omega), jv_u_at, if_neg (by omega)]
theorem q_cp_43_45 (h : ∀ σ', cpS 43 45 5 σ σ' → K σ') : jq_V (d + 1) 79 [.ref 43, .ref 45] σ K :=
  ok_X9_copy_43_45 (w_cp_43_45 5 0 σ (by omega) (fun σ' h1 h2 h3 h4 => ⟨rfl, h σ' ⟨h1, h2, fun k hk => h3 k (by omega) hk, fun k hk => h4 k (Or.inr hk)⟩⟩))
theorem w_cp_44_46 {post : jPo} : ∀ (n i : Nat) (σ : jSt), i + n = 5 → (∀ σ', σ'.2 = σ.2 → (∀ c k, c ≠ 46 → σ'.1 c k = σ.1 c k) → (∀ k, i ≤ k → k < 5 → σ'.1 46 k = σ.1 44 k) → (∀ k, (k < i ∨ 5 ≤ k) → σ'.1 46 k = σ.1 46 k) → post none σ') → jv_wp (d + 1) post (79, 2, [some (.ref 44), some (.ref 46), some (.int (iI i))], [], σ) := by
  intro n
  induction n with
  | zero =>
    intro i σ hi h
    refine ok_X9_copy_44_46_L2 ⟨fun _ => h σ rfl (fun _ _ _ => rfl) (fun k h1 h2 => absurd h1 (by omega)) (fun _ _ => rfl), fun c => absurd ?_ c⟩
    rw [iI_ofNat, iI_le ⟨by omega, by omega⟩ ⟨by omega, by omega⟩]; omega
  | succ n ih =>
    intro i σ hi h
    have hc : (iI (i : Int)).toNatClampNeg = i := iI_clamp (by omega)
    have hin : vp_in (iI (i : Int)) 5 := (iI_in (by omega) 5).mpr (by omega)
    refine ok_X9_copy_44_46_L2 ⟨fun c => absurd c ?_, fun _ => ⟨hin, hin, ?_⟩⟩
    · rw [iI_ofNat, iI_le ⟨by omega, by omega⟩ ⟨by omega, by omega⟩]; omega
    · rw [hc, iI_add, show (i : Int) + 1 = ((i + 1 : Nat) : Int) by omega]
      refine ih (i + 1) _ (by omega) (fun σ' h1 h2 h3 h4 => h σ' h1 (fun c k hc => ?_) (fun k k1 k2 => ?_) (fun k k1 => ?_))
      · rw [h2 c k hc, jv_u_at, if_neg (by omega)]
      · by_cases e : k = i
        · rw [h4 k (by omega), jv_u_at, if_pos ⟨rfl, e⟩, e]
        · rw [h3 k (by omega) k2, jv_u_at, if_neg (by omega)]
      · rw [h4 k (by omega), jv_u_at, if_neg (by omega)]
theorem q_cp_44_46 (h : ∀ σ', cpS 44 46 5 σ σ' → K σ') : jq_V (d + 1) 79 [.ref 44, .ref 46] σ K :=
  ok_X9_copy_44_46 (w_cp_44_46 5 0 σ (by omega) (fun σ' h1 h2 h3 h4 => ⟨rfl, h σ' ⟨h1, h2, fun k hk => h3 k (by omega) hk, fun k hk => h4 k (Or.inr hk)⟩⟩))
theorem w_cp_45_43 {post : jPo} : ∀ (n i : Nat) (σ : jSt), i + n = 5 → (∀ σ', σ'.2 = σ.2 → (∀ c k, c ≠ 43 → σ'.1 c k = σ.1 c k) → (∀ k, i ≤ k → k < 5 → σ'.1 43 k = σ.1 45 k) → (∀ k, (k < i ∨ 5 ≤ k) → σ'.1 43 k = σ.1 43 k) → post none σ') → jv_wp (d + 1) post (79, 2, [some (.ref 45), some (.ref 43), some (.int (iI i))], [], σ) := by
  intro n
  induction n with
  | zero =>
    intro i σ hi h
    refine ok_X9_copy_45_43_L2 ⟨fun _ => h σ rfl (fun _ _ _ => rfl) (fun k h1 h2 => absurd h1 (by omega)) (fun _ _ => rfl), fun c => absurd ?_ c⟩
    rw [iI_ofNat, iI_le ⟨by omega, by omega⟩ ⟨by omega, by omega⟩]; omega
  | succ n ih =>
    intro i σ hi h
    have hc : (iI (i : Int)).toNatClampNeg = i := iI_clamp (by omega)
    have hin : vp_in (iI (i : Int)) 5 := (iI_in (by omega) 5).mpr (by omega)
    refine ok_X9_copy_45_43_L2 ⟨fun c => absurd c ?_, fun _ => ⟨hin, hin, ?_⟩⟩
    · rw [iI_ofNat, iI_le ⟨by omega, by omega⟩ ⟨by omega, by omega⟩]; omega
    · rw [hc, iI_add, show (i : Int) + 1 = ((i + 1 : Nat) : Int) by omega]
      refine ih (i + 1) _ (by omega) (fun σ' h1 h2 h3 h4 => h σ' h1 (fun c k hc => ?_) (fun k k1 k2 => ?_) (fun k k1 => ?_))
      · rw [h2 c k hc, jv_u_at, if_neg (by omega)]
      · by_cases e : k = i
        · rw [h4 k (by omega), jv_u_at, if_pos ⟨rfl, e⟩, e]
        · rw [h3 k (by omega) k2, jv_u_at, if_neg (by omega)]
      · rw [h4 k (by omega), jv_u_at, if_neg (by omega)]
theorem q_cp_45_43 (h : ∀ σ', cpS 45 43 5 σ σ' → K σ') : jq_V (d + 1) 79 [.ref 45, .ref 43] σ K :=
  ok_X9_copy_45_43 (w_cp_45_43 5 0 σ (by omega) (fun σ' h1 h2 h3 h4 => ⟨rfl, h σ' ⟨h1, h2, fun k hk => h3 k (by omega) hk, fun k hk => h4 k (Or.inr hk)⟩⟩))
theorem w_cp_46_44 {post : jPo} : ∀ (n i : Nat) (σ : jSt), i + n = 5 → (∀ σ', σ'.2 = σ.2 → (∀ c k, c ≠ 44 → σ'.1 c k = σ.1 c k) → (∀ k, i ≤ k → k < 5 → σ'.1 44 k = σ.1 46 k) → (∀ k, (k < i ∨ 5 ≤ k) → σ'.1 44 k = σ.1 44 k) → post none σ') → jv_wp (d + 1) post (79, 2, [some (.ref 46), some (.ref 44), some (.int (iI i))], [], σ) := by
  intro n
  induction n with
  | zero =>
    intro i σ hi h
    refine ok_X9_copy_46_44_L2 ⟨fun _ => h σ rfl (fun _ _ _ => rfl) (fun k h1 h2 => absurd h1 (by omega)) (fun _ _ => rfl), fun c => absurd ?_ c⟩
    rw [iI_ofNat, iI_le ⟨by omega, by omega⟩ ⟨by omega, by omega⟩]; omega
  | succ n ih =>
    intro i σ hi h
    have hc : (iI (i : Int)).toNatClampNeg = i := iI_clamp (by omega)
    have hin : vp_in (iI (i : Int)) 5 := (iI_in (by omega) 5).mpr (by omega)
    refine ok_X9_copy_46_44_L2 ⟨fun c => absurd c ?_, fun _ => ⟨hin, hin, ?_⟩⟩
    · rw [iI_ofNat, iI_le ⟨by omega, by omega⟩ ⟨by omega, by omega⟩]; omega
    · rw [hc, iI_add, show (i : Int) + 1 = ((i + 1 : Nat) : Int) by omega]
      refine ih (i + 1) _ (by omega) (fun σ' h1 h2 h3 h4 => h σ' h1 (fun c k hc => ?_) (fun k k1 k2 => ?_) (fun k k1 => ?_))
      · rw [h2 c k hc, jv_u_at, if_neg (by omega)]
      · by_cases e : k = i
        · rw [h4 k (by omega), jv_u_at, if_pos ⟨rfl, e⟩, e]
        · rw [h3 k (by omega) k2, jv_u_at, if_neg (by omega)]
      · rw [h4 k (by omega), jv_u_at, if_neg (by omega)]
theorem q_cp_46_44 (h : ∀ σ', cpS 46 44 5 σ σ' → K σ') : jq_V (d + 1) 79 [.ref 46, .ref 44] σ K :=
  ok_X9_copy_46_44 (w_cp_46_44 5 0 σ (by omega) (fun σ' h1 h2 h3 h4 => ⟨rfl, h σ' ⟨h1, h2, fun k hk => h3 k (by omega) hk, fun k hk => h4 k (Or.inr hk)⟩⟩))
theorem w_cp_38_47 {post : jPo} : ∀ (n i : Nat) (σ : jSt), i + n = 6 → (∀ σ', σ'.2 = σ.2 → (∀ c k, c ≠ 47 → σ'.1 c k = σ.1 c k) → (∀ k, i ≤ k → k < 6 → σ'.1 47 k = σ.1 38 k) → (∀ k, (k < i ∨ 6 ≤ k) → σ'.1 47 k = σ.1 47 k) → post none σ') → jv_wp (d + 1) post (79, 2, [some (.ref 38), some (.ref 47), some (.int (iI i))], [], σ) := by
  intro n
  induction n with
  | zero =>
    intro i σ hi h
    refine ok_X9_copy_38_47_L2 ⟨fun _ => h σ rfl (fun _ _ _ => rfl) (fun k h1 h2 => absurd h1 (by omega)) (fun _ _ => rfl), fun c => absurd ?_ c⟩
    rw [iI_ofNat, iI_le ⟨by omega, by omega⟩ ⟨by omega, by omega⟩]; omega
  | succ n ih =>
    intro i σ hi h
    have hc : (iI (i : Int)).toNatClampNeg = i := iI_clamp (by omega)
    have hin : vp_in (iI (i : Int)) 6 := (iI_in (by omega) 6).mpr (by omega)
    refine ok_X9_copy_38_47_L2 ⟨fun c => absurd c ?_, fun _ => ⟨hin, hin, ?_⟩⟩
    · rw [iI_ofNat, iI_le ⟨by omega, by omega⟩ ⟨by omega, by omega⟩]; omega
    · rw [hc, iI_add, show (i : Int) + 1 = ((i + 1 : Nat) : Int) by omega]
      refine ih (i + 1) _ (by omega) (fun σ' h1 h2 h3 h4 => h σ' h1 (fun c k hc => ?_) (fun k k1 k2 => ?_) (fun k k1 => ?_))
      · rw [h2 c k hc, jv_u_at, if_neg (by omega)]
      · by_cases e : k = i
        · rw [h4 k (by omega), jv_u_at, if_pos ⟨rfl, e⟩, e]
        · rw [h3 k (by omega) k2, jv_u_at, if_neg (by omega)]
      · rw [h4 k (by omega), jv_u_at, if_neg (by omega)]
theorem q_cp_38_47 (h : ∀ σ', cpS 38 47 6 σ σ' → K σ') : jq_V (d + 1) 79 [.ref 38, .ref 47] σ K :=
  ok_X9_copy_38_47 (w_cp_38_47 6 0 σ (by omega) (fun σ' h1 h2 h3 h4 => ⟨rfl, h σ' ⟨h1, h2, fun k hk => h3 k (by omega) hk, fun k hk => h4 k (Or.inr hk)⟩⟩))
theorem w_cp_47_38 {post : jPo} : ∀ (n i : Nat) (σ : jSt), i + n = 6 → (∀ σ', σ'.2 = σ.2 → (∀ c k, c ≠ 38 → σ'.1 c k = σ.1 c k) → (∀ k, i ≤ k → k < 6 → σ'.1 38 k = σ.1 47 k) → (∀ k, (k < i ∨ 6 ≤ k) → σ'.1 38 k = σ.1 38 k) → post none σ') → jv_wp (d + 1) post (79, 2, [some (.ref 47), some (.ref 38), some (.int (iI i))], [], σ) := by
  intro n
  induction n with
  | zero =>
    intro i σ hi h
    refine ok_X9_copy_47_38_L2 ⟨fun _ => h σ rfl (fun _ _ _ => rfl) (fun k h1 h2 => absurd h1 (by omega)) (fun _ _ => rfl), fun c => absurd ?_ c⟩
    rw [iI_ofNat, iI_le ⟨by omega, by omega⟩ ⟨by omega, by omega⟩]; omega
  | succ n ih =>
    intro i σ hi h
    have hc : (iI (i : Int)).toNatClampNeg = i := iI_clamp (by omega)
    have hin : vp_in (iI (i : Int)) 6 := (iI_in (by omega) 6).mpr (by omega)
    refine ok_X9_copy_47_38_L2 ⟨fun c => absurd c ?_, fun _ => ⟨hin, hin, ?_⟩⟩
    · rw [iI_ofNat, iI_le ⟨by omega, by omega⟩ ⟨by omega, by omega⟩]; omega
    · rw [hc, iI_add, show (i : Int) + 1 = ((i + 1 : Nat) : Int) by omega]
      refine ih (i + 1) _ (by omega) (fun σ' h1 h2 h3 h4 => h σ' h1 (fun c k hc => ?_) (fun k k1 k2 => ?_) (fun k k1 => ?_))
      · rw [h2 c k hc, jv_u_at, if_neg (by omega)]
      · by_cases e : k = i
        · rw [h4 k (by omega), jv_u_at, if_pos ⟨rfl, e⟩, e]
        · rw [h3 k (by omega) k2, jv_u_at, if_neg (by omega)]
      · rw [h4 k (by omega), jv_u_at, if_neg (by omega)]
theorem q_cp_47_38 (h : ∀ σ', cpS 47 38 6 σ σ' → K σ') : jq_V (d + 1) 79 [.ref 47, .ref 38] σ K :=
  ok_X9_copy_47_38 (w_cp_47_38 6 0 σ (by omega) (fun σ' h1 h2 h3 h4 => ⟨rfl, h σ' ⟨h1, h2, fun k hk => h3 k (by omega) hk, fun k hk => h4 k (Or.inr hk)⟩⟩))
theorem w_cp_36_49 {post : jPo} : ∀ (n i : Nat) (σ : jSt), i + n = 6 → (∀ σ', σ'.2 = σ.2 → (∀ c k, c ≠ 49 → σ'.1 c k = σ.1 c k) → (∀ k, i ≤ k → k < 6 → σ'.1 49 k = σ.1 36 k) → (∀ k, (k < i ∨ 6 ≤ k) → σ'.1 49 k = σ.1 49 k) → post none σ') → jv_wp (d + 1) post (79, 2, [some (.ref 36), some (.ref 49), some (.int (iI i))], [], σ) := by
  intro n
  induction n with
  | zero =>
    intro i σ hi h
    refine ok_X9_copy_36_49_L2 ⟨fun _ => h σ rfl (fun _ _ _ => rfl) (fun k h1 h2 => absurd h1 (by omega)) (fun _ _ => rfl), fun c => absurd ?_ c⟩
    rw [iI_ofNat, iI_le ⟨by omega, by omega⟩ ⟨by omega, by omega⟩]; omega
  | succ n ih =>
    intro i σ hi h
    have hc : (iI (i : Int)).toNatClampNeg = i := iI_clamp (by omega)
    have hin : vp_in (iI (i : Int)) 6 := (iI_in (by omega) 6).mpr (by omega)
    refine ok_X9_copy_36_49_L2 ⟨fun c => absurd c ?_, fun _ => ⟨hin, hin, ?_⟩⟩
    · rw [iI_ofNat, iI_le ⟨by omega, by omega⟩ ⟨by omega, by omega⟩]; omega
    · rw [hc, iI_add, show (i : Int) + 1 = ((i + 1 : Nat) : Int) by omega]
      refine ih (i + 1) _ (by omega) (fun σ' h1 h2 h3 h4 => h σ' h1 (fun c k hc => ?_) (fun k k1 k2 => ?_) (fun k k1 => ?_))
      · rw [h2 c k hc, jv_u_at, if_neg (by omega)]
      · by_cases e : k = i
        · rw [h4 k (by omega), jv_u_at, if_pos ⟨rfl, e⟩, e]
        · rw [h3 k (by omega) k2, jv_u_at, if_neg (by omega)]
      · rw [h4 k (by omega), jv_u_at, if_neg (by omega)]
theorem q_cp_36_49 (h : ∀ σ', cpS 36 49 6 σ σ' → K σ') : jq_V (d + 1) 79 [.ref 36, .ref 49] σ K :=
  ok_X9_copy_36_49 (w_cp_36_49 6 0 σ (by omega) (fun σ' h1 h2 h3 h4 => ⟨rfl, h σ' ⟨h1, h2, fun k hk => h3 k (by omega) hk, fun k hk => h4 k (Or.inr hk)⟩⟩))
theorem w_cp_38_50 {post : jPo} : ∀ (n i : Nat) (σ : jSt), i + n = 6 → (∀ σ', σ'.2 = σ.2 → (∀ c k, c ≠ 50 → σ'.1 c k = σ.1 c k) → (∀ k, i ≤ k → k < 6 → σ'.1 50 k = σ.1 38 k) → (∀ k, (k < i ∨ 6 ≤ k) → σ'.1 50 k = σ.1 50 k) → post none σ') → jv_wp (d + 1) post (79, 2, [some (.ref 38), some (.ref 50), some (.int (iI i))], [], σ) := by
  intro n
  induction n with
  | zero =>
    intro i σ hi h
    refine ok_X9_copy_38_50_L2 ⟨fun _ => h σ rfl (fun _ _ _ => rfl) (fun k h1 h2 => absurd h1 (by omega)) (fun _ _ => rfl), fun c => absurd ?_ c⟩
    rw [iI_ofNat, iI_le ⟨by omega, by omega⟩ ⟨by omega, by omega⟩]; omega
  | succ n ih =>
    intro i σ hi h
    have hc : (iI (i : Int)).toNatClampNeg = i := iI_clamp (by omega)
    have hin : vp_in (iI (i : Int)) 6 := (iI_in (by omega) 6).mpr (by omega)
    refine ok_X9_copy_38_50_L2 ⟨fun c => absurd c ?_, fun _ => ⟨hin, hin, ?_⟩⟩
    · rw [iI_ofNat, iI_le ⟨by omega, by omega⟩ ⟨by omega, by omega⟩]; omega
    · rw [hc, iI_add, show (i : Int) + 1 = ((i + 1 : Nat) : Int) by omega]
      refine ih (i + 1) _ (by omega) (fun σ' h1 h2 h3 h4 => h σ' h1 (fun c k hc => ?_) (fun k k1 k2 => ?_) (fun k k1 => ?_))
      · rw [h2 c k hc, jv_u_at, if_neg (by omega)]
      · by_cases e : k = i
        · rw [h4 k (by omega), jv_u_at, if_pos ⟨rfl, e⟩, e]
        · rw [h3 k (by omega) k2, jv_u_at, if_neg (by omega)]
      · rw [h4 k (by omega), jv_u_at, if_neg (by omega)]
theorem q_cp_38_50 (h : ∀ σ', cpS 38 50 6 σ σ' → K σ') : jq_V (d + 1) 79 [.ref 38, .ref 50] σ K :=
  ok_X9_copy_38_50 (w_cp_38_50 6 0 σ (by omega) (fun σ' h1 h2 h3 h4 => ⟨rfl, h σ' ⟨h1, h2, fun k hk => h3 k (by omega) hk, fun k hk => h4 k (Or.inr hk)⟩⟩))
theorem w_cp_39_51 {post : jPo} : ∀ (n i : Nat) (σ : jSt), i + n = 6 → (∀ σ', σ'.2 = σ.2 → (∀ c k, c ≠ 51 → σ'.1 c k = σ.1 c k) → (∀ k, i ≤ k → k < 6 → σ'.1 51 k = σ.1 39 k) → (∀ k, (k < i ∨ 6 ≤ k) → σ'.1 51 k = σ.1 51 k) → post none σ') → jv_wp (d + 1) post (79, 2, [some (.ref 39), some (.ref 51), some (.int (iI i))], [], σ) := by
  intro n
  induction n with
  | zero =>
    intro i σ hi h
    refine ok_X9_copy_39_51_L2 ⟨fun _ => h σ rfl (fun _ _ _ => rfl) (fun k h1 h2 => absurd h1 (by omega)) (fun _ _ => rfl), fun c => absurd ?_ c⟩
    rw [iI_ofNat, iI_le ⟨by omega, by omega⟩ ⟨by omega, by omega⟩]; omega
  | succ n ih =>
    intro i σ hi h
    have hc : (iI (i : Int)).toNatClampNeg = i := iI_clamp (by omega)
    have hin : vp_in (iI (i : Int)) 6 := (iI_in (by omega) 6).mpr (by omega)
    refine ok_X9_copy_39_51_L2 ⟨fun c => absurd c ?_, fun _ => ⟨hin, hin, ?_⟩⟩
    · rw [iI_ofNat, iI_le ⟨by omega, by omega⟩ ⟨by omega, by omega⟩]; omega
    · rw [hc, iI_add, show (i : Int) + 1 = ((i + 1 : Nat) : Int) by omega]
      refine ih (i + 1) _ (by omega) (fun σ' h1 h2 h3 h4 => h σ' h1 (fun c k hc => ?_) (fun k k1 k2 => ?_) (fun k k1 => ?_))
      · rw [h2 c k hc, jv_u_at, if_neg (by omega)]
      · by_cases e : k = i
        · rw [h4 k (by omega), jv_u_at, if_pos ⟨rfl, e⟩, e]
        · rw [h3 k (by omega) k2, jv_u_at, if_neg (by omega)]
      · rw [h4 k (by omega), jv_u_at, if_neg (by omega)]
theorem q_cp_39_51 (h : ∀ σ', cpS 39 51 6 σ σ' → K σ') : jq_V (d + 1) 79 [.ref 39, .ref 51] σ K :=
  ok_X9_copy_39_51 (w_cp_39_51 6 0 σ (by omega) (fun σ' h1 h2 h3 h4 => ⟨rfl, h σ' ⟨h1, h2, fun k hk => h3 k (by omega) hk, fun k hk => h4 k (Or.inr hk)⟩⟩))
theorem w_cp_42_52 {post : jPo} : ∀ (n i : Nat) (σ : jSt), i + n = 5 → (∀ σ', σ'.2 = σ.2 → (∀ c k, c ≠ 52 → σ'.1 c k = σ.1 c k) → (∀ k, i ≤ k → k < 5 → σ'.1 52 k = σ.1 42 k) → (∀ k, (k < i ∨ 5 ≤ k) → σ'.1 52 k = σ.1 52 k) → post none σ') → jv_wp (d + 1) post (79, 2, [some (.ref 42), some (.ref 52), some (.int (iI i))], [], σ) := by
  intro n
  induction n with
  | zero =>
    intro i σ hi h
    refine ok_X9_copy_42_52_L2 ⟨fun _ => h σ rfl (fun _ _ _ => rfl) (fun k h1 h2 => absurd h1 (by omega)) (fun _ _ => rfl), fun c => absurd ?_ c⟩
    rw [iI_ofNat, iI_le ⟨by omega, by omega⟩ ⟨by omega, by omega⟩]; omega
  | succ n ih =>
    intro i σ hi h
    have hc : (iI (i : Int)).toNatClampNeg = i := iI_clamp (by omega)
    have hin : vp_in (iI (i : Int)) 5 := (iI_in (by omega) 5).mpr (by omega)
    refine ok_X9_copy_42_52_L2 ⟨fun c => absurd c ?_, fun _ => ⟨hin, hin, ?_⟩⟩
    · rw [iI_ofNat, iI_le ⟨by omega, by omega⟩ ⟨by omega, by omega⟩]; omega
    · rw [hc, iI_add, show (i : Int) + 1 = ((i + 1 : Nat) : Int) by omega]
      refine ih (i + 1) _ (by omega) (fun σ' h1 h2 h3 h4 => h σ' h1 (fun c k hc => ?_) (fun k k1 k2 => ?_) (fun k k1 => ?_))
      · rw [h2 c k hc, jv_u_at, if_neg (by omega)]
      · by_cases e : k = i
        · rw [h4 k (by omega), jv_u_at, if_pos ⟨rfl, e⟩, e]
        · rw [h3 k (by omega) k2, jv_u_at, if_neg (by omega)]
      · rw [h4 k (by omega), jv_u_at, if_neg (by omega)]
theorem q_cp_42_52 (h : ∀ σ', cpS 42 52 5 σ σ' → K σ') : jq_V (d + 1) 79 [.ref 42, .ref 52] σ K :=
  ok_X9_copy_42_52 (w_cp_42_52 5 0 σ (by omega) (fun σ' h1 h2 h3 h4 => ⟨rfl, h σ' ⟨h1, h2, fun k hk => h3 k (by omega) hk, fun k hk => h4 k (Or.inr hk)⟩⟩))
theorem w_cp_43_53 {post : jPo} : ∀ (n i : Nat) (σ : jSt), i + n = 5 → (∀ σ', σ'.2 = σ.2 → (∀ c k, c ≠ 53 → σ'.1 c k = σ.1 c k) → (∀ k, i ≤ k → k < 5 → σ'.1 53 k = σ.1 43 k) → (∀ k, (k < i ∨ 5 ≤ k) → σ'.1 53 k = σ.1 53 k) → post none σ') → jv_wp (d + 1) post (79, 2, [some (.ref 43), some (.ref 53), some (.int (iI i))], [], σ) := by
  intro n
  induction n with
  | zero =>
    intro i σ hi h
    refine ok_X9_copy_43_53_L2 ⟨fun _ => h σ rfl (fun _ _ _ => rfl) (fun k h1 h2 => absurd h1 (by omega)) (fun _ _ => rfl), fun c => absurd ?_ c⟩
    rw [iI_ofNat, iI_le ⟨by omega, by omega⟩ ⟨by omega, by omega⟩]; omega
  | succ n ih =>
    intro i σ hi h
    have hc : (iI (i : Int)).toNatClampNeg = i := iI_clamp (by omega)
    have hin : vp_in (iI (i : Int)) 5 := (iI_in (by omega) 5).mpr (by omega)
    refine ok_X9_copy_43_53_L2 ⟨fun c => absurd c ?_, fun _ => ⟨hin, hin, ?_⟩⟩
    · rw [iI_ofNat, iI_le ⟨by omega, by omega⟩ ⟨by omega, by omega⟩]; omega
    · rw [hc, iI_add, show (i : Int) + 1 = ((i + 1 : Nat) : Int) by omega]
      refine ih (i + 1) _ (by omega) (fun σ' h1 h2 h3 h4 => h σ' h1 (fun c k hc => ?_) (fun k k1 k2 => ?_) (fun k k1 => ?_))
      · rw [h2 c k hc, jv_u_at, if_neg (by omega)]
      · by_cases e : k = i
        · rw [h4 k (by omega), jv_u_at, if_pos ⟨rfl, e⟩, e]
        · rw [h3 k (by omega) k2, jv_u_at, if_neg (by omega)]
      · rw [h4 k (by omega), jv_u_at, if_neg (by omega)]
theorem q_cp_43_53 (h : ∀ σ', cpS 43 53 5 σ σ' → K σ') : jq_V (d + 1) 79 [.ref 43, .ref 53] σ K :=
  ok_X9_copy_43_53 (w_cp_43_53 5 0 σ (by omega) (fun σ' h1 h2 h3 h4 => ⟨rfl, h σ' ⟨h1, h2, fun k hk => h3 k (by omega) hk, fun k hk => h4 k (Or.inr hk)⟩⟩))
theorem w_cp_44_54 {post : jPo} : ∀ (n i : Nat) (σ : jSt), i + n = 5 → (∀ σ', σ'.2 = σ.2 → (∀ c k, c ≠ 54 → σ'.1 c k = σ.1 c k) → (∀ k, i ≤ k → k < 5 → σ'.1 54 k = σ.1 44 k) → (∀ k, (k < i ∨ 5 ≤ k) → σ'.1 54 k = σ.1 54 k) → post none σ') → jv_wp (d + 1) post (79, 2, [some (.ref 44), some (.ref 54), some (.int (iI i))], [], σ) := by
  intro n
  induction n with
  | zero =>
    intro i σ hi h
    refine ok_X9_copy_44_54_L2 ⟨fun _ => h σ rfl (fun _ _ _ => rfl) (fun k h1 h2 => absurd h1 (by omega)) (fun _ _ => rfl), fun c => absurd ?_ c⟩
    rw [iI_ofNat, iI_le ⟨by omega, by omega⟩ ⟨by omega, by omega⟩]; omega
  | succ n ih =>
    intro i σ hi h
    have hc : (iI (i : Int)).toNatClampNeg = i := iI_clamp (by omega)
    have hin : vp_in (iI (i : Int)) 5 := (iI_in (by omega) 5).mpr (by omega)
    refine ok_X9_copy_44_54_L2 ⟨fun c => absurd c ?_, fun _ => ⟨hin, hin, ?_⟩⟩
    · rw [iI_ofNat, iI_le ⟨by omega, by omega⟩ ⟨by omega, by omega⟩]; omega
    · rw [hc, iI_add, show (i : Int) + 1 = ((i + 1 : Nat) : Int) by omega]
      refine ih (i + 1) _ (by omega) (fun σ' h1 h2 h3 h4 => h σ' h1 (fun c k hc => ?_) (fun k k1 k2 => ?_) (fun k k1 => ?_))
      · rw [h2 c k hc, jv_u_at, if_neg (by omega)]
      · by_cases e : k = i
        · rw [h4 k (by omega), jv_u_at, if_pos ⟨rfl, e⟩, e]
        · rw [h3 k (by omega) k2, jv_u_at, if_neg (by omega)]
      · rw [h4 k (by omega), jv_u_at, if_neg (by omega)]
theorem q_cp_44_54 (h : ∀ σ', cpS 44 54 5 σ σ' → K σ') : jq_V (d + 1) 79 [.ref 44, .ref 54] σ K :=
  ok_X9_copy_44_54 (w_cp_44_54 5 0 σ (by omega) (fun σ' h1 h2 h3 h4 => ⟨rfl, h σ' ⟨h1, h2, fun k hk => h3 k (by omega) hk, fun k hk => h4 k (Or.inr hk)⟩⟩))
theorem w_cp_48_55 {post : jPo} : ∀ (n i : Nat) (σ : jSt), i + n = 18 → (∀ σ', σ'.2 = σ.2 → (∀ c k, c ≠ 55 → σ'.1 c k = σ.1 c k) → (∀ k, i ≤ k → k < 18 → σ'.1 55 k = σ.1 48 k) → (∀ k, (k < i ∨ 18 ≤ k) → σ'.1 55 k = σ.1 55 k) → post none σ') → jv_wp (d + 1) post (79, 2, [some (.ref 48), some (.ref 55), some (.int (iI i))], [], σ) := by
  intro n
  induction n with
  | zero =>
    intro i σ hi h
    refine ok_X9_copy_48_55_L2 ⟨fun _ => h σ rfl (fun _ _ _ => rfl) (fun k h1 h2 => absurd h1 (by omega)) (fun _ _ => rfl), fun c => absurd ?_ c⟩
    rw [iI_ofNat, iI_le ⟨by omega, by omega⟩ ⟨by omega, by omega⟩]; omega
  | succ n ih =>
    intro i σ hi h
    have hc : (iI (i : Int)).toNatClampNeg = i := iI_clamp (by omega)
    have hin : vp_in (iI (i : Int)) 18 := (iI_in (by omega) 18).mpr (by omega)
    refine ok_X9_copy_48_55_L2 ⟨fun c => absurd c ?_, fun _ => ⟨hin, hin, ?_⟩⟩
    · rw [iI_ofNat, iI_le ⟨by omega, by omega⟩ ⟨by omega, by omega⟩]; omega
    · rw [hc, iI_add, show (i : Int) + 1 = ((i + 1 : Nat) : Int) by omega]
      refine ih (i + 1) _ (by omega) (fun σ' h1 h2 h3 h4 => h σ' h1 (fun c k hc => ?_) (fun k k1 k2 => ?_) (fun k k1 => ?_))
      · rw [h2 c k hc, jv_u_at, if_neg (by omega)]
      · by_cases e : k = i
        · rw [h4 k (by omega), jv_u_at, if_pos ⟨rfl, e⟩, e]
        · rw [h3 k (by omega) k2, jv_u_at, if_neg (by omega)]
      · rw [h4 k (by omega), jv_u_at, if_neg (by omega)]
theorem q_cp_48_55 (h : ∀ σ', cpS 48 55 18 σ σ' → K σ') : jq_V (d + 1) 79 [.ref 48, .ref 55] σ K :=
  ok_X9_copy_48_55 (w_cp_48_55 18 0 σ (by omega) (fun σ' h1 h2 h3 h4 => ⟨rfl, h σ' ⟨h1, h2, fun k hk => h3 k (by omega) hk, fun k hk => h4 k (Or.inr hk)⟩⟩))
theorem w_cp_49_36 {post : jPo} : ∀ (n i : Nat) (σ : jSt), i + n = 6 → (∀ σ', σ'.2 = σ.2 → (∀ c k, c ≠ 36 → σ'.1 c k = σ.1 c k) → (∀ k, i ≤ k → k < 6 → σ'.1 36 k = σ.1 49 k) → (∀ k, (k < i ∨ 6 ≤ k) → σ'.1 36 k = σ.1 36 k) → post none σ') → jv_wp (d + 1) post (79, 2, [some (.ref 49), some (.ref 36), some (.int (iI i))], [], σ) := by
  intro n
  induction n with
  | zero =>
    intro i σ hi h
    refine ok_X9_copy_49_36_L2 ⟨fun _ => h σ rfl (fun _ _ _ => rfl) (fun k h1 h2 => absurd h1 (by omega)) (fun _ _ => rfl), fun c => absurd ?_ c⟩
    rw [iI_ofNat, iI_le ⟨by omega, by omega⟩ ⟨by omega, by omega⟩]; omega
  | succ n ih =>
    intro i σ hi h
    have hc : (iI (i : Int)).toNatClampNeg = i := iI_clamp (by omega)
    have hin : vp_in (iI (i : Int)) 6 := (iI_in (by omega) 6).mpr (by omega)
    refine ok_X9_copy_49_36_L2 ⟨fun c => absurd c ?_, fun _ => ⟨hin, hin, ?_⟩⟩
    · rw [iI_ofNat, iI_le ⟨by omega, by omega⟩ ⟨by omega, by omega⟩]; omega
    · rw [hc, iI_add, show (i : Int) + 1 = ((i + 1 : Nat) : Int) by omega]
      refine ih (i + 1) _ (by omega) (fun σ' h1 h2 h3 h4 => h σ' h1 (fun c k hc => ?_) (fun k k1 k2 => ?_) (fun k k1 => ?_))
      · rw [h2 c k hc, jv_u_at, if_neg (by omega)]
      · by_cases e : k = i
        · rw [h4 k (by omega), jv_u_at, if_pos ⟨rfl, e⟩, e]
        · rw [h3 k (by omega) k2, jv_u_at, if_neg (by omega)]
      · rw [h4 k (by omega), jv_u_at, if_neg (by omega)]
theorem q_cp_49_36 (h : ∀ σ', cpS 49 36 6 σ σ' → K σ') : jq_V (d + 1) 79 [.ref 49, .ref 36] σ K :=
  ok_X9_copy_49_36 (w_cp_49_36 6 0 σ (by omega) (fun σ' h1 h2 h3 h4 => ⟨rfl, h σ' ⟨h1, h2, fun k hk => h3 k (by omega) hk, fun k hk => h4 k (Or.inr hk)⟩⟩))
theorem w_cp_50_38 {post : jPo} : ∀ (n i : Nat) (σ : jSt), i + n = 6 → (∀ σ', σ'.2 = σ.2 → (∀ c k, c ≠ 38 → σ'.1 c k = σ.1 c k) → (∀ k, i ≤ k → k < 6 → σ'.1 38 k = σ.1 50 k) → (∀ k, (k < i ∨ 6 ≤ k) → σ'.1 38 k = σ.1 38 k) → post none σ') → jv_wp (d + 1) post (79, 2, [some (.ref 50), some (.ref 38), some (.int (iI i))], [], σ) := by
  intro n
  induction n with
  | zero =>
    intro i σ hi h
    refine ok_X9_copy_50_38_L2 ⟨fun _ => h σ rfl (fun _ _ _ => rfl) (fun k h1 h2 => absurd h1 (by omega)) (fun _ _ => rfl), fun c => absurd ?_ c⟩
    rw [iI_ofNat, iI_le ⟨by omega, by omega⟩ ⟨by omega, by omega⟩]; omega
  | succ n ih =>
    intro i σ hi h
    have hc : (iI (i : Int)).toNatClampNeg = i := iI_clamp (by omega)
    have hin : vp_in (iI (i : Int)) 6 := (iI_in (by omega) 6).mpr (by omega)
    refine ok_X9_copy_50_38_L2 ⟨fun c => absurd c ?_, fun _ => ⟨hin, hin, ?_⟩⟩
    · rw [iI_ofNat, iI_le ⟨by omega, by omega⟩ ⟨by omega, by omega⟩]; omega
    · rw [hc, iI_add, show (i : Int) + 1 = ((i + 1 : Nat) : Int) by omega]
      refine ih (i + 1) _ (by omega) (fun σ' h1 h2 h3 h4 => h σ' h1 (fun c k hc => ?_) (fun k k1 k2 => ?_) (fun k k1 => ?_))
      · rw [h2 c k hc, jv_u_at, if_neg (by omega)]
      · by_cases e : k = i
        · rw [h4 k (by omega), jv_u_at, if_pos ⟨rfl, e⟩, e]
        · rw [h3 k (by omega) k2, jv_u_at, if_neg (by omega)]
      · rw [h4 k (by omega), jv_u_at, if_neg (by omega)]
theorem q_cp_50_38 (h : ∀ σ', cpS 50 38 6 σ σ' → K σ') : jq_V (d + 1) 79 [.ref 50, .ref 38] σ K :=
  ok_X9_copy_50_38 (w_cp_50_38 6 0 σ (by omega) (fun σ' h1 h2 h3 h4 => ⟨rfl, h σ' ⟨h1, h2, fun k hk => h3 k (by omega) hk, fun k hk => h4 k (Or.inr hk)⟩⟩))
theorem w_cp_51_39 {post : jPo} : ∀ (n i : Nat) (σ : jSt), i + n = 6 → (∀ σ', σ'.2 = σ.2 → (∀ c k, c ≠ 39 → σ'.1 c k = σ.1 c k) → (∀ k, i ≤ k → k < 6 → σ'.1 39 k = σ.1 51 k) → (∀ k, (k < i ∨ 6 ≤ k) → σ'.1 39 k = σ.1 39 k) → post none σ') → jv_wp (d + 1) post (79, 2, [some (.ref 51), some (.ref 39), some (.int (iI i))], [], σ) := by
  intro n
  induction n with
  | zero =>
    intro i σ hi h
    refine ok_X9_copy_51_39_L2 ⟨fun _ => h σ rfl (fun _ _ _ => rfl) (fun k h1 h2 => absurd h1 (by omega)) (fun _ _ => rfl), fun c => absurd ?_ c⟩
    rw [iI_ofNat, iI_le ⟨by omega, by omega⟩ ⟨by omega, by omega⟩]; omega
  | succ n ih =>
    intro i σ hi h
    have hc : (iI (i : Int)).toNatClampNeg = i := iI_clamp (by omega)
    have hin : vp_in (iI (i : Int)) 6 := (iI_in (by omega) 6).mpr (by omega)
    refine ok_X9_copy_51_39_L2 ⟨fun c => absurd c ?_, fun _ => ⟨hin, hin, ?_⟩⟩
    · rw [iI_ofNat, iI_le ⟨by omega, by omega⟩ ⟨by omega, by omega⟩]; omega
    · rw [hc, iI_add, show (i : Int) + 1 = ((i + 1 : Nat) : Int) by omega]
      refine ih (i + 1) _ (by omega) (fun σ' h1 h2 h3 h4 => h σ' h1 (fun c k hc => ?_) (fun k k1 k2 => ?_) (fun k k1 => ?_))
      · rw [h2 c k hc, jv_u_at, if_neg (by omega)]
      · by_cases e : k = i
        · rw [h4 k (by omega), jv_u_at, if_pos ⟨rfl, e⟩, e]
        · rw [h3 k (by omega) k2, jv_u_at, if_neg (by omega)]
      · rw [h4 k (by omega), jv_u_at, if_neg (by omega)]
theorem q_cp_51_39 (h : ∀ σ', cpS 51 39 6 σ σ' → K σ') : jq_V (d + 1) 79 [.ref 51, .ref 39] σ K :=
  ok_X9_copy_51_39 (w_cp_51_39 6 0 σ (by omega) (fun σ' h1 h2 h3 h4 => ⟨rfl, h σ' ⟨h1, h2, fun k hk => h3 k (by omega) hk, fun k hk => h4 k (Or.inr hk)⟩⟩))
theorem w_cp_52_42 {post : jPo} : ∀ (n i : Nat) (σ : jSt), i + n = 5 → (∀ σ', σ'.2 = σ.2 → (∀ c k, c ≠ 42 → σ'.1 c k = σ.1 c k) → (∀ k, i ≤ k → k < 5 → σ'.1 42 k = σ.1 52 k) → (∀ k, (k < i ∨ 5 ≤ k) → σ'.1 42 k = σ.1 42 k) → post none σ') → jv_wp (d + 1) post (79, 2, [some (.ref 52), some (.ref 42), some (.int (iI i))], [], σ) := by
  intro n
  induction n with
  | zero =>
    intro i σ hi h
    refine ok_X9_copy_52_42_L2 ⟨fun _ => h σ rfl (fun _ _ _ => rfl) (fun k h1 h2 => absurd h1 (by omega)) (fun _ _ => rfl), fun c => absurd ?_ c⟩
    rw [iI_ofNat, iI_le ⟨by omega, by omega⟩ ⟨by omega, by omega⟩]; omega
  | succ n ih =>
    intro i σ hi h
    have hc : (iI (i : Int)).toNatClampNeg = i := iI_clamp (by omega)
    have hin : vp_in (iI (i : Int)) 5 := (iI_in (by omega) 5).mpr (by omega)
    refine ok_X9_copy_52_42_L2 ⟨fun c => absurd c ?_, fun _ => ⟨hin, hin, ?_⟩⟩
    · rw [iI_ofNat, iI_le ⟨by omega, by omega⟩ ⟨by omega, by omega⟩]; omega
    · rw [hc, iI_add, show (i : Int) + 1 = ((i + 1 : Nat) : Int) by omega]
      refine ih (i + 1) _ (by omega) (fun σ' h1 h2 h3 h4 => h σ' h1 (fun c k hc => ?_) (fun k k1 k2 => ?_) (fun k k1 => ?_))
      · rw [h2 c k hc, jv_u_at, if_neg (by omega)]
      · by_cases e : k = i
        · rw [h4 k (by omega), jv_u_at, if_pos ⟨rfl, e⟩, e]
        · rw [h3 k (by omega) k2, jv_u_at, if_neg (by omega)]
      · rw [h4 k (by omega), jv_u_at, if_neg (by omega)]
theorem q_cp_52_42 (h : ∀ σ', cpS 52 42 5 σ σ' → K σ') : jq_V (d + 1) 79 [.ref 52, .ref 42] σ K :=
  ok_X9_copy_52_42 (w_cp_52_42 5 0 σ (by omega) (fun σ' h1 h2 h3 h4 => ⟨rfl, h σ' ⟨h1, h2, fun k hk => h3 k (by omega) hk, fun k hk => h4 k (Or.inr hk)⟩⟩))
theorem w_cp_53_43 {post : jPo} : ∀ (n i : Nat) (σ : jSt), i + n = 5 → (∀ σ', σ'.2 = σ.2 → (∀ c k, c ≠ 43 → σ'.1 c k = σ.1 c k) → (∀ k, i ≤ k → k < 5 → σ'.1 43 k = σ.1 53 k) → (∀ k, (k < i ∨ 5 ≤ k) → σ'.1 43 k = σ.1 43 k) → post none σ') → jv_wp (d + 1) post (79, 2, [some (.ref 53), some (.ref 43), some (.int (iI i))], [], σ) := by
  intro n
  induction n with
  | zero =>
    intro i σ hi h
    refine ok_X9_copy_53_43_L2 ⟨fun _ => h σ rfl (fun _ _ _ => rfl) (fun k h1 h2 => absurd h1 (by omega)) (fun _ _ => rfl), fun c => absurd ?_ c⟩
    rw [iI_ofNat, iI_le ⟨by omega, by omega⟩ ⟨by omega, by omega⟩]; omega
  | succ n ih =>
    intro i σ hi h
    have hc : (iI (i : Int)).toNatClampNeg = i := iI_clamp (by omega)
    have hin : vp_in (iI (i : Int)) 5 := (iI_in (by omega) 5).mpr (by omega)
    refine ok_X9_copy_53_43_L2 ⟨fun c => absurd c ?_, fun _ => ⟨hin, hin, ?_⟩⟩
    · rw [iI_ofNat, iI_le ⟨by omega, by omega⟩ ⟨by omega, by omega⟩]; omega
    · rw [hc, iI_add, show (i : Int) + 1 = ((i + 1 : Nat) : Int) by omega]
      refine ih (i + 1) _ (by omega) (fun σ' h1 h2 h3 h4 => h σ' h1 (fun c k hc => ?_) (fun k k1 k2 => ?_) (fun k k1 => ?_))
      · rw [h2 c k hc, jv_u_at, if_neg (by omega)]
      · by_cases e : k = i
        · rw [h4 k (by omega), jv_u_at, if_pos ⟨rfl, e⟩, e]
        · rw [h3 k (by omega) k2, jv_u_at, if_neg (by omega)]
      · rw [h4 k (by omega), jv_u_at, if_neg (by omega)]
theorem q_cp_53_43 (h : ∀ σ', cpS 53 43 5 σ σ' → K σ') : jq_V (d + 1) 79 [.ref 53, .ref 43] σ K :=
  ok_X9_copy_53_43 (w_cp_53_43 5 0 σ (by omega) (fun σ' h1 h2 h3 h4 => ⟨rfl, h σ' ⟨h1, h2, fun k hk => h3 k (by omega) hk, fun k hk => h4 k (Or.inr hk)⟩⟩))
theorem w_cp_54_44 {post : jPo} : ∀ (n i : Nat) (σ : jSt), i + n = 5 → (∀ σ', σ'.2 = σ.2 → (∀ c k, c ≠ 44 → σ'.1 c k = σ.1 c k) → (∀ k, i ≤ k → k < 5 → σ'.1 44 k = σ.1 54 k) → (∀ k, (k < i ∨ 5 ≤ k) → σ'.1 44 k = σ.1 44 k) → post none σ') → jv_wp (d + 1) post (79, 2, [some (.ref 54), some (.ref 44), some (.int (iI i))], [], σ) := by
  intro n
  induction n with
  | zero =>
    intro i σ hi h
    refine ok_X9_copy_54_44_L2 ⟨fun _ => h σ rfl (fun _ _ _ => rfl) (fun k h1 h2 => absurd h1 (by omega)) (fun _ _ => rfl), fun c => absurd ?_ c⟩
    rw [iI_ofNat, iI_le ⟨by omega, by omega⟩ ⟨by omega, by omega⟩]; omega
  | succ n ih =>
    intro i σ hi h
    have hc : (iI (i : Int)).toNatClampNeg = i := iI_clamp (by omega)
    have hin : vp_in (iI (i : Int)) 5 := (iI_in (by omega) 5).mpr (by omega)
    refine ok_X9_copy_54_44_L2 ⟨fun c => absurd c ?_, fun _ => ⟨hin, hin, ?_⟩⟩
    · rw [iI_ofNat, iI_le ⟨by omega, by omega⟩ ⟨by omega, by omega⟩]; omega
    · rw [hc, iI_add, show (i : Int) + 1 = ((i + 1 : Nat) : Int) by omega]
      refine ih (i + 1) _ (by omega) (fun σ' h1 h2 h3 h4 => h σ' h1 (fun c k hc => ?_) (fun k k1 k2 => ?_) (fun k k1 => ?_))
      · rw [h2 c k hc, jv_u_at, if_neg (by omega)]
      · by_cases e : k = i
        · rw [h4 k (by omega), jv_u_at, if_pos ⟨rfl, e⟩, e]
        · rw [h3 k (by omega) k2, jv_u_at, if_neg (by omega)]
      · rw [h4 k (by omega), jv_u_at, if_neg (by omega)]
theorem q_cp_54_44 (h : ∀ σ', cpS 54 44 5 σ σ' → K σ') : jq_V (d + 1) 79 [.ref 54, .ref 44] σ K :=
  ok_X9_copy_54_44 (w_cp_54_44 5 0 σ (by omega) (fun σ' h1 h2 h3 h4 => ⟨rfl, h σ' ⟨h1, h2, fun k hk => h3 k (by omega) hk, fun k hk => h4 k (Or.inr hk)⟩⟩))
theorem w_cp_55_48 {post : jPo} : ∀ (n i : Nat) (σ : jSt), i + n = 18 → (∀ σ', σ'.2 = σ.2 → (∀ c k, c ≠ 48 → σ'.1 c k = σ.1 c k) → (∀ k, i ≤ k → k < 18 → σ'.1 48 k = σ.1 55 k) → (∀ k, (k < i ∨ 18 ≤ k) → σ'.1 48 k = σ.1 48 k) → post none σ') → jv_wp (d + 1) post (79, 2, [some (.ref 55), some (.ref 48), some (.int (iI i))], [], σ) := by
  intro n
  induction n with
  | zero =>
    intro i σ hi h
    refine ok_X9_copy_55_48_L2 ⟨fun _ => h σ rfl (fun _ _ _ => rfl) (fun k h1 h2 => absurd h1 (by omega)) (fun _ _ => rfl), fun c => absurd ?_ c⟩
    rw [iI_ofNat, iI_le ⟨by omega, by omega⟩ ⟨by omega, by omega⟩]; omega
  | succ n ih =>
    intro i σ hi h
    have hc : (iI (i : Int)).toNatClampNeg = i := iI_clamp (by omega)
    have hin : vp_in (iI (i : Int)) 18 := (iI_in (by omega) 18).mpr (by omega)
    refine ok_X9_copy_55_48_L2 ⟨fun c => absurd c ?_, fun _ => ⟨hin, hin, ?_⟩⟩
    · rw [iI_ofNat, iI_le ⟨by omega, by omega⟩ ⟨by omega, by omega⟩]; omega
    · rw [hc, iI_add, show (i : Int) + 1 = ((i + 1 : Nat) : Int) by omega]
      refine ih (i + 1) _ (by omega) (fun σ' h1 h2 h3 h4 => h σ' h1 (fun c k hc => ?_) (fun k k1 k2 => ?_) (fun k k1 => ?_))
      · rw [h2 c k hc, jv_u_at, if_neg (by omega)]
      · by_cases e : k = i
        · rw [h4 k (by omega), jv_u_at, if_pos ⟨rfl, e⟩, e]
        · rw [h3 k (by omega) k2, jv_u_at, if_neg (by omega)]
      · rw [h4 k (by omega), jv_u_at, if_neg (by omega)]
theorem q_cp_55_48 (h : ∀ σ', cpS 55 48 18 σ σ' → K σ') : jq_V (d + 1) 79 [.ref 55, .ref 48] σ K :=
  ok_X9_copy_55_48 (w_cp_55_48 18 0 σ (by omega) (fun σ' h1 h2 h3 h4 => ⟨rfl, h σ' ⟨h1, h2, fun k hk => h3 k (by omega) hk, fun k hk => h4 k (Or.inr hk)⟩⟩))
end Cp
