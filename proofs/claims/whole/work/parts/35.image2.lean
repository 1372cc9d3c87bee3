/-! image and restore: World.copyFrom -/
section Im
variable {σ : jSt} {d : Nat}
theorem cpa_o {σ : jSt} {c : Nat} {f : Nat → Int32} {c' k : Nat} (h : c' ≠ c) : (jv_a σ c f).1 c' k = σ.1 c' k := by unfold jv_a; dsimp only; rw [if_neg h]
theorem cpa_e {σ : jSt} {c : Nat} {f : Nat → Int32} {k : Nat} : (jv_a σ c f).1 c k = f k := by unfold jv_a; dsimp only; rw [if_pos rfl]
theorem cpa_c {f g : Nat → Int32} {n k : Nat} (h : k < n) : va_cpy f g 0 0 n k = f k := by unfold va_cpy; rw [if_pos ⟨Nat.zero_le _, by omega⟩]; exact congrArg f (by omega)
theorem q_copyFrom_k {K : jSt → Prop} (hb : ∀ j, j < 6 → σ.1 14 j = 0 ∨ σ.1 14 j = 1) (h : ∀ σ', σ'.2 = σ.2 → (∀ c k, (c < 15 ∨ 26 < c) → σ'.1 c k = σ.1 c k) → (∀ k, k < 6 → σ'.1 16 k = σ.1 4 k ∧ σ'.1 17 k = σ.1 5 k ∧ σ'.1 18 k = σ.1 6 k ∧ σ'.1 24 k = σ.1 12 k ∧ σ'.1 25 k = σ.1 13 k ∧ σ'.1 26 k = σ.1 14 k) → (∀ k, k < 5 → σ'.1 19 k = σ.1 7 k ∧ σ'.1 20 k = σ.1 8 k ∧ σ'.1 21 k = σ.1 9 k ∧ σ'.1 22 k = σ.1 10 k) → σ'.1 23 3 = σ.1 11 3 → σ'.1 15 8 = σ.1 3 8 → σ'.1 15 9 = σ.1 3 9 → σ'.1 15 10 = σ.1 3 10 → σ'.1 15 11 = σ.1 3 11 → σ'.1 15 12 = σ.1 3 12 → K σ') : jq_V (d + 2) 53 [.ref 15, .ref 3] σ K := by
  have c0 : (iI 0).toNatClampNeg = 0 := by decide +kernel
  have c5 : (iI 5).toNatClampNeg = 5 := by decide +kernel
  have c6 : (iI 6).toNatClampNeg = 6 := by decide +kernel
  refine ok_X7_copyFrom_k ?_
  unfold vc_X7_copyFrom_k
  rw [c0, c5, c6]
  intro s1 s2 s3 s4 s5 s6 s7
  have u7 : ∀ c k, (c < 16 ∨ 22 < c) → s7.1 c k = σ.1 c k := fun c k g => by
    rw [cpa_o (by omega), cpa_o (by omega), cpa_o (by omega), cpa_o (by omega), cpa_o (by omega), cpa_o (by omega), cpa_o (by omega)]
  refine ok_X5_copyFrom_k ?_
  unfold vc_X5_copyFrom_k
  intro s8
  have u8 : ∀ c k, ¬ (c = 23 ∧ k = 3) → s8.1 c k = s7.1 c k := fun c k g => by show (jv_u s7 23 3 _).1 c k = _; rw [jv_u_at, if_neg g]
  have v8 : s8.1 23 3 = σ.1 11 3 := by show (jv_u s7 23 3 _).1 23 3 = _; rw [jv_u_at, if_pos ⟨rfl, rfl⟩]; exact u7 11 3 (by omega)
  refine w_ssk 6 0 s8 (by omega) (fun j hj => by rw [u8 14 j (by omega), u7 14 j (by omega)]; exact hb j hj) (fun s9 e1 e2 e3 _ => ⟨rfl, ?_⟩)
  have a9 : ∀ k, s9.1 3 k = σ.1 3 k := fun k => (e2 3 k (by omega) (by omega) (by omega)).trans ((u8 3 k (by omega)).trans (u7 3 k (by omega)))
  suffices hh : ∀ t1 t2 t3 t4 t5 : jSt, t1 = jv_u s9 15 8 (s9.1 3 8) → t2 = jv_u t1 15 9 (t1.1 3 9) → t3 = jv_u t2 15 10 (t2.1 3 10) → t4 = jv_u t3 15 11 (t3.1 3 11) → t5 = jv_u t4 15 12 (t4.1 3 12) → K t5 from ⟨rfl, hh _ _ _ _ _ rfl rfl rfl rfl rfl⟩
  intro t1 t2 t3 t4 t5 f1 f2 f3 f4 f5
  have g1 : ∀ c k, ¬ (c = 15 ∧ k = 8) → t1.1 c k = s9.1 c k := fun c k g => by rw [f1, jv_u_at, if_neg g]
  have g2 : ∀ c k, ¬ (c = 15 ∧ k = 9) → t2.1 c k = t1.1 c k := fun c k g => by rw [f2, jv_u_at, if_neg g]
  have g3 : ∀ c k, ¬ (c = 15 ∧ k = 10) → t3.1 c k = t2.1 c k := fun c k g => by rw [f3, jv_u_at, if_neg g]
  have g4 : ∀ c k, ¬ (c = 15 ∧ k = 11) → t4.1 c k = t3.1 c k := fun c k g => by rw [f4, jv_u_at, if_neg g]
  have g5 : ∀ c k, ¬ (c = 15 ∧ k = 12) → t5.1 c k = t4.1 c k := fun c k g => by rw [f5, jv_u_at, if_neg g]
  have f0 : t5.2 = s9.2 := by rw [f5, f4, f3, f2, f1]; rfl
  have w5 : ∀ c k, c ≠ 15 → t5.1 c k = s9.1 c k := fun c k g => by rw [g5 c k (by omega), g4 c k (by omega), g3 c k (by omega), g2 c k (by omega), g1 c k (by omega)]
  have w7 : ∀ c k, c ≠ 15 → c ≠ 23 → c ≠ 24 → c ≠ 25 → c ≠ 26 → t5.1 c k = s7.1 c k := fun c k g1 g2 g3 g4 g5 => (w5 c k g1).trans ((e2 c k g3 g4 g5).trans (u8 c k (by omega)))
  refine h t5 ?_ (fun c k g => ?_) (fun k hk => ?_) (fun k hk => ?_) ?_ ?_ ?_ ?_ ?_ ?_
  · exact f0.trans e1
  · exact (w7 c k (by omega) (by omega) (by omega) (by omega) (by omega)).trans (u7 c k (by omega))
  · refine ⟨?_, ?_, ?_, ?_, ?_, ?_⟩
    · rw [w7 _ _ (by omega) (by omega) (by omega) (by omega) (by omega), cpa_o (by omega), cpa_o (by omega), cpa_o (by omega), cpa_o (by omega), cpa_o (by omega), cpa_o (by omega), cpa_e, cpa_c hk]
    · rw [w7 _ _ (by omega) (by omega) (by omega) (by omega) (by omega), cpa_o (by omega), cpa_o (by omega), cpa_o (by omega), cpa_o (by omega), cpa_o (by omega), cpa_e, cpa_c hk, cpa_o (by omega)]
    · rw [w7 _ _ (by omega) (by omega) (by omega) (by omega) (by omega), cpa_o (by omega), cpa_o (by omega), cpa_o (by omega), cpa_o (by omega), cpa_e, cpa_c hk, cpa_o (by omega), cpa_o (by omega)]
    · rw [w5 _ _ (by omega), (e3 k (by omega) hk).1, u8 _ _ (by omega), u7 _ _ (by omega)]
    · rw [w5 _ _ (by omega), (e3 k (by omega) hk).2.1, u8 _ _ (by omega), u7 _ _ (by omega)]
    · rw [w5 _ _ (by omega), (e3 k (by omega) hk).2.2, u8 _ _ (by omega), u7 _ _ (by omega)]
  · refine ⟨?_, ?_, ?_, ?_⟩
    · rw [w7 _ _ (by omega) (by omega) (by omega) (by omega) (by omega), cpa_o (by omega), cpa_o (by omega), cpa_o (by omega), cpa_e, cpa_c hk, cpa_o (by omega), cpa_o (by omega), cpa_o (by omega)]
    · rw [w7 _ _ (by omega) (by omega) (by omega) (by omega) (by omega), cpa_o (by omega), cpa_o (by omega), cpa_e, cpa_c hk, cpa_o (by omega), cpa_o (by omega), cpa_o (by omega), cpa_o (by omega)]
    · rw [w7 _ _ (by omega) (by omega) (by omega) (by omega) (by omega), cpa_o (by omega), cpa_e, cpa_c hk, cpa_o (by omega), cpa_o (by omega), cpa_o (by omega), cpa_o (by omega), cpa_o (by omega)]
    · rw [w7 _ _ (by omega) (by omega) (by omega) (by omega) (by omega), cpa_e, cpa_c hk, cpa_o (by omega), cpa_o (by omega), cpa_o (by omega), cpa_o (by omega), cpa_o (by omega), cpa_o (by omega)]
  · rw [w5 _ _ (by omega), e2 _ _ (by omega) (by omega) (by omega)]; exact v8
  · rw [g5 _ _ (by omega), g4 _ _ (by omega), g3 _ _ (by omega), g2 _ _ (by omega), f1, jv_u_at, if_pos ⟨rfl, rfl⟩]; exact a9 8
  · rw [g5 _ _ (by omega), g4 _ _ (by omega), g3 _ _ (by omega), f2, jv_u_at, if_pos ⟨rfl, rfl⟩, g1 _ _ (by omega)]; exact a9 9
  · rw [g5 _ _ (by omega), g4 _ _ (by omega), f3, jv_u_at, if_pos ⟨rfl, rfl⟩, g2 _ _ (by omega), g1 _ _ (by omega)]; exact a9 10
  · rw [g5 _ _ (by omega), f4, jv_u_at, if_pos ⟨rfl, rfl⟩, g3 _ _ (by omega), g2 _ _ (by omega), g1 _ _ (by omega)]; exact a9 11
  · rw [f5, jv_u_at, if_pos ⟨rfl, rfl⟩, g4 _ _ (by omega), g3 _ _ (by omega), g2 _ _ (by omega), g1 _ _ (by omega)]; exact a9 12
theorem q_copyFrom_r {K : jSt → Prop} (hb : ∀ j, j < 6 → σ.1 26 j = 0 ∨ σ.1 26 j = 1) (h : ∀ σ', σ'.2 = σ.2 → (∀ c k, (c < 3 ∨ 14 < c) → σ'.1 c k = σ.1 c k) → (∀ k, k < 6 → σ'.1 4 k = σ.1 16 k ∧ σ'.1 5 k = σ.1 17 k ∧ σ'.1 6 k = σ.1 18 k ∧ σ'.1 12 k = σ.1 24 k ∧ σ'.1 13 k = σ.1 25 k ∧ σ'.1 14 k = σ.1 26 k) → (∀ k, k < 5 → σ'.1 7 k = σ.1 19 k ∧ σ'.1 8 k = σ.1 20 k ∧ σ'.1 9 k = σ.1 21 k ∧ σ'.1 10 k = σ.1 22 k) → σ'.1 11 3 = σ.1 23 3 → σ'.1 3 8 = σ.1 15 8 → σ'.1 3 9 = σ.1 15 9 → σ'.1 3 10 = σ.1 15 10 → σ'.1 3 11 = σ.1 15 11 → σ'.1 3 12 = σ.1 15 12 → K σ') : jq_V (d + 2) 53 [.ref 3, .ref 15] σ K := by
  have c0 : (iI 0).toNatClampNeg = 0 := by decide +kernel
  have c5 : (iI 5).toNatClampNeg = 5 := by decide +kernel
  have c6 : (iI 6).toNatClampNeg = 6 := by decide +kernel
  refine ok_X7_copyFrom_r ?_
  unfold vc_X7_copyFrom_r
  rw [c0, c5, c6]
  intro s1 s2 s3 s4 s5 s6 s7
  have u7 : ∀ c k, (c < 4 ∨ 10 < c) → s7.1 c k = σ.1 c k := fun c k g => by
    rw [cpa_o (by omega), cpa_o (by omega), cpa_o (by omega), cpa_o (by omega), cpa_o (by omega), cpa_o (by omega), cpa_o (by omega)]
  refine ok_X5_copyFrom_r ?_
  unfold vc_X5_copyFrom_r
  intro s8
  have u8 : ∀ c k, ¬ (c = 11 ∧ k = 3) → s8.1 c k = s7.1 c k := fun c k g => by show (jv_u s7 11 3 _).1 c k = _; rw [jv_u_at, if_neg g]
  have v8 : s8.1 11 3 = σ.1 23 3 := by show (jv_u s7 11 3 _).1 11 3 = _; rw [jv_u_at, if_pos ⟨rfl, rfl⟩]; exact u7 23 3 (by omega)
  refine w_ssr 6 0 s8 (by omega) (fun j hj => by rw [u8 26 j (by omega), u7 26 j (by omega)]; exact hb j hj) (fun s9 e1 e2 e3 _ => ⟨rfl, ?_⟩)
  have a9 : ∀ k, s9.1 15 k = σ.1 15 k := fun k => (e2 15 k (by omega) (by omega) (by omega)).trans ((u8 15 k (by omega)).trans (u7 15 k (by omega)))
  suffices hh : ∀ t1 t2 t3 t4 t5 : jSt, t1 = jv_u s9 3 8 (s9.1 15 8) → t2 = jv_u t1 3 9 (t1.1 15 9) → t3 = jv_u t2 3 10 (t2.1 15 10) → t4 = jv_u t3 3 11 (t3.1 15 11) → t5 = jv_u t4 3 12 (t4.1 15 12) → K t5 from ⟨rfl, hh _ _ _ _ _ rfl rfl rfl rfl rfl⟩
  intro t1 t2 t3 t4 t5 f1 f2 f3 f4 f5
  have g1 : ∀ c k, ¬ (c = 3 ∧ k = 8) → t1.1 c k = s9.1 c k := fun c k g => by rw [f1, jv_u_at, if_neg g]
  have g2 : ∀ c k, ¬ (c = 3 ∧ k = 9) → t2.1 c k = t1.1 c k := fun c k g => by rw [f2, jv_u_at, if_neg g]
  have g3 : ∀ c k, ¬ (c = 3 ∧ k = 10) → t3.1 c k = t2.1 c k := fun c k g => by rw [f3, jv_u_at, if_neg g]
  have g4 : ∀ c k, ¬ (c = 3 ∧ k = 11) → t4.1 c k = t3.1 c k := fun c k g => by rw [f4, jv_u_at, if_neg g]
  have g5 : ∀ c k, ¬ (c = 3 ∧ k = 12) → t5.1 c k = t4.1 c k := fun c k g => by rw [f5, jv_u_at, if_neg g]
  have f0 : t5.2 = s9.2 := by rw [f5, f4, f3, f2, f1]; rfl
  have w5 : ∀ c k, c ≠ 3 → t5.1 c k = s9.1 c k := fun c k g => by rw [g5 c k (by omega), g4 c k (by omega), g3 c k (by omega), g2 c k (by omega), g1 c k (by omega)]
  have w7 : ∀ c k, c ≠ 3 → c ≠ 11 → c ≠ 12 → c ≠ 13 → c ≠ 14 → t5.1 c k = s7.1 c k := fun c k g1 g2 g3 g4 g5 => (w5 c k g1).trans ((e2 c k g3 g4 g5).trans (u8 c k (by omega)))
  refine h t5 ?_ (fun c k g => ?_) (fun k hk => ?_) (fun k hk => ?_) ?_ ?_ ?_ ?_ ?_ ?_
  · exact f0.trans e1
  · exact (w7 c k (by omega) (by omega) (by omega) (by omega) (by omega)).trans (u7 c k (by omega))
  · refine ⟨?_, ?_, ?_, ?_, ?_, ?_⟩
    · rw [w7 _ _ (by omega) (by omega) (by omega) (by omega) (by omega), cpa_o (by omega), cpa_o (by omega), cpa_o (by omega), cpa_o (by omega), cpa_o (by omega), cpa_o (by omega), cpa_e, cpa_c hk]
    · rw [w7 _ _ (by omega) (by omega) (by omega) (by omega) (by omega), cpa_o (by omega), cpa_o (by omega), cpa_o (by omega), cpa_o (by omega), cpa_o (by omega), cpa_e, cpa_c hk, cpa_o (by omega)]
    · rw [w7 _ _ (by omega) (by omega) (by omega) (by omega) (by omega), cpa_o (by omega), cpa_o (by omega), cpa_o (by omega), cpa_o (by omega), cpa_e, cpa_c hk, cpa_o (by omega), cpa_o (by omega)]
    · rw [w5 _ _ (by omega), (e3 k (by omega) hk).1, u8 _ _ (by omega), u7 _ _ (by omega)]
    · rw [w5 _ _ (by omega), (e3 k (by omega) hk).2.1, u8 _ _ (by omega), u7 _ _ (by omega)]
    · rw [w5 _ _ (by omega), (e3 k (by omega) hk).2.2, u8 _ _ (by omega), u7 _ _ (by omega)]
  · refine ⟨?_, ?_, ?_, ?_⟩
    · rw [w7 _ _ (by omega) (by omega) (by omega) (by omega) (by omega), cpa_o (by omega), cpa_o (by omega), cpa_o (by omega), cpa_e, cpa_c hk, cpa_o (by omega), cpa_o (by omega), cpa_o (by omega)]
    · rw [w7 _ _ (by omega) (by omega) (by omega) (by omega) (by omega), cpa_o (by omega), cpa_o (by omega), cpa_e, cpa_c hk, cpa_o (by omega), cpa_o (by omega), cpa_o (by omega), cpa_o (by omega)]
    · rw [w7 _ _ (by omega) (by omega) (by omega) (by omega) (by omega), cpa_o (by omega), cpa_e, cpa_c hk, cpa_o (by omega), cpa_o (by omega), cpa_o (by omega), cpa_o (by omega), cpa_o (by omega)]
    · rw [w7 _ _ (by omega) (by omega) (by omega) (by omega) (by omega), cpa_e, cpa_c hk, cpa_o (by omega), cpa_o (by omega), cpa_o (by omega), cpa_o (by omega), cpa_o (by omega), cpa_o (by omega)]
  · rw [w5 _ _ (by omega), e2 _ _ (by omega) (by omega) (by omega)]; exact v8
  · rw [g5 _ _ (by omega), g4 _ _ (by omega), g3 _ _ (by omega), g2 _ _ (by omega), f1, jv_u_at, if_pos ⟨rfl, rfl⟩]; exact a9 8
  · rw [g5 _ _ (by omega), g4 _ _ (by omega), g3 _ _ (by omega), f2, jv_u_at, if_pos ⟨rfl, rfl⟩, g1 _ _ (by omega)]; exact a9 9
  · rw [g5 _ _ (by omega), g4 _ _ (by omega), f3, jv_u_at, if_pos ⟨rfl, rfl⟩, g2 _ _ (by omega), g1 _ _ (by omega)]; exact a9 10
  · rw [g5 _ _ (by omega), f4, jv_u_at, if_pos ⟨rfl, rfl⟩, g3 _ _ (by omega), g2 _ _ (by omega), g1 _ _ (by omega)]; exact a9 11
  · rw [f5, jv_u_at, if_pos ⟨rfl, rfl⟩, g4 _ _ (by omega), g3 _ _ (by omega), g2 _ _ (by omega), g1 _ _ (by omega)]; exact a9 12
end Im
