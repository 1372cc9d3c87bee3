/-! image and restore of the reference -/
def nS (c k : Nat) : Prop := c = 34 ∧ (k = 27 ∨ k = 28 ∨ k = 29 ∨ k = 30) ∨ 49 ≤ c ∧ c ≤ 55
/-- the reference's kept river -/
def rN (β : rA) (σ : jSt) : Prop :=
  σ.1 34 28 = iI (β 0 2 : Nat) ∧ σ.1 34 30 = iI (β 0 4 : Nat) ∧ (∀ p, p < β 0 0 → σ.1 49 p = iI (β 1 p : Nat) ∧ σ.1 50 p = iI (β 3 p : Nat) ∧ σ.1 51 p = iI (β 4 p : Nat)) ∧
  (∀ m, m < β 0 1 → σ.1 52 m = iI (β 7 m : Nat) ∧ σ.1 53 m = iI (stN (β 8 m) : Nat) ∧ (2 ≤ β 8 m → σ.1 54 m = iI ((β 8 m : Int) - 2))) ∧
  (∀ i, i < β 0 4 → σ.1 55 (3 * i) = iI (β 9 i : Nat) ∧ σ.1 55 (3 * i + 1) = iI (β 10 i : Nat) ∧ σ.1 55 (3 * i + 2) = iI (β 11 i : Nat))
section Im
variable {α β : rA} {σ : jSt} {d : Nat} {k : Int32 → jSt → Prop}
theorem q_imageM (hV : rV α) (hM : rM α σ) (h0 : α 0 0 = 0 → k (iI (-103)) σ) (h1 : 0 < α 0 0 → ∀ σ', eS nS σ σ' → rN α σ' → σ'.1 34 29 = σ.1 34 6 → σ'.1 34 27 = σ.1 34 7 → k (iI (α 0 2 : Nat)) σ') : jq_I (d + 2) 134 [.ref 34] σ k := by
  have h6 := hV.P
  have h5 := hV.M
  have h4 := hV.sz
  refine ok_X9_image (q_lacks hV hM ?_)
  rw [jb_0]
  refine ⟨fun c => ?_, fun c => ⟨_, rfl, h0 (by simp at c; omega)⟩⟩
  have c := of_decide_eq_false c
  refine q_cp_36_49 (fun s1 a1 => q_cp_38_50 (fun s2 a2 => q_cp_39_51 (fun s3 a3 => q_cp_42_52 (fun s4 a4 => q_cp_43_53 (fun s5 a5 => q_cp_44_54 (fun s6 a6 => q_cp_48_55 (fun s7 a7 => ?_)))))))
  have hs : ∀ c k, (c < 49 ∨ 55 < c) → s7.1 c k = σ.1 c k := fun c k g => by rw [a7.2.1 c k (by omega), a6.2.1 c k (by omega), a5.2.1 c k (by omega), a4.2.1 c k (by omega), a3.2.1 c k (by omega), a2.2.1 c k (by omega), a1.2.1 c k (by omega)]
  have hs2 : s7.2 = σ.2 := by rw [a7.1, a6.1, a5.1, a4.1, a3.1, a2.1, a1.1]
  have b1 : ∀ j, j < 6 → s7.1 49 j = σ.1 36 j := fun j hj => by rw [a7.2.1 _ _ (by omega), a6.2.1 _ _ (by omega), a5.2.1 _ _ (by omega), a4.2.1 _ _ (by omega), a3.2.1 _ _ (by omega), a2.2.1 _ _ (by omega), a1.2.2.1 j hj]
  have b2 : ∀ j, j < 6 → s7.1 50 j = σ.1 38 j := fun j hj => by rw [a7.2.1 _ _ (by omega), a6.2.1 _ _ (by omega), a5.2.1 _ _ (by omega), a4.2.1 _ _ (by omega), a3.2.1 _ _ (by omega), a2.2.2.1 j hj, a1.2.1 _ _ (by omega)]
  have b3 : ∀ j, j < 6 → s7.1 51 j = σ.1 39 j := fun j hj => by rw [a7.2.1 _ _ (by omega), a6.2.1 _ _ (by omega), a5.2.1 _ _ (by omega), a4.2.1 _ _ (by omega), a3.2.2.1 j hj, a2.2.1 _ _ (by omega), a1.2.1 _ _ (by omega)]
  have b4 : ∀ j, j < 5 → s7.1 52 j = σ.1 42 j := fun j hj => by rw [a7.2.1 _ _ (by omega), a6.2.1 _ _ (by omega), a5.2.1 _ _ (by omega), a4.2.2.1 j hj, a3.2.1 _ _ (by omega), a2.2.1 _ _ (by omega), a1.2.1 _ _ (by omega)]
  have b5 : ∀ j, j < 5 → s7.1 53 j = σ.1 43 j := fun j hj => by rw [a7.2.1 _ _ (by omega), a6.2.1 _ _ (by omega), a5.2.2.1 j hj, a4.2.1 _ _ (by omega), a3.2.1 _ _ (by omega), a2.2.1 _ _ (by omega), a1.2.1 _ _ (by omega)]
  have b6 : ∀ j, j < 5 → s7.1 54 j = σ.1 44 j := fun j hj => by rw [a7.2.1 _ _ (by omega), a6.2.2.1 j hj, a5.2.1 _ _ (by omega), a4.2.1 _ _ (by omega), a3.2.1 _ _ (by omega), a2.2.1 _ _ (by omega), a1.2.1 _ _ (by omega)]
  have b7 : ∀ j, j < 18 → s7.1 55 j = σ.1 48 j := fun j hj => by rw [a7.2.2.1 j hj, a6.2.1 _ _ (by omega), a5.2.1 _ _ (by omega), a4.2.1 _ _ (by omega), a3.2.1 _ _ (by omega), a2.2.1 _ _ (by omega), a1.2.1 _ _ (by omega)]
  suffices hh : ∀ t1 t2 t3 t4 : jSt, t1 = jv_u s7 34 28 (s7.1 34 5) → t2 = jv_u t1 34 29 (t1.1 34 6) → t3 = jv_u t2 34 30 (t2.1 34 24) → t4 = jv_u t3 34 27 (t3.1 34 7) → k (t4.1 34 5) t4 from ⟨_, rfl, hh _ _ _ _ rfl rfl rfl rfl⟩
  intro t1 t2 t3 t4 f1 f2 f3 f4
  have g1 : ∀ c k, ¬ (c = 34 ∧ k = 28) → t1.1 c k = s7.1 c k := fun c k g => by rw [f1, jv_u_at, if_neg g]
  have g2 : ∀ c k, ¬ (c = 34 ∧ k = 29) → t2.1 c k = t1.1 c k := fun c k g => by rw [f2, jv_u_at, if_neg g]
  have g3 : ∀ c k, ¬ (c = 34 ∧ k = 30) → t3.1 c k = t2.1 c k := fun c k g => by rw [f3, jv_u_at, if_neg g]
  have g4 : ∀ c k, ¬ (c = 34 ∧ k = 27) → t4.1 c k = t3.1 c k := fun c k g => by rw [f4, jv_u_at, if_neg g]
  have w : ∀ c k, ¬ (c = 34 ∧ (k = 27 ∨ k = 28 ∨ k = 29 ∨ k = 30)) → t4.1 c k = s7.1 c k := fun c k g => by rw [g4 c k (by omega), g3 c k (by omega), g2 c k (by omega), g1 c k (by omega)]
  rw [w 34 5 (by omega), hs 34 5 (by omega), hM.td]
  refine h1 (by omega) t4 ⟨by rw [f4, f3, f2, f1]; exact hs2, fun c k n => by rw [w c k (by unfold nS at n; omega), hs c k (by unfold nS at n; omega)]⟩ ⟨?_, ?_, fun p hp => ?_, fun m hm => ?_, fun i hi => ?_⟩ ?_ ?_
  · rw [g4 _ _ (by omega), g3 _ _ (by omega), g2 _ _ (by omega), f1, jv_u_at, if_pos ⟨rfl, rfl⟩, hs 34 5 (by omega)]; exact hM.td
  · rw [g4 _ _ (by omega), f3, jv_u_at, if_pos ⟨rfl, rfl⟩, g2 _ _ (by omega), g1 _ _ (by omega), hs 34 24 (by omega)]; exact hM.sz
  · rw [w _ _ (by omega), w _ _ (by omega), w _ _ (by omega), b1 p (by omega), b2 p (by omega), b3 p (by omega)]
    exact ⟨hM.kd hp, hM.bk hp, hM.me hp⟩
  · rw [w _ _ (by omega), w _ _ (by omega), w _ _ (by omega), b4 m (by omega), b5 m (by omega), b6 m (by omega)]
    exact ⟨hM.wo hm, hM.st hm, fun g => hM.on hm g⟩
  · rw [w _ _ (by omega), w _ _ (by omega), w _ _ (by omega), b7 _ (by omega), b7 _ (by omega), b7 _ (by omega)]
    exact hM.see hi
  · rw [g4 _ _ (by omega), g3 _ _ (by omega), f2, jv_u_at, if_pos ⟨rfl, rfl⟩, g1 _ _ (by omega), hs 34 6 (by omega)]
  · rw [f4, jv_u_at, if_pos ⟨rfl, rfl⟩, g3 _ _ (by omega), g2 _ _ (by omega), g1 _ _ (by omega), hs 34 7 (by omega)]
theorem q_restoreM0 (h : ¬ σ.1 34 27 = σ.1 34 7) (h0 : k (iI (-103)) σ) : jq_I (d + 2) 135 [.ref 34] σ k :=
  ok_X9_restore ⟨fun c => absurd c h, fun _ => ⟨_, rfl, h0⟩⟩
theorem q_restoreM (hV : rV β) (hM : rM α σ) (hK : rK α β) (hN : rN β σ) (he : σ.1 34 27 = σ.1 34 7) (h1 : ∀ σ', eS vS σ σ' → rM β σ' → σ'.1 34 6 = σ.1 34 29 → k (iI (β 0 2 : Nat)) σ') : jq_I (d + 2) 135 [.ref 34] σ k := by
  have h6 := hV.P
  have h5 := hV.M
  have h4 := hV.sz
  have kP := hK.1
  have kM := hK.2.1
  refine ok_X9_restore ⟨fun _ => ?_, fun c => absurd he c⟩
  refine q_cp_49_36 (fun s1 a1 => q_cp_50_38 (fun s2 a2 => q_cp_51_39 (fun s3 a3 => q_cp_52_42 (fun s4 a4 => q_cp_53_43 (fun s5 a5 => q_cp_54_44 (fun s6 a6 => q_cp_55_48 (fun s7 a7 => ?_)))))))
  have hs : ∀ c k, c ≠ 36 → c ≠ 38 → c ≠ 39 → c ≠ 42 → c ≠ 43 → c ≠ 44 → c ≠ 48 → s7.1 c k = σ.1 c k := fun c k g1 g2 g3 g4 g5 g6 g7 => by rw [a7.2.1 c k g7, a6.2.1 c k g6, a5.2.1 c k g5, a4.2.1 c k g4, a3.2.1 c k g3, a2.2.1 c k g2, a1.2.1 c k g1]
  have h34 : ∀ c k, (c = 34 ∨ c = 37 ∨ c = 40 ∨ c = 41) → s7.1 c k = σ.1 c k := fun c k g => hs c k (by omega) (by omega) (by omega) (by omega) (by omega) (by omega) (by omega)
  have hs2 : s7.2 = σ.2 := by rw [a7.1, a6.1, a5.1, a4.1, a3.1, a2.1, a1.1]
  have b1 : ∀ j, j < 6 → s7.1 36 j = σ.1 49 j := fun j hj => by rw [a7.2.1 _ _ (by omega), a6.2.1 _ _ (by omega), a5.2.1 _ _ (by omega), a4.2.1 _ _ (by omega), a3.2.1 _ _ (by omega), a2.2.1 _ _ (by omega), a1.2.2.1 j hj]
  have b2 : ∀ j, j < 6 → s7.1 38 j = σ.1 50 j := fun j hj => by rw [a7.2.1 _ _ (by omega), a6.2.1 _ _ (by omega), a5.2.1 _ _ (by omega), a4.2.1 _ _ (by omega), a3.2.1 _ _ (by omega), a2.2.2.1 j hj, a1.2.1 _ _ (by omega)]
  have b3 : ∀ j, j < 6 → s7.1 39 j = σ.1 51 j := fun j hj => by rw [a7.2.1 _ _ (by omega), a6.2.1 _ _ (by omega), a5.2.1 _ _ (by omega), a4.2.1 _ _ (by omega), a3.2.2.1 j hj, a2.2.1 _ _ (by omega), a1.2.1 _ _ (by omega)]
  have b4 : ∀ j, j < 5 → s7.1 42 j = σ.1 52 j := fun j hj => by rw [a7.2.1 _ _ (by omega), a6.2.1 _ _ (by omega), a5.2.1 _ _ (by omega), a4.2.2.1 j hj, a3.2.1 _ _ (by omega), a2.2.1 _ _ (by omega), a1.2.1 _ _ (by omega)]
  have b5 : ∀ j, j < 5 → s7.1 43 j = σ.1 53 j := fun j hj => by rw [a7.2.1 _ _ (by omega), a6.2.1 _ _ (by omega), a5.2.2.1 j hj, a4.2.1 _ _ (by omega), a3.2.1 _ _ (by omega), a2.2.1 _ _ (by omega), a1.2.1 _ _ (by omega)]
  have b6 : ∀ j, j < 5 → s7.1 44 j = σ.1 54 j := fun j hj => by rw [a7.2.1 _ _ (by omega), a6.2.2.1 j hj, a5.2.1 _ _ (by omega), a4.2.1 _ _ (by omega), a3.2.1 _ _ (by omega), a2.2.1 _ _ (by omega), a1.2.1 _ _ (by omega)]
  have b7 : ∀ j, j < 18 → s7.1 48 j = σ.1 55 j := fun j hj => by rw [a7.2.2.1 j hj, a6.2.1 _ _ (by omega), a5.2.1 _ _ (by omega), a4.2.1 _ _ (by omega), a3.2.1 _ _ (by omega), a2.2.1 _ _ (by omega), a1.2.1 _ _ (by omega)]
  suffices hh : ∀ t1 t2 t3 : jSt, t1 = jv_u s7 34 5 (s7.1 34 28) → t2 = jv_u t1 34 6 (t1.1 34 29) → t3 = jv_u t2 34 24 (t2.1 34 30) → k (t3.1 34 5) t3 from ⟨_, rfl, hh _ _ _ rfl rfl rfl⟩
  intro t1 t2 t3 f1 f2 f3
  have g1 : ∀ c k, ¬ (c = 34 ∧ k = 5) → t1.1 c k = s7.1 c k := fun c k g => by rw [f1, jv_u_at, if_neg g]
  have g2 : ∀ c k, ¬ (c = 34 ∧ k = 6) → t2.1 c k = t1.1 c k := fun c k g => by rw [f2, jv_u_at, if_neg g]
  have g3 : ∀ c k, ¬ (c = 34 ∧ k = 24) → t3.1 c k = t2.1 c k := fun c k g => by rw [f3, jv_u_at, if_neg g]
  have w : ∀ c k, ¬ (c = 34 ∧ (k = 5 ∨ k = 6 ∨ k = 24)) → t3.1 c k = s7.1 c k := fun c k g => by rw [g3 c k (by omega), g2 c k (by omega), g1 c k (by omega)]
  have v5 : t3.1 34 5 = iI (β 0 2 : Nat) := by rw [g3 _ _ (by omega), g2 _ _ (by omega), f1, jv_u_at, if_pos ⟨rfl, rfl⟩, h34 34 28 (by omega)]; exact hN.1
  rw [v5]
  refine h1 t3 ⟨by rw [f3, f2, f1]; exact hs2, fun c k n => by rw [w c k (by unfold vS at n; omega), hs c k (by unfold vS at n; omega) (by unfold vS at n; omega) (by unfold vS at n; omega) (by unfold vS at n; omega) (by unfold vS at n; omega) (by unfold vS at n; omega) (by unfold vS at n; omega)]⟩ ⟨?_, ?_, v5, ?_, fun p hp => ?_, fun m hm => ?_, fun i hi => ?_⟩ ?_
  · rw [w _ _ (by omega), h34 _ _ (by omega), kP]; exact hM.P
  · rw [w _ _ (by omega), h34 _ _ (by omega), kM]; exact hM.M
  · rw [f3, jv_u_at, if_pos ⟨rfl, rfl⟩, g2 _ _ (by omega), g1 _ _ (by omega), h34 _ _ (by omega)]; exact hN.2.1
  · have := hN.2.2.1 p hp
    rw [w _ _ (by omega), w _ _ (by omega), w _ _ (by omega), w _ _ (by omega), b1 p (by omega), b2 p (by omega), b3 p (by omega), h34 37 p (by omega), hK.2.2.1 p]
    exact ⟨this.1, hM.bn (by omega), this.2.1, this.2.2⟩
  · have := hN.2.2.2.1 m hm
    rw [w _ _ (by omega), w _ _ (by omega), w _ _ (by omega), w _ _ (by omega), w _ _ (by omega), b4 m (by omega), b5 m (by omega), b6 m (by omega), h34 40 m (by omega), h34 41 m (by omega), hK.2.2.2.1 m, hK.2.2.2.2 m]
    exact ⟨hM.ak (by omega), hM.aw (by omega), this.1, this.2.1, this.2.2⟩
  · rw [w _ _ (by omega), w _ _ (by omega), w _ _ (by omega), b7 _ (by omega), b7 _ (by omega), b7 _ (by omega)]
    exact hN.2.2.2.2 i hi
  · rw [g3 _ _ (by omega), f2, jv_u_at, if_pos ⟨rfl, rfl⟩, g1 _ _ (by omega), h34 34 29 (by omega)]
end Im
