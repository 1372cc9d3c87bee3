/-! day, open, change, see, forget -/
section Do
variable {α : rA} {σ σ' : jSt} {d : Nat} {k : Int32 → jSt → Prop}
def dayO (α : rA) : rA × Int × Int := if α 0 0 = 0 then (α, -103, 0) else if α 0 2 < 1460 then (rU α 0 2 (α 0 2 + 1), ((α 0 2 + 1 : Nat) : Int), 0) else (α, -104, 0)
theorem q_day (hV : rV α) (hX : rX 3 α σ) (h : ∀ σ', eS wS σ σ' → rX 3 (dayO α).1 σ' → σ'.1 3 12 = σ.1 3 12 + iI (dayO α).2.2 → k (iI (dayO α).2.1) σ') : jq_I (d + 2) 63 [.ref 0] σ k := by
  have htd := hV.td
  refine ok_X8_day (q_hasRiver hV hX ?_)
  dsimp only
  unfold dayO at h
  rw [jb_0, hX.td, iI_lt ⟨by omega, by omega⟩ ⟨by omega, by omega⟩, iI_add]
  refine ⟨fun c => ?_, fun c => ?_⟩
  · have c : 0 < α 0 0 := by simp at c; omega
    rw [if_neg (by omega)] at h
    refine ⟨fun c1 => ?_, fun c1 => ⟨_, rfl, ?_⟩⟩
    · rw [if_pos (by omega)] at h
      rw [show ((α 0 2 : Nat) : Int) + 1 = ((α 0 2 + 1 : Nat) : Int) by omega, jv_u_at, if_pos ⟨rfl, rfl⟩]
      have he : ∀ c k, ¬ (c = 3 ∧ k = 11) → (jv_u σ 3 11 (iI ((α 0 2 + 1 : Nat) : Int))).1 c k = σ.1 c k := fun c k e => by rw [jv_u_at, if_neg e]
      refine ⟨_, rfl, h _ (eS.u (by unfold wS; omega)) ⟨(he 3 8 (by omega)).trans hX.P, (he 3 9 (by omega)).trans hX.M, (he 3 10 (by omega)).trans hX.rt, ?_, (he 11 3 (by omega)).trans hX.sz, fun p hp => ⟨(he 4 p (by omega)).trans (hX.kd hp), (he 5 p (by omega)).trans (hX.bn hp), (he 6 p (by omega)).trans (hX.me hp)⟩, fun j hj => ⟨(he 7 j (by omega)).trans (hX.ak hj), (he 8 j (by omega)).trans (hX.aw hj), (he 9 j (by omega)).trans (hX.wo hj), (he 10 j (by omega)).trans (hX.st hj)⟩, fun i hi => ⟨(he 12 i (by omega)).trans (hX.who hi), (he 13 i (by omega)).trans (hX.dys hi), (he 14 i (by omega)).trans (hX.spo hi)⟩⟩ ?_⟩
      · rw [jv_u_at, if_pos ⟨rfl, rfl⟩]; rfl
      · rw [he 3 12 (by omega)]; exact i0a _
    · rw [if_neg (by omega)] at h
      exact h σ eS.rf hX (i0a _)
  · have c : α 0 0 = 0 := by simp at c; omega
    rw [if_pos c] at h
    exact ⟨_, rfl, h σ eS.rf hX (i0a _)⟩
theorem q_dayM (hV : rV α) (hM : rM α σ) (h : ∀ σ', eS vS σ σ' → rM (dayO α).1 σ' → σ'.1 34 6 = σ.1 34 6 + iI (dayO α).2.2 → k (iI (dayO α).2.1) σ') : jq_I (d + 2) 114 [.ref 34] σ k := by
  have htd := hV.td
  refine ok_X9_day (q_lacks hV hM ?_)
  dsimp only
  unfold dayO at h
  rw [jb_0, hM.td, iI_eq ⟨by omega, by omega⟩ ⟨by omega, by omega⟩, iI_add]
  refine ⟨fun c => ?_, fun c => ?_⟩
  · have c := of_decide_eq_false c
    rw [if_neg (by omega)] at h
    refine ⟨fun c1 => ?_, fun c1 => ⟨_, rfl, ?_⟩⟩
    · rw [if_pos (by omega)] at h
      rw [show ((α 0 2 : Nat) : Int) + 1 = ((α 0 2 + 1 : Nat) : Int) by omega, jv_u_at, if_pos ⟨rfl, rfl⟩]
      have he : ∀ c k, ¬ (c = 34 ∧ k = 5) → (jv_u σ 34 5 (iI ((α 0 2 + 1 : Nat) : Int))).1 c k = σ.1 c k := fun c k e => by rw [jv_u_at, if_neg e]
      refine ⟨_, rfl, h _ (eS.u (by unfold vS; omega)) ⟨(he 34 3 (by omega)).trans hM.P, (he 34 4 (by omega)).trans hM.M, ?_, (he 34 24 (by omega)).trans hM.sz, fun p hp => ⟨(he 36 p (by omega)).trans (hM.kd hp), (he 37 p (by omega)).trans (hM.bn hp), (he 38 p (by omega)).trans (hM.bk hp), (he 39 p (by omega)).trans (hM.me hp)⟩, fun j hj => ⟨(he 40 j (by omega)).trans (hM.ak hj), (he 41 j (by omega)).trans (hM.aw hj), (he 42 j (by omega)).trans (hM.wo hj), (he 43 j (by omega)).trans (hM.st hj), fun g => (he 44 j (by omega)).trans (hM.on hj g)⟩, fun i hi => ⟨(he 48 _ (by omega)).trans (hM.see hi).1, (he 48 _ (by omega)).trans (hM.see hi).2.1, (he 48 _ (by omega)).trans (hM.see hi).2.2⟩⟩ ?_⟩
      · rw [jv_u_at, if_pos ⟨rfl, rfl⟩]; rfl
      · rw [he 34 6 (by omega)]; exact i0a _
    · rw [if_neg (by omega)] at h
      exact h σ eS.rf hM (i0a _)
  · have c : α 0 0 = 0 := by simp at c; omega
    rw [if_pos c] at h
    exact ⟨_, rfl, h σ eS.rf hM (i0a _)⟩
def opA (α : rA) (m w : Nat) : rA := rU (rU α 8 m 0) 7 m w
def openO (α : rA) (z w : Int) : rA × Int × Int := if 0 ≤ z ∧ z < α 0 1 then (if 1 ≤ w ∧ w ≤ 9 then (opA α z.toNat w.toNat, ((stN (α 8 z.toNat) : Nat) : Int), 0) else (α, -102, 0)) else (α, -101, 0)
theorem q_open (hV : rV α) (hX : rX 3 α σ) {z w : Int} (hz : iR z) (hw : iR w) (h : ∀ σ', eS wS σ σ' → rX 3 (openO α z w).1 σ' → σ'.1 3 12 = σ.1 3 12 + iI (openO α z w).2.2 → k (iI (openO α z w).2.1) σ') : jq_I (d + 2) 65 [.ref 0, .int (iI z), .int (iI w)] σ k := by
  have h5 := hV.M
  refine ok_X8_open (q_knowsMatter hV hX hz ?_)
  dsimp only
  unfold openO at h
  rw [jb_0, iI_lt hw ⟨by omega, by omega⟩, iI_le hw ⟨by omega, by omega⟩]
  refine ⟨fun c => ?_, fun c => ?_⟩
  · have c := of_decide_eq_true (show decide (0 ≤ z ∧ z < α 0 1) = true by simpa using c)
    rw [if_pos c] at h
    obtain ⟨m, rfl⟩ : ∃ m : Nat, z = (m : Int) := ⟨z.toNat, by omega⟩
    have hm : m < α 0 1 := by omega
    have hc : (iI (m : Int)).toNatClampNeg = m := iI_clamp (by omega)
    have hin : vp_in (iI (m : Int)) 5 := (iI_in (by omega) 5).mpr (by omega)
    rw [show ((m : Int)).toNat = m by omega] at h
    rw [hc]
    refine ⟨fun c1 => ⟨_, rfl, ?_⟩, fun c1 => ⟨fun c2 => q_standing hV hX hm ⟨hin, hin, ⟨_, rfl, ?_⟩⟩, fun c2 => ⟨_, rfl, ?_⟩⟩⟩
    · rw [if_neg (by omega)] at h
      exact h σ eS.rf hX (i0a _)
    · rw [if_pos (by omega)] at h
      obtain ⟨x, rfl⟩ : ∃ x : Nat, w = (x : Int) := ⟨w.toNat, by omega⟩
      rw [show ((x : Int)).toNat = x by omega] at h
      have he : ∀ c k, ¬ (c = 10 ∧ k = m) → ¬ (c = 9 ∧ k = m) → (jv_u (jv_u σ 10 m (iI (-1))) 9 m (iI (x : Int))).1 c k = σ.1 c k := fun c k e e' => by rw [jv_u_at, if_neg e', jv_u_at, if_neg e]
      refine h _ ((eS.u (by unfold wS; omega)).tr (eS.u (by unfold wS; omega))) ⟨(he 3 8 (by omega) (by omega)).trans hX.P, (he 3 9 (by omega) (by omega)).trans hX.M, (he 3 10 (by omega) (by omega)).trans hX.rt, (he 3 11 (by omega) (by omega)).trans hX.td, (he 11 3 (by omega) (by omega)).trans hX.sz, fun p hp => ⟨(he 4 p (by omega) (by omega)).trans (hX.kd hp), (he 5 p (by omega) (by omega)).trans (hX.bn hp), (he 6 p (by omega) (by omega)).trans (hX.me hp)⟩, fun j hj => ⟨(he 7 j (by omega) (by omega)).trans (hX.ak hj), (he 8 j (by omega) (by omega)).trans (hX.aw hj), ?_, ?_⟩, fun i hi => ⟨(he 12 i (by omega) (by omega)).trans (hX.who hi), (he 13 i (by omega) (by omega)).trans (hX.dys hi), (he 14 i (by omega) (by omega)).trans (hX.spo hi)⟩⟩ ?_
      · show _ = iI ((if 7 = 7 ∧ j = m then x else α 7 j : Nat) : Int)
        by_cases e : j = m
        · rw [if_pos ⟨rfl, e⟩, jv_u_at, if_pos ⟨rfl, e⟩]
        · rw [if_neg (by omega), jv_u_at, if_neg (by omega), jv_u_at, if_neg (by omega)]; exact hX.wo hj
      · show _ = iI (zA (if 8 = 8 ∧ j = m then 0 else α 8 j))
        by_cases e : j = m
        · rw [if_pos ⟨rfl, e⟩, jv_u_at, if_neg (by omega), jv_u_at, if_pos ⟨rfl, e⟩]; rfl
        · rw [if_neg (by omega), jv_u_at, if_neg (by omega), jv_u_at, if_neg (by omega)]; exact hX.st hj
      · rw [he 3 12 (by omega) (by omega)]; exact i0a _
    · rw [if_neg (by omega)] at h
      exact h σ eS.rf hX (i0a _)
  · rw [if_neg (of_decide_eq_false c)] at h
    exact ⟨_, rfl, h σ eS.rf hX (i0a _)⟩
theorem q_openM (hV : rV α) (hM : rM α σ) {z w : Int} (hz : iR z) (hw : iR w) (h : ∀ σ', eS vS σ σ' → rM (openO α z w).1 σ' → σ'.1 34 6 = σ.1 34 6 + iI (openO α z w).2.2 → k (iI (openO α z w).2.1) σ') : jq_I (d + 3) 116 [.ref 34, .int (iI z), .int (iI w)] σ k := by
  have h5 := hV.M
  refine ok_X9_open (q_isMatter hV hM hz ?_)
  dsimp only
  unfold openO at h
  rw [jb_0, lI_i hw]
  refine ⟨fun c => ?_, fun c => ?_⟩
  · have c := of_decide_eq_true (show decide (0 ≤ z ∧ z < α 0 1) = true by simpa using c)
    rw [if_pos c] at h
    obtain ⟨m, rfl⟩ : ∃ m : Nat, z = (m : Int) := ⟨z.toNat, by omega⟩
    have hm : m < α 0 1 := by omega
    have hc : (iI (m : Int)).toNatClampNeg = m := iI_clamp (by omega)
    have hin : vp_in (iI (m : Int)) 5 := (iI_in (by omega) 5).mpr (by omega)
    rw [show ((m : Int)).toNat = m by omega] at h
    refine q_in (b := 1) (c := 9) hw ⟨by omega, by omega⟩ ⟨by omega, by omega⟩ ?_
    rw [jb_0, hc]
    refine ⟨fun c1 => ⟨hin, hin, hin, ⟨_, rfl, ?_⟩⟩, fun c1 => ⟨_, rfl, ?_⟩⟩
    · have c1 := of_decide_eq_true (show decide (1 ≤ w ∧ w ≤ 9) = true by simpa using c1)
      rw [if_pos c1] at h
      obtain ⟨x, rfl⟩ : ∃ x : Nat, w = (x : Int) := ⟨w.toNat, by omega⟩
      rw [show ((x : Int)).toNat = x by omega] at h
      rw [hM.st hm]
      have he : ∀ c k, ¬ (c = 43 ∧ k = m) → ¬ (c = 42 ∧ k = m) → (jv_u (jv_u σ 43 m (iI 0)) 42 m (iI (x : Int))).1 c k = σ.1 c k := fun c k e e' => by rw [jv_u_at, if_neg e', jv_u_at, if_neg e]
      refine h _ ((eS.u (by unfold vS; omega)).tr (eS.u (by unfold vS; omega))) ⟨(he 34 3 (by omega) (by omega)).trans hM.P, (he 34 4 (by omega) (by omega)).trans hM.M, (he 34 5 (by omega) (by omega)).trans hM.td, (he 34 24 (by omega) (by omega)).trans hM.sz, fun p hp => ⟨(he 36 p (by omega) (by omega)).trans (hM.kd hp), (he 37 p (by omega) (by omega)).trans (hM.bn hp), (he 38 p (by omega) (by omega)).trans (hM.bk hp), (he 39 p (by omega) (by omega)).trans (hM.me hp)⟩, fun j hj => ⟨(he 40 j (by omega) (by omega)).trans (hM.ak hj), (he 41 j (by omega) (by omega)).trans (hM.aw hj), ?_, ?_, ?_⟩, fun i hi => ⟨(he 48 _ (by omega) (by omega)).trans (hM.see hi).1, (he 48 _ (by omega) (by omega)).trans (hM.see hi).2.1, (he 48 _ (by omega) (by omega)).trans (hM.see hi).2.2⟩⟩ ?_
      · show _ = iI ((if 7 = 7 ∧ j = m then x else α 7 j : Nat) : Int)
        by_cases e : j = m
        · rw [if_pos ⟨rfl, e⟩, jv_u_at, if_pos ⟨rfl, e⟩]
        · rw [if_neg (by omega), jv_u_at, if_neg (by omega), jv_u_at, if_neg (by omega)]; exact hM.wo hj
      · show _ = iI ((stN (if 8 = 8 ∧ j = m then 0 else α 8 j) : Nat) : Int)
        by_cases e : j = m
        · rw [if_pos ⟨rfl, e⟩, jv_u_at, if_neg (by omega), jv_u_at, if_pos ⟨rfl, e⟩]; rfl
        · rw [if_neg (by omega), jv_u_at, if_neg (by omega), jv_u_at, if_neg (by omega)]; exact hM.st hj
      · show 2 ≤ (if 8 = 8 ∧ j = m then 0 else α 8 j) → _ = iI (((if 8 = 8 ∧ j = m then 0 else α 8 j : Nat) : Int) - 2)
        by_cases e : j = m
        · rw [if_pos ⟨rfl, e⟩]; intro g; omega
        · rw [if_neg (by omega), jv_u_at, if_neg (by omega), jv_u_at, if_neg (by omega)]; exact fun g => hM.on hj g
      · rw [he 34 6 (by omega) (by omega)]; exact i0a _
    · rw [if_neg (of_decide_eq_false c1)] at h
      exact h σ eS.rf hM (i0a _)
  · rw [if_neg (of_decide_eq_false c)] at h
    exact ⟨_, rfl, h σ eS.rf hM (i0a _)⟩
end Do
