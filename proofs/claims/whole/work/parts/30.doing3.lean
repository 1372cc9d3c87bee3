/-! change, see, forget -/
section Do
variable {α : rA} {σ σ' : jSt} {d : Nat} {k : Int32 → jSt → Prop}
def chA (α : rA) (p x y : Nat) : rA := rU (rU α 1 p x) 4 p y
def changeO (α : rA) (z x y : Int) : rA × Int × Int := if 0 ≤ z ∧ z < α 0 0 then (if 0 ≤ x ∧ x ≤ 4 ∧ 0 ≤ y ∧ y ≤ 9 then (chA α z.toNat x.toNat y.toNat, ((α 1 z.toNat : Nat) : Int), 0) else (α, -102, 0)) else (α, -101, 0)
theorem q_change (hV : rV α) (hX : rX 3 α σ) {z x y : Int} (hz : iR z) (hx : iR x) (hy : iR y) (h : ∀ σ', eS wS σ σ' → rX 3 (changeO α z x y).1 σ' → σ'.1 3 12 = σ.1 3 12 + iI (changeO α z x y).2.2 → k (iI (changeO α z x y).2.1) σ') : jq_I (d + 2) 66 [.ref 0, .int (iI z), .int (iI x), .int (iI y)] σ k := by
  have h6 := hV.P
  refine ok_X8_change (q_knowsPerson hV hX hz ?_)
  dsimp only
  unfold changeO at h
  rw [jb_0, iI_lt0 hx, iI_lt0 hy, iI_le ⟨by omega, by omega⟩ hx, iI_le hy ⟨by omega, by omega⟩]
  refine ⟨fun c => ?_, fun c => ?_⟩
  · have c := of_decide_eq_true (show decide (0 ≤ z ∧ z < α 0 0) = true by simpa using c)
    rw [if_pos c] at h
    obtain ⟨p, rfl⟩ : ∃ p : Nat, z = (p : Int) := ⟨z.toNat, by omega⟩
    have hp : p < α 0 0 := by omega
    have hc : (iI (p : Int)).toNatClampNeg = p := iI_clamp (by omega)
    have hin : vp_in (iI (p : Int)) 6 := (iI_in (by omega) 6).mpr (by omega)
    rw [show ((p : Int)).toNat = p by omega] at h
    have no : ¬ (0 ≤ x ∧ x ≤ 4 ∧ 0 ≤ y ∧ y ≤ 9) → k (iI (-102)) σ := fun n => by rw [if_neg n] at h; exact h σ eS.rf hX (i0a _)
    rw [hc]
    refine ⟨fun c1 => ⟨_, rfl, no (by omega)⟩, fun c1 => ⟨fun c2 => ⟨_, rfl, no (by omega)⟩, fun c2 => ⟨fun c3 => ⟨_, rfl, no (by omega)⟩, fun c3 => ⟨fun c4 => ⟨hin, hin, hin, ⟨_, rfl, ?_⟩⟩, fun c4 => ⟨_, rfl, no (by omega)⟩⟩⟩⟩⟩
    rw [if_pos (by omega)] at h
    obtain ⟨a, rfl⟩ : ∃ a : Nat, x = (a : Int) := ⟨x.toNat, by omega⟩
    obtain ⟨b, rfl⟩ : ∃ b : Nat, y = (b : Int) := ⟨y.toNat, by omega⟩
    rw [show ((a : Int)).toNat = a by omega, show ((b : Int)).toNat = b by omega] at h
    rw [hX.kd hp]
    have he : ∀ c k, ¬ (c = 4 ∧ k = p) → ¬ (c = 6 ∧ k = p) → (jv_u (jv_u σ 4 p (iI (a : Int))) 6 p (iI (b : Int))).1 c k = σ.1 c k := fun c k e e' => by rw [jv_u_at, if_neg e', jv_u_at, if_neg e]
    refine h _ ((eS.u (by unfold wS; omega)).tr (eS.u (by unfold wS; omega))) ⟨(he 3 8 (by omega) (by omega)).trans hX.P, (he 3 9 (by omega) (by omega)).trans hX.M, (he 3 10 (by omega) (by omega)).trans hX.rt, (he 3 11 (by omega) (by omega)).trans hX.td, (he 11 3 (by omega) (by omega)).trans hX.sz, fun j hj => ⟨?_, (he 5 j (by omega) (by omega)).trans (hX.bn hj), ?_⟩, fun j hj => ⟨(he 7 j (by omega) (by omega)).trans (hX.ak hj), (he 8 j (by omega) (by omega)).trans (hX.aw hj), (he 9 j (by omega) (by omega)).trans (hX.wo hj), (he 10 j (by omega) (by omega)).trans (hX.st hj)⟩, fun i hi => ⟨(he 12 i (by omega) (by omega)).trans (hX.who hi), (he 13 i (by omega) (by omega)).trans (hX.dys hi), (he 14 i (by omega) (by omega)).trans (hX.spo hi)⟩⟩ ?_
    · show _ = iI ((if 1 = 1 ∧ j = p then a else α 1 j : Nat) : Int)
      by_cases e : j = p
      · rw [if_pos ⟨rfl, e⟩, jv_u_at, if_neg (by omega), jv_u_at, if_pos ⟨rfl, e⟩]
      · rw [if_neg (by omega), jv_u_at, if_neg (by omega), jv_u_at, if_neg (by omega)]; exact hX.kd hj
    · show _ = iI ((if 4 = 4 ∧ j = p then b else α 4 j : Nat) : Int)
      by_cases e : j = p
      · rw [if_pos ⟨rfl, e⟩, jv_u_at, if_pos ⟨rfl, e⟩]
      · rw [if_neg (by omega), jv_u_at, if_neg (by omega), jv_u_at, if_neg (by omega)]; exact hX.me hj
    · rw [he 3 12 (by omega) (by omega)]; exact i0a _
  · rw [if_neg (of_decide_eq_false c)] at h
    exact ⟨_, rfl, h σ eS.rf hX (i0a _)⟩
theorem q_changeM (hV : rV α) (hM : rM α σ) {z x y : Int} (hz : iR z) (hx : iR x) (hy : iR y) (h : ∀ σ', eS vS σ σ' → rM (changeO α z x y).1 σ' → σ'.1 34 6 = σ.1 34 6 + iI (changeO α z x y).2.2 → k (iI (changeO α z x y).2.1) σ') : jq_I (d + 3) 117 [.ref 34, .int (iI z), .int (iI x), .int (iI y)] σ k := by
  have h6 := hV.P
  refine ok_X9_change (q_isPerson hV hM hz ?_)
  dsimp only
  unfold changeO at h
  rw [jb_0, lI_i hx, lI_i hy]
  refine ⟨fun c => ?_, fun c => ?_⟩
  · have c := of_decide_eq_true (show decide (0 ≤ z ∧ z < α 0 0) = true by simpa using c)
    rw [if_pos c] at h
    obtain ⟨p, rfl⟩ : ∃ p : Nat, z = (p : Int) := ⟨z.toNat, by omega⟩
    have hp : p < α 0 0 := by omega
    have hc : (iI (p : Int)).toNatClampNeg = p := iI_clamp (by omega)
    have hin : vp_in (iI (p : Int)) 6 := (iI_in (by omega) 6).mpr (by omega)
    rw [show ((p : Int)).toNat = p by omega] at h
    have no : ¬ (0 ≤ x ∧ x ≤ 4 ∧ 0 ≤ y ∧ y ≤ 9) → k (iI (-102)) σ := fun n => by rw [if_neg n] at h; exact h σ eS.rf hM (i0a _)
    rw [hc]
    refine q_in (b := 0) (c := 4) hx ⟨by omega, by omega⟩ ⟨by omega, by omega⟩ ?_
    rw [jb_0]
    refine ⟨fun c1 => ⟨_, rfl, no (fun q => of_decide_eq_false c1 ⟨q.1, q.2.1⟩)⟩, fun c1 => q_in (b := 0) (c := 9) hy ⟨by omega, by omega⟩ ⟨by omega, by omega⟩ ?_⟩
    have c1 := of_decide_eq_true (show decide (0 ≤ x ∧ x ≤ 4) = true by simpa using c1)
    rw [jb_0]
    refine ⟨fun c2 => ⟨hin, hin, hin, ⟨_, rfl, ?_⟩⟩, fun c2 => ⟨_, rfl, no (fun q => of_decide_eq_false c2 ⟨q.2.2.1, q.2.2.2⟩)⟩⟩
    have c2 := of_decide_eq_true (show decide (0 ≤ y ∧ y ≤ 9) = true by simpa using c2)
    rw [if_pos ⟨c1.1, c1.2, c2.1, c2.2⟩] at h
    obtain ⟨a, rfl⟩ : ∃ a : Nat, x = (a : Int) := ⟨x.toNat, by omega⟩
    obtain ⟨b, rfl⟩ : ∃ b : Nat, y = (b : Int) := ⟨y.toNat, by omega⟩
    rw [show ((a : Int)).toNat = a by omega, show ((b : Int)).toNat = b by omega] at h
    rw [hM.kd hp]
    have he : ∀ c k, ¬ (c = 36 ∧ k = p) → ¬ (c = 39 ∧ k = p) → (jv_u (jv_u σ 36 p (iI (a : Int))) 39 p (iI (b : Int))).1 c k = σ.1 c k := fun c k e e' => by rw [jv_u_at, if_neg e', jv_u_at, if_neg e]
    refine h _ ((eS.u (by unfold vS; omega)).tr (eS.u (by unfold vS; omega))) ⟨(he 34 3 (by omega) (by omega)).trans hM.P, (he 34 4 (by omega) (by omega)).trans hM.M, (he 34 5 (by omega) (by omega)).trans hM.td, (he 34 24 (by omega) (by omega)).trans hM.sz, fun j hj => ⟨?_, (he 37 j (by omega) (by omega)).trans (hM.bn hj), (he 38 j (by omega) (by omega)).trans (hM.bk hj), ?_⟩, fun j hj => ⟨(he 40 j (by omega) (by omega)).trans (hM.ak hj), (he 41 j (by omega) (by omega)).trans (hM.aw hj), (he 42 j (by omega) (by omega)).trans (hM.wo hj), (he 43 j (by omega) (by omega)).trans (hM.st hj), fun g => (he 44 j (by omega) (by omega)).trans (hM.on hj g)⟩, fun i hi => ⟨(he 48 _ (by omega) (by omega)).trans (hM.see hi).1, (he 48 _ (by omega) (by omega)).trans (hM.see hi).2.1, (he 48 _ (by omega) (by omega)).trans (hM.see hi).2.2⟩⟩ ?_
    · show _ = iI ((if 1 = 1 ∧ j = p then a else α 1 j : Nat) : Int)
      by_cases e : j = p
      · rw [if_pos ⟨rfl, e⟩, jv_u_at, if_neg (by omega), jv_u_at, if_pos ⟨rfl, e⟩]
      · rw [if_neg (by omega), jv_u_at, if_neg (by omega), jv_u_at, if_neg (by omega)]; exact hM.kd hj
    · show _ = iI ((if 4 = 4 ∧ j = p then b else α 4 j : Nat) : Int)
      by_cases e : j = p
      · rw [if_pos ⟨rfl, e⟩, jv_u_at, if_pos ⟨rfl, e⟩]
      · rw [if_neg (by omega), jv_u_at, if_neg (by omega), jv_u_at, if_neg (by omega)]; exact hM.me hj
    · rw [he 34 6 (by omega) (by omega)]; exact i0a _
  · rw [if_neg (of_decide_eq_false c)] at h
    exact ⟨_, rfl, h σ eS.rf hM (i0a _)⟩
def forgetO (α : rA) : rA × Int × Int := (rU α 0 4 0, ((α 0 4 : Nat) : Int), 0)
theorem q_forget (hX : rX 3 α σ) (h : ∀ σ', eS wS σ σ' → rX 3 (forgetO α).1 σ' → σ'.1 3 12 = σ.1 3 12 + iI (forgetO α).2.2 → k (iI (forgetO α).2.1) σ') : jq_I (d + 1) 71 [.ref 0] σ k := by
  refine ok_X8_forget ⟨_, rfl, ?_⟩
  rw [hX.sz]
  have he : ∀ c k, ¬ (c = 11 ∧ k = 3) → (jv_u σ 11 3 (iI 0)).1 c k = σ.1 c k := fun c k e => by rw [jv_u_at, if_neg e]
  refine h _ (eS.u (by unfold wS; omega)) ⟨(he 3 8 (by omega)).trans hX.P, (he 3 9 (by omega)).trans hX.M, (he 3 10 (by omega)).trans hX.rt, (he 3 11 (by omega)).trans hX.td, ?_, fun p hp => ⟨(he 4 p (by omega)).trans (hX.kd hp), (he 5 p (by omega)).trans (hX.bn hp), (he 6 p (by omega)).trans (hX.me hp)⟩, fun j hj => ⟨(he 7 j (by omega)).trans (hX.ak hj), (he 8 j (by omega)).trans (hX.aw hj), (he 9 j (by omega)).trans (hX.wo hj), (he 10 j (by omega)).trans (hX.st hj)⟩, fun i hi => absurd hi (Nat.not_lt_zero i)⟩ ?_
  · rw [jv_u_at, if_pos ⟨rfl, rfl⟩]; rfl
  · rw [he 3 12 (by omega)]; exact i0a _
theorem q_forgetM (hM : rM α σ) (h : ∀ σ', eS vS σ σ' → rM (forgetO α).1 σ' → σ'.1 34 6 = σ.1 34 6 + iI (forgetO α).2.2 → k (iI (forgetO α).2.1) σ') : jq_I (d + 1) 128 [.ref 34] σ k := by
  refine ok_X9_forget ⟨_, rfl, ?_⟩
  rw [hM.sz]
  have he : ∀ c k, ¬ (c = 34 ∧ k = 24) → (jv_u σ 34 24 (iI 0)).1 c k = σ.1 c k := fun c k e => by rw [jv_u_at, if_neg e]
  refine h _ (eS.u (by unfold vS; omega)) ⟨(he 34 3 (by omega)).trans hM.P, (he 34 4 (by omega)).trans hM.M, (he 34 5 (by omega)).trans hM.td, ?_, fun j hj => ⟨(he 36 j (by omega)).trans (hM.kd hj), (he 37 j (by omega)).trans (hM.bn hj), (he 38 j (by omega)).trans (hM.bk hj), (he 39 j (by omega)).trans (hM.me hj)⟩, fun j hj => ⟨(he 40 j (by omega)).trans (hM.ak hj), (he 41 j (by omega)).trans (hM.aw hj), (he 42 j (by omega)).trans (hM.wo hj), (he 43 j (by omega)).trans (hM.st hj), fun g => (he 44 j (by omega)).trans (hM.on hj g)⟩, fun i hi => absurd hi (Nat.not_lt_zero i)⟩ ?_
  · rw [jv_u_at, if_pos ⟨rfl, rfl⟩]; rfl
  · rw [he 34 6 (by omega)]; exact i0a _
end Do
