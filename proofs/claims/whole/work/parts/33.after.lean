/-! rivers after what is done -/
/-- the same people and matters -/
def rK (α β : rA) : Prop := β 0 0 = α 0 0 ∧ β 0 1 = α 0 1 ∧ (∀ p, β 2 p = α 2 p) ∧ (∀ m, β 5 m = α 5 m) ∧ (∀ m, β 6 m = α 6 m)
theorem rK.rf {α : rA} : rK α α := ⟨rfl, rfl, fun _ => rfl, fun _ => rfl, fun _ => rfl⟩
section Af
variable {α : rA}
theorem rV_8 (hV : rV α) {m v : Nat} (hv : v ≤ α 0 2 + 2) : rV (rU α 8 m v) := by
  refine ⟨hV.P, hV.M, hV.td, hV.sz, fun j hj => hV.p (p := j) hj, fun j hj => ?_, fun i hi => hV.s (i := i) hi, hV.r⟩
  have := hV.m (m := j) hj
  refine ⟨this.1, this.2.1, this.2.2.1, this.2.2.2.1, ?_⟩
  show (if 8 = 8 ∧ j = m then v else α 8 j) ≤ α 0 2 + 2
  by_cases e : j = m
  · rw [if_pos ⟨rfl, e⟩]; exact hv
  · rw [if_neg (by omega)]; exact this.2.2.2.2
theorem sayO_V (hV : rV α) (z : Int) : rV (sayO α z).1 ∧ rK α (sayO α z).1 := by
  unfold sayO
  by_cases c : 0 ≤ z ∧ z < α 0 1
  · rw [if_pos c]
    by_cases c2 : cbs α z.toNat (α 8 z.toNat) (α 0 2) = true
    · rw [if_pos c2]
      show rV (sA α z.toNat) ∧ rK α (sA α z.toNat)
      unfold sA
      by_cases c3 : α 8 z.toNat = 0
      · rw [if_pos c3]; exact ⟨rV_8 hV (by omega), ⟨rfl, rfl, fun _ => rfl, fun _ => rfl, fun _ => rfl⟩⟩
      · rw [if_neg c3]; exact ⟨rV_8 hV (by omega), ⟨rfl, rfl, fun _ => rfl, fun _ => rfl, fun _ => rfl⟩⟩
    · rw [if_neg c2]; exact ⟨hV, rK.rf⟩
  · rw [if_neg c]; exact ⟨hV, rK.rf⟩
theorem dayO_V (hV : rV α) : rV (dayO α).1 ∧ rK α (dayO α).1 := by
  unfold dayO
  by_cases c : α 0 0 = 0
  · rw [if_pos c]; exact ⟨hV, rK.rf⟩
  · rw [if_neg c]
    by_cases c2 : α 0 2 < 1460
    · rw [if_pos c2]
      refine ⟨⟨hV.P, hV.M, ?_, hV.sz, fun j hj => hV.p (p := j) hj, fun j hj => ?_, fun i hi => hV.s (i := i) hi, hV.r⟩, ⟨rfl, rfl, fun _ => rfl, fun _ => rfl, fun _ => rfl⟩⟩
      · show α 0 2 + 1 ≤ 1460
        omega
      · have := hV.m (m := j) hj
        refine ⟨this.1, this.2.1, this.2.2.1, this.2.2.2.1, ?_⟩
        show α 8 j ≤ α 0 2 + 1 + 2
        omega
    · rw [if_neg c2]; exact ⟨hV, rK.rf⟩
theorem openO_V (hV : rV α) (z w : Int) : rV (openO α z w).1 ∧ rK α (openO α z w).1 := by
  unfold openO
  by_cases c : 0 ≤ z ∧ z < α 0 1
  · rw [if_pos c]
    by_cases c2 : 1 ≤ w ∧ w ≤ 9
    · rw [if_pos c2]
      refine ⟨⟨hV.P, hV.M, hV.td, hV.sz, fun j hj => hV.p (p := j) hj, fun j hj => ?_, fun i hi => hV.s (i := i) hi, hV.r⟩, ⟨rfl, rfl, fun _ => rfl, fun _ => rfl, fun _ => rfl⟩⟩
      have := hV.m (m := j) hj
      refine ⟨this.1, this.2.1, ?_⟩
      show 1 ≤ (if 7 = 7 ∧ j = z.toNat then w.toNat else α 7 j) ∧ (if 7 = 7 ∧ j = z.toNat then w.toNat else α 7 j) ≤ 9 ∧ (if 8 = 8 ∧ j = z.toNat then 0 else α 8 j) ≤ α 0 2 + 2
      by_cases e : j = z.toNat
      · rw [if_pos ⟨rfl, e⟩, if_pos ⟨rfl, e⟩]; omega
      · rw [if_neg (by omega), if_neg (by omega)]; exact this.2.2
    · rw [if_neg c2]; exact ⟨hV, rK.rf⟩
  · rw [if_neg c]; exact ⟨hV, rK.rf⟩
theorem changeO_V (hV : rV α) (z x y : Int) : rV (changeO α z x y).1 ∧ rK α (changeO α z x y).1 := by
  unfold changeO
  by_cases c : 0 ≤ z ∧ z < α 0 0
  · rw [if_pos c]
    by_cases c2 : 0 ≤ x ∧ x ≤ 4 ∧ 0 ≤ y ∧ y ≤ 9
    · rw [if_pos c2]
      refine ⟨⟨hV.P, hV.M, hV.td, hV.sz, fun j hj => ?_, fun j hj => hV.m (m := j) hj, fun i hi => hV.s (i := i) hi, hV.r⟩, ⟨rfl, rfl, fun _ => rfl, fun _ => rfl, fun _ => rfl⟩⟩
      have := hV.p (p := j) hj
      show (if 1 = 1 ∧ j = z.toNat then x.toNat else α 1 j) < 5 ∧ α 2 j < 2 ∧ α 3 j < 2 ∧ (if 4 = 4 ∧ j = z.toNat then y.toNat else α 4 j) < 10
      by_cases e : j = z.toNat
      · rw [if_pos ⟨rfl, e⟩, if_pos ⟨rfl, e⟩]; omega
      · rw [if_neg (by omega), if_neg (by omega)]; exact this
    · rw [if_neg c2]; exact ⟨hV, rK.rf⟩
  · rw [if_neg c]; exact ⟨hV, rK.rf⟩
theorem forgetO_V (hV : rV α) : rV (forgetO α).1 ∧ rK α (forgetO α).1 :=
  ⟨⟨hV.P, hV.M, hV.td, Nat.zero_le _, fun j hj => hV.p (p := j) hj, fun j hj => hV.m (m := j) hj, fun i hi => absurd hi (Nat.not_lt_zero i), hV.r⟩, ⟨rfl, rfl, fun _ => rfl, fun _ => rfl, fun _ => rfl⟩⟩
theorem seeO_V (hV : rV α) (z n : Int) {b : Nat} (hb : b < 2) : rV (seeO α z n b).1 ∧ rK α (seeO α z n b).1 := by
  unfold seeO
  by_cases c : 0 ≤ z ∧ z < α 0 0
  · rw [if_pos c]
    by_cases c2 : 0 ≤ n ∧ n ≤ 31
    · rw [if_pos c2]
      by_cases c3 : α 0 4 < 6
      · rw [if_pos c3]
        refine ⟨⟨hV.P, hV.M, hV.td, ?_, fun j hj => hV.p (p := j) hj, fun j hj => hV.m (m := j) hj, fun i hi => ?_, hV.r⟩, ⟨rfl, rfl, fun _ => rfl, fun _ => rfl, fun _ => rfl⟩⟩
        · show α 0 4 + 1 ≤ 6
          omega
        · have hi : i < α 0 4 + 1 := hi
          show (if 9 = 9 ∧ i = α 0 4 then z.toNat else α 9 i) < α 0 0 ∧ (if 10 = 10 ∧ i = α 0 4 then n.toNat else α 10 i) ≤ 31 ∧ (if 11 = 11 ∧ i = α 0 4 then b else α 11 i) < 2
          by_cases e : i = α 0 4
          · rw [if_pos ⟨rfl, e⟩, if_pos ⟨rfl, e⟩, if_pos ⟨rfl, e⟩]; omega
          · rw [if_neg (by omega), if_neg (by omega), if_neg (by omega)]; exact hV.s (by omega)
      · rw [if_neg c3]; exact ⟨hV, rK.rf⟩
    · rw [if_neg c2]; exact ⟨hV, rK.rf⟩
  · rw [if_neg c]; exact ⟨hV, rK.rf⟩
theorem crossO_V (hV : rV α) (z : Int) : rV (crossO α z).1 ∧ rK α (crossO α z).1 := by
  unfold crossO
  by_cases c : 0 ≤ z ∧ z < α 0 0
  · rw [if_pos c]
    exact ⟨rV_cr hV (by omega), ⟨rfl, rfl, fun _ => rfl, fun _ => rfl, fun _ => rfl⟩⟩
  · rw [if_neg c]; exact ⟨hV, rK.rf⟩
end Af
