/-! what holds of both between calls -/
def rKp (α : rA) (rd : Nat) (σ : jSt) : Prop := (σ.1 15 8 = iI 0 ∧ ∃ q : Int, -1 ≤ q ∧ q < rd ∧ σ.1 34 27 = iI q) ∨ (∃ β, rV β ∧ 0 < β 0 0 ∧ rK α β ∧ rX 15 β σ ∧ rN β σ ∧ σ.1 34 27 = iI (rd : Nat) ∧ σ.1 15 12 = σ.1 34 29 ∧ (∀ j, j < 6 → σ.1 26 j = 0 ∨ σ.1 26 j = 1))
def rB (α : rA) (g : Nat → Nat) (pn rd pl n : Nat) (σ : jSt) : Prop := rV α ∧ rX 3 α σ ∧ rM α σ ∧ pV g pn ∧ pX g pn σ ∧ pM g pn σ ∧ σ.1 3 12 = σ.1 34 6 ∧ σ.1 0 5 = iI (rd : Nat) ∧ σ.1 34 7 = iI (rd : Nat) ∧ rd ≤ n ∧ pl ≤ 20 ∧ σ.1 0 6 = iI (pl : Nat) ∧ σ.1 34 22 = iI (pl : Nat) ∧ (∀ j, j < 6 → σ.1 14 j = 0 ∨ σ.1 14 j = 1) ∧ rKp α rd σ
def rel (n : Nat) (σ : jSt) : Prop := ∃ α g pn rd pl, rB α g pn rd pl n σ
/-- what neither holds to between calls -/
def zS (c k : Nat) : Prop := mS c k ∨ 27 ≤ c ∧ c ≤ 33
section Rl
variable {α α' β : rA} {σ σ' : jSt} {g : Nat → Nat} {pn rd pl n d : Nat}
theorem rX.kw (h : rX 15 α σ) (ek : ∀ c k, 15 ≤ c → c < 27 → σ'.1 c k = σ.1 c k) : rX 15 α σ' := by
  obtain ⟨h1, h2, h3, h4, h5, h6, h7, h8⟩ := h
  refine ⟨?_, ?_, ?_, ?_, ?_, fun p hp => ?_, fun m hm => ?_, fun i hi => ?_⟩
  · rw [ek _ _ (by omega) (by omega)]; exact h1
  · rw [ek _ _ (by omega) (by omega)]; exact h2
  · rw [ek _ _ (by omega) (by omega)]; exact h3
  · rw [ek _ _ (by omega) (by omega)]; exact h4
  · rw [ek _ _ (by omega) (by omega)]; exact h5
  · rw [ek _ _ (by omega) (by omega), ek _ _ (by omega) (by omega), ek _ _ (by omega) (by omega)]; exact h6 p hp
  · rw [ek _ _ (by omega) (by omega), ek _ _ (by omega) (by omega), ek _ _ (by omega) (by omega), ek _ _ (by omega) (by omega)]; exact h7 m hm
  · rw [ek _ _ (by omega) (by omega), ek _ _ (by omega) (by omega), ek _ _ (by omega) (by omega)]; exact h8 i hi
theorem rM.pw (h : rM α σ) (ek : ∀ c k, (c = 34 ∧ (k = 3 ∨ k = 4 ∨ k = 5 ∨ k = 24) ∨ 36 ≤ c ∧ c ≤ 44 ∨ c = 48) → σ'.1 c k = σ.1 c k) : rM α σ' := by
  obtain ⟨h1, h2, h3, h4, h5, h6, h7⟩ := h
  refine ⟨?_, ?_, ?_, ?_, fun p hp => ?_, fun m hm => ?_, fun i hi => ?_⟩
  · rw [ek _ _ (by omega)]; exact h1
  · rw [ek _ _ (by omega)]; exact h2
  · rw [ek _ _ (by omega)]; exact h3
  · rw [ek _ _ (by omega)]; exact h4
  · rw [ek _ _ (by omega), ek _ _ (by omega), ek _ _ (by omega), ek _ _ (by omega)]; exact h5 p hp
  · rw [ek _ _ (by omega), ek _ _ (by omega), ek _ _ (by omega), ek _ _ (by omega), ek _ _ (by omega)]; exact h6 m hm
  · rw [ek _ _ (by omega), ek _ _ (by omega), ek _ _ (by omega)]; exact h7 i hi
theorem rN.pw (h : rN β σ) (ek : ∀ c k, (c = 34 ∧ (k = 28 ∨ k = 30) ∨ 49 ≤ c ∧ c ≤ 55) → σ'.1 c k = σ.1 c k) : rN β σ' := by
  obtain ⟨h1, h2, h3, h4, h5⟩ := h
  refine ⟨?_, ?_, fun p hp => ?_, fun m hm => ?_, fun i hi => ?_⟩
  · rw [ek _ _ (by omega)]; exact h1
  · rw [ek _ _ (by omega)]; exact h2
  · rw [ek _ _ (by omega), ek _ _ (by omega), ek _ _ (by omega)]; exact h3 p hp
  · rw [ek _ _ (by omega), ek _ _ (by omega), ek _ _ (by omega)]; exact h4 m hm
  · rw [ek _ _ (by omega), ek _ _ (by omega), ek _ _ (by omega)]; exact h5 i hi
theorem pX.pw (h : pX g pn σ) (ek : ∀ c k, (c = 1 ∧ k = 1 ∨ c = 2) → σ'.1 c k = σ.1 c k) : pX g pn σ' := ⟨(ek 1 1 (by omega)).trans h.1, fun i hi => (ek 2 i (by omega)).trans (h.2 i hi)⟩
theorem pM.pw (h : pM g pn σ) (ek : ∀ c k, (c = 34 ∧ k = 1 ∨ c = 35) → σ'.1 c k = σ.1 c k) : pM g pn σ' := ⟨(ek 34 1 (by omega)).trans h.1, fun i hi => (ek 35 i (by omega)).trans (h.2 i hi)⟩
theorem rK.co (h1 : rK α α') (h2 : rK α β) : rK α' β := ⟨h2.1.trans h1.1.symm, h2.2.1.trans h1.2.1.symm, fun p => (h2.2.2.1 p).trans (h1.2.2.1 p).symm, fun p => (h2.2.2.2.1 p).trans (h1.2.2.2.1 p).symm, fun p => (h2.2.2.2.2 p).trans (h1.2.2.2.2 p).symm⟩
theorem rKp.pw (h : rKp α rd σ) (hK : rK α α') (ek : ∀ c k, (15 ≤ c ∧ c ≤ 26 ∨ 49 ≤ c ∧ c ≤ 55 ∨ c = 34 ∧ 27 ≤ k ∧ k ≤ 30) → σ'.1 c k = σ.1 c k) : rKp α' rd σ' := by
  rcases h with ⟨h1, q, h2, h3, h4⟩ | ⟨β, h1, h2, h3, h4, h5, h6, h7, h8⟩
  · exact Or.inl ⟨(ek 15 8 (by omega)).trans h1, q, h2, h3, (ek 34 27 (by omega)).trans h4⟩
  · refine Or.inr ⟨β, h1, h2, hK.co h3, h4.kw (fun c k g1 g2 => ek c k (by omega)), h5.pw (fun c k q => ek c k (by omega)), (ek 34 27 (by omega)).trans h6, ?_, fun j hj => ?_⟩
    · rw [ek 15 12 (by omega), ek 34 29 (by omega)]; exact h7
    · rw [ek 26 j (by omega)]; exact h8 j hj
theorem rB.mv (h : rB α g pn rd pl n σ) (ek : ∀ c k, ¬ zS c k → σ'.1 c k = σ.1 c k) : rB α g pn rd pl (n + 5) σ' := by
  have ez : ∀ c k, (c < 27 ∨ c = 34 ∧ k ≠ 2 ∧ k ≠ 17 ∧ k ≠ 18 ∧ k ≠ 19 ∧ k ≠ 26 ∨ 35 ≤ c ∧ c ≤ 44 ∨ 48 ≤ c) → σ'.1 c k = σ.1 c k := fun c k q => ek c k (by unfold zS mS; omega)
  obtain ⟨h1, h2, h3, h4, h5, h6, h7, h8, h9, h10, h11, h12, h13, h14, h15⟩ := h
  refine ⟨h1, h2.pw (fun c k g1 g2 => ez c k (by omega)), h3.pw (fun c k q => ez c k (by omega)), h4, h5.pw (fun c k q => ez c k (by omega)), h6.pw (fun c k q => ez c k (by omega)), ?_, (ez 0 5 (by omega)).trans h8, (ez 34 7 (by omega)).trans h9, by omega, h11, (ez 0 6 (by omega)).trans h12, (ez 34 22 (by omega)).trans h13, fun j hj => ?_, h15.pw rK.rf (fun c k q => ez c k (by omega))⟩
  · rw [ez 3 12 (by omega), ez 34 6 (by omega)]; exact h7
  · rw [ez 14 j (by omega)]; exact h14 j hj
/-- both calls, one behind the other: like answers, and all holds again -/
def two (d cx cm : Nat) (ax am : List Value) (n : Nat) (σ : jSt) : Prop := jq_I d cx ax σ (fun x s1 => s1.2.2 = σ.2.2 ∧ jq_I d cm am s1 (fun y s3 => x = y ∧ rel (n + 5) s3 ∧ s3.2.2 = σ.2.2))
theorem eS.s (h : eS zS σ σ') : ∀ c k, ¬ zS c k → σ'.1 c k = σ.1 c k := h.2
theorem mS_z (c k : Nat) (h : mS c k) : zS c k := Or.inl h
theorem dS_z (c k : Nat) (h : dS c k) : zS c k := Or.inl (dS_m c k h)
theorem dtS_z (c k : Nat) (h : dtS c k) : zS c k := Or.inl (dtS_m c k h)
theorem rB.to (h : rB α g pn rd pl n σ) {S : Nat → Nat → Prop} (e : eS S σ σ') (hS : ∀ c k, S c k → zS c k) : rel (n + 5) σ' := ⟨α, g, pn, rd, pl, h.mv (fun c k q => e.2 c k (fun w => q (hS c k w)))⟩
theorem rB.same (h : rB α g pn rd pl n σ) : rel (n + 5) σ := h.to (S := mS) eS.rf mS_z
theorem c_letter (h : rel n σ) {z : Int} (hz : iR z) : two (d + 11) 54 80 [.ref 0, .int (iI z)] [.ref 34, .int (iI z)] n σ := by
  obtain ⟨α, g, pn, rd, pl, hB⟩ := h
  obtain ⟨h1, h2, h3, h4, h5, h6, h7, h8, h9, h10, h11, h12, h13, h14, h15⟩ := id hB
  refine q_letter (d := d + 9) h4 h5 hz (fun z1 z2 zn s1 hE1 hp1 => ⟨by rw [hE1.1], ?_⟩) (fun z1 z2 zn => ⟨rfl, ?_⟩) (fun zn => ⟨rfl, ?_⟩)
  · have hM1 : pM g pn s1 := h6.pw (fun c k q => hE1.2 c k (by unfold lS; omega))
    refine q_letterM (d := d + 9) h4 hM1 hz (fun _ _ _ s3 hE3 hp3 => ⟨rfl, ⟨α, gU g pn z.toNat, pn + 1, rd, pl, ?_⟩, by rw [hE3.1, hE1.1]⟩) (fun _ _ q => absurd q (by omega)) (fun q => absurd ⟨z1, z2⟩ q)
    have ek : ∀ c k, ¬ (c = 1 ∧ k = 1) → c ≠ 2 → ¬ (c = 34 ∧ k = 1) → c ≠ 35 → s3.1 c k = σ.1 c k := fun c k q1 q2 q3 q4 => (hE3.2 c k (by unfold lmS; omega)).trans (hE1.2 c k (by unfold lS; omega))
    refine ⟨h1, h2.pw (fun c k g1 g2 => ek c k (by omega) (by omega) (by omega) (by omega)), h3.pw (fun c k q => ek c k (by omega) (by omega) (by omega) (by omega)), ⟨by omega, fun i hi => ?_⟩, hp1.pw (fun c k q => hE3.2 c k (by unfold lmS; omega)), hp3, ?_, (ek 0 5 (by omega) (by omega) (by omega) (by omega)).trans h8, (ek 34 7 (by omega) (by omega) (by omega) (by omega)).trans h9, by omega, h11, (ek 0 6 (by omega) (by omega) (by omega) (by omega)).trans h12, (ek 34 22 (by omega) (by omega) (by omega) (by omega)).trans h13, fun j hj => ?_, h15.pw rK.rf (fun c k q => ek c k (by omega) (by omega) (by omega) (by omega))⟩
    · unfold gU
      split
      · omega
      · exact h4.2 i (by omega)
    · rw [ek 3 12 (by omega) (by omega) (by omega) (by omega), ek 34 6 (by omega) (by omega) (by omega) (by omega)]; exact h7
    · rw [ek 14 j (by omega) (by omega) (by omega) (by omega)]; exact h14 j hj
  · exact q_letterM (d := d + 9) h4 h6 hz (fun _ _ q => absurd q (by omega)) (fun _ _ _ => ⟨rfl, hB.same, rfl⟩) (fun q => absurd ⟨z1, z2⟩ q)
  · exact q_letterM (d := d + 9) h4 h6 hz (fun q1 q2 _ => absurd ⟨q1, q2⟩ zn) (fun q1 q2 _ => absurd ⟨q1, q2⟩ zn) (fun _ => ⟨rfl, hB.same, rfl⟩)
theorem c_blank (h : rel n σ) : two (d + 11) 55 81 [.ref 0] [.ref 34] n σ := by
  obtain ⟨α, g, pn, rd, pl, hB⟩ := h
  obtain ⟨h1, h2, h3, h4, h5, h6, h7, h8, h9, h10, h11, h12, h13, h14, h15⟩ := id hB
  refine q_blank (d := d + 10) h5 (fun s1 hE1 hp1 => ⟨by rw [hE1.1], ?_⟩)
  have hM1 : pM g pn s1 := h6.pw (fun c k q => hE1.2 c k (by unfold lS; omega))
  refine q_blankM (d := d + 10) hM1 (fun s3 hE3 hp3 => ⟨rfl, ⟨α, g, 0, rd, pl, ?_⟩, by rw [hE3.1, hE1.1]⟩)
  have ek : ∀ c k, ¬ (c = 1 ∧ k = 1) → c ≠ 2 → ¬ (c = 34 ∧ k = 1) → c ≠ 35 → s3.1 c k = σ.1 c k := fun c k q1 q2 q3 q4 => (hE3.2 c k (by unfold lmS; omega)).trans (hE1.2 c k (by unfold lS; omega))
  refine ⟨h1, h2.pw (fun c k g1 g2 => ek c k (by omega) (by omega) (by omega) (by omega)), h3.pw (fun c k q => ek c k (by omega) (by omega) (by omega) (by omega)), ⟨by omega, fun i hi => absurd hi (by omega)⟩, hp1.pw (fun c k q => hE3.2 c k (by unfold lmS; omega)), hp3, ?_, (ek 0 5 (by omega) (by omega) (by omega) (by omega)).trans h8, (ek 34 7 (by omega) (by omega) (by omega) (by omega)).trans h9, by omega, h11, (ek 0 6 (by omega) (by omega) (by omega) (by omega)).trans h12, (ek 34 22 (by omega) (by omega) (by omega) (by omega)).trans h13, fun j hj => ?_, h15.pw rK.rf (fun c k q => ek c k (by omega) (by omega) (by omega) (by omega))⟩
  · rw [ek 3 12 (by omega) (by omega) (by omega) (by omega), ek 34 6 (by omega) (by omega) (by omega) (by omega)]; exact h7
  · rw [ek 14 j (by omega) (by omega) (by omega) (by omega)]; exact h14 j hj
theorem c_fault (h : rel n σ) : two (d + 11) 56 87 [.ref 0] [.ref 34] n σ := by
  obtain ⟨α, g, pn, rd, pl, hB⟩ := h
  obtain ⟨h1, h2, h3, h4, h5, h6, h7, h8, h9, h10, h11, h12, h13, h14, h15⟩ := id hB
  exact q_fault (d := d + 2) h4 h5 ⟨rfl, q_faultM (d := d + 6) h4 h6 (fun s3 hE3 => ⟨rfl, hB.to hE3 (fun c k q => Or.inl (by unfold fS at q; unfold mS; omega)), by rw [hE3.1]⟩)⟩
theorem c_person (h : rel n σ) {z w : Int} (hz : iR z) (hw : iR w) : two (d + 11) 58 106 [.ref 0, .int (iI z), .int (iI w)] [.ref 34, .int (iI z), .int (iI w)] n σ := by
  obtain ⟨α, g, pn, rd, pl, hB⟩ := h
  obtain ⟨h1, h2, h3, -⟩ := id hB
  exact q_person (d := d + 4) h1 h2 hz hw ⟨rfl, q_personM (d := d + 4) h1 h3 hz hw (fun s3 hE3 => ⟨rfl, hB.to hE3 dS_z, by rw [hE3.1]⟩)⟩
theorem c_as (h : rel n σ) {z w : Int} (hz : iR z) (hw : iR w) : two (d + 11) 59 107 [.ref 0, .int (iI z), .int (iI w)] [.ref 34, .int (iI z), .int (iI w)] n σ := by
  obtain ⟨α, g, pn, rd, pl, hB⟩ := h
  obtain ⟨h1, h2, h3, -⟩ := id hB
  exact q_as (d := d + 9) h1 h2 hz hw ⟨rfl, q_asM (d := d + 8) h1 h3 hz hw ⟨rfl, hB.same, rfl⟩⟩
theorem c_matter (h : rel n σ) {z w : Int} (hz : iR z) (hw : iR w) : two (d + 11) 60 110 [.ref 0, .int (iI z), .int (iI w)] [.ref 34, .int (iI z), .int (iI w)] n σ := by
  obtain ⟨α, g, pn, rd, pl, hB⟩ := h
  obtain ⟨h1, h2, h3, -⟩ := id hB
  exact q_matter (d := d + 5) h1 h2 hz hw ⟨rfl, q_matterM (d := d + 4) h1 h3 hz hw (fun s3 hE3 => ⟨rfl, hB.to hE3 dtS_z, by rw [hE3.1]⟩)⟩
theorem c_date (h : rel n σ) {z w : Int} (hz : iR z) (hw : iR w) : two (d + 11) 61 112 [.ref 0, .int (iI z), .int (iI w)] [.ref 34, .int (iI z), .int (iI w)] n σ := by
  obtain ⟨α, g, pn, rd, pl, hB⟩ := h
  obtain ⟨h1, h2, h3, -⟩ := id hB
  exact q_date (d := d + 6) h1 h2 hz hw ⟨rfl, q_dateM (d := d + 5) h1 h3 hz hw (fun s3 hE3 => ⟨rfl, hB.to hE3 dS_z, by rw [hE3.1]⟩)⟩
theorem c_live (h : rel n σ) {w : Int} (hw : iR w) : two (d + 11) 68 124 [.ref 0, .int (iI w)] [.ref 34, .int (iI w)] n σ := by
  obtain ⟨α, g, pn, rd, pl, hB⟩ := h
  obtain ⟨h1, h2, h3, -⟩ := id hB
  exact q_live (d := d + 6) h1 h2 hw ⟨rfl, q_liveM (d := d + 5) h1 h3 hw (fun s3 hE3 => ⟨rfl, hB.to hE3 mS_z, by rw [hE3.1]⟩)⟩
theorem c_fog (h : rel n σ) {z w x y : Int} (hz : iR z) (hw : iR w) (hx : iR x) (hy : iR y) : two (d + 11) 69 126 [.ref 0, .int (iI z), .int (iI w), .int (iI x), .int (iI y)] [.ref 34, .int (iI z), .int (iI w), .int (iI x), .int (iI y)] n σ := by
  obtain ⟨α, g, pn, rd, pl, hB⟩ := h
  obtain ⟨h1, h2, h3, -⟩ := id hB
  exact q_fog (d := d + 5) h1 h2 hz hw hx hy ⟨rfl, q_fogM (d := d + 5) h1 h3 hz hw hx hy (fun s3 hE3 => ⟨rfl, hB.to hE3 dtS_z, by rw [hE3.1]⟩)⟩
theorem c_years (h : rel n σ) {z w x : Int} (hz : iR z) (hw : iR w) (hx : iR x) : two (d + 11) 72 133 [.ref 0, .int (iI z), .int (iI w), .int (iI x)] [.ref 34, .int (iI z), .int (iI w), .int (iI x)] n σ := by
  obtain ⟨α, g, pn, rd, pl, hB⟩ := h
  obtain ⟨h1, h2, h3, -⟩ := id hB
  refine q_years (d := d + 4) h1 h2 hz hw hx (fun s1 hE1 => ⟨by rw [hE1.1], ?_⟩)
  refine q_yearsM (d := d + 5) h1 (h3.pw (fun c k q => hE1.2 c k (by unfold crS; omega))) hz hw hx (fun s3 hE3 => ⟨rfl, ?_, by rw [hE3.1, hE1.1]⟩)
  exact hB.to ((hE1.wk (T := zS) (fun c k q => Or.inr (by unfold crS at q; omega))).tr (hE3.wk mS_z)) (fun _ _ q => q)
theorem c_count (h : rel n σ) {w : Int} (hw : iR w) : two (d + 11) 75 139 [.ref 0, .int (iI w)] [.ref 34, .int (iI w)] n σ := by
  obtain ⟨α, g, pn, rd, pl, hB⟩ := h
  obtain ⟨h1, h2, h3, h4, h5, h6, h7, h8, h9, h10, h11, h12, h13, h14, h15⟩ := id hB
  refine q_count (d := d + 6) h1 h2 hw ⟨rfl, q_countM (d := d + 5) h1 h3 hw (fun s3 hE3 => ⟨?_, hB.to hE3 dS_z, by rw [hE3.1]⟩)⟩
  rw [h7, h5.1, h6.1, h8, h9, h12, h13]
theorem aBe_le (hp : pl ≤ 20) (z w : Int) : (aBe α pl z w).2 ≤ 20 := by
  unfold aBe
  split
  · split
    · exact hp
    · show pl + 1 ≤ 20; omega
  · exact hp
theorem c_best (h : rel n σ) {z w : Int} (hz : iR z) (hw : iR w) : two (d + 11) 67 121 [.ref 0, .int (iI z), .int (iI w)] [.ref 34, .int (iI z), .int (iI w)] n σ := by
  obtain ⟨α, g, pn, rd, pl, hB⟩ := h
  obtain ⟨h1, h2, h3, h4, h5, h6, h7, h8, h9, h10, h11, h12, h13, h14, h15⟩ := id hB
  refine q_best (d := d) h1 h2 hz hw h11 h12 (fun s1 hE1 e1 => ⟨by rw [hE1.1], ?_⟩)
  refine q_bestM (d := d + 4) h1 (h3.pw (fun c k q => hE1.2 c k (by unfold bcS; omega))) hz hw h11 ((hE1.2 34 22 (by unfold bcS; omega)).trans h13) (fun s3 hE3 e3 => ⟨rfl, ⟨α, g, pn, rd, (aBe α pl z w).2, ?_⟩, by rw [hE3.1, hE1.1]⟩)
  have ez : ∀ c k, (c < 27 ∧ ¬ (c = 0 ∧ k = 6) ∨ c = 34 ∧ k ≠ 2 ∧ k ≠ 17 ∧ k ≠ 18 ∧ k ≠ 19 ∧ k ≠ 26 ∧ k ≠ 22 ∨ 35 ≤ c ∧ c ≤ 44 ∨ 48 ≤ c) → s3.1 c k = σ.1 c k := fun c k q => (hE3.2 c k (by unfold bmS mS; omega)).trans (hE1.2 c k (by unfold bcS; omega))
  refine ⟨h1, h2.pw (fun c k g1 g2 => ez c k (by omega)), h3.pw (fun c k q => ez c k (by omega)), h4, h5.pw (fun c k q => ez c k (by omega)), h6.pw (fun c k q => ez c k (by omega)), ?_, (ez 0 5 (by omega)).trans h8, (ez 34 7 (by omega)).trans h9, by omega, aBe_le h11 z w, (hE3.2 0 6 (by unfold bmS mS; omega)).trans e1, e3, fun j hj => ?_, h15.pw rK.rf (fun c k q => ez c k (by omega))⟩
  · rw [ez 3 12 (by omega), ez 34 6 (by omega)]; exact h7
  · rw [ez 14 j (by omega)]; exact h14 j hj
end Rl
