/-! calls that do, the relation kept -/
section Rl
variable {α α' β : rA} {σ σ' : jSt} {g : Nat → Nat} {pn rd pl n d : Nat}
theorem rB.do (hB : rB α g pn rd pl n σ) {s1 s3 : jSt} {D : Int} (hV : rV α') (hK : rK α α') (hE1 : eS w4S σ s1) (hb : ∀ j, j < 6 → s1.1 14 j = 0 ∨ s1.1 14 j = 1) (hX1 : rX 3 α' s1) (t1 : s1.1 3 12 = σ.1 3 12 + iI D) (hE3 : eS vS s1 s3) (hM3 : rM α' s3) (t3 : s3.1 34 6 = s1.1 34 6 + iI D) : rel (n + 5) s3 := by
  obtain ⟨h1, h2, h3, h4, h5, h6, h7, h8, h9, h10, h11, h12, h13, h14, h15⟩ := hB
  have ez : ∀ c k, (c < 3 ∨ 15 ≤ c ∧ c ≤ 26 ∨ c = 34 ∧ (k = 1 ∨ k = 7 ∨ k = 22 ∨ 27 ≤ k ∧ k ≤ 30) ∨ c = 35 ∨ 49 ≤ c) → s3.1 c k = σ.1 c k := fun c k q => (hE3.2 c k (by unfold vS mS; omega)).trans (hE1.2 c k (by unfold w4S wS; omega))
  have e3 : ∀ c k, c < 27 → s3.1 c k = s1.1 c k := fun c k q => hE3.2 c k (by unfold vS mS; omega)
  refine ⟨α', g, pn, rd, pl, hV, hX1.pw (fun c k g1 g2 => e3 c k (by omega)), hM3, h4, h5.pw (fun c k q => ez c k (by omega)), h6.pw (fun c k q => ez c k (by omega)), ?_, (ez 0 5 (by omega)).trans h8, (ez 34 7 (by omega)).trans h9, by omega, h11, (ez 0 6 (by omega)).trans h12, (ez 34 22 (by omega)).trans h13, fun j hj => ?_, h15.pw hK (fun c k q => ez c k (by omega))⟩
  · rw [e3 3 12 (by omega), t1, t3, hE1.2 34 6 (by unfold w4S wS; omega), h7]
  · rw [e3 14 j (by omega)]; exact hb j hj
theorem rM.w4 (h : rM α σ) (e : eS w4S σ σ') : rM α σ' := h.pw (fun c k q => e.2 c k (by unfold w4S wS; omega))
theorem rB.b14 (hB : rB α g pn rd pl n σ) (e : eS wS σ σ') : ∀ j, j < 6 → σ'.1 14 j = 0 ∨ σ'.1 14 j = 1 := fun j hj => by rw [e.2 14 j (by unfold wS; omega)]; exact hB.2.2.2.2.2.2.2.2.2.2.2.2.2.1 j hj
theorem c_say (h : rel n σ) {z : Int} (hz : iR z) : two (d + 11) 62 113 [.ref 0, .int (iI z)] [.ref 34, .int (iI z)] n σ := by
  obtain ⟨α, g, pn, rd, pl, hB⟩ := h
  obtain ⟨h1, h2, h3, -⟩ := id hB
  have hv := sayO_V h1 z
  exact q_say (d := d + 6) h1 h2 hz (fun s1 hE1 hX1 t1 => ⟨by rw [hE1.1], q_sayM (d := d + 5) h1 (h3.w4 (hE1.wk wS_4)) hz (fun s3 hE3 hM3 t3 => ⟨rfl, hB.do hv.1 hv.2 (hE1.wk wS_4) (hB.b14 hE1) hX1 t1 hE3 hM3 t3, by rw [hE3.1, hE1.1]⟩)⟩)
theorem c_day (h : rel n σ) : two (d + 11) 63 114 [.ref 0] [.ref 34] n σ := by
  obtain ⟨α, g, pn, rd, pl, hB⟩ := h
  obtain ⟨h1, h2, h3, -⟩ := id hB
  have hv := dayO_V h1
  exact q_day (d := d + 9) h1 h2 (fun s1 hE1 hX1 t1 => ⟨by rw [hE1.1], q_dayM (d := d + 9) h1 (h3.w4 (hE1.wk wS_4)) (fun s3 hE3 hM3 t3 => ⟨rfl, hB.do hv.1 hv.2 (hE1.wk wS_4) (hB.b14 hE1) hX1 t1 hE3 hM3 t3, by rw [hE3.1, hE1.1]⟩)⟩)
theorem c_cross (h : rel n σ) {z : Int} (hz : iR z) : two (d + 11) 64 115 [.ref 0, .int (iI z)] [.ref 34, .int (iI z)] n σ := by
  obtain ⟨α, g, pn, rd, pl, hB⟩ := h
  obtain ⟨h1, h2, h3, -⟩ := id hB
  have hv := crossO_V h1 z
  exact q_cross (d := d + 8) h1 h2 hz (fun s1 hE1 hX1 t1 => ⟨by rw [hE1.1], q_crossM (d := d + 8) h1 (h3.w4 (hE1.wk wS_4)) hz (fun s3 hE3 hM3 t3 => ⟨rfl, hB.do hv.1 hv.2 (hE1.wk wS_4) (hB.b14 hE1) hX1 t1 hE3 hM3 t3, by rw [hE3.1, hE1.1]⟩)⟩)
theorem c_open (h : rel n σ) {z w : Int} (hz : iR z) (hw : iR w) : two (d + 11) 65 116 [.ref 0, .int (iI z), .int (iI w)] [.ref 34, .int (iI z), .int (iI w)] n σ := by
  obtain ⟨α, g, pn, rd, pl, hB⟩ := h
  obtain ⟨h1, h2, h3, -⟩ := id hB
  have hv := openO_V h1 z w
  exact q_open (d := d + 9) h1 h2 hz hw (fun s1 hE1 hX1 t1 => ⟨by rw [hE1.1], q_openM (d := d + 8) h1 (h3.w4 (hE1.wk wS_4)) hz hw (fun s3 hE3 hM3 t3 => ⟨rfl, hB.do hv.1 hv.2 (hE1.wk wS_4) (hB.b14 hE1) hX1 t1 hE3 hM3 t3, by rw [hE3.1, hE1.1]⟩)⟩)
theorem c_change (h : rel n σ) {z w x : Int} (hz : iR z) (hw : iR w) (hx : iR x) : two (d + 11) 66 117 [.ref 0, .int (iI z), .int (iI w), .int (iI x)] [.ref 34, .int (iI z), .int (iI w), .int (iI x)] n σ := by
  obtain ⟨α, g, pn, rd, pl, hB⟩ := h
  obtain ⟨h1, h2, h3, -⟩ := id hB
  have hv := changeO_V h1 z w x
  exact q_change (d := d + 9) h1 h2 hz hw hx (fun s1 hE1 hX1 t1 => ⟨by rw [hE1.1], q_changeM (d := d + 8) h1 (h3.w4 (hE1.wk wS_4)) hz hw hx (fun s3 hE3 hM3 t3 => ⟨rfl, hB.do hv.1 hv.2 (hE1.wk wS_4) (hB.b14 hE1) hX1 t1 hE3 hM3 t3, by rw [hE3.1, hE1.1]⟩)⟩)
theorem c_forget (h : rel n σ) : two (d + 11) 71 128 [.ref 0] [.ref 34] n σ := by
  obtain ⟨α, g, pn, rd, pl, hB⟩ := h
  obtain ⟨h1, h2, h3, -⟩ := id hB
  have hv := forgetO_V h1
  exact q_forget (d := d + 10) h2 (fun s1 hE1 hX1 t1 => ⟨by rw [hE1.1], q_forgetM (d := d + 10) (h3.w4 (hE1.wk wS_4)) (fun s3 hE3 hM3 t3 => ⟨rfl, hB.do hv.1 hv.2 (hE1.wk wS_4) (hB.b14 hE1) hX1 t1 hE3 hM3 t3, by rw [hE3.1, hE1.1]⟩)⟩)
theorem c_see (h : rel n σ) {z w : Int} {b : Nat} (hz : iR z) (hw : iR w) (hb : b < 2) : two (d + 11) 70 127 [.ref 0, .int (iI z), .int (iI w), .int (iI (b : Nat))] [.ref 34, .int (iI z), .int (iI w), .int (iI (b : Nat))] n σ := by
  obtain ⟨α, g, pn, rd, pl, hB⟩ := h
  obtain ⟨h1, h2, h3, -⟩ := id hB
  have hv := seeO_V h1 z w hb
  have b01 : iI ((b : Nat) : Int) = 0 ∨ iI ((b : Nat) : Int) = 1 := by
    rcases (show b = 0 ∨ b = 1 by omega) with rfl | rfl
    · exact Or.inl (by decide +kernel)
    · exact Or.inr (by decide +kernel)
  refine q_see (d := d + 9) h1 h2 hz hw hb (fun s1 hE1 hb1 hX1 t1 => ⟨by rw [hE1.1], q_seeM (d := d + 8) h1 (h3.w4 hE1) hz hw hb (fun s3 hE3 hM3 t3 => ⟨rfl, hB.do hv.1 hv.2 hE1 (fun j hj => ?_) hX1 t1 hE3 hM3 t3, by rw [hE3.1, hE1.1]⟩)⟩)
  rcases hb1 j with e | e
  · rw [e]; exact hB.2.2.2.2.2.2.2.2.2.2.2.2.2.1 j hj
  · rw [e]; exact b01
theorem c_river (h : rel n σ) : two (d + 11) 57 88 [.ref 0] [.ref 34] n σ := by
  obtain ⟨α, g, pn, rd, pl, hB⟩ := h
  obtain ⟨h1, h2, h3, h4, h5, h6, h7, h8, h9, h10, h11, h12, h13, h14, h15⟩ := id hB
  refine q_riverX (d := d + 1) h4 h5 (fun w0 => ⟨rfl, ?_⟩) (fun w1 hF s1 hE1 hX1 t1 p1 k1 r1 => ⟨by rw [hE1.1], ?_⟩)
  · refine q_riverM (d := d + 6) h4 h6 (fun _ s3 hE3 => ⟨rfl, hB.to hE3 mS_z, by rw [hE3.1]⟩) (fun w1 => absurd w1 (by rw [w0]; decide))
  · have hM1 : pM g pn s1 := h6.pw (fun c k q => hE1.2 c k (by unfold rvS; omega))
    refine q_riverM (d := d + 6) h4 hM1 (fun w0 => absurd w1 (by rw [w0]; decide)) (fun _ s3 hE3 hM3 t3 p3 r3 => ⟨rfl, ⟨rP g pn (fsc g pn 0 0).2, g, 0, rd + 1, pl, ?_⟩, by rw [hE3.1, hE1.1]⟩)
    have e3 : ∀ c k, (c < 34 ∨ 45 ≤ c ∨ c = 35 ∨ c = 34 ∧ (k = 22 ∨ 27 ≤ k ∧ k ≤ 30)) → s3.1 c k = s1.1 c k := fun c k q => hE3.2 c k (by unfold mvS; omega)
    have ez : ∀ c k, (c = 0 ∧ k = 6 ∨ c = 2 ∨ 12 ≤ c ∧ c ≤ 14 ∨ 35 = c ∨ c = 34 ∧ (k = 22 ∨ 27 ≤ k ∧ k ≤ 30)) → s3.1 c k = σ.1 c k := fun c k q => (e3 c k (by omega)).trans (hE1.2 c k (by unfold rvS; omega))
    refine ⟨rv_V hF, hX1.pw (fun c k g1 g2 => e3 c k (by omega)), hM3, ⟨by omega, fun i hi => absurd hi (by omega)⟩, ⟨(e3 1 1 (by omega)).trans p1, fun i hi => absurd hi (by omega)⟩, ⟨p3, fun i hi => absurd hi (by omega)⟩, ?_, ?_, ?_, by omega, h11, (ez 0 6 (by omega)).trans h12, (ez 34 22 (by omega)).trans h13, fun j hj => ?_, Or.inl ⟨(e3 15 8 (by omega)).trans k1, ?_⟩⟩
    · rw [e3 3 12 (by omega), t1, t3]
    · rw [e3 0 5 (by omega), r1, h8, iI_add]; rfl
    · rw [r3, hE1.2 34 7 (by unfold rvS; omega), h9, iI_add]; rfl
    · rw [ez 14 j (by omega)]; exact h14 j hj
    · rcases h15 with ⟨q1, q, q2, q3, q4⟩ | ⟨β, q1, q2, q3, q4, q5, q6, q7, q8⟩
      · exact ⟨q, q2, by omega, (ez 34 27 (by omega)).trans q4⟩
      · exact ⟨rd, by omega, by omega, (ez 34 27 (by omega)).trans q6⟩
theorem c_image (h : rel n σ) : two (d + 11) 73 134 [.ref 0] [.ref 34] n σ := by
  obtain ⟨α, g, pn, rd, pl, hB⟩ := h
  obtain ⟨h1, h2, h3, h4, h5, h6, h7, h8, h9, h10, h11, h12, h13, h14, h15⟩ := id hB
  refine q_image (d := d + 8) h1 h2 h14 (fun p0 => ⟨rfl, q_imageM (d := d + 9) h1 h3 (fun _ => ⟨rfl, hB.same, rfl⟩) (fun p1 => absurd p1 (by omega))⟩) (fun p1 s1 hE1 hX1 t1 b1 => ⟨by rw [hE1.1], ?_⟩)
  refine q_imageM (d := d + 9) h1 (h3.pw (fun c k q => hE1.2 c k (by unfold kS; omega))) (fun p0 => absurd p0 (by omega)) (fun _ s3 hE3 hN3 t3 r3 => ⟨rfl, ⟨α, g, pn, rd, pl, ?_⟩, by rw [hE3.1, hE1.1]⟩)
  have e3 : ∀ c k, (c < 34 ∨ 35 ≤ c ∧ c ≤ 48 ∨ c = 34 ∧ ¬ (27 ≤ k ∧ k ≤ 30)) → s3.1 c k = s1.1 c k := fun c k q => hE3.2 c k (by unfold nS; omega)
  have ez : ∀ c k, (c < 15 ∨ 35 ≤ c ∧ c ≤ 48 ∨ c = 34 ∧ ¬ (27 ≤ k ∧ k ≤ 30)) → s3.1 c k = σ.1 c k := fun c k q => (e3 c k (by omega)).trans (hE1.2 c k (by unfold kS; omega))
  refine ⟨h1, h2.pw (fun c k g1 g2 => ez c k (by omega)), h3.pw (fun c k q => ez c k (by omega)), h4, h5.pw (fun c k q => ez c k (by omega)), h6.pw (fun c k q => ez c k (by omega)), ?_, (ez 0 5 (by omega)).trans h8, (ez 34 7 (by omega)).trans h9, by omega, h11, (ez 0 6 (by omega)).trans h12, (ez 34 22 (by omega)).trans h13, fun j hj => ?_, Or.inr ⟨α, h1, p1, rK.rf, hX1.kw (fun c k g1 g2 => e3 c k (by omega)), hN3, ?_, ?_, fun j hj => ?_⟩⟩
  · rw [ez 3 12 (by omega), ez 34 6 (by omega)]; exact h7
  · rw [ez 14 j (by omega)]; exact h14 j hj
  · rw [r3, hE1.2 34 7 (by unfold kS; omega)]; exact h9
  · rw [e3 15 12 (by omega), t1, t3, hE1.2 34 6 (by unfold kS; omega)]; exact h7
  · rw [e3 26 j (by omega), b1 j hj]; exact h14 j hj
theorem c_restore (h : rel n σ) (hn : n ≤ 10000) : two (d + 11) 74 135 [.ref 0] [.ref 34] n σ := by
  obtain ⟨α, g, pn, rd, pl, hB⟩ := h
  obtain ⟨h1, h2, h3, h4, h5, h6, h7, h8, h9, h10, h11, h12, h13, h14, h15⟩ := id hB
  rcases h15 with ⟨q1, q, q2, q3, q4⟩ | ⟨β, q1, q2, q3, q4, q5, q6, q7, q8⟩
  · refine q_restore0 (d := d + 8) q1 ⟨rfl, q_restoreM0 (d := d + 9) ?_ ⟨rfl, hB.same, rfl⟩⟩
    rw [q4, h9, iI_eq ⟨by omega, by omega⟩ ⟨by omega, by omega⟩]; omega
  · refine q_restore (d := d + 8) q1 q4 q2 q8 (fun s1 hE1 hX1 t1 b1 => ⟨by rw [hE1.1], ?_⟩)
    have e1 : ∀ c k, (c < 3 ∨ 15 ≤ c) → s1.1 c k = σ.1 c k := fun c k q => hE1.2 c k (by unfold rS; omega)
    refine q_restoreM (d := d + 9) q1 (h3.pw (fun c k q => e1 c k (by omega))) q3 (q5.pw (fun c k q => e1 c k (by omega))) ?_ (fun s3 hE3 hM3 t3 => ⟨rfl, ⟨β, g, pn, rd, pl, ?_⟩, by rw [hE3.1, hE1.1]⟩)
    · rw [e1 34 27 (by omega), e1 34 7 (by omega), q6, h9]
    have e3 : ∀ c k, c < 27 → s3.1 c k = s1.1 c k := fun c k q => hE3.2 c k (by unfold vS mS; omega)
    have ez : ∀ c k, (c < 3 ∨ 15 ≤ c ∧ c ≤ 26 ∨ c = 34 ∧ (k = 1 ∨ k = 7 ∨ k = 22 ∨ 27 ≤ k ∧ k ≤ 30) ∨ c = 35 ∨ 49 ≤ c) → s3.1 c k = σ.1 c k := fun c k q => (hE3.2 c k (by unfold vS mS; omega)).trans (e1 c k (by omega))
    refine ⟨q1, hX1.pw (fun c k g1 g2 => e3 c k (by omega)), hM3, h4, h5.pw (fun c k q => ez c k (by omega)), h6.pw (fun c k q => ez c k (by omega)), ?_, (ez 0 5 (by omega)).trans h8, (ez 34 7 (by omega)).trans h9, by omega, h11, (ez 0 6 (by omega)).trans h12, (ez 34 22 (by omega)).trans h13, fun j hj => ?_, Or.inr ⟨β, q1, q2, rK.rf, q4.kw (fun c k g1 g2 => ez c k (by omega)), q5.pw (fun c k q => ez c k (by omega)), (ez 34 27 (by omega)).trans q6, ?_, fun j hj => ?_⟩⟩
    · rw [e3 3 12 (by omega), t1, t3, e1 34 29 (by omega)]; exact q7
    · rw [e3 14 j (by omega), b1 j hj]; exact q8 j hj
    · rw [ez 15 12 (by omega), ez 34 29 (by omega)]; exact q7
    · rw [ez 26 j (by omega)]; exact q8 j hj
theorem c_digest (h : rel n σ) : jq_L (d + 11) 76 [.ref 0] σ (fun x s1 => s1.2.2 = σ.2.2 ∧ jq_L (d + 11) 142 [.ref 34] s1 (fun y s3 => x = y ∧ rel (n + 5) s3 ∧ s3.2.2 = σ.2.2)) := by
  obtain ⟨α, g, pn, rd, pl, hB⟩ := h
  obtain ⟨h1, h2, h3, h4, h5, h6, h7, h8, h9, h10, h11, h12, h13, h14, h15⟩ := id hB
  refine q_digest (d := d + 3) h1 h2 h4 h5 ⟨rfl, q_digestM (d := d + 4) h1 h3 h4 h6 (fun t hE => ⟨?_, ⟨α, g, pn, rd, pl, hB.mv (fun c k q => hE.2 c k (fun w => q (Or.inl w)))⟩, hE.1⟩)⟩
  rw [h7, h5.1, h6.1, h8, h9, h12, h13]
end Rl
