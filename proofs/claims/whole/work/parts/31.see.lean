/-! see -/
section Do
variable {α : rA} {σ σ' : jSt} {d : Nat} {k : Int32 → jSt → Prop}
def seA (α : rA) (p n b : Nat) : rA := rU (rU (rU (rU α 9 (α 0 4) p) 10 (α 0 4) n) 11 (α 0 4) b) 0 4 (α 0 4 + 1)
def seeO (α : rA) (z n : Int) (b : Nat) : rA × Int × Int := if 0 ≤ z ∧ z < α 0 0 then (if 0 ≤ n ∧ n ≤ 31 then (if α 0 4 < 6 then (seA α z.toNat n.toNat b, ((α 0 4 + 1 : Nat) : Int), 0) else (α, -104, 0)) else (α, -102, 0)) else (α, -101, 0)
theorem q_see (hV : rV α) (hX : rX 3 α σ) {z n : Int} {b : Nat} (hz : iR z) (hn : iR n) (hb : b < 2) (h : ∀ σ', eS w4S σ σ' → (∀ i, σ'.1 14 i = σ.1 14 i ∨ σ'.1 14 i = iI (b : Nat)) → rX 3 (seeO α z n b).1 σ' → σ'.1 3 12 = σ.1 3 12 + iI (seeO α z n b).2.2 → k (iI (seeO α z n b).2.1) σ') : jq_I (d + 2) 70 [.ref 0, .int (iI z), .int (iI n), .int (iI (b : Nat))] σ k := by
  have h6 := hV.P
  have h4 := hV.sz
  refine ok_X8_see (q_knowsPerson hV hX hz ?_)
  dsimp only
  unfold seeO at h
  rw [jb_0, iI_lt0 hn, iI_le hn ⟨by omega, by omega⟩]
  refine ⟨fun c => ?_, fun c => ?_⟩
  · have c := of_decide_eq_true (show decide (0 ≤ z ∧ z < α 0 0) = true by simpa using c)
    rw [if_pos c] at h
    obtain ⟨p, rfl⟩ : ∃ p : Nat, z = (p : Int) := ⟨z.toNat, by omega⟩
    have hp : p < α 0 0 := by omega
    rw [show ((p : Int)).toNat = p by omega] at h
    refine ⟨fun c1 => ⟨_, rfl, ?_⟩, fun c1 => ⟨fun c2 => ?_, fun c2 => ⟨_, rfl, ?_⟩⟩⟩
    · rw [if_neg (by omega)] at h
      exact h σ eS.rf (fun _ => Or.inl rfl) hX (i0a _)
    · rw [if_pos (by omega)] at h
      obtain ⟨x, rfl⟩ : ∃ x : Nat, n = (x : Int) := ⟨n.toNat, by omega⟩
      rw [show ((x : Int)).toNat = x by omega] at h
      refine ok_X5_add ?_
      unfold vc_X5_add
      dsimp only
      have hc : (iI ((α 0 4 : Nat) : Int)).toNatClampNeg = α 0 4 := iI_clamp (by omega)
      have n1 : ∀ {v}, (jv_u σ 12 (α 0 4) v).1 11 3 = iI (α 0 4 : Nat) := fun {v} => by rw [jv_u_at, if_neg (by omega)]; exact hX.sz
      have n2 : ∀ {v w}, (jv_u (jv_u σ 12 (α 0 4) v) 13 (α 0 4) w).1 11 3 = iI (α 0 4 : Nat) := fun {v w} => by rw [jv_u_at, if_neg (by omega)]; exact n1
      have n3 : ∀ {v w u}, (jv_u (jv_u (jv_u σ 12 (α 0 4) v) 13 (α 0 4) w) 14 (α 0 4) u).1 11 3 = iI (α 0 4 : Nat) := fun {v w u} => by rw [jv_u_at, if_neg (by omega)]; exact n2
      rw [hX.sz, hc, n1, hc, n2, hc, n3, iI_lt ⟨by omega, by omega⟩ ⟨by omega, by omega⟩, iI_add, show ((α 0 4 : Nat) : Int) + 1 = ((α 0 4 + 1 : Nat) : Int) by omega]
      refine ⟨fun c3 => ?_, fun c3 => ⟨_, rfl, ⟨fun _ => ⟨_, rfl, ?_⟩, fun c4 => absurd rfl c4⟩⟩⟩
      · have hin : vp_in (iI ((α 0 4 : Nat) : Int)) 6 := (iI_in (by omega) 6).mpr (by omega)
        rw [if_pos (by omega)] at h
        refine ⟨hin, hin, hin, ?_, ⟨_, rfl, ⟨fun c4 => absurd c4 (by decide +kernel), fun _ => ⟨_, rfl, ?_⟩⟩⟩⟩
        · rcases Nat.lt_or_ge b 1 with e | e
          · rw [show b = 0 by omega]; exact Or.inl rfl
          · rw [show b = 1 by omega]; exact Or.inr rfl
        · rw [jv_u_at, if_pos ⟨rfl, rfl⟩]
          generalize hs : jv_u (jv_u (jv_u (jv_u σ 12 (α 0 4) (iI (p : Int))) 13 (α 0 4) (iI (x : Int))) 14 (α 0 4) (iI (b : Int))) 11 3 (iI ((α 0 4 + 1 : Nat) : Int)) = s
          have he : ∀ c k, ¬ (c = 12 ∧ k = α 0 4) → ¬ (c = 13 ∧ k = α 0 4) → ¬ (c = 14 ∧ k = α 0 4) → ¬ (c = 11 ∧ k = 3) → s.1 c k = σ.1 c k := fun c k e1 e2 e3 e4 => by rw [← hs, jv_u_at, if_neg e4, jv_u_at, if_neg e3, jv_u_at, if_neg e2, jv_u_at, if_neg e1]
          have t1 : s.1 12 (α 0 4) = iI (p : Int) := by rw [← hs, jv_u_at, if_neg (by omega), jv_u_at, if_neg (by omega), jv_u_at, if_neg (by omega), jv_u_at, if_pos ⟨rfl, rfl⟩]
          have t2 : s.1 13 (α 0 4) = iI (x : Int) := by rw [← hs, jv_u_at, if_neg (by omega), jv_u_at, if_neg (by omega), jv_u_at, if_pos ⟨rfl, rfl⟩]
          have t3 : s.1 14 (α 0 4) = iI (b : Int) := by rw [← hs, jv_u_at, if_neg (by omega), jv_u_at, if_pos ⟨rfl, rfl⟩]
          have t4 : s.1 11 3 = iI ((α 0 4 + 1 : Nat) : Int) := by rw [← hs, jv_u_at, if_pos ⟨rfl, rfl⟩]
          have hE : eS w4S σ s := by rw [← hs]; exact (((eS.u (by unfold w4S wS; omega)).tr (eS.u (by unfold w4S wS; omega))).tr (eS.u (by unfold w4S wS; omega))).tr (eS.u (by unfold w4S wS; omega))
          refine h s hE (fun i => ?_) ⟨(he 3 8 (by omega) (by omega) (by omega) (by omega)).trans hX.P, (he 3 9 (by omega) (by omega) (by omega) (by omega)).trans hX.M, (he 3 10 (by omega) (by omega) (by omega) (by omega)).trans hX.rt, (he 3 11 (by omega) (by omega) (by omega) (by omega)).trans hX.td, t4, fun j hj => ⟨(he 4 j (by omega) (by omega) (by omega) (by omega)).trans (hX.kd hj), (he 5 j (by omega) (by omega) (by omega) (by omega)).trans (hX.bn hj), (he 6 j (by omega) (by omega) (by omega) (by omega)).trans (hX.me hj)⟩, fun j hj => ⟨(he 7 j (by omega) (by omega) (by omega) (by omega)).trans (hX.ak hj), (he 8 j (by omega) (by omega) (by omega) (by omega)).trans (hX.aw hj), (he 9 j (by omega) (by omega) (by omega) (by omega)).trans (hX.wo hj), (he 10 j (by omega) (by omega) (by omega) (by omega)).trans (hX.st hj)⟩, fun i hi => ?_⟩ ?_
          · by_cases e : i = α 0 4
            · rw [e]; exact Or.inr t3
            · exact Or.inl (he 14 i (by omega) (by omega) (by omega) (by omega))
          · have hi : i < α 0 4 + 1 := hi
            show _ = iI ((if 9 = 9 ∧ i = α 0 4 then p else α 9 i : Nat) : Int) ∧ _ = iI ((if 10 = 10 ∧ i = α 0 4 then x else α 10 i : Nat) : Int) ∧ _ = iI ((if 11 = 11 ∧ i = α 0 4 then b else α 11 i : Nat) : Int)
            by_cases e : i = α 0 4
            · rw [if_pos ⟨rfl, e⟩, if_pos ⟨rfl, e⟩, if_pos ⟨rfl, e⟩, e]
              exact ⟨t1, t2, t3⟩
            · rw [if_neg (by omega), if_neg (by omega), if_neg (by omega)]
              have hi' : i < α 0 4 := by omega
              exact ⟨(he 12 i (by omega) (by omega) (by omega) (by omega)).trans (hX.who hi'), (he 13 i (by omega) (by omega) (by omega) (by omega)).trans (hX.dys hi'), (he 14 i (by omega) (by omega) (by omega) (by omega)).trans (hX.spo hi')⟩
          · rw [he 3 12 (by omega) (by omega) (by omega) (by omega)]; exact i0a _
      · rw [if_neg (by omega)] at h
        exact h σ eS.rf (fun _ => Or.inl rfl) hX (i0a _)
    · rw [if_neg (by omega)] at h
      exact h σ eS.rf (fun _ => Or.inl rfl) hX (i0a _)
  · rw [if_neg (of_decide_eq_false c)] at h
    exact ⟨_, rfl, h σ eS.rf (fun _ => Or.inl rfl) hX (i0a _)⟩
theorem q_seeM (hV : rV α) (hM : rM α σ) {z n : Int} {b : Nat} (hz : iR z) (hn : iR n) (hb : b < 2) (h : ∀ σ', eS vS σ σ' → rM (seeO α z n b).1 σ' → σ'.1 34 6 = σ.1 34 6 + iI (seeO α z n b).2.2 → k (iI (seeO α z n b).2.1) σ') : jq_I (d + 3) 127 [.ref 34, .int (iI z), .int (iI n), .int (iI (b : Nat))] σ k := by
  have h6 := hV.P
  have h4 := hV.sz
  refine ok_X9_see (q_isPerson hV hM hz ?_)
  dsimp only
  unfold seeO at h
  rw [jb_0, lI_i hn]
  refine ⟨fun c => ?_, fun c => ?_⟩
  · have c := of_decide_eq_true (show decide (0 ≤ z ∧ z < α 0 0) = true by simpa using c)
    rw [if_pos c] at h
    obtain ⟨p, rfl⟩ : ∃ p : Nat, z = (p : Int) := ⟨z.toNat, by omega⟩
    have hp : p < α 0 0 := by omega
    rw [show ((p : Int)).toNat = p by omega] at h
    refine q_in (b := 0) (c := 31) hn ⟨by omega, by omega⟩ ⟨by omega, by omega⟩ ?_
    rw [jb_0]
    refine ⟨fun c1 => ?_, fun c1 => ⟨_, rfl, ?_⟩⟩
    · have c1 := of_decide_eq_true (show decide (0 ≤ n ∧ n ≤ 31) = true by simpa using c1)
      rw [if_pos c1] at h
      obtain ⟨x, rfl⟩ : ∃ x : Nat, n = (x : Int) := ⟨n.toNat, by omega⟩
      rw [show ((x : Int)).toNat = x by omega] at h
      generalize hN : α 0 4 = N at h h4
      have hsz : σ.1 34 24 = iI (N : Int) := by rw [← hN]; exact hM.sz
      have e0 : iI 3 * iI (N : Int) = iI ((3 * N : Nat) : Int) := by rw [iI_mul]; exact congrArg iI (by omega)
      have e1 : iI ((3 * N : Nat) : Int) + iI 1 = iI ((3 * N + 1 : Nat) : Int) := by rw [iI_add]; exact congrArg iI (by omega)
      have e2 : iI ((3 * N : Nat) : Int) + iI 2 = iI ((3 * N + 2 : Nat) : Int) := by rw [iI_add]; exact congrArg iI (by omega)
      have e3 : iI (N : Int) + iI 1 = iI ((N + 1 : Nat) : Int) := by rw [iI_add]; exact congrArg iI (by omega)
      have n1 : ∀ {i v}, (jv_u σ 48 i v).1 34 24 = iI (N : Int) := fun {i v} => by rw [jv_u_at, if_neg (by omega)]; exact hsz
      have n2 : ∀ {i v j w}, (jv_u (jv_u σ 48 i v) 48 j w).1 34 24 = iI (N : Int) := fun {i v j w} => by rw [jv_u_at, if_neg (by omega)]; exact n1
      have n3 : ∀ {i v j w l u}, (jv_u (jv_u (jv_u σ 48 i v) 48 j w) 48 l u).1 34 24 = iI (N : Int) := fun {i v j w l u} => by rw [jv_u_at, if_neg (by omega)]; exact n2
      have k0 : (iI ((3 * N : Nat) : Int)).toNatClampNeg = 3 * N := iI_clamp (by omega)
      have k1 : (iI ((3 * N + 1 : Nat) : Int)).toNatClampNeg = 3 * N + 1 := iI_clamp (by omega)
      have k2 : (iI ((3 * N + 2 : Nat) : Int)).toNatClampNeg = 3 * N + 2 := iI_clamp (by omega)
      have fin : ∀ b' : Int32, b' = iI (b : Int) → N < 6 → k ((jv_u (jv_u (jv_u (jv_u σ 48 (3 * N) (iI (p : Int))) 48 (3 * N + 1) (iI (x : Int))) 48 (3 * N + 2) b') 34 24 (iI ((N + 1 : Nat) : Int))).1 34 24) (jv_u (jv_u (jv_u (jv_u σ 48 (3 * N) (iI (p : Int))) 48 (3 * N + 1) (iI (x : Int))) 48 (3 * N + 2) b') 34 24 (iI ((N + 1 : Nat) : Int))) := by
        intro b' hb' c2
        rw [if_pos c2] at h
        rw [jv_u_at, if_pos ⟨rfl, rfl⟩]
        generalize hs : jv_u (jv_u (jv_u (jv_u σ 48 (3 * N) (iI (p : Int))) 48 (3 * N + 1) (iI (x : Int))) 48 (3 * N + 2) b') 34 24 (iI ((N + 1 : Nat) : Int)) = s
        have he : ∀ c k, (c ≠ 48 ∨ k < 3 * N) → ¬ (c = 34 ∧ k = 24) → s.1 c k = σ.1 c k := fun c k g1 g2 => by rw [← hs, jv_u_at, if_neg g2, jv_u_at, if_neg (by omega), jv_u_at, if_neg (by omega), jv_u_at, if_neg (by omega)]
        have t1 : s.1 48 (3 * N) = iI (p : Int) := by rw [← hs, jv_u_at, if_neg (by omega), jv_u_at, if_neg (by omega), jv_u_at, if_neg (by omega), jv_u_at, if_pos ⟨rfl, rfl⟩]
        have t2 : s.1 48 (3 * N + 1) = iI (x : Int) := by rw [← hs, jv_u_at, if_neg (by omega), jv_u_at, if_neg (by omega), jv_u_at, if_pos ⟨rfl, rfl⟩]
        have t3 : s.1 48 (3 * N + 2) = iI (b : Int) := by rw [← hs, jv_u_at, if_neg (by omega), jv_u_at, if_pos ⟨rfl, rfl⟩, hb']
        have t4 : s.1 34 24 = iI ((N + 1 : Nat) : Int) := by rw [← hs, jv_u_at, if_pos ⟨rfl, rfl⟩]
        have hE : eS vS σ s := by rw [← hs]; exact (((eS.u (by unfold vS; omega)).tr (eS.u (by unfold vS; omega))).tr (eS.u (by unfold vS; omega))).tr (eS.u (by unfold vS; omega))
        refine h s hE ⟨(he 34 3 (by omega) (by omega)).trans hM.P, (he 34 4 (by omega) (by omega)).trans hM.M, (he 34 5 (by omega) (by omega)).trans hM.td, ?_, fun j hj => ⟨(he 36 j (by omega) (by omega)).trans (hM.kd hj), (he 37 j (by omega) (by omega)).trans (hM.bn hj), (he 38 j (by omega) (by omega)).trans (hM.bk hj), (he 39 j (by omega) (by omega)).trans (hM.me hj)⟩, fun j hj => ⟨(he 40 j (by omega) (by omega)).trans (hM.ak hj), (he 41 j (by omega) (by omega)).trans (hM.aw hj), (he 42 j (by omega) (by omega)).trans (hM.wo hj), (he 43 j (by omega) (by omega)).trans (hM.st hj), fun g => (he 44 j (by omega) (by omega)).trans (hM.on hj g)⟩, fun i hi => ?_⟩ ?_
        · show _ = iI ((α 0 4 + 1 : Nat) : Int)
          rw [hN]; exact t4
        · have hi : i < α 0 4 + 1 := hi
          show _ = iI ((if 9 = 9 ∧ i = α 0 4 then p else α 9 i : Nat) : Int) ∧ _ = iI ((if 10 = 10 ∧ i = α 0 4 then x else α 10 i : Nat) : Int) ∧ _ = iI ((if 11 = 11 ∧ i = α 0 4 then b else α 11 i : Nat) : Int)
          by_cases e : i = α 0 4
          · rw [if_pos ⟨rfl, e⟩, if_pos ⟨rfl, e⟩, if_pos ⟨rfl, e⟩, e, hN]
            exact ⟨t1, t2, t3⟩
          · rw [if_neg (by omega), if_neg (by omega), if_neg (by omega)]
            have hi' : i < α 0 4 := by omega
            have := hM.see hi'
            exact ⟨(he 48 _ (by omega) (by omega)).trans this.1, (he 48 _ (by omega) (by omega)).trans this.2.1, (he 48 _ (by omega) (by omega)).trans this.2.2⟩
        · rw [he 34 6 (by omega) (by omega)]; exact i0a _
      rw [hsz, e0, k0, n1, e0, e1, k1, n2, e0, e2, k2, n3, n3, e3, iI_eq ⟨by omega, by omega⟩ ⟨by omega, by omega⟩, iI_eq0 ⟨by omega, by omega⟩]
      refine ⟨fun c2 => ⟨(iI_in (by omega) 18).mpr (by omega), (iI_in (by omega) 18).mpr (by omega), fun c3 => ⟨(iI_in (by omega) 18).mpr (by omega), ⟨_, rfl, fin _ ?_ (by omega)⟩⟩, fun c3 => ⟨(iI_in (by omega) 18).mpr (by omega), ⟨_, rfl, fin _ ?_ (by omega)⟩⟩⟩, fun c2 => ⟨_, rfl, ?_⟩⟩
      · rw [show b = 0 by omega]; rfl
      · rw [show b = 1 by omega]; rfl
      · rw [if_neg (by omega)] at h
        exact h σ eS.rf hM (i0a _)
    · rw [if_neg (of_decide_eq_false c1)] at h
      exact h σ eS.rf hM (i0a _)
  · rw [if_neg (of_decide_eq_false c)] at h
    exact ⟨_, rfl, h σ eS.rf hM (i0a _)⟩
end Do
