/-! what is done: say, day, open, change, see, forget -/
def wS (c k : Nat) : Prop := c = 3 ∧ (k = 10 ∨ k = 11 ∨ k = 12) ∨ c = 4 ∨ c = 6 ∨ c = 9 ∨ c = 10 ∨ c = 11 ∧ k = 3 ∨ c = 12 ∨ c = 13
def w4S (c k : Nat) : Prop := wS c k ∨ c = 14
theorem wS_4 (c k : Nat) (h : wS c k) : w4S c k := Or.inl h
def vS (c k : Nat) : Prop := mS c k ∨ c = 34 ∧ (k = 5 ∨ k = 6 ∨ k = 24) ∨ c = 36 ∨ c = 38 ∨ c = 39 ∨ c = 42 ∨ c = 43 ∨ c = 44 ∨ c = 48
theorem mS_v (c k : Nat) (h : mS c k) : vS c k := Or.inl h
theorem dS_v (c k : Nat) (h : dS c k) : vS c k := Or.inl (dS_m c k h)
theorem tS_v (c k : Nat) (h : tS c k) : vS c k := Or.inl (tS_m c k h)
theorem i0a (x : Int32) : x = x + iI 0 := (Int32.add_zero x).symm
section Do
variable {α : rA} {σ σ' : jSt} {d : Nat} {k : Int32 → jSt → Prop}
theorem rX_u8 {m v : Nat} (h : rX 3 α σ) (he : ∀ c k, ¬ (c = 10 ∧ k = m) → ¬ (c = 3 ∧ k = 12) → σ'.1 c k = σ.1 c k) (hv : σ'.1 10 m = iI (zA v)) : rX 3 (rU α 8 m v) σ' := by
  refine ⟨(he 3 8 (by omega) (by omega)).trans h.P, (he 3 9 (by omega) (by omega)).trans h.M, (he 3 10 (by omega) (by omega)).trans h.rt, (he 3 11 (by omega) (by omega)).trans h.td, (he 11 3 (by omega) (by omega)).trans h.sz, fun p hp => ⟨(he 4 p (by omega) (by omega)).trans (h.kd hp), (he 5 p (by omega) (by omega)).trans (h.bn hp), (he 6 p (by omega) (by omega)).trans (h.me hp)⟩, fun j hj => ⟨(he 7 j (by omega) (by omega)).trans (h.ak hj), (he 8 j (by omega) (by omega)).trans (h.aw hj), (he 9 j (by omega) (by omega)).trans (h.wo hj), ?_⟩, fun i hi => ⟨(he 12 i (by omega) (by omega)).trans (h.who hi), (he 13 i (by omega) (by omega)).trans (h.dys hi), (he 14 i (by omega) (by omega)).trans (h.spo hi)⟩⟩
  show σ'.1 10 j = iI (zA (if 8 = 8 ∧ j = m then v else α 8 j))
  by_cases e : j = m
  · rw [if_pos ⟨rfl, e⟩, e]; exact hv
  · rw [if_neg (by omega)]; exact (he 10 j (by omega) (by omega)).trans (h.st hj)
def sA (α : rA) (m : Nat) : rA := if α 8 m = 0 then rU α 8 m (α 0 2 + 2) else rU α 8 m 1
def sN (α : rA) (m : Nat) : Int := if α 8 m = 0 then -1 else (sfo α m (α 8 m) (α 0 2) : Nat)
def sD (α : rA) (m : Nat) : Int := if α 8 m = 0 then 0 else (sfo α m (α 8 m) (α 0 2) : Nat)
def sayO (α : rA) (z : Int) : rA × Int × Int := if 0 ≤ z ∧ z < α 0 1 then (if cbs α z.toNat (α 8 z.toNat) (α 0 2) then (sA α z.toNat, sN α z.toNat, sD α z.toNat) else (α, -103, 0)) else (α, -101, 0)
theorem zA_m1 {a : Nat} : zA a = -1 ↔ a = 0 := by
  unfold zA
  by_cases e : a = 0
  · rw [if_pos e]; omega
  · rw [if_neg e]
    by_cases e1 : a = 1
    · rw [if_pos e1]; omega
    · rw [if_neg e1]; omega
theorem q_say (hV : rV α) (hX : rX 3 α σ) {z : Int} (hz : iR z) (h : ∀ σ', eS wS σ σ' → rX 3 (sayO α z).1 σ' → σ'.1 3 12 = σ.1 3 12 + iI (sayO α z).2.2 → k (iI (sayO α z).2.1) σ') : jq_I (d + 5) 62 [.ref 0, .int (iI z)] σ k := by
  have h5 := hV.M
  have htd := hV.td
  refine ok_X8_say (q_knowsMatter hV hX hz ?_)
  dsimp only
  rw [jb_0]
  unfold sayO at h
  refine ⟨fun c => ?_, fun c => ?_⟩
  · have c := of_decide_eq_true (show decide (0 ≤ z ∧ z < α 0 1) = true by simpa using c)
    rw [if_pos c] at h
    obtain ⟨m, rfl⟩ : ∃ m : Nat, z = (m : Int) := ⟨z.toNat, by omega⟩
    have hm : m < α 0 1 := by omega
    have ha := (hV.m hm).2.2.2.2
    have hc : (iI (m : Int)).toNatClampNeg = m := iI_clamp (by omega)
    have hin : vp_in (iI (m : Int)) 5 := (iI_in (by omega) 5).mpr (by omega)
    have hza : iR (zA (α 8 m)) := zA_R (by omega)
    rw [show ((m : Int)).toNat = m by omega] at h
    refine ⟨hin, ?_⟩
    rw [hc, hX.td, hX.st hm]
    refine q_speakersOn hV hX (by omega) (q_canBeSaid hV hX hm (by omega) (by omega) ?_)
    rw [jb_0]
    refine ⟨fun c2 => ?_, fun c2 => ⟨_, rfl, ?_⟩⟩
    · rw [if_pos (show cbs α m (α 8 m) (α 0 2) = true by simpa using c2)] at h
      have hn1 : α 8 m ≠ 1 := fun e => c2 (by unfold cbs; rw [if_pos e])
      unfold sA sN sD at h
      rw [hX.td, iI_eq hza ⟨by omega, by omega⟩, zA_m1]
      refine ⟨fun c3 => q_settledFor hV hX hm (by omega) ha (by omega) ⟨hin, ?_⟩, fun c3 => ⟨hin, ?_⟩⟩
      · rw [if_neg c3, if_neg c3, if_neg c3] at h
        refine ⟨_, rfl, h _ ((eS.u (by unfold wS; omega)).tr (eS.u (by unfold wS; omega))) (rX_u8 hX (fun c k e1 e2 => ?_) ?_) ?_⟩
        · rw [jv_u_at, if_neg e2, jv_u_at, if_neg e1]
        · rw [jv_u_at, if_neg (by omega), jv_u_at, if_pos ⟨rfl, rfl⟩]; rfl
        · rw [jv_u_at, if_pos ⟨rfl, rfl⟩, jv_u_at, if_neg (by omega)]
      · rw [if_pos c3, if_pos c3, if_pos c3] at h
        refine ⟨_, rfl, h _ (eS.u (by unfold wS; omega)) (rX_u8 hX (fun c k e1 e2 => ?_) ?_) ?_⟩
        · rw [jv_u_at, if_neg e1]
        · rw [jv_u_at, if_pos ⟨rfl, rfl⟩]
          unfold zA
          rw [if_neg (by omega), if_neg (by omega)]
          exact congrArg iI (by omega)
        · rw [jv_u_at, if_neg (by omega)]; exact i0a _
    · rw [if_neg (by rw [c2]; decide)] at h
      exact h σ eS.rf hX (i0a _)
  · rw [if_neg (of_decide_eq_false c)] at h
    exact ⟨_, rfl, h σ eS.rf hX (i0a _)⟩
theorem rU8 {m v j : Nat} : rU α 8 m v 8 j = aU (α 8) m v j := by
  unfold rU aU
  by_cases e : j = m
  · rw [if_pos ⟨rfl, e⟩, if_pos e]
  · rw [if_neg (by omega), if_neg e]
theorem rM_u8 {m v : Nat} (h : rM α σ) (he : ∀ c k, c ≠ 43 → c ≠ 44 → ¬ (c = 34 ∧ k = 6) → σ'.1 c k = σ.1 c k) (h1 : ∀ j, j < α 0 1 → σ'.1 43 j = iI (stN (aU (α 8) m v j) : Nat)) (h2 : ∀ j, j < α 0 1 → 2 ≤ aU (α 8) m v j → σ'.1 44 j = iI ((aU (α 8) m v j : Int) - 2)) : rM (rU α 8 m v) σ' := by
  refine ⟨(he 34 3 (by omega) (by omega) (by omega)).trans h.P, (he 34 4 (by omega) (by omega) (by omega)).trans h.M, (he 34 5 (by omega) (by omega) (by omega)).trans h.td, (he 34 24 (by omega) (by omega) (by omega)).trans h.sz, fun p hp => ⟨(he 36 p (by omega) (by omega) (by omega)).trans (h.kd hp), (he 37 p (by omega) (by omega) (by omega)).trans (h.bn hp), (he 38 p (by omega) (by omega) (by omega)).trans (h.bk hp), (he 39 p (by omega) (by omega) (by omega)).trans (h.me hp)⟩, fun j hj => ⟨(he 40 j (by omega) (by omega) (by omega)).trans (h.ak hj), (he 41 j (by omega) (by omega) (by omega)).trans (h.aw hj), (he 42 j (by omega) (by omega) (by omega)).trans (h.wo hj), ?_, ?_⟩, fun i hi => ?_⟩
  · rw [rU8]; exact h1 j hj
  · rw [rU8]; exact h2 j hj
  · have := h.see (i := i) hi
    exact ⟨(he 48 _ (by omega) (by omega) (by omega)).trans this.1, (he 48 _ (by omega) (by omega) (by omega)).trans this.2.1, (he 48 _ (by omega) (by omega) (by omega)).trans this.2.2⟩
theorem q_keep {K : jSt → Prop} (h : ∀ σ', σ'.2 = σ.2 → (∀ c k, c ≠ 43 → c ≠ 44 → σ'.1 c k = σ.1 c k) → (∀ k, k < 5 → σ'.1 43 k = σ.1 45 k) → (∀ k, k < 5 → σ'.1 44 k = σ.1 46 k) → K σ') : jq_V (d + 2) 100 [.ref 34] σ K := by
  refine ok_X9_keep (q_cp_45_43 (fun s1 c1 => q_cp_46_44 (fun s2 c2 => ⟨rfl, h s2 (c2.1.trans c1.1) (fun c k e1 e2 => (c2.2.1 c k e2).trans (c1.2.1 c k e1)) (fun k hk => (c2.2.1 43 k (by omega)).trans (c1.2.2.1 k hk)) (fun k hk => (c2.2.2.1 k hk).trans (c1.2.1 46 k (by omega)))⟩)))
theorem q_sayM (hV : rV α) (hM : rM α σ) {z : Int} (hz : iR z) (h : ∀ σ', eS vS σ σ' → rM (sayO α z).1 σ' → σ'.1 34 6 = σ.1 34 6 + iI (sayO α z).2.2 → k (iI (sayO α z).2.1) σ') : jq_I (d + 6) 113 [.ref 34, .int (iI z)] σ k := by
  have h5 := hV.M
  have htd := hV.td
  refine ok_X9_say (q_isMatter hV hM hz ?_)
  dsimp only
  rw [jb_0]
  unfold sayO at h
  refine ⟨fun c => ?_, fun c => ?_⟩
  · have c := of_decide_eq_true (show decide (0 ≤ z ∧ z < α 0 1) = true by simpa using c)
    rw [if_pos c] at h
    obtain ⟨m, rfl⟩ : ∃ m : Nat, z = (m : Int) := ⟨z.toNat, by omega⟩
    have hm : m < α 0 1 := by omega
    have ha := (hV.m hm).2.2.2.2
    rw [show ((m : Int)).toNat = m by omega] at h
    refine q_begin hV hM (fun s1 E1 hT1 => ?_)
    have hM1 := hM.mv (E1.wk tS_m)
    rw [hM1.td]
    refine q_canThen hV hM1 hT1 hm (by omega) (by omega) (fun s2 E2 => ?_)
    have hM2 := hM1.mv (E2.wk dS_m)
    have E02 := (E1.wk tS_v).tr (E2.wk dS_v)
    have hT2 : rT (α 8) (α 0 1) s2 := fun j hj => ⟨(E2.2 45 j (by unfold dS; omega)).trans (hT1 j hj).1, fun g => (E2.2 46 j (by unfold dS; omega)).trans ((hT1 j hj).2 g)⟩
    rw [jb_0, hM2.td]
    refine ⟨fun c2 => ?_, fun c2 => ⟨_, rfl, ?_⟩⟩
    · rw [if_pos (show cbs α m (α 8 m) (α 0 2) = true by simpa using c2)] at h
      have hn1 : α 8 m ≠ 1 := fun e => c2 (by unfold cbs; rw [if_pos e])
      unfold sA sN sD at h
      have hfin : ∀ (v : Nat) (x : Int) (s3 s4 : jSt) (y : Int32), eS tS s2 s3 → rT (aU (α 8) m v) (α 0 1) s3 → s4.2 = s3.2 → (∀ c k, c ≠ 43 → c ≠ 44 → s4.1 c k = s3.1 c k) → (∀ k, k < 5 → s4.1 43 k = s3.1 45 k) → (∀ k, k < 5 → s4.1 44 k = s3.1 46 k) → y = s4.1 34 6 + iI x → eS vS σ (jv_u s4 34 6 y) ∧ rM (rU α 8 m v) (jv_u s4 34 6 y) ∧ (jv_u s4 34 6 y).1 34 6 = σ.1 34 6 + iI x := by
        intro v x s3 s4 y E3 hT3 k0 k1 k2 k3 hy
        have E34 : eS vS s3 s4 := ⟨k0, fun c k n => k1 c k (fun e => n (by unfold vS; omega)) (fun e => n (by unfold vS; omega))⟩
        have hM3 := hM2.mv (E3.wk tS_m)
        refine ⟨((E02.tr (E3.wk tS_v)).tr E34).tr (eS.u (by unfold vS; omega)), rM_u8 hM3 (fun c k e1 e2 e3 => ?_) (fun j hj => ?_) (fun j hj g => ?_), ?_⟩
        · rw [jv_u_at, if_neg e3]; exact k1 c k e1 e2
        · rw [jv_u_at, if_neg (by omega), k2 j (by omega)]; exact (hT3 j hj).1
        · rw [jv_u_at, if_neg (by omega), k3 j (by omega)]; exact (hT3 j hj).2 g
        · rw [jv_u_at, if_pos ⟨rfl, rfl⟩, hy, k1 34 6 (by omega) (by omega), E3.2 34 6 (by unfold tS; omega), E2.2 34 6 (by unfold dS; omega), E1.2 34 6 (by unfold tS; omega)]
      refine q_sayThen hV hM2 hT2 hm hn1 ha (by omega) (fun c3 s3 E3 hT3 => ?_) (fun c3 s3 E3 hT3 => ?_)
      · rw [if_pos c3, if_pos c3, if_pos c3] at h
        refine q_keep (fun s4 k0 k1 k2 k3 => ⟨fun _ => ⟨_, rfl, ?_⟩, fun c4 => absurd (by decide +kernel) c4⟩)
        have := hfin _ 0 s3 s4 _ E3 hT3 k0 k1 k2 k3 rfl
        exact h _ this.1 this.2.1 this.2.2
      · have hn0 : ¬ α 8 m = 0 := by omega
        rw [if_neg hn0, if_neg hn0, if_neg hn0] at h
        refine q_keep (fun s4 k0 k1 k2 k3 => ⟨fun c4 => ⟨_, rfl, ?_⟩, fun c4 => ⟨_, rfl, ?_⟩⟩)
        · have := hfin _ (sfo α m (α 8 m) (α 0 2) : Nat) s3 s4 (s4.1 34 6 + iI 0) E3 hT3 k0 k1 k2 k3 ?_
          · exact h _ this.1 this.2.1 this.2.2
          · have hs := sfo_le hV (m := m) (a := α 8 m) (dy := α 0 2) hm
            rw [iI_le0 ⟨by omega, by omega⟩] at c4
            rw [show ((sfo α m (α 8 m) (α 0 2) : Nat) : Int) = 0 by omega]
        · have := hfin _ (sfo α m (α 8 m) (α 0 2) : Nat) s3 s4 _ E3 hT3 k0 k1 k2 k3 rfl
          exact h _ this.1 this.2.1 this.2.2
    · rw [if_neg (by rw [c2]; decide)] at h
      refine h s2 E02 hM2 ?_
      rw [E2.2 34 6 (by unfold dS; omega), E1.2 34 6 (by unfold tS; omega)]
      exact i0a _
  · rw [if_neg (of_decide_eq_false c)] at h
    exact ⟨_, rfl, h σ eS.rf hM (i0a _)⟩
end Do
