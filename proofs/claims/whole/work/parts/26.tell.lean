/-! what is told: person, as, matter, date, live, on both sides -/
section Tl
variable {α : rA} {σ : jSt} {d : Nat} {k : Int32 → jSt → Prop}
def tPe (α : rA) (p : Nat) (w : Int) : Int := if w = 0 then α 1 p else if w = 1 then α 2 p else if w = 2 then α 3 p else if w = 3 then α 4 p else if w = 4 then (if sp α (α 0 2) p then 1 else 0) else if w = 5 then cnN (fun n => sp α (α 0 2 + n) p) 31 else if w = 6 then soN α p (α 0 4) else if w = 7 then lsN α p else -102
def aPe (α : rA) (z w : Int) : Int := if 0 ≤ z ∧ z < α 0 0 then tPe α z.toNat w else -101
theorem jbz (b : Bool) : iI (if b then 1 else 0) = jb b := by cases b <;> decide +kernel
theorem q_person (hV : rV α) (hX : rX 3 α σ) {z w : Int} (hz : iR z) (hw : iR w) (h : k (iI (aPe α z w)) σ) : jq_I (d + 7) 58 [.ref 0, .int (iI z), .int (iI w)] σ k := by
  have h6 := hV.P
  have htd := hV.td
  refine ok_X8_person (q_knowsPerson hV hX hz ?_)
  rw [jb_0]
  unfold aPe at h
  refine ⟨fun c => ?_, fun c => ?_⟩
  · have c := of_decide_eq_true (show decide (0 ≤ z ∧ z < α 0 0) = true by simpa using c)
    rw [if_pos c] at h
    obtain ⟨p, rfl⟩ : ∃ p : Nat, z = (p : Int) := ⟨z.toNat, by omega⟩
    have hp : p < α 0 0 := by omega
    have hc : (iI (p : Int)).toNatClampNeg = p := iI_clamp (by omega)
    have hin : vp_in (iI (p : Int)) 6 := (iI_in (by omega) 6).mpr (by omega)
    have ew : ∀ j : Int, 0 ≤ j → j < 100 → (iI w = iI j ↔ w = j) := fun j h1 h2 => iI_eq hw ⟨by omega, by omega⟩
    rw [show ((p : Int)).toNat = p by omega] at h
    unfold tPe at h
    rw [hc, hX.kd hp, hX.bn hp, hX.me hp, hX.td, ew 0 (by omega) (by omega), ew 1 (by omega) (by omega), ew 2 (by omega) (by omega), ew 3 (by omega) (by omega), ew 4 (by omega) (by omega), ew 5 (by omega) (by omega), ew 6 (by omega) (by omega), ew 7 (by omega) (by omega)]
    refine ⟨fun c0 => ⟨hin, _, rfl, ?_⟩, fun c0 => ⟨fun c1 => ⟨hin, _, rfl, ?_⟩, fun c1 => ⟨fun c2 => q_bankOf hV hX hp ⟨_, rfl, ?_⟩, fun c2 => ⟨fun c3 => ⟨hin, _, rfl, ?_⟩, fun c3 => ⟨fun c4 => q_speaks hV hX hp (by omega) ⟨fun c => ⟨_, rfl, ?_⟩, fun c => ⟨_, rfl, ?_⟩⟩, fun c4 => ⟨fun c5 => q_speakingDays hV hX hp ⟨_, rfl, ?_⟩, fun c5 => ⟨fun c6 => q_possibleSorts hV hX hp ⟨_, rfl, ?_⟩, fun c6 => ⟨fun c7 => q_dayToListen hV hX hp ⟨_, rfl, ?_⟩, fun c7 => ⟨_, rfl, ?_⟩⟩⟩⟩⟩⟩⟩⟩⟩
    · rwa [if_pos c0] at h
    · rwa [if_neg c0, if_pos c1] at h
    · rwa [if_neg c0, if_neg c1, if_pos c2] at h
    · rwa [if_neg c0, if_neg c1, if_neg c2, if_pos c3] at h
    · rw [jb_0] at c
      rwa [if_neg c0, if_neg c1, if_neg c2, if_neg c3, if_pos c4, c] at h
    · rw [jb_0] at c
      rwa [if_neg c0, if_neg c1, if_neg c2, if_neg c3, if_pos c4, show sp α (α 0 2) p = true by simpa using c] at h
    · rwa [if_neg c0, if_neg c1, if_neg c2, if_neg c3, if_neg c4, if_pos c5] at h
    · rwa [if_neg c0, if_neg c1, if_neg c2, if_neg c3, if_neg c4, if_neg c5, if_pos c6] at h
    · rwa [if_neg c0, if_neg c1, if_neg c2, if_neg c3, if_neg c4, if_neg c5, if_neg c6, if_pos c7] at h
    · rwa [if_neg c0, if_neg c1, if_neg c2, if_neg c3, if_neg c4, if_neg c5, if_neg c6, if_neg c7] at h
  · rw [if_neg (of_decide_eq_false c)] at h
    exact ⟨_, rfl, h⟩
theorem q_tellPerson (hV : rV α) (hM : rM α σ) {p : Nat} (hp : p < α 0 0) {w : Int} (hw : iR w) (h : ∀ σ', eS dS σ σ' → k (iI (tPe α p w)) σ') : jq_I (d + 6) 105 [.ref 34, .int (iI p), .int (iI w)] σ k := by
  have h6 := hV.P
  have htd := hV.td
  have hc : (iI (p : Int)).toNatClampNeg = p := iI_clamp (by omega)
  have hin : vp_in (iI (p : Int)) 6 := (iI_in (by omega) 6).mpr (by omega)
  have ew : ∀ j : Int, 0 ≤ j → j < 100 → (iI w = iI j ↔ w = j) := fun j h1 h2 => iI_eq hw ⟨by omega, by omega⟩
  refine ok_X9_tellPerson ?_
  unfold vc_X9_tellPerson
  unfold tPe at h
  rw [hc, hM.kd hp, hM.bn hp, hM.bk hp, hM.me hp, hM.td, ew 0 (by omega) (by omega), ew 1 (by omega) (by omega), ew 2 (by omega) (by omega), ew 3 (by omega) (by omega), ew 4 (by omega) (by omega), ew 5 (by omega) (by omega), ew 6 (by omega) (by omega), ew 7 (by omega) (by omega)]
  refine ⟨fun c0 => ⟨hin, _, rfl, ?_⟩, fun c0 => ⟨fun c1 => ⟨hin, _, rfl, ?_⟩, fun c1 => ⟨fun c2 => ⟨hin, _, rfl, ?_⟩, fun c2 => ⟨fun c3 => ⟨hin, _, rfl, ?_⟩, fun c3 => ⟨fun c4 => q_maySpeak hV hM hp (by omega) (fun s hE => ⟨fun c => ⟨_, rfl, ?_⟩, fun c => ⟨_, rfl, ?_⟩⟩), fun c4 => ⟨fun c5 => q_speakingDaysM hV hM hp (fun s hE => ⟨_, rfl, ?_⟩), fun c5 => ⟨fun c6 => q_sortsOf hV hM hp (fun s hE => ⟨_, rfl, ?_⟩), fun c6 => ⟨fun c7 => q_listenOf hV hM hp (fun s hE => ⟨_, rfl, ?_⟩), fun c7 => ⟨_, rfl, ?_⟩⟩⟩⟩⟩⟩⟩⟩⟩
  · have := h σ eS.rf; rwa [if_pos c0] at this
  · have := h σ eS.rf; rwa [if_neg c0, if_pos c1] at this
  · have := h σ eS.rf; rwa [if_neg c0, if_neg c1, if_pos c2] at this
  · have := h σ eS.rf; rwa [if_neg c0, if_neg c1, if_neg c2, if_pos c3] at this
  · rw [jb_0] at c
    have := h s hE; rwa [if_neg c0, if_neg c1, if_neg c2, if_neg c3, if_pos c4, c] at this
  · rw [jb_0] at c
    have := h s hE; rwa [if_neg c0, if_neg c1, if_neg c2, if_neg c3, if_pos c4, show sp α (α 0 2) p = true by simpa using c] at this
  · have := h s hE; rwa [if_neg c0, if_neg c1, if_neg c2, if_neg c3, if_neg c4, if_pos c5] at this
  · have := h s hE; rwa [if_neg c0, if_neg c1, if_neg c2, if_neg c3, if_neg c4, if_neg c5, if_pos c6] at this
  · have := h s hE; rwa [if_neg c0, if_neg c1, if_neg c2, if_neg c3, if_neg c4, if_neg c5, if_neg c6, if_pos c7] at this
  · have := h σ eS.rf; rwa [if_neg c0, if_neg c1, if_neg c2, if_neg c3, if_neg c4, if_neg c5, if_neg c6, if_neg c7] at this
theorem q_isPerson (hV : rV α) (hM : rM α σ) {z : Int} (hz : iR z) (h : k (jb (decide (0 ≤ z ∧ z < α 0 0))) σ) : jq_I (d + 2) 90 [.ref 34, .int (iI z)] σ k := by
  have h6 := hV.P
  refine ok_X9_isPerson ?_
  unfold vc_X9_isPerson
  rw [hM.P, iI_sub, lI_i hz, lI_i ⟨by omega, by omega⟩]
  refine q_in (b := 0) hz ⟨by omega, by omega⟩ ⟨by omega, by omega⟩ ⟨jb_z _, _, rfl, ?_⟩
  by_cases q : 0 ≤ z ∧ z < α 0 0
  · rw [decide_eq_true q] at h; rw [decide_eq_true (by omega)]; exact h
  · rw [decide_eq_false q] at h; rw [decide_eq_false (by omega)]; exact h
theorem q_isMatter (hV : rV α) (hM : rM α σ) {z : Int} (hz : iR z) (h : k (jb (decide (0 ≤ z ∧ z < α 0 1))) σ) : jq_I (d + 2) 91 [.ref 34, .int (iI z)] σ k := by
  have h5 := hV.M
  refine ok_X9_isMatter ?_
  unfold vc_X9_isMatter
  rw [hM.M, iI_sub, lI_i hz, lI_i ⟨by omega, by omega⟩]
  refine q_in (b := 0) hz ⟨by omega, by omega⟩ ⟨by omega, by omega⟩ ⟨jb_z _, _, rfl, ?_⟩
  by_cases q : 0 ≤ z ∧ z < α 0 1
  · rw [decide_eq_true q] at h; rw [decide_eq_true (by omega)]; exact h
  · rw [decide_eq_false q] at h; rw [decide_eq_false (by omega)]; exact h
theorem q_lacks (hV : rV α) (hM : rM α σ) (h : k (jb (decide (α 0 0 = 0))) σ) : jq_I (d + 1) 89 [.ref 34] σ k := by
  have h6 := hV.P
  refine ok_X9_lacks ?_
  unfold vc_X9_lacks
  rw [hM.P, iI_eq0 ⟨by omega, by omega⟩]
  refine ⟨fun c => ⟨_, rfl, ?_⟩, fun c => ⟨_, rfl, ?_⟩⟩
  · rw [decide_eq_false (by omega)] at h; rw [jb_f]; exact h
  · rw [decide_eq_true (by omega)] at h; rw [jb_t]; exact h
theorem q_personM (hV : rV α) (hM : rM α σ) {z w : Int} (hz : iR z) (hw : iR w) (h : ∀ σ', eS dS σ σ' → k (iI (aPe α z w)) σ') : jq_I (d + 7) 106 [.ref 34, .int (iI z), .int (iI w)] σ k := by
  have h6 := hV.P
  refine ok_X9_person (q_isPerson hV hM hz ?_)
  rw [jb_0]
  unfold aPe at h
  refine ⟨fun c => ⟨_, rfl, ?_⟩, fun c => ?_⟩
  · have := h σ eS.rf; rwa [if_neg (of_decide_eq_false c)] at this
  · have c := of_decide_eq_true (show decide (0 ≤ z ∧ z < α 0 0) = true by simpa using c)
    obtain ⟨p, rfl⟩ : ∃ p : Nat, z = (p : Int) := ⟨z.toNat, by omega⟩
    refine q_tellPerson hV hM (by omega) hw (fun s hE => ⟨_, rfl, ?_⟩)
    have := h s hE
    rwa [if_pos c, show ((p : Int)).toNat = p by omega] at this
def aAs (α : rA) (z t : Int) : Int := if 0 ≤ z ∧ z < α 0 0 then (if 0 ≤ t ∧ t < 5 then (if isK (α 1 z.toNat) t.toNat then z else -1) else -102) else -101
theorem q_as (hV : rV α) (hX : rX 3 α σ) {z t : Int} (hz : iR z) (ht : iR t) (h : k (iI (aAs α z t)) σ) : jq_I (d + 2) 59 [.ref 0, .int (iI z), .int (iI t)] σ k := by
  have h6 := hV.P
  refine ok_X8_as (q_knowsPerson hV hX hz ?_)
  rw [jb_0, iI_lt0 ht, iI_lt ht ⟨by omega, by omega⟩]
  unfold aAs at h
  refine ⟨fun c => ?_, fun c => ?_⟩
  · have c := of_decide_eq_true (show decide (0 ≤ z ∧ z < α 0 0) = true by simpa using c)
    rw [if_pos c] at h
    obtain ⟨p, rfl⟩ : ∃ p : Nat, z = (p : Int) := ⟨z.toNat, by omega⟩
    have hp : p < α 0 0 := by omega
    have hc : (iI (p : Int)).toNatClampNeg = p := iI_clamp (by omega)
    have hin : vp_in (iI (p : Int)) 6 := (iI_in (by omega) 6).mpr (by omega)
    rw [hc, hX.kd hp]
    refine ⟨fun c2 => ⟨_, rfl, ?_⟩, fun c2 => ⟨fun c3 => ⟨hin, ?_⟩, fun c3 => ⟨_, rfl, ?_⟩⟩⟩
    · rwa [if_neg (by omega)] at h
    · rw [if_pos (by omega), show ((p : Int)).toNat = p by omega] at h
      obtain ⟨t', rfl⟩ : ∃ t' : Nat, t = (t' : Int) := ⟨t.toNat, by omega⟩
      rw [show ((t' : Int)).toNat = t' by omega] at h
      refine q_isKind (hV.p hp).1 (by omega) ?_
      rw [jb_0]
      refine ⟨fun c4 => ⟨_, rfl, ?_⟩, fun c4 => ⟨_, rfl, ?_⟩⟩
      · rwa [c4] at h
      · rwa [show isK (α 1 p) t' = true by simpa using c4] at h
    · rwa [if_neg (by omega)] at h
  · rw [if_neg (of_decide_eq_false c)] at h
    exact ⟨_, rfl, h⟩
theorem q_asM (hV : rV α) (hM : rM α σ) {z t : Int} (hz : iR z) (ht : iR t) (h : k (iI (aAs α z t)) σ) : jq_I (d + 3) 107 [.ref 34, .int (iI z), .int (iI t)] σ k := by
  have h6 := hV.P
  refine ok_X9_as (q_isPerson hV hM hz ?_)
  rw [jb_0, lI_i ht]
  unfold aAs at h
  refine ⟨fun c => ?_, fun c => ?_⟩
  · have c := of_decide_eq_true (show decide (0 ≤ z ∧ z < α 0 0) = true by simpa using c)
    rw [if_pos c] at h
    obtain ⟨p, rfl⟩ : ∃ p : Nat, z = (p : Int) := ⟨z.toNat, by omega⟩
    have hp : p < α 0 0 := by omega
    have hk := (hV.p hp).1
    have hc : (iI (p : Int)).toNatClampNeg = p := iI_clamp (by omega)
    have hin : vp_in (iI (p : Int)) 6 := (iI_in (by omega) 6).mpr (by omega)
    refine q_in (b := 0) (c := 4) ht ⟨by omega, by omega⟩ ⟨by omega, by omega⟩ ?_
    rw [jb_0, hc, hM.kd hp, iI_eq0 ht, iI_eq ht ⟨by omega, by omega⟩, iI_eq ht ⟨by omega, by omega⟩, iI_eq ⟨by omega, by omega⟩ ⟨by omega, by omega⟩]
    refine ⟨fun c2 => ?_, fun c2 => ⟨_, rfl, ?_⟩⟩
    · have c2 := of_decide_eq_true (show decide (0 ≤ t ∧ t ≤ 4) = true by simpa using c2)
      obtain ⟨t', rfl⟩ : ∃ t' : Nat, t = (t' : Int) := ⟨t.toNat, by omega⟩
      rw [if_pos (by omega), show ((p : Int)).toNat = p by omega, show ((t' : Int)).toNat = t' by omega] at h
      have yes : isK (α 1 p) t' = true → k (iI (p : Int)) σ := fun e => by rwa [e] at h
      have no : isK (α 1 p) t' = false → k (iI (-1)) σ := fun e => by rwa [e] at h
      refine ⟨fun c3 => ⟨_, rfl, yes ?_⟩, fun c3 => ⟨hin, fun c4 => ⟨_, rfl, yes ?_⟩, fun c4 => ⟨fun c5 => ⟨_, rfl, no ?_⟩, fun c5 => ⟨hin, fun c6 => ⟨_, rfl, no ?_⟩, fun c6 => ⟨_, rfl, yes ?_⟩⟩⟩⟩⟩
      · simp [isK, show t' = 0 by omega]
      · simp [isK, show α 1 p = t' by omega]
      · have h1 : t' ≠ 0 := by omega
        have h2 : α 1 p ≠ t' := by omega
        have h3 : t' ≠ 1 := by omega
        simp [isK, h1, h2, h3]
      · have h1 : t' ≠ 0 := by omega
        have h2 : α 1 p ≠ t' := by omega
        have h3 : α 1 p ≠ 4 := by omega
        simp [isK, h1, h2, h3]
      · simp [isK, show α 1 p = 4 by omega, show t' = 1 by omega]
    · have := of_decide_eq_false c2
      rwa [if_neg (by omega)] at h
  · rw [if_neg (of_decide_eq_false c)] at h
    exact ⟨_, rfl, h⟩
def tMa (α : rA) (m : Nat) (w : Int) : Int := if w = 0 then α 5 m else if w = 1 then α 6 m else if w = 2 then α 7 m else if w = 3 then stN (α 8 m) else if w = 4 then asN α m else if w = 5 then wtN α m else if w = 6 then snN α m 71 0 (α 8 m) else -102
def aMa (α : rA) (z w : Int) : Int := if 0 ≤ z ∧ z < α 0 1 then tMa α z.toNat w else -101
theorem q_matter (hV : rV α) (hX : rX 3 α σ) {z w : Int} (hz : iR z) (hw : iR w) (h : k (iI (aMa α z w)) σ) : jq_I (d + 6) 60 [.ref 0, .int (iI z), .int (iI w)] σ k := by
  have h5 := hV.M
  refine ok_X8_matter (q_knowsMatter hV hX hz ?_)
  rw [jb_0]
  unfold aMa at h
  refine ⟨fun c => ?_, fun c => ?_⟩
  · have c := of_decide_eq_true (show decide (0 ≤ z ∧ z < α 0 1) = true by simpa using c)
    rw [if_pos c] at h
    obtain ⟨m, rfl⟩ : ∃ m : Nat, z = (m : Int) := ⟨z.toNat, by omega⟩
    have hm : m < α 0 1 := by omega
    have hc : (iI (m : Int)).toNatClampNeg = m := iI_clamp (by omega)
    have hin : vp_in (iI (m : Int)) 5 := (iI_in (by omega) 5).mpr (by omega)
    have ew : ∀ j : Int, 0 ≤ j → j < 100 → (iI w = iI j ↔ w = j) := fun j h1 h2 => iI_eq hw ⟨by omega, by omega⟩
    rw [show ((m : Int)).toNat = m by omega] at h
    unfold tMa at h
    rw [hc, hX.ak hm, hX.aw hm, hX.wo hm, ew 0 (by omega) (by omega), ew 1 (by omega) (by omega), ew 2 (by omega) (by omega), ew 3 (by omega) (by omega), ew 4 (by omega) (by omega), ew 5 (by omega) (by omega), ew 6 (by omega) (by omega)]
    refine ⟨fun c0 => ⟨hin, _, rfl, ?_⟩, fun c0 => ⟨fun c1 => ⟨hin, _, rfl, ?_⟩, fun c1 => ⟨fun c2 => ⟨hin, _, rfl, ?_⟩, fun c2 => ⟨fun c3 => q_standing hV hX hm ⟨_, rfl, ?_⟩, fun c3 => ⟨fun c4 => q_askedSince hV hX hm ⟨_, rfl, ?_⟩, fun c4 => ⟨fun c5 => q_worthToday hV hX hm ⟨_, rfl, ?_⟩, fun c5 => ⟨fun c6 => q_soonest hV hX hm ⟨_, rfl, ?_⟩, fun c6 => ⟨_, rfl, ?_⟩⟩⟩⟩⟩⟩⟩⟩
    · rwa [if_pos c0] at h
    · rwa [if_neg c0, if_pos c1] at h
    · rwa [if_neg c0, if_neg c1, if_pos c2] at h
    · rwa [if_neg c0, if_neg c1, if_neg c2, if_pos c3] at h
    · rwa [if_neg c0, if_neg c1, if_neg c2, if_neg c3, if_pos c4] at h
    · rwa [if_neg c0, if_neg c1, if_neg c2, if_neg c3, if_neg c4, if_pos c5] at h
    · rwa [if_neg c0, if_neg c1, if_neg c2, if_neg c3, if_neg c4, if_neg c5, if_pos c6] at h
    · rwa [if_neg c0, if_neg c1, if_neg c2, if_neg c3, if_neg c4, if_neg c5, if_neg c6] at h
  · rw [if_neg (of_decide_eq_false c)] at h
    exact ⟨_, rfl, h⟩
theorem q_tellMatter (hV : rV α) (hM : rM α σ) {m : Nat} (hm : m < α 0 1) {w : Int} (hw : iR w) (h : ∀ σ', eS dtS σ σ' → k (iI (tMa α m w)) σ') : jq_I (d + 6) 109 [.ref 34, .int (iI m), .int (iI w)] σ k := by
  have h5 := hV.M
  have htd := hV.td
  have hv := hV.m hm
  have hc : (iI (m : Int)).toNatClampNeg = m := iI_clamp (by omega)
  have hin : vp_in (iI (m : Int)) 5 := (iI_in (by omega) 5).mpr (by omega)
  have hs := stN_lt (α 8 m)
  have ew : ∀ j : Int, 0 ≤ j → j < 100 → (iI w = iI j ↔ w = j) := fun j h1 h2 => iI_eq hw ⟨by omega, by omega⟩
  refine ok_X9_tellMatter (q_begin hV hM (fun s1 hE1 hT1 => ?_))
  have hM1 := hM.mv (hE1.wk tS_m)
  have h := fun s (hE : eS dtS s1 s) => h s ((hE1.wk tS_dt).tr hE)
  unfold tMa at h
  rw [hc, hM1.ak hm, hM1.aw hm, hM1.wo hm, hM1.st hm, hM1.td, ew 0 (by omega) (by omega), ew 1 (by omega) (by omega), ew 2 (by omega) (by omega), ew 3 (by omega) (by omega), ew 4 (by omega) (by omega), ew 5 (by omega) (by omega), ew 6 (by omega) (by omega), iI_eq (a := ((stN (α 8 m) : Nat) : Int)) ⟨by omega, by omega⟩ ⟨by omega, by omega⟩]
  refine ⟨fun c0 => ⟨hin, _, rfl, ?_⟩, fun c0 => ⟨fun c1 => ⟨hin, _, rfl, ?_⟩, fun c1 => ⟨fun c2 => ⟨hin, _, rfl, ?_⟩, fun c2 => ⟨fun c3 => ⟨hin, _, rfl, ?_⟩, fun c3 => ⟨fun c4 => ⟨hin, fun c => ⟨_, rfl, ?_⟩, fun c => ⟨hin, _, rfl, ?_⟩⟩, fun c4 => ⟨fun c5 => ⟨hin, fun c => ⟨_, rfl, ?_⟩, fun c => q_canThen hV hM1 hT1 hm (by omega) (by omega) (fun s2 hE2 => ⟨fun e => ⟨_, rfl, ?_⟩, fun e => ?_⟩)⟩, fun c5 => ⟨fun c6 => q_soonOf hV hM1 hm (fun s2 hE2 => ⟨_, rfl, ?_⟩), fun c6 => ⟨_, rfl, ?_⟩⟩⟩⟩⟩⟩⟩⟩
  · have := h s1 eS.rf; rwa [if_pos c0] at this
  · have := h s1 eS.rf; rwa [if_neg c0, if_pos c1] at this
  · have := h s1 eS.rf; rwa [if_neg c0, if_neg c1, if_pos c2] at this
  · have := h s1 eS.rf; rwa [if_neg c0, if_neg c1, if_neg c2, if_pos c3] at this
  · have := h s1 eS.rf
    rw [if_neg c0, if_neg c1, if_neg c2, if_neg c3, if_pos c4] at this
    unfold asN at this
    rwa [if_neg (by omega)] at this
  · have := h s1 eS.rf
    rw [if_neg c0, if_neg c1, if_neg c2, if_neg c3, if_pos c4] at this
    unfold asN at this
    rw [if_pos (by omega)] at this
    rw [hM1.on hm (stN_1.mp (by omega)), iI_sub, show ((α 0 2 : Nat) : Int) - ((α 8 m : Int) - 2) = (α 0 2 : Int) + 2 - α 8 m by omega]
    exact this
  · have := h s1 eS.rf
    rw [if_neg c0, if_neg c1, if_neg c2, if_neg c3, if_neg c4, if_pos c5] at this
    unfold wtN at this
    rwa [if_neg (by omega)] at this
  · rw [jb_0] at e
    have := h s2 (hE2.wk dS_dt)
    rw [if_neg c0, if_neg c1, if_neg c2, if_neg c3, if_neg c4, if_pos c5] at this
    unfold wtN at this
    rwa [if_neg (by simp [e])] at this
  · rw [jb_0] at e
    have e : cbs α m (α 8 m) (α 0 2) = true := by simpa using e
    have hM2 := hM1.mv (hE2.wk dS_m)
    have h2 : 2 ≤ α 8 m := stN_1.mp (by omega)
    rw [hM2.td]
    refine q_valueOf hV hM2 hm h2 (by omega) (by omega) ?_ ⟨_, rfl, ?_⟩
    · rw [hE2.2 46 m (by unfold dS; omega)]; exact (hT1 m hm).2 h2
    · have := h s2 (hE2.wk dS_dt)
      rw [if_neg c0, if_neg c1, if_neg c2, if_neg c3, if_neg c4, if_pos c5] at this
      unfold wtN at this
      rwa [if_pos ⟨by omega, e⟩] at this
  · have := h s2 hE2; rwa [if_neg c0, if_neg c1, if_neg c2, if_neg c3, if_neg c4, if_neg c5, if_pos c6] at this
  · have := h s1 eS.rf; rwa [if_neg c0, if_neg c1, if_neg c2, if_neg c3, if_neg c4, if_neg c5, if_neg c6] at this
theorem q_matterM (hV : rV α) (hM : rM α σ) {z w : Int} (hz : iR z) (hw : iR w) (h : ∀ σ', eS dtS σ σ' → k (iI (aMa α z w)) σ') : jq_I (d + 7) 110 [.ref 34, .int (iI z), .int (iI w)] σ k := by
  have h5 := hV.M
  refine ok_X9_matter (q_isMatter hV hM hz ?_)
  rw [jb_0]
  unfold aMa at h
  refine ⟨fun c => ⟨_, rfl, ?_⟩, fun c => ?_⟩
  · have := h σ eS.rf; rwa [if_neg (of_decide_eq_false c)] at this
  · have c := of_decide_eq_true (show decide (0 ≤ z ∧ z < α 0 1) = true by simpa using c)
    obtain ⟨m, rfl⟩ : ∃ m : Nat, z = (m : Int) := ⟨z.toNat, by omega⟩
    refine q_tellMatter hV hM (by omega) hw (fun s hE => ⟨_, rfl, ?_⟩)
    have := h s hE
    rwa [if_pos c, show ((m : Int)).toNat = m by omega] at this
end Tl
