/-! date, live, count, letter, blank, fault, on both sides -/
section Da
variable {α : rA} {σ : jSt} {d : Nat} {k : Int32 → jSt → Prop}
def tDa (α : rA) (dy : Nat) (w : Int) : Int := if w = 0 then (mad dy % 32 : Nat) else if w = 1 then (mad dy / 32 : Nat) else if w = 2 then (yeN dy : Nat) else (spB α dy : Nat)
def aDa (α : rA) (z w : Int) : Int := if 0 ≤ z ∧ z ≤ 366 ∧ 0 ≤ w ∧ w ≤ 3 then (if α 0 0 = 0 then -103 else tDa α (α 0 2 + z.toNat) w) else -102
theorem q_date (hV : rV α) (hX : rX 3 α σ) {z w : Int} (hz : iR z) (hw : iR w) (h : k (iI (aDa α z w)) σ) : jq_I (d + 5) 61 [.ref 0, .int (iI z), .int (iI w)] σ k := by
  have h6 := hV.P
  have htd := hV.td
  have ew : ∀ j : Int, 0 ≤ j → j < 100 → (iI w = iI j ↔ w = j) := fun j h1 h2 => iI_eq hw ⟨by omega, by omega⟩
  refine ok_X8_date ?_
  unfold vc_X8_date
  dsimp only
  unfold aDa at h
  rw [iI_lt0 hz, iI_lt0 hw, iI_lt ⟨by omega, by omega⟩ hz, iI_le hw ⟨by omega, by omega⟩]
  refine ⟨fun c => ⟨_, rfl, ?_⟩, fun c => ⟨fun c1 => ⟨_, rfl, ?_⟩, fun c1 => ⟨fun c2 => ⟨_, rfl, ?_⟩, fun c2 => ⟨fun c3 => q_hasRiver hV hX ⟨fun c4 => ?_, fun c4 => ⟨_, rfl, ?_⟩⟩, fun c3 => ⟨_, rfl, ?_⟩⟩⟩⟩⟩
  · rwa [if_neg (by omega)] at h
  · rwa [if_neg (by omega)] at h
  · rwa [if_neg (by omega)] at h
  · rw [jb_0] at c4
    have c4 : 0 < α 0 0 := by simp at c4; omega
    rw [if_pos (by omega), if_neg (by omega)] at h
    obtain ⟨n, rfl⟩ : ∃ n : Nat, z = (n : Int) := ⟨z.toNat, by omega⟩
    rw [show ((n : Int)).toNat = n by omega] at h
    rw [hX.td, iI_add, show ((α 0 2 : Nat) : Int) + (n : Nat) = ((α 0 2 + n : Nat) : Int) by omega, ew 0 (by omega) (by omega), ew 1 (by omega) (by omega), ew 2 (by omega) (by omega)]
    unfold tDa at h
    refine ⟨fun d0 => q_dateOf (by omega) ⟨_, rfl, ?_⟩, fun d0 => ⟨fun d1 => q_monthOf (by omega) ⟨_, rfl, ?_⟩, fun d1 => ⟨fun d2 => q_yearOf (by omega) ⟨_, rfl, ?_⟩, fun d2 => q_speakersOn hV hX (by omega) ⟨_, rfl, ?_⟩⟩⟩⟩
    · rwa [if_pos d0] at h
    · rwa [if_neg d0, if_pos d1] at h
    · rwa [if_neg d0, if_neg d1, if_pos d2] at h
    · rwa [if_neg d0, if_neg d1, if_neg d2] at h
  · rw [jb_0] at c4
    have c4 := of_decide_eq_false c4
    rwa [if_pos (by omega), if_pos (by omega)] at h
  · rwa [if_neg (by omega)] at h
theorem q_dateM (hV : rV α) (hM : rM α σ) {z w : Int} (hz : iR z) (hw : iR w) (h : ∀ σ', eS dS σ σ' → k (iI (aDa α z w)) σ') : jq_I (d + 6) 112 [.ref 34, .int (iI z), .int (iI w)] σ k := by
  have h6 := hV.P
  have htd := hV.td
  have ew : ∀ j : Int, 0 ≤ j → j < 100 → (iI w = iI j ↔ w = j) := fun j h1 h2 => iI_eq hw ⟨by omega, by omega⟩
  refine ok_X9_date ?_
  unfold vc_X9_date
  unfold aDa at h
  rw [lI_i hz, lI_i hw]
  refine q_in (b := 0) (c := 366) hz ⟨by omega, by omega⟩ ⟨by omega, by omega⟩ ?_
  rw [jb_0]
  refine ⟨fun c => ⟨_, rfl, ?_⟩, fun c => q_in (b := 0) (c := 3) hw ⟨by omega, by omega⟩ ⟨by omega, by omega⟩ ?_⟩
  · have := h σ eS.rf; rwa [if_neg (fun q => of_decide_eq_false c ⟨q.1, q.2.1⟩)] at this
  have c := of_decide_eq_true (show decide (0 ≤ z ∧ z ≤ 366) = true by simpa using c)
  rw [jb_0]
  refine ⟨fun c1 => q_lacks hV hM ?_, fun c1 => ⟨_, rfl, ?_⟩⟩
  · have c1 := of_decide_eq_true (show decide (0 ≤ w ∧ w ≤ 3) = true by simpa using c1)
    rw [if_pos ⟨c.1, c.2, c1.1, c1.2⟩] at h
    rw [jb_0]
    refine ⟨fun c2 => ?_, fun c2 => ⟨_, rfl, ?_⟩⟩
    · have c2 := of_decide_eq_false c2
      rw [if_neg c2] at h
      obtain ⟨n, rfl⟩ : ∃ n : Nat, z = (n : Int) := ⟨z.toNat, by omega⟩
      rw [show ((n : Int)).toNat = n by omega] at h
      rw [hM.td, iI_add, show ((α 0 2 : Nat) : Int) + (n : Nat) = ((α 0 2 + n : Nat) : Int) by omega]
      refine ok_X9_tellDate ?_
      unfold vc_X9_tellDate
      unfold tDa at h
      rw [iI_eq0 hw, ew 1 (by omega) (by omega), ew 3 (by omega) (by omega)]
      refine ⟨fun d3 => q_layDate (by omega) (fun s hE e1 e2 e3 => ⟨fun d0 => ⟨fun d1 => ⟨_, rfl, ⟨_, rfl, ?_⟩⟩, fun d1 => ⟨_, rfl, ⟨_, rfl, ?_⟩⟩⟩, fun d0 => ⟨_, rfl, ⟨_, rfl, ?_⟩⟩⟩), fun d3 => q_speakers hV hM (by omega) (fun s hE => ⟨_, rfl, ⟨_, rfl, ?_⟩⟩)⟩
      · have := h s hE
        rwa [if_neg d0, if_neg d1, if_pos (by omega), ← e3] at this
      · have := h s hE
        rwa [if_neg d0, if_pos d1, ← e2] at this
      · have := h s hE
        rwa [if_pos d0, ← e1] at this
      · have := h s hE
        rwa [if_neg (by omega), if_neg (by omega), if_neg (by omega)] at this
    · have c2 := of_decide_eq_true (show decide (α 0 0 = 0) = true by simpa using c2)
      have := h σ eS.rf; rwa [if_pos c2] at this
  · have := h σ eS.rf; rwa [if_neg (fun q => of_decide_eq_false c1 ⟨q.2.2.1, q.2.2.2⟩)] at this
def aLv (α : rA) (w : Int) : Int := if 0 ≤ w ∧ w ≤ 1 then (if α 0 0 = 0 then -103 else if w = 0 then (lvF α (lvC α (2 ^ α 0 0)) : Nat) else (lvC α (2 ^ α 0 0) : Nat)) else -102
theorem q_live (hV : rV α) (hX : rX 3 α σ) (hl : lvC α (2 ^ α 0 0) < 64) {w : Int} (hw : iR w) (h : k (iI (aLv α w)) σ) : jq_I (d + 5) 68 [.ref 0, .int (iI w)] σ k := by
  refine ok_X8_live ?_
  unfold vc_X8_live
  unfold aLv at h
  rw [iI_lt0 hw, iI_le hw ⟨by omega, by omega⟩, iI_eq0 hw]
  refine ⟨fun c => ⟨_, rfl, ?_⟩, fun c => ⟨fun c1 => q_hasRiver hV hX ⟨fun c2 => q_bestHomes hV hX ⟨fun c3 => ⟨_, rfl, ?_⟩, fun c3 => q_settledByTomorrow hV hX hl ⟨_, rfl, ?_⟩⟩, fun c2 => ⟨_, rfl, ?_⟩⟩, fun c1 => ⟨_, rfl, ?_⟩⟩⟩
  · rwa [if_neg (by omega)] at h
  · rw [jb_0] at c2
    have c2 : 0 < α 0 0 := by simp at c2; omega
    rwa [if_pos (by omega), if_neg (by omega), if_neg c3] at h
  · rw [jb_0] at c2
    have c2 : 0 < α 0 0 := by simp at c2; omega
    rwa [if_pos (by omega), if_neg (by omega), if_pos c3] at h
  · rw [jb_0] at c2
    have c2 := of_decide_eq_false c2
    rwa [if_pos (by omega), if_pos (by omega)] at h
  · rwa [if_neg (by omega)] at h
theorem q_liveM (hV : rV α) (hM : rM α σ) {w : Int} (hw : iR w) (h : ∀ σ', eS mS σ σ' → k (iI (aLv α w)) σ') : jq_I (d + 6) 124 [.ref 34, .int (iI w)] σ k := by
  refine ok_X9_live ?_
  unfold vc_X9_live
  unfold aLv at h
  rw [lI_i hw]
  refine q_in (b := 0) (c := 1) hw ⟨by omega, by omega⟩ ⟨by omega, by omega⟩ ?_
  rw [jb_0]
  refine ⟨fun c => q_lacks hV hM ?_, fun c => ⟨_, rfl, ?_⟩⟩
  · have c := of_decide_eq_true (show decide (0 ≤ w ∧ w ≤ 1) = true by simpa using c)
    rw [if_pos c] at h
    rw [jb_0]
    refine ⟨fun c2 => q_liveOf hV hM (fun s hE => ?_), fun c2 => ⟨_, rfl, ?_⟩⟩
    · rw [iI_eq0 hw]
      have := h s hE
      rw [if_neg (of_decide_eq_false c2)] at this
      refine ⟨fun c3 => ⟨_, rfl, ?_⟩, fun c3 => ⟨_, rfl, ?_⟩⟩
      · rwa [if_neg c3] at this
      · rwa [if_pos c3] at this
    · have c2 := of_decide_eq_true (show decide (α 0 0 = 0) = true by simpa using c2)
      have := h σ eS.rf; rwa [if_pos c2] at this
  · have := h σ eS.rf; rwa [if_neg (of_decide_eq_false c)] at this
end Da
