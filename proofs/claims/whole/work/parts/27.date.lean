/-! date, live, count, letter, blank, fault, on both sides -/
section Da
variable {α : rA} {σ : jSt} {d : Nat} {k : Int32 → jSt → Prop}
def tDa (α : rA) (dy : Nat) (w : Int) : Int := if w = 0 then (mad dy % 32 : Nat) else if w = 1 then (mad dy / 32 : Nat) else if w = 2 then (yeN dy : Nat) else (spB α dy : Nat)
def aDa (α : rA) (z w : Int) : Int := if 0 ≤ z ∧ z ≤ 366 ∧ 0 ≤ w ∧ w ≤ 3 then (if α 0 0 = 0 then -103 else tDa α (α 0 2 + z.toNat) w) else -102
theorem q_date (hV : rV α) (hX : rX 3 α σ) {z w : Int} (hz : iR z) (hw : iR w) (h : k (iI (aDa α z w)) σ) : jq_I (d + 5) 61 [.ref 0, .int (iI z), .int (iI w)] σ k := by
  have h6 := hV.P
  have htd := hV.td
  have ew : ∀ j : Int, 0 ≤ j → j < 100 → (iI w = iI j ↔ w = j) := fun j h1 h2 => iI_eq hw ⟨by omega, by omega⟩
  refine ok_X8_date ?_
  unfold vc_X8_date
  dsimp only
  unfold aDa at h
  rw [iI_lt0 hz, iI_lt0 hw, iI_lt ⟨by omega, by omega⟩ hz, iI_le hw ⟨by omega, by omega⟩]
  refine ⟨fun c => ⟨_, rfl, ?_⟩, fun c => ⟨fun c1 => ⟨_, rfl, ?_⟩, fun c1 => ⟨fun c2 => ⟨_, rfl, ?_⟩, fun c2 => ⟨fun c3 => q_hasRiver hV hX ⟨fun c4 => ?_, fun c4 => ⟨_, rfl, ?_⟩⟩, fun c3 => ⟨_, rfl, ?_⟩⟩⟩⟩⟩
  · rwa [if_neg (by omega)] at h
  · rwa [if_neg (by omega)] at h
  · rwa [if_neg (by omega)] at h
  · rw [jb_0] at c4
    have c4 : 0 < α 0 0 := by simp at c4; omega
    rw [if_pos (by omega), if_neg (by omega)] at h
    obtain ⟨n, rfl⟩ : ∃ n : Nat, z = (n : Int) := ⟨z.toNat, by omega⟩
    rw [show ((n : Int)).toNat = n by omega] at h
    rw [hX.td, iI_add, show ((α 0 2 : Nat) : Int) + (n : Nat) = ((α 0 2 + n : Nat) : Int) by omega, ew 0 (by omega) (by omega), ew 1 (by omega) (by omega), ew 2 (by omega) (by omega)]
    unfold tDa at h
    refine ⟨fun d0 => q_dateOf (by omega) ⟨_, rfl, ?_⟩, fun d0 => ⟨fun d1 => q_monthOf (by omega) ⟨_, rfl, ?_⟩, fun d1 => ⟨fun d2 => q_yearOf (by omega) ⟨_, rfl, ?_⟩, fun d2 => q_speakersOn hV hX (by omega) ⟨_, rfl, ?_⟩⟩⟩⟩
    · rwa [if_pos d0] at h
    · rwa [if_neg d0, if_pos d1] at h
    · rwa [if_neg d0, if_neg d1, if_pos d2] at h
    · rwa [if_neg d0, if_neg d1, if_neg d2] at h
  · rw [jb_0] at c4
    have c4 := of_decide_eq_false c4
    rwa [if_pos (by omega), if_pos (by omega)] at h
  · rwa [if_neg (by omega)] at h
theorem q_dateM (hV : rV α) (hM : rM α σ) {z w : Int} (hz : iR z) (hw : iR w) (h : ∀ σ', eS dS σ σ' → k (iI (aDa α z w)) σ') : jq_I (d + 6) 112 [.ref 34, .int (iI z), .int (iI w)] σ k := by
  have h6 := hV.P
  have htd := hV.td
  have ew : ∀ j : Int, 0 ≤ j → j < 100 → (iI w = iI j ↔ w = j) := fun j h1 h2 => iI_eq hw ⟨by omega, by omega⟩
  refine ok_X9_date ?_
  unfold vc_X9_date
  unfold aDa at h
  rw [lI_i hz, lI_i hw]
  refine q_in (b := 0) (c := 366) hz ⟨by omega, by omega⟩ ⟨by omega, by omega⟩ ?_
  rw [jb_0]
  refine ⟨fun c => ⟨_, rfl, ?_⟩, fun c => q_in (b := 0) (c := 3) hw ⟨by omega, by omega⟩ ⟨by omega, by omega⟩ ?_⟩
  · have := h σ eS.rf; rwa [if_neg (fun q => of_decide_eq_false c ⟨q.1, q.2.1⟩)] at this
  have c := of_decide_eq_true (show decide (0 ≤ z ∧ z ≤ 366) = true by simpa using c)
  rw [jb_0]
  refine ⟨fun c1 => q_lacks hV hM ?_, fun c1 => ⟨_, rfl, ?_⟩⟩
  · have c1 := of_decide_eq_true (show decide (0 ≤ w ∧ w ≤ 3) = true by simpa using c1)
    rw [if_pos ⟨c.1, c.2, c1.1, c1.2⟩] at h
    rw [jb_0]
    refine ⟨fun c2 => ?_, fun c2 => ⟨_, rfl, ?_⟩⟩
    · have c2 := of_decide_eq_false c2
      rw [if_neg c2] at h
      obtain ⟨n, rfl⟩ : ∃ n : Nat, z = (n : Int) := ⟨z.toNat, by omega⟩
      rw [show ((n : Int)).toNat = n by omega] at h
      rw [hM.td, iI_add, show ((α 0 2 : Nat) : Int) + (n : Nat) = ((α 0 2 + n : Nat) : Int) by omega]
      refine ok_X9_tellDate ?_
      unfold vc_X9_tellDate
      unfold tDa at h
      rw [iI_eq0 hw, ew 1 (by omega) (by omega), ew 3 (by omega) (by omega)]
      refine ⟨fun d3 => q_layDate (by omega) (fun s hE e1 e2 e3 => ⟨fun d0 => ⟨fun d1 => ⟨_, rfl, ⟨_, rfl, ?_⟩⟩, fun d1 => ⟨_, rfl, ⟨_, rfl, ?_⟩⟩⟩, fun d0 => ⟨_, rfl, ⟨_, rfl, ?_⟩⟩⟩), fun d3 => q_speakers hV hM (by omega) (fun s hE => ⟨_, rfl, ⟨_, rfl, ?_⟩⟩)⟩
      · have := h s hE
        rwa [if_neg d0, if_neg d1, if_pos (by omega), ← e3] at this
      · have := h s hE
        rwa [if_neg d0, if_pos d1, ← e2] at this
      · have := h s hE
        rwa [if_pos d0, ← e1] at this
      · have := h s hE
        rwa [if_neg (by omega), if_neg (by omega), if_neg (by omega)] at this
    · have c2 := of_decide_eq_true (show decide (α 0 0 = 0) = true by simpa using c2)
      have := h σ eS.rf; rwa [if_pos c2] at this
  · have := h σ eS.rf; rwa [if_neg (fun q => of_decide_eq_false c1 ⟨q.2.2.1, q.2.2.2⟩)] at this
def aLv (α : rA) (w : Int) : Int := if 0 ≤ w ∧ w ≤ 1 then (if α 0 0 = 0 then -103 else if w = 0 then (lvF α (lvC α (2 ^ α 0 0)) : Nat) else (lvC α (2 ^ α 0 0) : Nat)) else -102
theorem q_live (hV : rV α) (hX : rX 3 α σ) {w : Int} (hw : iR w) (h : k (iI (aLv α w)) σ) : jq_I (d + 5) 68 [.ref 0, .int (iI w)] σ k := by
  have hl : lvC α (2 ^ α 0 0) < 64 := lt64 (lvC_lt α _ (Nat.two_pow_pos _)) hV.P
  refine ok_X8_live ?_
  unfold vc_X8_live
  unfold aLv at h
  rw [iI_lt0 hw, iI_le hw ⟨by omega, by omega⟩, iI_eq0 hw]
  refine ⟨fun c => ⟨_, rfl, ?_⟩, fun c => ⟨fun c1 => q_hasRiver hV hX ⟨fun c2 => q_bestHomes hV hX ⟨fun c3 => ⟨_, rfl, ?_⟩, fun c3 => q_settledByTomorrow hV hX hl ⟨_, rfl, ?_⟩⟩, fun c2 => ⟨_, rfl, ?_⟩⟩, fun c1 => ⟨_, rfl, ?_⟩⟩⟩
  · rwa [if_neg (by omega)] at h
  · rw [jb_0] at c2
    have c2 : 0 < α 0 0 := by simp at c2; omega
    rwa [if_pos (by omega), if_neg (by omega), if_neg c3] at h
  · rw [jb_0] at c2
    have c2 : 0 < α 0 0 := by simp at c2; omega
    rwa [if_pos (by omega), if_neg (by omega), if_pos c3] at h
  · rw [jb_0] at c2
    have c2 := of_decide_eq_false c2
    rwa [if_pos (by omega), if_pos (by omega)] at h
  · rwa [if_neg (by omega)] at h
theorem q_liveM (hV : rV α) (hM : rM α σ) {w : Int} (hw : iR w) (h : ∀ σ', eS mS σ σ' → k (iI (aLv α w)) σ') : jq_I (d + 6) 124 [.ref 34, .int (iI w)] σ k := by
  refine ok_X9_live ?_
  unfold vc_X9_live
  unfold aLv at h
  rw [lI_i hw]
  refine q_in (b := 0) (c := 1) hw ⟨by omega, by omega⟩ ⟨by omega, by omega⟩ ?_
  rw [jb_0]
  refine ⟨fun c => q_lacks hV hM ?_, fun c => ⟨_, rfl, ?_⟩⟩
  · have c := of_decide_eq_true (show decide (0 ≤ w ∧ w ≤ 1) = true by simpa using c)
    rw [if_pos c] at h
    rw [jb_0]
    refine ⟨fun c2 => q_liveOf hV hM (fun s hE => ?_), fun c2 => ⟨_, rfl, ?_⟩⟩
    · rw [iI_eq0 hw]
      have := h s hE
      rw [if_neg (of_decide_eq_false c2)] at this
      refine ⟨fun c3 => ⟨_, rfl, ?_⟩, fun c3 => ⟨_, rfl, ?_⟩⟩
      · rwa [if_neg c3] at this
      · rwa [if_pos c3] at this
    · have c2 := of_decide_eq_true (show decide (α 0 0 = 0) = true by simpa using c2)
      have := h σ eS.rf; rwa [if_pos c2] at this
  · have := h σ eS.rf; rwa [if_neg (of_decide_eq_false c)] at this
def aCo (α : rA) (tot pn rd pl : Int32) (w : Int) : Int32 := if w = 0 then iI (α 0 0 : Nat) else if w = 1 then iI (α 0 1 : Nat) else if w = 2 then iI (α 0 2 : Nat) else if w = 3 then iI (pcN 12 (spB α (α 0 2)) : Nat) else if w = 4 then iI (cnN (fun p => α 3 p == 1) (α 0 0) : Nat) else if w = 5 then iI (cnN (fun m => stN (α 8 m) == 1) (α 0 1) : Nat) else if w = 6 then iI (cnN (fun m => stN (α 8 m) == 2) (α 0 1) : Nat) else if w = 7 then tot else if w = 8 then iI (α 0 4 : Nat) else if w = 9 then pn else if w = 10 then rd else if w = 11 then pl else iI (-102)
theorem q_count (hV : rV α) (hX : rX 3 α σ) {w : Int} (hw : iR w) (h : k (aCo α (σ.1 3 12) (σ.1 1 1) (σ.1 0 5) (σ.1 0 6) w) σ) : jq_I (d + 5) 75 [.ref 0, .int (iI w)] σ k := by
  have h6 := hV.P
  have htd := hV.td
  have ew : ∀ j : Int, 0 ≤ j → j < 100 → (iI w = iI j ↔ w = j) := fun j h1 h2 => iI_eq hw ⟨by omega, by omega⟩
  have l1 := lt64 (rt_lt α) h6
  have l2 := lt64 (show spB α (α 0 2) < 2 ^ α 0 0 from bsN_lt _ _) h6
  have e4 : pcN 12 (rt α) = cnN (fun p => α 3 p == 1) (α 0 0) := by unfold rt; rw [pc_bs, if_neg (by omega)]
  refine ok_X8_count ?_
  unfold vc_X8_count
  unfold aCo at h
  rw [hX.P, hX.M, hX.td, hX.rt, hX.sz, ew 0 (by omega) (by omega), ew 1 (by omega) (by omega), ew 2 (by omega) (by omega), ew 3 (by omega) (by omega), ew 4 (by omega) (by omega), ew 5 (by omega) (by omega), ew 6 (by omega) (by omega), ew 7 (by omega) (by omega), ew 8 (by omega) (by omega), ew 9 (by omega) (by omega), ew 10 (by omega) (by omega), ew 11 (by omega) (by omega)]
  refine ⟨fun c0 => ⟨_, rfl, ?_⟩, fun c0 => ⟨fun c1 => ⟨_, rfl, ?_⟩, fun c1 => ⟨fun c2 => ⟨_, rfl, ?_⟩, fun c2 => ⟨fun c3 => q_speakersOn hV hX (by omega) (q_bitCount (by omega) ⟨_, rfl, ?_⟩), fun c3 => ⟨fun c4 => q_bitCount (by omega) ⟨_, rfl, ?_⟩, fun c4 => ⟨fun c5 => q_howManyStand (so := 1) hV hX (by omega) ⟨_, rfl, ?_⟩, fun c5 => ⟨fun c6 => q_howManyStand (so := 2) hV hX (by omega) ⟨_, rfl, ?_⟩, fun c6 => ⟨fun c7 => ⟨_, rfl, ?_⟩, fun c7 => ⟨fun c8 => ⟨_, rfl, ?_⟩, fun c8 => ⟨fun c9 => ⟨_, rfl, ?_⟩, fun c9 => ⟨fun c10 => ⟨_, rfl, ?_⟩, fun c10 => ⟨fun c11 => ⟨_, rfl, ?_⟩, fun c11 => ⟨_, rfl, ?_⟩⟩⟩⟩⟩⟩⟩⟩⟩⟩⟩⟩⟩
  · rwa [if_pos c0] at h
  · rwa [if_neg c0, if_pos c1] at h
  · rwa [if_neg c0, if_neg c1, if_pos c2] at h
  · rwa [if_neg c0, if_neg c1, if_neg c2, if_pos c3] at h
  · rw [e4]; rwa [if_neg c0, if_neg c1, if_neg c2, if_neg c3, if_pos c4] at h
  · rwa [if_neg c0, if_neg c1, if_neg c2, if_neg c3, if_neg c4, if_pos c5] at h
  · rwa [if_neg c0, if_neg c1, if_neg c2, if_neg c3, if_neg c4, if_neg c5, if_pos c6] at h
  · rwa [if_neg c0, if_neg c1, if_neg c2, if_neg c3, if_neg c4, if_neg c5, if_neg c6, if_pos c7] at h
  · rwa [if_neg c0, if_neg c1, if_neg c2, if_neg c3, if_neg c4, if_neg c5, if_neg c6, if_neg c7, if_pos c8] at h
  · rwa [if_neg c0, if_neg c1, if_neg c2, if_neg c3, if_neg c4, if_neg c5, if_neg c6, if_neg c7, if_neg c8, if_pos c9] at h
  · rwa [if_neg c0, if_neg c1, if_neg c2, if_neg c3, if_neg c4, if_neg c5, if_neg c6, if_neg c7, if_neg c8, if_neg c9, if_pos c10] at h
  · rwa [if_neg c0, if_neg c1, if_neg c2, if_neg c3, if_neg c4, if_neg c5, if_neg c6, if_neg c7, if_neg c8, if_neg c9, if_neg c10, if_pos c11] at h
  · rwa [if_neg c0, if_neg c1, if_neg c2, if_neg c3, if_neg c4, if_neg c5, if_neg c6, if_neg c7, if_neg c8, if_neg c9, if_neg c10, if_neg c11] at h
theorem q_countOf (hV : rV α) (hM : rM α σ) {w : Int} (hw : iR w) (h : ∀ σ', eS dS σ σ' → k (aCo α (σ.1 34 6) (σ.1 34 1) (σ.1 34 7) (σ.1 34 22) w) σ') : jq_I (d + 5) 138 [.ref 34, .int (iI w)] σ k := by
  have h6 := hV.P
  have htd := hV.td
  have ew : ∀ j : Int, 0 ≤ j → j < 100 → (iI w = iI j ↔ w = j) := fun j h1 h2 => iI_eq hw ⟨by omega, by omega⟩
  have l2 := lt64 (show spB α (α 0 2) < 2 ^ α 0 0 from bsN_lt _ _) h6
  refine ok_X9_countOf ?_
  unfold vc_X9_countOf
  have h0 := h σ eS.rf
  unfold aCo at h h0
  rw [hM.P, hM.M, hM.td, hM.sz, ew 0 (by omega) (by omega), ew 1 (by omega) (by omega), ew 2 (by omega) (by omega), ew 3 (by omega) (by omega), ew 4 (by omega) (by omega), ew 5 (by omega) (by omega), ew 6 (by omega) (by omega), ew 7 (by omega) (by omega), ew 8 (by omega) (by omega), ew 9 (by omega) (by omega), ew 10 (by omega) (by omega), ew 11 (by omega) (by omega)]
  refine ⟨fun c0 => ⟨_, rfl, ?_⟩, fun c0 => ⟨fun c1 => ⟨_, rfl, ?_⟩, fun c1 => ⟨fun c2 => ⟨_, rfl, ?_⟩, fun c2 => ⟨fun c3 => q_speakers hV hM (by omega) (fun s hE => q_ones (by omega) ⟨_, rfl, ?_⟩), fun c3 => ⟨fun c4 => q_onRight hV hM ⟨_, rfl, ?_⟩, fun c4 => ⟨fun c5 => q_standingM (so := 1) hV hM (by omega) ⟨_, rfl, ?_⟩, fun c5 => ⟨fun c6 => q_standingM (so := 2) hV hM (by omega) ⟨_, rfl, ?_⟩, fun c6 => ⟨fun c7 => ⟨_, rfl, ?_⟩, fun c7 => ⟨fun c8 => ⟨_, rfl, ?_⟩, fun c8 => ⟨fun c9 => ⟨_, rfl, ?_⟩, fun c9 => ⟨fun c10 => ⟨_, rfl, ?_⟩, fun c10 => ⟨fun c11 => ⟨_, rfl, ?_⟩, fun c11 => ⟨_, rfl, ?_⟩⟩⟩⟩⟩⟩⟩⟩⟩⟩⟩⟩⟩
  · rwa [if_pos c0] at h0
  · rwa [if_neg c0, if_pos c1] at h0
  · rwa [if_neg c0, if_neg c1, if_pos c2] at h0
  · have h0 := h s hE; rwa [if_neg c0, if_neg c1, if_neg c2, if_pos c3] at h0
  · rwa [if_neg c0, if_neg c1, if_neg c2, if_neg c3, if_pos c4] at h0
  · rwa [if_neg c0, if_neg c1, if_neg c2, if_neg c3, if_neg c4, if_pos c5] at h0
  · rwa [if_neg c0, if_neg c1, if_neg c2, if_neg c3, if_neg c4, if_neg c5, if_pos c6] at h0
  · rwa [if_neg c0, if_neg c1, if_neg c2, if_neg c3, if_neg c4, if_neg c5, if_neg c6, if_pos c7] at h0
  · rwa [if_neg c0, if_neg c1, if_neg c2, if_neg c3, if_neg c4, if_neg c5, if_neg c6, if_neg c7, if_pos c8] at h0
  · rwa [if_neg c0, if_neg c1, if_neg c2, if_neg c3, if_neg c4, if_neg c5, if_neg c6, if_neg c7, if_neg c8, if_pos c9] at h0
  · rwa [if_neg c0, if_neg c1, if_neg c2, if_neg c3, if_neg c4, if_neg c5, if_neg c6, if_neg c7, if_neg c8, if_neg c9, if_pos c10] at h0
  · rwa [if_neg c0, if_neg c1, if_neg c2, if_neg c3, if_neg c4, if_neg c5, if_neg c6, if_neg c7, if_neg c8, if_neg c9, if_neg c10, if_pos c11] at h0
  · rwa [if_neg c0, if_neg c1, if_neg c2, if_neg c3, if_neg c4, if_neg c5, if_neg c6, if_neg c7, if_neg c8, if_neg c9, if_neg c10, if_neg c11] at h0
theorem q_countM (hV : rV α) (hM : rM α σ) {w : Int} (hw : iR w) (h : ∀ σ', eS dS σ σ' → k (aCo α (σ.1 34 6) (σ.1 34 1) (σ.1 34 7) (σ.1 34 22) w) σ') : jq_I (d + 6) 139 [.ref 34, .int (iI w)] σ k := by
  refine ok_X9_count (q_countOf hV hM hw (fun s hE => ⟨_, rfl, h s hE⟩))
end Da
section Le
variable {g : Nat → Nat} {n : Nat} {σ : jSt} {d : Nat} {k : Int32 → jSt → Prop}
def lS (c k : Nat) : Prop := c = 1 ∧ k = 1 ∨ c = 2
def lmS (c k : Nat) : Prop := c = 34 ∧ k = 1 ∨ c = 35
def gU (g : Nat → Nat) (n x : Nat) : Nat → Nat := fun i => if i = n then x else g i
theorem q_letter (hV : pV g n) (hX : pX g n σ) {z : Int} (hz : iR z) (h1 : 1 ≤ z → z ≤ 126 → n < 44 → ∀ σ', eS lS σ σ' → pX (gU g n z.toNat) (n + 1) σ' → k (iI ((n + 1 : Nat) : Int)) σ') (h2 : 1 ≤ z → z ≤ 126 → n = 44 → k (iI (-104)) σ) (h3 : ¬ (1 ≤ z ∧ z ≤ 126) → k (iI (-102)) σ) : jq_I (d + 2) 54 [.ref 0, .int (iI z)] σ k := by
  have hn := hV.1
  refine ok_X8_letter ?_
  unfold vc_X8_letter
  rw [iI_lt hz ⟨by omega, by omega⟩, iI_le hz ⟨by omega, by omega⟩]
  refine ⟨fun c => ⟨_, rfl, h3 (by omega)⟩, fun c => ⟨fun c1 => ?_, fun c1 => ⟨_, rfl, h3 (by omega)⟩⟩⟩
  refine ok_X3_append ?_
  unfold vc_X3_append
  dsimp only
  have hc : (iI (n : Int)).toNatClampNeg = n := iI_clamp (by omega)
  rw [hX.1, iI_lt ⟨by omega, by omega⟩ ⟨by omega, by omega⟩, hc]
  refine ⟨fun c2 => ⟨(iI_in (by omega) 44).mpr (by omega), ?_⟩, fun c2 => ⟨_, rfl, ⟨fun _ => ⟨_, rfl, h2 (by omega) (by omega) (by omega)⟩, fun c3 => absurd rfl c3⟩⟩⟩
  refine ⟨_, rfl, ⟨fun c3 => absurd c3 (by decide +kernel), fun _ => ?_⟩⟩
  simp (decide := true) only [jv_u_at, ite_true, ite_false, and_true, true_and, and_false, false_and, hX.1]
  rw [iI_add, show ((n : Nat) : Int) + 1 = ((n + 1 : Nat) : Int) by omega]
  refine ⟨_, rfl, h1 (by omega) (by omega) (by omega) _ ((eS.u (Or.inr rfl)).tr (eS.u (Or.inl ⟨rfl, rfl⟩))) ⟨?_, fun i hi => ?_⟩⟩
  · simp (decide := true) only [jv_u_at, ite_true, and_true, true_and]
  · unfold gU
    simp (decide := true) only [jv_u_at, ite_false, false_and, true_and, and_false]
    by_cases e : i = n
    · rw [if_pos e, if_pos e, show ((z.toNat : Nat) : Int) = z by omega]
    · rw [if_neg e, if_neg e]; exact hX.2 i (by omega)
theorem q_letterM (hV : pV g n) (hM : pM g n σ) {z : Int} (hz : iR z) (h1 : 1 ≤ z → z ≤ 126 → n < 44 → ∀ σ', eS lmS σ σ' → pM (gU g n z.toNat) (n + 1) σ' → k (iI ((n + 1 : Nat) : Int)) σ') (h2 : 1 ≤ z → z ≤ 126 → n = 44 → k (iI (-104)) σ) (h3 : ¬ (1 ≤ z ∧ z ≤ 126) → k (iI (-102)) σ) : jq_I (d + 2) 80 [.ref 34, .int (iI z)] σ k := by
  have hn := hV.1
  refine ok_X9_letter ?_
  unfold vc_X9_letter
  dsimp only
  rw [lI_i hz]
  refine q_in (b := 1) (c := 126) hz ⟨by omega, by omega⟩ ⟨by omega, by omega⟩ ?_
  have hc : (iI (n : Int)).toNatClampNeg = n := iI_clamp (by omega)
  rw [jb_0, hM.1, iI_eq ⟨by omega, by omega⟩ ⟨by omega, by omega⟩, hc]
  refine ⟨fun c => ?_, fun c => ⟨_, rfl, h3 (of_decide_eq_false c)⟩⟩
  have c := of_decide_eq_true (show decide (1 ≤ z ∧ z ≤ 126) = true by simpa using c)
  refine ⟨fun c2 => ⟨(iI_in (by omega) 44).mpr (by omega), ?_⟩, fun c2 => ⟨_, rfl, h2 c.1 c.2 (by omega)⟩⟩
  simp (decide := true) only [jv_u_at, ite_true, ite_false, and_true, true_and, and_false, false_and, hM.1]
  rw [iI_add, show ((n : Nat) : Int) + 1 = ((n + 1 : Nat) : Int) by omega]
  refine ⟨_, rfl, h1 (by omega) (by omega) (by omega) _ ((eS.u (Or.inr rfl)).tr (eS.u (Or.inl ⟨rfl, rfl⟩))) ⟨?_, fun i hi => ?_⟩⟩
  · simp (decide := true) only [jv_u_at, ite_true, and_true, true_and]
  · unfold gU
    simp (decide := true) only [jv_u_at, ite_false, false_and, true_and, and_false]
    by_cases e : i = n
    · rw [if_pos e, if_pos e, show ((z.toNat : Nat) : Int) = z by omega]
    · rw [if_neg e, if_neg e]; exact hM.2 i (by omega)
theorem q_blank (hX : pX g n σ) (h : ∀ σ', eS lS σ σ' → pX g 0 σ' → k (iI (n : Int)) σ') : jq_I (d + 1) 55 [.ref 0] σ k := by
  refine ok_X8_blank ⟨_, rfl, ?_⟩
  rw [hX.1]
  refine h _ (eS.u (Or.inl ⟨rfl, rfl⟩)) ⟨?_, fun i hi => absurd hi (by omega)⟩
  simp (decide := true) only [jv_u_at, ite_true, and_true, true_and]
theorem q_blankM (hM : pM g n σ) (h : ∀ σ', eS lmS σ σ' → pM g 0 σ' → k (iI (n : Int)) σ') : jq_I (d + 1) 81 [.ref 34] σ k := by
  refine ok_X9_blank ⟨_, rfl, ?_⟩
  rw [hM.1]
  refine h _ (eS.u (Or.inl ⟨rfl, rfl⟩)) ⟨?_, fun i hi => absurd hi (by omega)⟩
  simp (decide := true) only [jv_u_at, ite_true, and_true, true_and]
theorem q_fault (hV : pV g n) (hX : pX g n σ) (h : k (iI ((fsc g n 0 0).1 : Nat)) σ) : jq_I (d + 9) 56 [.ref 0] σ k :=
  ok_X8_fault (q_firstFault hV hX ⟨_, rfl, h⟩)
theorem q_faultM (hV : pV g n) (hM : pM g n σ) (h : ∀ σ', eS fS σ σ' → k (iI ((fsc g n 0 0).1 : Nat)) σ') : jq_I (d + 5) 87 [.ref 34] σ k :=
  ok_X9_fault (q_faultOf hV hM (fun s hE _ => ⟨_, rfl, h s hE⟩))
end Le
