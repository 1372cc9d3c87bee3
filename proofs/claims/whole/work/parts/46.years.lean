/-! years by a seed -/
def lcg (x : Int32) : Int32 := (((Int64.ofNat 1103515245 * x.toInt64) + Int64.ofNat 12345) &&& Int64.ofNat 2147483647).toInt32
theorem mask_nn (y : Int64) : ∃ n : Nat, n < 2147483648 ∧ (y &&& Int64.ofNat 2147483647).toInt32 = iI (n : Int) := by
  have h1 : (y &&& Int64.ofNat 2147483647).toBitVec.toNat ≤ 2147483647 := by
    rw [Int64.toBitVec_and, BitVec.toNat_and]
    exact Nat.le_trans Nat.and_le_right (by decide +kernel)
  have h2 : (y &&& Int64.ofNat 2147483647).toInt = ((y &&& Int64.ofNat 2147483647).toBitVec.toNat : Int) := by
    rw [← Int64.toInt_toBitVec]
    exact BitVec.toInt_eq_toNat_of_lt (Nat.lt_of_le_of_lt (Nat.mul_le_mul_left 2 h1) (by decide))
  refine ⟨(y &&& Int64.ofNat 2147483647).toBitVec.toNat, by omega, ?_⟩
  rw [← h2, ← iI_self ((y &&& Int64.ofNat 2147483647).toInt32), Int64.toInt_toInt32, Int.bmod_def]
  have e : (y &&& Int64.ofNat 2147483647).toInt % ((2 ^ 32 : Nat) : Int) = (y &&& Int64.ofNat 2147483647).toInt := by
    rw [h2]; omega
  rw [e, if_pos (by rw [h2]; omega)]
theorem lcg_nn (x : Int32) : ∃ n : Nat, n < 2147483648 ∧ lcg x = iI (n : Int) := mask_nn _
/-- whose turn it is -/
def lcM (α : rA) (x : Int32) : Nat := (lcg x).toInt.toNat / 65536 % α 0 1
theorem lcM_lt {α : rA} (h : 0 < α 0 1) (x : Int32) : lcM α x < α 0 1 := Nat.mod_lt _ h
theorem lcM_i {α : rA} (h : 0 < α 0 1) (h5 : α 0 1 ≤ 5) (x : Int32) : lcg x / Int32.ofNat 65536 - lcg x / Int32.ofNat 65536 / iI (α 0 1 : Nat) * iI (α 0 1 : Nat) = iI (lcM α x : Nat) := by
  obtain ⟨n, hn, e⟩ := lcg_nn x
  unfold lcM
  rw [e, iI_toInt ⟨by omega, by omega⟩, iI_ofNat, iI_div hn (by omega) (by omega), iI_rem (by omega) h (by omega)]
  rfl
def yrA (α : rA) (i m : Nat) (a : Nat → Nat) : Nat → Nat := if cbs α m (a m) (α 0 2 + i) then (if a m = 0 then aU a m (α 0 2 + i + 2) else aU a m 0) else a
def yrS (α : rA) (i m : Nat) (a : Nat → Nat) : Nat := if cbs α m (a m) (α 0 2 + i) then (if a m = 0 then 0 else sfo α m (a m) (α 0 2 + i)) else 0
def yrT (α : rA) (i m : Nat) (a : Nat → Nat) : Nat := if cbs α m (a m) (α 0 2 + i) then (if a m = 0 then 0 else 1) else 0
def yrN (α : rA) : Nat → Nat → (Nat → Nat) → Int32 → Nat → Nat → Nat × Nat × Int32
  | 0, _, _, sd, su, ti => (su, ti, sd)
  | n + 1, i, a, sd, su, ti => yrN α n (i + 1) (yrA α i (lcM α sd) a) (lcg sd) (su + yrS α i (lcM α sd) a) (ti + yrT α i (lcM α sd) a)
theorem yrA_le {α : rA} {i m : Nat} {a : Nat → Nat} (ha : ∀ j, j < α 0 1 → a j ≤ α 0 2 + i + 2) : ∀ j, j < α 0 1 → yrA α i m a j ≤ α 0 2 + (i + 1) + 2 := by
  intro j hj
  have := ha j hj
  unfold yrA aU
  split
  · split
    · dsimp only; split <;> omega
    · dsimp only; split <;> omega
  · omega
def aYe (α : rA) (n sd w : Int) : Int32 := if 1 ≤ n ∧ n ≤ 60 ∧ 0 ≤ sd ∧ 0 ≤ w ∧ w ≤ 2 then (if α 0 0 = 0 then iI (-103) else if w = 0 then iI ((yrN α n.toNat 0 (α 8) (iI sd) 0 0).1 : Nat) else if w = 1 then iI ((yrN α n.toNat 0 (α 8) (iI sd) 0 0).2.1 : Nat) else (yrN α n.toNat 0 (α 8) (iI sd) 0 0).2.2) else iI (-102)
def crS (c _k : Nat) : Prop := c = 32 ∨ c = 33
section Yr
variable {α : rA} {σ : jSt} {d : Nat} {k : Int32 → jSt → Prop} {K : jSt → Prop}
theorem q_drawX (h0 : 0 < α 0 1) (h5 : α 0 1 ≤ 5) (h : k (iI (lcM α (σ.1 32 3) : Nat)) (jv_u σ 32 3 (lcg (σ.1 32 3)))) : jq_I (d + 1) 8 [.ref 32, .int (iI (α 0 1 : Nat))] σ k := by
  have n0 : ¬ iI ((α 0 1 : Nat) : Int) = 0 := by rw [iI_eq0 ⟨by omega, by omega⟩]; omega
  refine ok_X1_draw ⟨fun c => absurd c ?_, fun _ => ⟨by decide +kernel, n0, _, rfl, ?_⟩⟩
  · rw [iI_le0 ⟨by omega, by omega⟩]; omega
  · have e : (jv_u σ 32 3 (lcg (σ.1 32 3))).1 32 3 = lcg (σ.1 32 3) := bit_e
    have : k ((jv_u σ 32 3 (lcg (σ.1 32 3))).1 32 3 / Int32.ofNat 65536 - (jv_u σ 32 3 (lcg (σ.1 32 3))).1 32 3 / Int32.ofNat 65536 / iI (α 0 1 : Nat) * iI (α 0 1 : Nat)) (jv_u σ 32 3 (lcg (σ.1 32 3))) := by
      rw [e, lcM_i h0 h5]; exact h
    exact this
theorem q_passDay (hV : rV α) (hX : rX 3 α σ) (h0 : 0 < α 0 1) {i : Nat} (hi : i ≤ 60) {a : Nat → Nat} (ha : ∀ j, j < α 0 1 → a j ≤ α 0 2 + i + 2) (h33 : ∀ j, j < α 0 1 → σ.1 33 j = iI (zA (a j)))
    (h : ∀ σ', eS crS σ σ' → σ'.1 32 3 = lcg (σ.1 32 3) → σ'.1 32 1 = σ.1 32 1 + iI (yrS α i (lcM α (σ.1 32 3)) a : Nat) → σ'.1 32 2 = σ.1 32 2 + iI (yrT α i (lcM α (σ.1 32 3)) a : Nat) → (∀ j, j < α 0 1 → σ'.1 33 j = iI (zA (yrA α i (lcM α (σ.1 32 3)) a j))) → K σ') : jq_V (d + 5) 7 [.ref 32, .ref 3, .int (iI ((α 0 2 + i : Nat) : Int))] σ K := by
  have h5 := hV.M
  have htd := hV.td
  refine ok_X1_passDay ?_
  unfold vc_X1_passDay
  rw [hX.M]
  refine q_drawX h0 h5 ?_
  have hm := lcM_lt h0 (σ.1 32 3)
  generalize lcM α (σ.1 32 3) = m at *
  generalize hs : jv_u σ 32 3 (lcg (σ.1 32 3)) = s1
  have o1 : ∀ c k, ¬ (c = 32 ∧ k = 3) → s1.1 c k = σ.1 c k := fun c k g => by rw [← hs, bit_o g]
  have v1 : s1.1 32 3 = lcg (σ.1 32 3) := by rw [← hs, bit_e]
  have hE1 : eS crS σ s1 := by rw [← hs]; exact eS.u (by unfold crS; omega)
  have hX1 : rX 3 α s1 := hX.pw (fun c k g1 g2 => o1 c k (by omega))
  have hc : (iI (m : Int)).toNatClampNeg = m := iI_clamp (by omega)
  have hin : vp_in (iI (m : Int)) 5 := (iI_in (by omega) 5).mpr (by omega)
  have ham := ha m hm
  rw [hc, o1 33 m (by omega), h33 m hm]
  dsimp only
  unfold yrS yrT yrA at h
  refine ⟨hin, q_speakersOn hV hX1 (by omega) (q_canBeSaid hV hX1 hm (by omega) (by omega) ?_)⟩
  rw [jb_0, iI_eq (zA_R (by omega)) ⟨by omega, by omega⟩, zA_0]
  refine ⟨fun c => ?_, fun c => ⟨rfl, ?_⟩⟩
  · have cb : cbs α m (a m) (α 0 2 + i) = true := by simpa using c
    have a1 : a m ≠ 1 := fun e => by rw [e] at cb; simp [cbs] at cb
    rw [if_pos cb, if_pos cb, if_pos cb] at h
    refine ⟨fun c0 => q_settledFor hV hX1 hm (by omega) (by omega) (by omega) ?_, fun c0 => ⟨hin, rfl, ?_⟩⟩
    · rw [if_neg c0, if_neg c0, if_neg c0] at h
      suffices hh : ∀ t1 t2 t3 : jSt, t1 = jv_u s1 32 1 (s1.1 32 1 + iI (sfo α m (a m) (α 0 2 + i) : Nat)) → t2 = jv_u t1 32 2 (t1.1 32 2 + iI 1) → t3 = jv_u t2 33 m (iI (-1)) → K t3 from ⟨hin, rfl, hh _ _ _ rfl rfl rfl⟩
      intro t1 t2 t3 f1 f2 f3
      have g1 : ∀ c k, ¬ (c = 32 ∧ k = 1) → t1.1 c k = s1.1 c k := fun c k g => by rw [f1, bit_o g]
      have g2 : ∀ c k, ¬ (c = 32 ∧ k = 2) → t2.1 c k = t1.1 c k := fun c k g => by rw [f2, bit_o g]
      have g3 : ∀ c k, ¬ (c = 33 ∧ k = m) → t3.1 c k = t2.1 c k := fun c k g => by rw [f3, bit_o g]
      refine h t3 ⟨by rw [f3, f2, f1]; exact hE1.1, fun c k n => ?_⟩ ?_ ?_ ?_ (fun j hj => ?_)
      · unfold crS at n
        rw [g3 c k (by omega), g2 c k (by omega), g1 c k (by omega), o1 c k (by omega)]
      · rw [g3 _ _ (by omega), g2 _ _ (by omega), g1 _ _ (by omega)]; exact v1
      · rw [g3 _ _ (by omega), g2 _ _ (by omega), f1, bit_e, o1 32 1 (by omega)]
      · rw [g3 _ _ (by omega), f2, bit_e, g1 _ _ (by omega), o1 32 2 (by omega)]; rfl
      · unfold aU
        by_cases e : j = m
        · rw [if_pos e, e, f3, bit_e]; rfl
        · rw [if_neg e, g3 _ _ (by omega), g2 _ _ (by omega), g1 _ _ (by omega), o1 _ _ (by omega)]; exact h33 j hj
    · rw [if_pos c0, if_pos c0, if_pos c0] at h
      refine h _ (hE1.tr (eS.u (by unfold crS; omega))) ((bit_o (by omega)).trans v1) ?_ ?_ (fun j hj => ?_)
      · rw [bit_o (by omega), o1 32 1 (by omega)]; exact i0a _
      · rw [bit_o (by omega), o1 32 2 (by omega)]; exact i0a _
      · unfold aU
        by_cases e : j = m
        · rw [if_pos e, e, bit_e, zA_2 (by omega)]; exact congrArg iI (by omega)
        · rw [if_neg e, bit_o (by omega), o1 _ _ (by omega)]; exact h33 j hj
  · have cn : ¬ (cbs α m (a m) (α 0 2 + i) = true) := by rw [c]; decide
    rw [if_neg cn, if_neg cn, if_neg cn] at h
    refine h s1 hE1 v1 ?_ ?_ (fun j hj => ?_)
    · rw [o1 32 1 (by omega)]; exact i0a _
    · rw [o1 32 2 (by omega)]; exact i0a _
    · rw [o1 33 j (by omega)]; exact h33 j hj
theorem w_run (hV : rV α) (h0 : 0 < α 0 1) {D : Nat} (hD : D ≤ 60) {x3 : Int32} : ∀ (n i : Nat) (a : Nat → Nat) (su ti : Nat) (t : jSt), i + n = D → rX 3 α t → (∀ j, j < α 0 1 → a j ≤ α 0 2 + i + 2) → (∀ j, j < α 0 1 → t.1 33 j = iI (zA (a j))) → t.1 32 1 = iI (su : Nat) → t.1 32 2 = iI (ti : Nat) → (∀ σ', eS crS t σ' → σ'.1 32 1 = iI ((yrN α n i a (t.1 32 3) su ti).1 : Nat) → σ'.1 32 2 = iI ((yrN α n i a (t.1 32 3) su ti).2.1 : Nat) → σ'.1 32 3 = (yrN α n i a (t.1 32 3) su ti).2.2 → K σ') →
    jv_wp (d + 6) (fun r σ' => r = none ∧ K σ') (6, 32, [some (.ref 32), some (.ref 3), some (.int (iI D)), some (.int x3), some (.int (iI i))], [], t) := by
  intro n
  induction n with
  | zero =>
    intro i a su ti t hi hX ha h33 h1 h2 h
    refine ok_X1_run_L32 ⟨fun _ => ⟨rfl, h t eS.rf h1 h2 rfl⟩, fun c => absurd ?_ c⟩
    rw [iI_le ⟨by omega, by omega⟩ ⟨by omega, by omega⟩]; omega
  | succ n ih =>
    intro i a su ti t hi hX ha h33 h1 h2 h
    refine ok_X1_run_L32 ⟨fun c => absurd c ?_, fun _ => ?_⟩
    · rw [iI_le ⟨by omega, by omega⟩ ⟨by omega, by omega⟩]; omega
    · rw [hX.td, iI_add, show ((α 0 2 : Nat) : Int) + (i : Int) = ((α 0 2 + i : Nat) : Int) by omega]
      refine q_passDay hV hX h0 (by omega) ha h33 (fun s hE e3 e1 e2 e33 => ?_)
      rw [iI_add, show (i : Int) + 1 = ((i + 1 : Nat) : Int) by omega]
      unfold yrN at h
      refine ih (i + 1) _ _ _ s (by omega) (hX.pw (fun c k g1 g2 => hE.2 c k (by unfold crS; omega))) (yrA_le ha) e33 (by rw [e1, h1, iI_add]; rfl) (by rw [e2, h2, iI_add]; rfl) (fun σ' hE' => ?_)
      rw [e3]
      exact h σ' (hE.tr hE')
theorem q_run (hV : rV α) (hX : rX 3 α σ) (h0 : 0 < α 0 1) {D : Nat} (hD : D ≤ 60) {x3 : Int32} (h : ∀ σ', eS crS σ σ' → σ'.1 32 1 = iI ((yrN α D 0 (α 8) x3 0 0).1 : Nat) → σ'.1 32 2 = iI ((yrN α D 0 (α 8) x3 0 0).2.1 : Nat) → σ'.1 32 3 = (yrN α D 0 (α 8) x3 0 0).2.2 → K σ') : jq_V (d + 6) 6 [.ref 32, .ref 3, .int (iI D), .int x3] σ K := by
  have h5 := hV.M
  have c0 : (iI 0).toNatClampNeg = 0 := by decide +kernel
  have c5 : (iI 5).toNatClampNeg = 5 := by decide +kernel
  refine ok_X1_run ?_
  unfold vc_X1_run
  rw [c0, c5]
  suffices hh : ∀ t1 t2 t3 t4 : jSt, t1 = jv_a σ 33 (va_cpy (σ.1 10) (σ.1 33) 0 0 5) → t2 = jv_u t1 32 1 (iI 0) → t3 = jv_u t2 32 2 (iI 0) → t4 = jv_u t3 32 3 x3 → jv_wp (d + 6) (fun r σ' => r = none ∧ K σ') (6, 32, [some (.ref 32), some (.ref 3), some (.int (iI D)), some (.int x3), some (.int (iI 0))], [], t4) from hh _ _ _ _ rfl rfl rfl rfl
  intro t1 t2 t3 t4 f1 f2 f3 f4
  have g1 : ∀ c k, c ≠ 33 → t1.1 c k = σ.1 c k := fun c k g => by rw [f1, cpa_o g]
  have g2 : ∀ c k, ¬ (c = 32 ∧ k = 1) → t2.1 c k = t1.1 c k := fun c k g => by rw [f2, bit_o g]
  have g3 : ∀ c k, ¬ (c = 32 ∧ k = 2) → t3.1 c k = t2.1 c k := fun c k g => by rw [f3, bit_o g]
  have g4 : ∀ c k, ¬ (c = 32 ∧ k = 3) → t4.1 c k = t3.1 c k := fun c k g => by rw [f4, bit_o g]
  have hE : eS crS σ t4 := ⟨by rw [f4, f3, f2, f1]; rfl, fun c k n => by unfold crS at n; rw [g4 c k (by omega), g3 c k (by omega), g2 c k (by omega), g1 c k (by omega)]⟩
  have e3 : t4.1 32 3 = x3 := by rw [f4, bit_e]
  refine w_run hV h0 hD D 0 (α 8) 0 0 t4 (by omega) (hX.pw (fun c k q1 q2 => hE.2 c k (by unfold crS; omega))) (fun j hj => (hV.m hj).2.2.2.2) (fun j hj => ?_) ?_ ?_ (fun σ' hE' => ?_)
  · rw [g4 _ _ (by omega), g3 _ _ (by omega), g2 _ _ (by omega), f1, cpa_e, cpa_c (by omega)]; exact hX.st hj
  · rw [g4 _ _ (by omega), g3 _ _ (by omega), f2, bit_e]; rfl
  · rw [g4 _ _ (by omega), f3, bit_e]; rfl
  · rw [e3]; exact h σ' (hE.tr hE')
theorem q_years (hV : rV α) (hX : rX 3 α σ) {n sd w : Int} (hn : iR n) (hsd : iR sd) (hw : iR w) (h : ∀ σ', eS crS σ σ' → k (aYe α n sd w) σ') : jq_I (d + 7) 72 [.ref 0, .int (iI n), .int (iI sd), .int (iI w)] σ k := by
  have hr := hV.r
  have no : ¬ (1 ≤ n ∧ n ≤ 60 ∧ 0 ≤ sd ∧ 0 ≤ w ∧ w ≤ 2) → k (iI (-102)) σ := fun q => by
    have := h σ eS.rf
    unfold aYe at this
    rwa [if_neg q] at this
  refine ok_X8_years ?_
  unfold vc_X8_years
  rw [iI_lt hn ⟨by omega, by omega⟩, iI_lt ⟨by omega, by omega⟩ hn, iI_lt0 hsd, iI_lt0 hw, iI_le hw ⟨by omega, by omega⟩, iI_eq hw ⟨by omega, by omega⟩, iI_eq hw ⟨by omega, by omega⟩]
  refine ⟨fun c1 => ⟨_, rfl, no (by omega)⟩, fun c1 => ⟨fun c2 => ⟨_, rfl, no (by omega)⟩, fun c2 => ⟨fun c3 => ⟨_, rfl, no (by omega)⟩, fun c3 => ⟨fun c4 => ⟨_, rfl, no (by omega)⟩, fun c4 => ⟨fun c5 => ?_, fun c5 => ⟨_, rfl, no (by omega)⟩⟩⟩⟩⟩⟩
  unfold aYe at h
  rw [if_pos ⟨by omega, by omega, by omega, by omega, by omega⟩] at h
  obtain ⟨D, rfl⟩ : ∃ D : Nat, n = (D : Int) := ⟨n.toNat, by omega⟩
  rw [show ((D : Int)).toNat = D by omega] at h
  refine q_hasRiver hV hX ?_
  rw [jb_0]
  refine ⟨fun c6 => ?_, fun c6 => ⟨_, rfl, ?_⟩⟩
  · have c6 : 0 < α 0 0 := by simp at c6; omega
    rw [if_neg (by omega)] at h
    refine q_run hV hX (by omega) (by omega) (fun s hE e1 e2 e3 => ?_)
    have fin := h s hE
    rw [e1, e2, e3]
    refine ⟨fun c7 => ⟨_, rfl, ?_⟩, fun c7 => ⟨fun c8 => ⟨_, rfl, ?_⟩, fun c8 => ⟨_, rfl, ?_⟩⟩⟩
    · rwa [if_pos c7] at fin
    · rwa [if_neg c7, if_pos c8] at fin
    · rwa [if_neg c7, if_neg c8] at fin
  · have c6 := of_decide_eq_false c6
    have fin := h σ eS.rf
    rwa [if_pos (by omega)] at fin
theorem q_drawM (h0 : 0 < α 0 1) (h5 : α 0 1 ≤ 5) (h : k (iI (lcM α (σ.1 34 26) : Nat)) (jv_u σ 34 26 (lcg (σ.1 34 26)))) : jq_I (d + 1) 132 [.ref 34, .int (iI (α 0 1 : Nat))] σ k := by
  have n0 : ¬ iI ((α 0 1 : Nat) : Int) = 0 := by rw [iI_eq0 ⟨by omega, by omega⟩]; omega
  refine ok_X9_draw ⟨by decide +kernel, n0, _, rfl, ?_⟩
  have e : (jv_u σ 34 26 (lcg (σ.1 34 26))).1 34 26 = lcg (σ.1 34 26) := bit_e
  have : k ((jv_u σ 34 26 (lcg (σ.1 34 26))).1 34 26 / Int32.ofNat 65536 - (jv_u σ 34 26 (lcg (σ.1 34 26))).1 34 26 / Int32.ofNat 65536 / iI (α 0 1 : Nat) * iI (α 0 1 : Nat)) (jv_u σ 34 26 (lcg (σ.1 34 26))) := by
    rw [e, lcM_i h0 h5]; exact h
  exact this
theorem w_years (hV : rV α) (h0 : 0 < α 0 1) {post : jPo} {D : Nat} (hD : D ≤ 60) {x2 : Int32} {w : Int} (hw : iR w) : ∀ (n i : Nat) (a : Nat → Nat) (su ti : Nat) (z7 z8 : Option Value) (t : jSt), i + n = D → rM α t → rT a (α 0 1) t → (∀ j, j < α 0 1 → a j ≤ α 0 2 + i + 2) → (∀ σ', eS mS t σ' → post (some (.int (if w = 0 then iI ((yrN α n i a (t.1 34 26) su ti).1 : Nat) else if w = 1 then iI ((yrN α n i a (t.1 34 26) su ti).2.1 : Nat) else (yrN α n i a (t.1 34 26) su ti).2.2))) σ') →
    jv_wp (d + 5) post (133, 59, [some (.ref 34), some (.int (iI D)), some (.int x2), some (.int (iI w)), some (.int (iI (su : Nat))), some (.int (iI (ti : Nat))), some (.int (iI i)), z7, z8], [], t) := by
  have h5 := hV.M
  have htd := hV.td
  intro n
  induction n with
  | zero =>
    intro i a su ti z7 z8 t hi hM hT ha h
    have fin := h t eS.rf
    unfold yrN at fin
    refine ok_X9_years_L59 ⟨fun _ => ?_, fun c => absurd ?_ c⟩
    · rw [iI_eq0 hw, iI_eq hw ⟨by omega, by omega⟩]
      refine ⟨fun c7 => ⟨fun c8 => ?_, fun c8 => ?_⟩, fun c7 => ?_⟩
      · rwa [if_neg c7, if_neg c8] at fin
      · rwa [if_neg c7, if_pos c8] at fin
      · rwa [if_pos c7] at fin
    · rw [iI_le ⟨by omega, by omega⟩ ⟨by omega, by omega⟩]; omega
  | succ n ih =>
    intro i a su ti z7 z8 t hi hM hT ha h
    refine ok_X9_years_L59 ⟨fun c => absurd c ?_, fun _ => ?_⟩
    · rw [iI_le ⟨by omega, by omega⟩ ⟨by omega, by omega⟩]; omega
    · unfold yrN at h
      rw [hM.M]
      refine q_drawM h0 h5 ?_
      have hm := lcM_lt h0 (t.1 34 26)
      have hal := yrA_le (m := lcM α (t.1 34 26)) ha
      generalize lcM α (t.1 34 26) = m at *
      generalize hs : jv_u t 34 26 (lcg (t.1 34 26)) = s1
      have v1 : s1.1 34 26 = lcg (t.1 34 26) := by rw [← hs, bit_e]
      have hE1 : eS mS t s1 := by rw [← hs]; exact eS.u (by unfold mS; omega)
      have hM1 := hM.mv hE1
      have hT1 : rT a (α 0 1) s1 := fun j hj => by rw [← hs, bit_o (by omega), bit_o (by omega)]; exact hT j hj
      have hc : (iI (m : Int)).toNatClampNeg = m := iI_clamp (by omega)
      have hin : vp_in (iI (m : Int)) 5 := (iI_in (by omega) 5).mpr (by omega)
      have ham := ha m hm
      rw [hM1.td, iI_add, iI_add, show ((α 0 2 : Nat) : Int) + (i : Int) = ((α 0 2 + i : Nat) : Int) by omega, show (i : Int) + 1 = ((i + 1 : Nat) : Int) by omega]
      refine q_canThen hV hM1 hT1 hm (by omega) (by omega) (fun s2 hE2 => ?_)
      have hM2 := hM1.mv (hE2.wk dS_m)
      have hT2 := hT1.mv hE2
      have v2 : s2.1 34 26 = lcg (t.1 34 26) := (hE2.2 34 26 (by unfold dS; omega)).trans v1
      unfold yrS yrT at h
      unfold yrA at h hal
      rw [jb_0]
      refine ⟨fun c => ?_, fun c => ?_⟩
      · have cn : ¬ (cbs α m (a m) (α 0 2 + i) = true) := by rw [c]; decide
        rw [if_neg cn, if_neg cn, if_neg cn] at h
        rw [if_neg cn] at hal
        exact ih (i + 1) a su ti _ _ s2 (by omega) hM2 hT2 hal (fun σ' hE => by rw [v2]; exact h σ' ((hE1.tr (hE2.wk dS_m)).tr hE))
      · have cb : cbs α m (a m) (α 0 2 + i) = true := by simpa using c
        have a1 : a m ≠ 1 := fun e => by rw [e] at cb; simp [cbs] at cb
        rw [if_pos cb, if_pos cb, if_pos cb] at h
        rw [if_pos cb] at hal
        rw [hM2.td, iI_add, show ((α 0 2 : Nat) : Int) + (i : Int) = ((α 0 2 + i : Nat) : Int) by omega]
        refine q_sayThen hV hM2 hT2 hm a1 (by omega) (by omega) (fun c0 s3 hE3 hT3 => ?_) (fun c2 s3 hE3 hT3 => ?_)
        · rw [if_pos c0, if_pos c0, if_pos c0] at h
          rw [if_pos c0] at hal
          refine ⟨fun _ => ?_, fun q => absurd rfl q⟩
          exact ih (i + 1) _ su ti _ _ s3 (by omega) (hM2.mv (hE3.wk tS_m)) hT3 hal (fun σ' hE => by rw [hE3.2 34 26 (by unfold tS; omega), v2]; exact h σ' (((hE1.tr (hE2.wk dS_m)).tr (hE3.wk tS_m)).tr hE))
        · have hsf := sfo_le hV (a := a m) (dy := α 0 2 + i) hm
          have c0 : ¬ a m = 0 := by omega
          rw [if_neg c0, if_neg c0, if_neg c0] at h
          rw [if_neg c0] at hal
          rw [iI_eq ⟨by omega, by omega⟩ ⟨by omega, by omega⟩, iI_add, iI_add, hc, show (su : Int) + ((sfo α m (a m) (α 0 2 + i) : Nat) : Int) = ((su + sfo α m (a m) (α 0 2 + i) : Nat) : Int) by omega, show (ti : Int) + 1 = ((ti + 1 : Nat) : Int) by omega]
          refine ⟨fun q => absurd q (by omega), fun _ => ⟨hin, ?_⟩⟩
          have hE4 : eS tS s3 (jv_u s3 45 m (iI 0)) := eS.u (by unfold tS; omega)
          refine ih (i + 1) (aU a m 0) _ _ _ _ _ (by omega) ((hM2.mv (hE3.wk tS_m)).mv (hE4.wk tS_m)) (fun j hj => ?_) hal (fun σ' hE => by rw [hE4.2 34 26 (by unfold tS; omega), hE3.2 34 26 (by unfold tS; omega), v2]; exact h σ' ((((hE1.tr (hE2.wk dS_m)).tr (hE3.wk tS_m)).tr (hE4.wk tS_m)).tr hE))
          have := hT3 j hj
          unfold aU at this ⊢
          by_cases e : j = m
          · rw [if_pos e, e, bit_e]
            exact ⟨rfl, fun q => absurd q (by omega)⟩
          · rw [if_neg e] at this ⊢
            rw [bit_o (by omega), bit_o (by omega)]; exact this
theorem q_yearsM (hV : rV α) (hM : rM α σ) {n sd w : Int} (hn : iR n) (hsd : iR sd) (hw : iR w) (h : ∀ σ', eS mS σ σ' → k (aYe α n sd w) σ') : jq_I (d + 6) 133 [.ref 34, .int (iI n), .int (iI sd), .int (iI w)] σ k := by
  have hr := hV.r
  have no : ¬ (1 ≤ n ∧ n ≤ 60 ∧ 0 ≤ sd ∧ 0 ≤ w ∧ w ≤ 2) → k (iI (-102)) σ := fun q => by
    have := h σ eS.rf
    unfold aYe at this
    rwa [if_neg q] at this
  refine ok_X9_years ?_
  unfold vc_X9_years
  rw [lI_i hn, lI_i hw]
  refine q_in (b := 1) (c := 60) hn ⟨by omega, by omega⟩ ⟨by omega, by omega⟩ ?_
  rw [jb_0, iI_lt0 hsd]
  refine ⟨fun c1 => ⟨_, rfl, no (fun q => of_decide_eq_false c1 ⟨q.1, q.2.1⟩)⟩, fun c1 => ⟨fun c2 => ⟨_, rfl, no (by omega)⟩, fun c2 => ?_⟩⟩
  have c1 := of_decide_eq_true (show decide (1 ≤ n ∧ n ≤ 60) = true by simpa using c1)
  refine q_in (b := 0) (c := 2) hw ⟨by omega, by omega⟩ ⟨by omega, by omega⟩ ?_
  rw [jb_0]
  refine ⟨fun c3 => ?_, fun c3 => ⟨_, rfl, no (fun q => of_decide_eq_false c3 ⟨q.2.2.2.1, q.2.2.2.2⟩)⟩⟩
  have c3 := of_decide_eq_true (show decide (0 ≤ w ∧ w ≤ 2) = true by simpa using c3)
  unfold aYe at h
  rw [if_pos ⟨by omega, by omega, by omega, by omega, by omega⟩] at h
  obtain ⟨D, rfl⟩ : ∃ D : Nat, n = (D : Int) := ⟨n.toNat, by omega⟩
  rw [show ((D : Int)).toNat = D by omega] at h
  refine q_lacks hV hM ?_
  rw [jb_0]
  refine ⟨fun c6 => ?_, fun c6 => ⟨_, rfl, ?_⟩⟩
  · have c6 := of_decide_eq_false c6
    rw [if_neg (by omega)] at h
    have hE0 : eS mS σ (jv_u σ 34 26 (iI sd)) := eS.u (by unfold mS; omega)
    refine q_begin hV (hM.mv hE0) (fun s1 hE1 hT1 => ?_)
    refine w_years hV (by omega) (by omega) hw D 0 (α 8) 0 0 _ _ s1 (by omega) ((hM.mv hE0).mv (hE1.wk tS_m)) hT1 (fun j hj => (hV.m hj).2.2.2.2) (fun σ' hE => ⟨_, rfl, ?_⟩)
    rw [hE1.2 34 26 (by unfold tS; omega), bit_e]
    exact h σ' ((hE0.tr (hE1.wk tS_m)).tr hE)
  · have c6 : α 0 0 = 0 := by simp at c6; omega
    have fin := h σ eS.rf
    rwa [if_pos c6] at fin
end Yr
