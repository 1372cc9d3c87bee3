/-! the reference: how soon, who should live where, counts -/
section M3
variable {α : rA} {σ : jSt} {d : Nat} {k : Int32 → jSt → Prop}
theorem aU_eq (a : Nat → Nat) (m v : Nat) : aU a m v m = v := if_pos rfl
theorem w_soonOf (hV : rV α) {post : jPo} {m : Nat} (hm : m < α 0 1) : ∀ (n i : Nat) (a : Nat → Nat) (σ : jSt), rM α σ → rT a (α 0 1) σ → a m ≤ α 0 2 + i + 2 → (∀ σ', eS dtS σ σ' → post (some (.int (iI (snN α m n i (a m))))) σ') → i + n = 71 →
    jv_wp (d + 5) post (108, 6, [some (.ref 34), some (.int (iI m)), some (.int (iI i))], [], σ) := by
  have htd := hV.td
  have h5 := hV.M
  have hc : (iI (m : Int)).toNatClampNeg = m := iI_clamp (by omega)
  have hin : vp_in (iI (m : Int)) 5 := (iI_in (by omega) 5).mpr (by omega)
  intro n
  induction n with
  | zero =>
    intro i a σ hM hT ha h hi
    refine ok_X9_soonOf_L6 ⟨fun _ => h σ eS.rf, fun c => absurd ?_ c⟩
    rw [iI_le ⟨by omega, by omega⟩ ⟨by omega, by omega⟩]; omega
  | succ n ih =>
    intro i a σ hM hT ha h hi
    refine ok_X9_soonOf_L6 ⟨fun c => absurd c ?_, fun _ => ?_⟩
    · rw [iI_le ⟨by omega, by omega⟩ ⟨by omega, by omega⟩]; omega
    · rw [hM.td, iI_add, show ((α 0 2 : Nat) : Int) + (i : Int) = ((α 0 2 + i : Nat) : Int) by omega]
      refine q_canThen hV hM hT hm (by omega) (by omega) (fun s1 hE1 => ?_)
      have hM1 := hM.mv (hE1.wk dS_m)
      have hT1 := hT.mv hE1
      rw [iI_add, show (i : Int) + 1 = ((i + 1 : Nat) : Int) by omega, jb_0]
      unfold snN at h
      refine ⟨fun c => ?_, fun c => ?_⟩
      · refine ih (i + 1) a s1 hM1 hT1 (by omega) (fun σ' hE => ?_) (by omega)
        have := h σ' ((hE1.wk dS_dt).tr hE)
        rwa [c] at this
      · have c : cbs α m (a m) (α 0 2 + i) = true := by simpa using c
        have a1 : a m ≠ 1 := fun e => by rw [e] at c; simp [cbs] at c
        rw [c, if_pos rfl] at h
        rw [hM1.td, iI_add, show ((α 0 2 : Nat) : Int) + (i : Int) = ((α 0 2 + i : Nat) : Int) by omega]
        refine q_sayThen hV hM1 hT1 hm a1 (by omega) (by omega) (fun h0 s2 hE2 hT2 => ?_) (fun h2 s2 hE2 hT2 => ?_)
        · rw [if_pos h0] at h
          rw [hc, (hT2 m hm).1, aU_eq, show stN (α 0 2 + i + 2) = 1 from stN_1.mpr (by omega), iI_eq ⟨by omega, by omega⟩ ⟨by omega, by omega⟩]
          refine ⟨hin, fun _ => ?_, fun c => absurd c (by omega)⟩
          refine ih (i + 1) _ s2 (hM1.mv (hE2.wk tS_m)) hT2 (by rw [aU_eq]; omega) (fun σ' hE => ?_) (by omega)
          rw [aU_eq]
          exact h σ' (((hE1.wk dS_dt).tr (hE2.wk tS_dt)).tr hE)
        · rw [if_neg (by omega)] at h
          rw [hc, (hT2 m hm).1, aU_eq]
          refine ⟨hin, fun c => absurd rfl c, fun _ => h s2 ((hE1.wk dS_dt).tr (hE2.wk tS_dt))⟩
theorem q_soonOf (hV : rV α) (hM : rM α σ) {m : Nat} (hm : m < α 0 1) (h : ∀ σ', eS dtS σ σ' → k (iI (snN α m 71 0 (α 8 m))) σ') : jq_I (d + 5) 108 [.ref 34, .int (iI m)] σ k := by
  have hv := hV.m hm
  refine ok_X9_soonOf (q_begin hV hM (fun s1 hE1 hT1 => ?_))
  exact w_soonOf hV hm 71 0 (α 8) s1 (hM.mv (hE1.wk tS_m)) hT1 (by omega) (fun σ' hE => ⟨_, rfl, h σ' ((hE1.wk tS_dt).tr hE)⟩) (by omega)
theorem w_standing (hV : rV α) (hM : rM α σ) {post : jPo} {so : Nat} (hso : so < 3) (h : post (some (.int (iI (cnN (fun m => stN (α 8 m) == so) (α 0 1) : Nat)))) σ) :
    ∀ (n i : Nat), i + n = α 0 1 → jv_wp (d + 1) post (136, 4, [some (.ref 34), some (.int (iI so)), some (.int (iI (cnN (fun m => stN (α 8 m) == so) i : Nat))), some (.int (iI i))], [], σ) := by
  have h5 := hV.M
  intro n
  induction n with
  | zero =>
    intro i hi
    refine ok_X9_standing_L4 ⟨fun _ => ?_, fun c => absurd ?_ c⟩
    · rwa [show α 0 1 = i by omega] at h
    · rw [hM.M, iI_le ⟨by omega, by omega⟩ ⟨by omega, by omega⟩]; omega
  | succ n ih =>
    intro i hi
    have hc : (iI (i : Int)).toNatClampNeg = i := iI_clamp (by omega)
    have hin : vp_in (iI (i : Int)) 5 := (iI_in (by omega) 5).mpr (by omega)
    refine ok_X9_standing_L4 ⟨fun c => absurd c ?_, fun _ => ⟨hin, ?_⟩⟩
    · rw [hM.M, iI_le ⟨by omega, by omega⟩ ⟨by omega, by omega⟩]; omega
    · have ih := ih (i + 1) (by omega)
      unfold cnN at ih
      have hs := stN_lt (α 8 i)
      rw [hc, hM.st (by omega), iI_add, iI_add, iI_add, Int.add_zero, show (i : Int) + 1 = ((i + 1 : Nat) : Int) by omega, iI_eq ⟨by omega, by omega⟩ ⟨by omega, by omega⟩]
      refine ⟨fun c => ?_, fun c => ?_⟩
      · rw [if_neg (by simp; omega)] at ih; exact ih
      · rw [if_pos (by simp; omega)] at ih; exact ih
theorem q_standingM (hV : rV α) (hM : rM α σ) {so : Nat} (hso : so < 3) (h : k (iI (cnN (fun m => stN (α 8 m) == so) (α 0 1) : Nat)) σ) : jq_I (d + 1) 136 [.ref 34, .int (iI so)] σ k :=
  ok_X9_standing (w_standing hV hM hso ⟨_, rfl, h⟩ (α 0 1) 0 (by omega))
theorem pc_bs (f : Nat → Bool) : ∀ n k, pcN k (bsN f n) = cnN f (if k < n then k else n)
  | n, 0 => by cases n <;> simp [pcN, cnN]
  | n, k + 1 => by
    have ih := pc_bs f n k
    unfold pcN
    rw [ih, tb_mod, bsN_bit]
    by_cases c : k < n
    · by_cases c2 : k + 1 < n
      · rw [if_pos c, if_pos c2, cnN]; simp [c]
      · rw [if_pos c, if_neg c2, show n = k + 1 by omega, cnN]; simp
    · rw [if_neg c, if_neg (show ¬ k + 1 < n by omega)]; simp [c]
theorem w_onRight (hV : rV α) (hM : rM α σ) {post : jPo} (h : post (some (.int (iI (cnN (fun p => α 3 p == 1) (α 0 0) : Nat)))) σ) :
    ∀ (n i : Nat), i + n = α 0 0 → jv_wp (d + 1) post (137, 4, [some (.ref 34), some (.int (iI (cnN (fun p => α 3 p == 1) i : Nat))), some (.int (iI i))], [], σ) := by
  have h6 := hV.P
  intro n
  induction n with
  | zero =>
    intro i hi
    refine ok_X9_onRight_L4 ⟨fun _ => ?_, fun c => absurd ?_ c⟩
    · rwa [show α 0 0 = i by omega] at h
    · rw [hM.P, iI_le ⟨by omega, by omega⟩ ⟨by omega, by omega⟩]; omega
  | succ n ih =>
    intro i hi
    have hc : (iI (i : Int)).toNatClampNeg = i := iI_clamp (by omega)
    have hin : vp_in (iI (i : Int)) 6 := (iI_in (by omega) 6).mpr (by omega)
    refine ok_X9_onRight_L4 ⟨fun c => absurd c ?_, fun _ => ⟨hin, ?_⟩⟩
    · rw [hM.P, iI_le ⟨by omega, by omega⟩ ⟨by omega, by omega⟩]; omega
    · have ih := ih (i + 1) (by omega)
      unfold cnN at ih
      have hb := (hV.p (p := i) (by omega)).2.2.1
      rw [hc, hM.bk (by omega), iI_add, iI_add, show (i : Int) + 1 = ((i + 1 : Nat) : Int) by omega]
      have e : ((cnN (fun p => α 3 p == 1) i : Nat) : Int) + ((α 3 i : Nat) : Int) = ((cnN (fun p => α 3 p == 1) i + (if (α 3 i == 1) = true then 1 else 0) : Nat) : Int) := by
        rcases (show α 3 i = 0 ∨ α 3 i = 1 by omega) with e | e <;> simp [e]
      rw [e]; exact ih
theorem q_onRight (hV : rV α) (hM : rM α σ) (h : k (iI (cnN (fun p => α 3 p == 1) (α 0 0) : Nat)) σ) : jq_I (d + 1) 137 [.ref 34] σ k :=
  ok_X9_onRight (w_onRight hV hM ⟨_, rfl, h⟩ (α 0 0) 0 (by omega))
/-- the river with these on the right -/
def rR (α : rA) (r : Nat) : rA := fun a b => if a = 3 then (if r.testBit b then 1 else 0) else α a b
theorem rR_ne (α : rA) (r : Nat) {a b : Nat} (h : a ≠ 3) : rR α r a b = α a b := if_neg h
theorem rM.cg {β γ : rA} (h : rM β σ) (h1 : ∀ a b, a ≠ 3 → γ a b = β a b) (h2 : ∀ b, b < β 0 0 → γ 3 b = β 3 b) : rM γ σ := by
  obtain ⟨g1, g2, g3, g4, g5, g6, g7⟩ := h
  unfold rM
  simp only [h1 0 _ (by omega), h1 1 _ (by omega), h1 2 _ (by omega), h1 4 _ (by omega), h1 5 _ (by omega), h1 6 _ (by omega), h1 7 _ (by omega), h1 8 _ (by omega), h1 9 _ (by omega), h1 10 _ (by omega), h1 11 _ (by omega)]
  exact ⟨g1, g2, g3, g4, fun p hp => by rw [h2 p hp]; exact g5 p hp, g6, g7⟩
theorem rV.cg {β γ : rA} (h : rV β) (h1 : ∀ a b, a ≠ 3 → γ a b = β a b) (h2 : ∀ b, b < β 0 0 → γ 3 b < 2) : rV γ := by
  obtain ⟨g1, g2, g3, g4, g5, g6, g7, g8⟩ := h
  unfold rV
  simp only [h1 0 _ (by omega), h1 1 _ (by omega), h1 2 _ (by omega), h1 4 _ (by omega), h1 5 _ (by omega), h1 6 _ (by omega), h1 7 _ (by omega), h1 8 _ (by omega), h1 9 _ (by omega), h1 10 _ (by omega), h1 11 _ (by omega)]
  exact ⟨g1, g2, g3, g4, fun p hp => ⟨(g5 p hp).1, (g5 p hp).2.1, h2 p hp, (g5 p hp).2.2.2⟩, g6, g7, g8⟩
def bS (c k : Nat) : Prop := (c = 38 ∧ k < 6) ∨ dS c k
theorem dS_b (c k : Nat) (h : dS c k) : bS c k := Or.inr h
theorem w_setBanks (hV : rV α) {post : jPo} {r : Nat} (hr : r < 64) : ∀ (n p : Nat) (β : rA) (σ : jSt), rM β σ → (∀ a b, a ≠ 3 → β a b = α a b) → (∀ b, b < p → β 3 b = if r.testBit b then 1 else 0) → p + n = α 0 0 →
    (∀ σ', eS bS σ σ' → rM (rR α r) σ' → jv_wp (d + 1) post (122, 31, [some (.ref 34), some (.int (iI r)), some (.int (iI 0)), some (.int (iI 0))], [], σ')) →
    jv_wp (d + 1) post (122, 2, [some (.ref 34), some (.int (iI r)), some (.int (iI p)), none], [], σ) := by
  have h6 := hV.P
  intro n
  induction n with
  | zero =>
    intro p β σ hM hb hp hn h
    refine ok_X9_settledBy_L2 ⟨fun _ => ?_, fun c => absurd ?_ c⟩
    · refine h σ eS.rf (hM.cg (fun a b e => by rw [rR_ne α r e, hb a b e]) (fun b hb' => ?_))
      rw [hb 0 0 (by omega)] at hb'
      rw [hp b (by omega)]; rfl
    · rw [hM.P, hb 0 0 (by omega), iI_le ⟨by omega, by omega⟩ ⟨by omega, by omega⟩]; omega
  | succ n ih =>
    intro p β σ hM hb hp hn h
    have hc : (iI (p : Int)).toNatClampNeg = p := iI_clamp (by omega)
    have hin : vp_in (iI (p : Int)) 6 := (iI_in (by omega) 6).mpr (by omega)
    refine ok_X9_settledBy_L2 ⟨fun c => absurd c ?_, fun _ => ⟨hin, ?_⟩⟩
    · rw [hM.P, hb 0 0 (by omega), iI_le ⟨by omega, by omega⟩ ⟨by omega, by omega⟩]; omega
    · rw [hc, iI_bit (by omega) (by omega), iI_add, show (p : Int) + 1 = ((p + 1 : Nat) : Int) by omega]
      refine ih (p + 1) (rU β 3 p (if r.testBit p then 1 else 0)) _ ?_ (fun a b e => by unfold rU; rw [if_neg (by omega)]; exact hb a b e) (fun b hb' => ?_) (by omega) (fun σ' hE => h σ' ((eS.u (Or.inl ⟨rfl, by omega⟩)).tr hE))
      · have e0 : ∀ a b, a ≠ 3 → rU β 3 p (if r.testBit p then 1 else 0) a b = β a b := fun a b e => by unfold rU; rw [if_neg (by omega)]
        obtain ⟨g1, g2, g3, g4, g5, g6, g7⟩ := hM
        unfold rM
        simp only [e0 0 _ (by omega), e0 1 _ (by omega), e0 2 _ (by omega), e0 4 _ (by omega), e0 5 _ (by omega), e0 6 _ (by omega), e0 7 _ (by omega), e0 8 _ (by omega), e0 9 _ (by omega), e0 10 _ (by omega), e0 11 _ (by omega)]
        simp (decide := true) only [jv_u_at, false_and, ite_false]
        refine ⟨g1, g2, g3, g4, fun q hq => ⟨(g5 q hq).1, (g5 q hq).2.1, ?_, (g5 q hq).2.2.2⟩, g6, g7⟩
        unfold rU
        by_cases e : q = p
        · subst e
          simp only [and_self, if_true]
          cases r.testBit q <;> decide +kernel
        · simp only [e, and_false, if_false]; exact (g5 q hq).2.2.1
      · unfold rU
        by_cases e : b = p
        · subst e; simp
        · rw [if_neg (by omega)]; exact hp b (by omega)
theorem sp_rR {α : rA} {r dy p : Nat} (hp : p < α 0 0) : sp (rR α r) dy p = (spI α dy r).testBit p := by
  unfold spI sp
  rw [bsN_bit, rR_ne α r (by omega), rR_ne α r (by omega)]
  simp [hp, rR]
theorem w_settledByM (hV : rV α) {post : jPo} {r : Nat} : ∀ (n m : Nat) (σ : jSt), rM (rR α r) σ → (∀ σ', eS dS σ σ' → post (some (.int (iI (lvF α r : Nat)))) σ') → m + n = α 0 1 →
    jv_wp (d + 4) post (122, 31, [some (.ref 34), some (.int (iI r)), some (.int (iI (cnN (sbF α (spI α (α 0 2) r) (spI α (α 0 2 + 1) r)) m : Nat))), some (.int (iI m))], [], σ) := by
  have h5 := hV.M
  have htd := hV.td
  have hV' : rV (rR α r) := hV.cg (fun a b e => rR_ne α r e) (fun b _ => by unfold rR; rw [if_pos rfl]; split <;> omega)
  intro n
  induction n with
  | zero =>
    intro m σ hM h hm
    refine ok_X9_settledBy_L31 ⟨fun _ => ?_, fun c => absurd ?_ c⟩
    · have := h σ eS.rf
      unfold lvF at this
      rwa [show α 0 1 = m by omega] at this
    · rw [hM.M, rR_ne α r (by omega), iI_le ⟨by omega, by omega⟩ ⟨by omega, by omega⟩]; omega
  | succ n ih =>
    intro m σ hM h hm
    have hv := hV.m (m := m) (by omega)
    have hmR : m < rR α r 0 1 := by rw [rR_ne α r (by omega)]; omega
    have hc : (iI (m : Int)).toNatClampNeg = m := iI_clamp (by omega)
    have hin : vp_in (iI (m : Int)) 5 := (iI_in (by omega) 5).mpr (by omega)
    have hs := stN_lt (α 8 m)
    refine ok_X9_settledBy_L31 ⟨fun c => absurd c ?_, fun _ => ⟨hin, ?_⟩⟩
    · rw [hM.M, rR_ne α r (by omega), iI_le ⟨by omega, by omega⟩ ⟨by omega, by omega⟩]; omega
    · have ih := fun σ hM h => ih (m + 1) σ hM h (by omega)
      unfold cnN at ih
      unfold sbF at ih
      rw [hc, hM.st hmR, rR_ne α r (by omega), iI_eq0 ⟨by omega, by omega⟩, hM.ak hmR, rR_ne α r (by omega), hM.td, rR_ne α r (by omega), iI_add, iI_add, iI_add, Int.add_zero, show (m : Int) + 1 = ((m + 1 : Nat) : Int) by omega]
      have e0 : ((stN (α 8 m) : Nat) : Int) = 0 ↔ α 8 m = 0 := by rw [← stN_0]; omega
      rw [e0]
      refine ⟨fun c => ?_, fun c => ⟨hin, q_maySpeak hV' hM (by rw [rR_ne α r (by omega)]; exact hv.1) (by omega) (fun s1 hE1 => ⟨fun c1 => ?_, fun c1 => ⟨hin, ?_⟩⟩)⟩⟩
      · have := ih σ hM h
        rwa [if_neg (by simp [c])] at this
      · rw [jb_0, sp_rR hv.1] at c1
        have := ih s1 (hM.mv (hE1.wk dS_m)) (fun σ' hE => h σ' (hE1.tr hE))
        rwa [if_neg (by simp [c1])] at this
      · have hM1 := hM.mv (hE1.wk dS_m)
        rw [jb_0, sp_rR hv.1] at c1
        have c1 : (spI α (α 0 2) r).testBit (α 5 m) = true := by simpa using c1
        rw [hM1.aw hmR, rR_ne α r (by omega), hM1.td, rR_ne α r (by omega), iI_add, show ((α 0 2 : Nat) : Int) + 1 = ((α 0 2 + 1 : Nat) : Int) by omega]
        refine q_maySpeak hV' hM1 (by rw [rR_ne α r (by omega)]; exact hv.2.1) (by omega) (fun s2 hE2 => ?_)
        have := ih s2 (hM1.mv (hE2.wk dS_m)) (fun σ' hE => h σ' ((hE1.tr hE2).tr hE))
        rw [jb_0, sp_rR hv.2.1]
        refine ⟨fun c2 => ?_, fun c2 => ?_⟩
        · rwa [if_neg (by simp [c2])] at this
        · rwa [if_pos (by simp [c, c1]; simpa using c2)] at this
theorem q_settledByM (hV : rV α) {β : rA} (hM : rM β σ) (hb : ∀ a b, a ≠ 3 → β a b = α a b) {r : Nat} (hr : r < 64) (h : ∀ σ', eS bS σ σ' → rM (rR α r) σ' → k (iI (lvF α r : Nat)) σ') : jq_I (d + 4) 122 [.ref 34, .int (iI r)] σ k :=
  ok_X9_settledBy (w_setBanks hV hr (α 0 0) 0 β σ hM hb (fun b hb => absurd hb (by omega)) (by omega) (fun s1 hE1 hM1 => w_settledByM hV (α 0 1) 0 s1 hM1 (fun s2 hE2 => ⟨_, rfl, h s2 (hE1.tr (hE2.wk dS_b)) (hM1.mv (hE2.wk dS_m))⟩) (by omega)))
theorem w_now (hV : rV α) (hM : rM α σ) {post : jPo} {wh : Int32} (h : jv_wp (d + 1) post (123, 48, [some (.ref 34), some (.int wh), some (.int (iI (rt α : Nat))), some (.int (iI 0)), some (.int (iI (-1))), some (.int (iI 0)), none], [], σ)) : ∀ (n i : Nat), i + n = α 0 0 →
    jv_wp (d + 1) post (123, 15, [some (.ref 34), some (.int wh), some (.int (iI (bsN (fun p => α 3 p == 1) i : Nat))), some (.int (iI i)), none, none, none], [], σ) := by
  have h6 := hV.P
  intro n
  induction n with
  | zero =>
    intro i hi
    refine ok_X9_liveOf_L15 ⟨fun _ => ?_, fun c => absurd ?_ c⟩
    · unfold rt at h
      rwa [show α 0 0 = i by omega] at h
    · rw [hM.P, iI_le ⟨by omega, by omega⟩ ⟨by omega, by omega⟩]; omega
  | succ n ih =>
    intro i hi
    have hc : (iI (i : Int)).toNatClampNeg = i := iI_clamp (by omega)
    have hin : vp_in (iI (i : Int)) 6 := (iI_in (by omega) 6).mpr (by omega)
    refine ok_X9_liveOf_L15 ⟨fun c => absurd c ?_, fun _ => ⟨hin, ?_⟩⟩
    · rw [hM.P, iI_le ⟨by omega, by omega⟩ ⟨by omega, by omega⟩]; omega
    · have ih := ih (i + 1) (by omega)
      unfold bsN at ih
      have hb := (hV.p (p := i) (by omega)).2.2.1
      rw [hc, hM.bk (by omega), iI_add, show (i : Int) + 1 = ((i + 1 : Nat) : Int) by omega]
      rcases (show α 3 i = 0 ∨ α 3 i = 1 by omega) with e | e
      · rw [e, iI_shl (by omega) (by omega), iI_or, Nat.zero_mul, Nat.or_zero]
        rwa [if_neg (by simp [e])] at ih
      · rw [e, show (iI ((1 : Nat) : Int) : Int32) = iI 1 from rfl, iI_sbit (by omega)]
        rwa [if_pos (by simp [e])] at ih
theorem w_live (hV : rV α) {post : jPo} {wh : Int32} : ∀ (n r : Nat) (z : Option Value) (be mo : Int32) (β : rA) (σ : jSt), rM β σ → (∀ a b, a ≠ 3 → β a b = α a b) → r + n = 2 ^ α 0 0 → (r = 0 → mo = iI (-1)) → (0 < r → be = iI (lvC α r : Nat) ∧ mo = iI (lvW α (lvC α r) : Nat)) →
    (∀ σ', eS bS σ σ' → jq_V d 79 [.ref 47, .ref 38] σ' (fun s => ((¬ wh = 0 → post (some (.int (iI (lvC α (2 ^ α 0 0) : Nat)))) s) ∧ (wh = 0 → post (some (.int (iI (lvF α (lvC α (2 ^ α 0 0)) : Nat)))) s)))) → ∀ (d4 : Nat), d = d4 + 4 →
    jv_wp (d + 1) post (123, 48, [some (.ref 34), some (.int wh), some (.int (iI (rt α : Nat))), some (.int be), some (.int mo), some (.int (iI r)), z], [], σ) := by
  have h6 := hV.P
  have hp6 : 2 ^ α 0 0 ≤ 64 := Nat.le_trans (Nat.pow_le_pow_right (by omega) h6) (show 2 ^ 6 ≤ 64 by decide)
  have hp0 : 0 < 2 ^ α 0 0 := Nat.two_pow_pos _
  have hrt := lt64 (rt_lt α) h6
  intro n
  induction n with
  | zero =>
    intro r z be mo β σ hM hb hr h0 h1 h d4 hd
    have hF := lvF_le hV (lvC α (2 ^ α 0 0))
    have hD := lvD_le hV (r := lvC α (2 ^ α 0 0)) (by have := lvC_lt α (2 ^ α 0 0) hp0; omega)
    obtain ⟨g1, g2⟩ := h1 (by omega)
    rw [show r = 2 ^ α 0 0 by omega] at g1 g2
    have e10 : mo / iI 10 = iI ((lvF α (lvC α (2 ^ α 0 0)) : Nat) : Int) := by
      rw [g2, show (iI 10 : Int32) = iI ((10 : Nat) : Int) from rfl, iI_div (by unfold lvW; omega) (by omega) (by omega)]
      exact congrArg (fun n : Nat => iI (n : Int)) (by unfold lvW; omega)
    refine ok_X9_liveOf_L48 ⟨fun _ => ?_, fun c => absurd ?_ c⟩
    · rw [e10, g1]; exact h σ eS.rf
    · rw [hM.P, hb 0 0 (by omega), show (iI 1 : Int32) = iI ((1 : Nat) : Int) from rfl, iI_shl (by omega) (by omega), Nat.one_mul, iI_le ⟨by omega, by omega⟩ ⟨by omega, by omega⟩]; omega
  | succ n ih =>
    intro r z be mo β σ hM hb hr h0 h1 h d4 hd
    subst hd
    refine ok_X9_liveOf_L48 ⟨fun c => absurd c ?_, fun _ => ?_⟩
    · rw [hM.P, hb 0 0 (by omega), show (iI 1 : Int32) = iI ((1 : Nat) : Int) from rfl, iI_shl (by omega) (by omega), Nat.one_mul, iI_le ⟨by omega, by omega⟩ ⟨by omega, by omega⟩]; omega
    · refine q_settledByM hV hM hb (by omega) (fun s1 hE1 hM1 => ?_)
      rw [iI_xor]
      refine q_ones (Nat.lt_trans (Nat.xor_lt_two_pow (n := 6) (show r < 64 by omega) hrt) (by omega)) ?_
      have hF := lvF_le hV r
      have hD := lvD_le hV (r := r) (by omega)
      have e1 : iI 10 * iI ((lvF α r : Nat) : Int) + iI 6 - iI ((pcN 12 (r ^^^ rt α) : Nat) : Int) = iI ((lvW α r : Nat) : Int) := by
        rw [iI_mul, iI_add, iI_sub]
        unfold lvW
        have : pcN 12 (r ^^^ rt α) = lvD α r := rfl
        exact congrArg iI (by omega)
      rw [e1, iI_add, show (r : Int) + 1 = ((r + 1 : Nat) : Int) by omega]
      dsimp only
      have ih := fun z be mo h0 => ih (r + 1) z be mo (rR α r) s1 hM1 (fun a b e => rR_ne α r e) (by omega) (fun e => absurd e (by omega)) h0 (fun σ' hE => h σ' (hE1.tr hE)) d4 rfl
      have hWr : lvW α r < 100 := by unfold lvW; omega
      by_cases c0 : r = 0
      · subst c0
        rw [h0 rfl, iI_le ⟨by omega, by omega⟩ ⟨by omega, by omega⟩]
        exact ⟨fun c => absurd c (by omega), fun _ => ⟨fun c => absurd c (by omega), fun _ => ih _ _ _ (fun _ => ⟨rfl, rfl⟩)⟩⟩
      · obtain ⟨g1, g2⟩ := h1 (by omega)
        have hF' := lvF_le hV (lvC α r)
        have hW' : lvW α (lvC α r) < 100 := by unfold lvW; omega
        have ec : lvC α (r + 1) = if lvW α (lvC α r) < lvW α r then r else lvC α r := by
          rw [lvC, if_neg c0]
        rw [g1, g2, iI_le ⟨by omega, by omega⟩ ⟨by omega, by omega⟩]
        refine ⟨fun c => ⟨fun _ => ih _ _ _ (fun _ => ?_), fun c2 => absurd c c2⟩, fun c => ⟨fun c2 => absurd c2 c, fun _ => ih _ _ _ (fun _ => ?_)⟩⟩
        · rw [ec, if_neg (by omega)]; exact ⟨rfl, rfl⟩
        · rw [ec, if_pos (by omega)]; exact ⟨rfl, rfl⟩
theorem q_liveOf (hV : rV α) (hM : rM α σ) {wh : Int32} (h : ∀ σ', eS mS σ σ' → (¬ wh = 0 → k (iI (lvC α (2 ^ α 0 0) : Nat)) σ') ∧ (wh = 0 → k (iI (lvF α (lvC α (2 ^ α 0 0)) : Nat)) σ')) : jq_I (d + 5) 123 [.ref 34, .int wh] σ k := by
  refine ok_X9_liveOf (q_cp_38_47 (fun s1 c1 => ?_))
  have hM1 : rM α s1 := hM.mv ⟨c1.1, fun c k n => c1.2.1 c k (fun e => n (by unfold mS; omega))⟩
  refine w_now hV hM1 ?_ (α 0 0) 0 (by omega)
  refine w_live hV (2 ^ α 0 0) 0 none _ _ α s1 hM1 (fun _ _ _ => rfl) (by omega) (fun _ => rfl) (fun e => absurd e (by omega)) (fun s2 hE2 => q_cp_47_38 (fun s3 c3 => ?_)) d rfl
  have hE : eS mS σ s3 := by
    refine ⟨c3.1.trans (hE2.1.trans c1.1), fun c k n => ?_⟩
    have n47 : c ≠ 47 := fun e => n (by unfold mS; omega)
    by_cases e : c = 38
    · subst e
      by_cases e6 : k < 6
      · rw [c3.2.2.1 k e6, hE2.2 47 k (by unfold bS dS; omega), c1.2.2.1 k e6]
      · rw [c3.2.2.2 k (by omega), hE2.2 38 k (by unfold bS dS; omega), c1.2.1 38 k (by omega)]
    · rw [c3.2.1 c k e, hE2.2 c k (fun q => n (by unfold bS dS at q; unfold mS; omega)), c1.2.1 c k n47]
  obtain ⟨f1, f2⟩ := h s3 hE
  exact ⟨fun c => ⟨_, rfl, f1 c⟩, fun c => ⟨_, rfl, f2 c⟩⟩
end M3
