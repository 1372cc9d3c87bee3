/-! the reference: what is said then, what is told of one, who should live where -/
section M2
variable {α : rA} {σ : jSt} {d : Nat} {k : Int32 → jSt → Prop}
theorem w_speakers (hV : rV α) {post : jPo} {dy : Nat} (hd : dy < 2000) : ∀ (n p : Nat) (σ : jSt), rM α σ → (∀ σ', eS dS σ σ' → post (some (.int (iI (spB α dy : Nat)))) σ') → p + n = α 0 0 →
    jv_wp (d + 4) post (97, 4, [some (.ref 34), some (.int (iI dy)), some (.int (iI (bsN (sp α dy) p : Nat))), some (.int (iI p))], [], σ) := by
  have h6 := hV.P
  intro n
  induction n with
  | zero =>
    intro p σ hM h hp
    refine ok_X9_speakers_L4 ⟨fun _ => ?_, fun c => absurd ?_ c⟩
    · have := h σ eS.rf
      unfold spB at this
      rwa [show α 0 0 = p by omega] at this
    · rw [hM.P, iI_le ⟨by omega, by omega⟩ ⟨by omega, by omega⟩]; omega
  | succ n ih =>
    intro p σ hM h hp
    refine ok_X9_speakers_L4 ⟨fun c => absurd c ?_, fun _ => ?_⟩
    · rw [hM.P, iI_le ⟨by omega, by omega⟩ ⟨by omega, by omega⟩]; omega
    · refine q_maySpeak hV hM (by omega) hd (fun σ' hE => ?_)
      have ih := ih (p + 1) σ' (hM.mv (hE.wk dS_m)) (fun σ'' hE' => h σ'' (hE.tr hE')) (by omega)
      unfold bsN at ih
      rw [show (iI 0 : Int32) = iI ((0 : Nat) : Int) from rfl, iI_or, iI_add, show (p : Int) + 1 = ((p + 1 : Nat) : Int) by omega, iI_sbit (by omega), jb_0, Nat.or_zero]
      refine ⟨fun c => ?_, fun c => ?_⟩
      · rwa [c] at ih
      · rwa [show sp α dy p = true by simpa using c] at ih
theorem q_speakers (hV : rV α) (hM : rM α σ) {dy : Nat} (hd : dy < 2000) (h : ∀ σ', eS dS σ σ' → k (iI (spB α dy : Nat)) σ') : jq_I (d + 4) 97 [.ref 34, .int (iI dy)] σ k :=
  ok_X9_speakers (w_speakers hV hd (α 0 0) 0 σ hM (fun σ' hE => ⟨_, rfl, h σ' hE⟩) (by omega))
theorem w_ones {post : jPo} {s : Nat} (hs : s < 2147483648) (h : post (some (.int (iI (pcN 12 s : Nat)))) σ) : ∀ (n i : Nat), i + n = 12 → jv_wp (d + 1) post (98, 4, [some (.int (iI s)), some (.int (iI (pcN i s : Nat))), some (.int (iI i))], [], σ) := by
  intro n
  induction n with
  | zero =>
    intro i hi
    refine ok_X9_ones_L4 ⟨fun _ => ?_, fun c => absurd ?_ c⟩
    · rwa [show 12 = i by omega] at h
    · rw [iI_le ⟨by omega, by omega⟩ ⟨by omega, by omega⟩]; omega
  | succ n ih =>
    intro i hi
    refine ok_X9_ones_L4 ⟨fun c => absurd c ?_, fun _ => ?_⟩
    · rw [iI_le ⟨by omega, by omega⟩ ⟨by omega, by omega⟩]; omega
    · have ih := ih (i + 1) (by omega)
      unfold pcN at ih
      rw [iI_bit hs (by omega), iI_add, show (i : Int) + 1 = ((i + 1 : Nat) : Int) by omega]
      have e : iI ((pcN i s : Nat) : Int) + jb (s.testBit i) = iI ((pcN i s + s / 2 ^ i % 2 : Nat) : Int) := by
        rw [tb_mod]
        cases s.testBit i
        · rw [← jb_f, iI_add]; exact congrArg iI (by simp)
        · rw [← jb_t, iI_add]; exact congrArg iI (by simp)
      rw [e]; exact ih
theorem q_ones {s : Nat} (hs : s < 2147483648) (h : k (iI (pcN 12 s : Nat)) σ) : jq_I (d + 1) 98 [.int (iI s)] σ k :=
  ok_X9_ones (w_ones hs ⟨_, rfl, h⟩ 12 0 (by omega))
theorem q_begin {K : jSt → Prop} (hV : rV α) (hM : rM α σ) (h : ∀ σ', eS tS σ σ' → rT (α 8) (α 0 1) σ' → K σ') : jq_V (d + 2) 99 [.ref 34] σ K := by
  have h5 := hV.M
  refine ok_X9_begin (q_cp_43_45 (fun s1 c1 => q_cp_44_46 (fun s2 c2 => ⟨rfl, h s2 ⟨c2.1.trans c1.1, fun c k n => ?_⟩ (fun m hm => ⟨?_, fun h2 => ?_⟩)⟩)))
  · unfold tS at n
    rw [c2.2.1 c k (by omega), c1.2.1 c k (by omega)]
  · rw [c2.2.1 45 m (by omega), c1.2.2.1 m (by omega)]; exact hM.st hm
  · rw [c2.2.2.1 m (by omega), c1.2.1 44 m (by omega)]; exact hM.on hm h2
theorem q_valueOf (hV : rV α) (hM : rM α σ) {m a dy : Nat} (hm : m < α 0 1) (ha : 2 ≤ a) (had : a ≤ dy + 2) (hd : dy < 100000) (h46 : σ.1 46 m = iI ((a : Int) - 2)) (h : k (iI (sfo α m a dy : Nat)) σ) : jq_I (d + 1) 101 [.ref 34, .int (iI m), .int (iI dy)] σ k := by
  have h5 := hV.M
  have h6 := hV.P
  have hv := hV.m hm
  have hva := hV.p hv.1
  have hvb := hV.p hv.2.1
  have hc : (iI (m : Int)).toNatClampNeg = m := iI_clamp (by omega)
  have hca : (iI ((α 5 m : Nat) : Int)).toNatClampNeg = α 5 m := iI_clamp (by omega)
  have hcb : (iI ((α 6 m : Nat) : Int)).toNatClampNeg = α 6 m := iI_clamp (by omega)
  have hin : vp_in (iI (m : Int)) 5 := (iI_in (by omega) 5).mpr (by omega)
  have hina : vp_in (iI ((α 5 m : Nat) : Int)) 6 := (iI_in (by omega) 6).mpr (by omega)
  have hinb : vp_in (iI ((α 6 m : Nat) : Int)) 6 := (iI_in (by omega) 6).mpr (by omega)
  refine ok_X9_valueOf ?_
  unfold vc_X9_valueOf
  dsimp only
  rw [hc, hM.ak hm, hM.aw hm, hM.wo hm, h46, hca, hM.me hv.1, hcb, hM.kd hv.2.1, iI_sub, iI_sub, iI_sub, iI_sub, iI_sub]
  rw [iI_le0 (a := (dy : Int) - ((a : Int) - 2) - ((α 4 (α 5 m) : Nat) : Int)) ⟨by omega, by omega⟩, iI_le0 (a := ((α 7 m : Nat) : Int)) ⟨by omega, by omega⟩, iI_le0 (a := ((α 7 m : Nat) : Int) - ((dy : Int) - ((a : Int) - 2) - ((α 4 (α 5 m) : Nat) : Int))) ⟨by omega, by omega⟩, iI_eq (a := ((α 1 (α 6 m) : Nat) : Int)) (b := 1) ⟨by omega, by omega⟩ ⟨by omega, by omega⟩, iI_eq (a := ((α 1 (α 6 m) : Nat) : Int)) (b := 4) ⟨by omega, by omega⟩ ⟨by omega, by omega⟩]
  have hdiv : ∀ z : Int, 0 ≤ z → z < 1000 → iI z / iI 2 = iI ((z.toNat / 2 : Nat) : Int) := fun z h1 h2 => by
    rw [show z = ((z.toNat : Nat) : Int) by omega, show (iI 2 : Int32) = iI ((2 : Nat) : Int) from rfl, iI_div (by omega) (by omega) (by omega)]; simp
  unfold sfo at h
  dsimp only at h
  have fin : ∀ z : Int, ((if α 1 (α 6 m) = 4 then α 7 m - (dy + 2 - a - α 4 (α 5 m)) - 1 else if α 1 (α 6 m) = 1 then (α 7 m - (dy + 2 - a - α 4 (α 5 m))) / 2 else α 7 m - (dy + 2 - a - α 4 (α 5 m)) : Nat) : Int) = z → (∃ x, some (Value.int (iI z)) = some (.int x) ∧ k x σ) := fun z e => ⟨_, rfl, by rw [← e]; exact h⟩
  refine ⟨hin, hin, hina, fun c => ⟨hin, fun c1 => ⟨hin, hinb, fun c2 => ⟨fun c3 => ?_, fun c3 => ?_⟩, fun c2 => ?_⟩, fun c1 => ⟨hin, hinb, fun c2 => ⟨fun c3 => fin _ ?_, fun c3 => ⟨fun c4 => ?_, fun c4 => fin _ ?_⟩⟩, fun c2 => ?_⟩⟩, fun c => ⟨hin, fun c1 => ⟨hin, hinb, fun c2 => ⟨fun c3 => fin _ ?_, fun c3 => fin _ ?_⟩, fun c2 => ?_⟩, fun c1 => ⟨hin, hinb, fun c2 => ⟨fun c3 => fin _ ?_, fun c3 => ⟨fun c4 => ?_, fun c4 => fin _ ?_⟩⟩, fun c2 => ?_⟩⟩⟩
  · exfalso; omega
  · exfalso; omega
  · exfalso; omega
  · rw [if_neg (by omega), if_neg (by omega)]; omega
  · exfalso; omega
  · rw [if_pos (by omega)]; omega
  · rw [hdiv _ (by omega) (by omega)]; refine fin _ ?_; rw [if_neg (by omega), if_pos (by omega)]; omega
  · rw [if_neg (by omega), if_neg (by omega)]; omega
  · rw [if_pos (by omega)]; omega
  · rw [hdiv _ (by omega) (by omega)]; refine fin _ ?_; rw [if_neg (by omega), if_pos (by omega)]; omega
  · rw [if_neg (by omega), if_neg (by omega)]; omega
  · exfalso; omega
  · rw [if_pos (by omega)]; omega
  · rw [hdiv _ (by omega) (by omega)]; refine fin _ ?_; rw [if_neg (by omega), if_pos (by omega)]; omega
theorem stN_0 {a : Nat} : stN a = 0 ↔ a = 0 := by unfold stN; split <;> (try split) <;> omega
theorem stN_2 {a : Nat} : stN a = 2 ↔ a = 1 := by unfold stN; split <;> (try split) <;> omega
theorem q_canThen (hV : rV α) (hM : rM α σ) {a : Nat → Nat} (hT : rT a (α 0 1) σ) {m dy : Nat} (hm : m < α 0 1) (ha : a m < 100000) (hd : dy < 2000) (h : ∀ σ', eS dS σ σ' → k (jb (cbs α m (a m) dy)) σ') : jq_I (d + 4) 102 [.ref 34, .int (iI m), .int (iI dy)] σ k := by
  have h5 := hV.M
  have h6 := hV.P
  have hv := hV.m hm
  have hc : (iI (m : Int)).toNatClampNeg = m := iI_clamp (by omega)
  have hin : vp_in (iI (m : Int)) 5 := (iI_in (by omega) 5).mpr (by omega)
  have hs := stN_lt (a m)
  refine ok_X9_canThen ⟨hin, ?_⟩
  rw [hc, (hT m hm).1, hM.ak hm, hM.aw hm, iI_eq ⟨by omega, by omega⟩ ⟨by omega, by omega⟩, iI_eq ⟨by omega, by omega⟩ ⟨by omega, by omega⟩]
  unfold cbs at h
  refine ⟨fun c => ⟨hin, q_maySpeak hV hM hv.1 hd (fun σ' hE => ⟨jb_z _, _, rfl, ?_⟩)⟩, fun c => ⟨fun c1 => ⟨hin, ?_⟩, fun c1 => ⟨_, rfl, ?_⟩⟩⟩
  · have h0 : a m = 0 := stN_0.mp (by omega)
    have := h σ' hE
    rwa [if_neg (by omega), if_pos h0] at this
  · have h2 : 2 ≤ a m := stN_1.mp (by omega)
    rw [(hT m hm).2 h2, iI_le ⟨by omega, by omega⟩ ⟨by omega, by omega⟩]
    refine ⟨fun c2 => ⟨_, rfl, ?_⟩, fun c2 => ⟨hin, q_maySpeak hV hM hv.2.1 hd (fun σ' hE => ⟨fun c3 => ⟨_, rfl, ?_⟩, fun c3 => ⟨_, rfl, ?_⟩⟩)⟩⟩
    · have := h σ eS.rf
      rw [if_neg (by omega), if_neg (by omega), decide_eq_false (by omega), Bool.false_and] at this
      rw [jb_f]; exact this
    · have := h σ' hE
      rw [jb_0] at c3
      rw [if_neg (by omega), if_neg (by omega), c3, Bool.and_false] at this
      rw [jb_f]; exact this
    · have := h σ' hE
      rw [jb_0] at c3
      rw [if_neg (by omega), if_neg (by omega), decide_eq_true (by omega), show sp α dy (α 6 m) = true by simpa using c3] at this
      rw [jb_t]; exact this
  · have h1 : a m = 1 := stN_2.mp (by omega)
    have := h σ eS.rf
    rw [if_pos h1] at this
    rw [jb_f]; exact this
def aU (a : Nat → Nat) (m v : Nat) : Nat → Nat := fun j => if j = m then v else a j
theorem q_sayThen (hV : rV α) (hM : rM α σ) {a : Nat → Nat} (hT : rT a (α 0 1) σ) {m dy : Nat} (hm : m < α 0 1) (h1 : a m ≠ 1) (had : a m ≤ dy + 2) (hd : dy < 100000)
    (h0 : a m = 0 → ∀ σ', eS tS σ σ' → rT (aU a m (dy + 2)) (α 0 1) σ' → k (iI (-1)) σ') (h2 : 2 ≤ a m → ∀ σ', eS tS σ σ' → rT (aU a m 1) (α 0 1) σ' → k (iI (sfo α m (a m) dy : Nat)) σ') : jq_I (d + 2) 103 [.ref 34, .int (iI m), .int (iI dy)] σ k := by
  have h5 := hV.M
  have hc : (iI (m : Int)).toNatClampNeg = m := iI_clamp (by omega)
  have hin : vp_in (iI (m : Int)) 5 := (iI_in (by omega) 5).mpr (by omega)
  have hs := stN_lt (a m)
  refine ok_X9_sayThen ⟨hin, ?_⟩
  rw [hc, (hT m hm).1, iI_eq0 ⟨by omega, by omega⟩]
  refine ⟨fun c => ⟨hin, ?_⟩, fun c => ⟨hin, hin, ⟨_, rfl, ?_⟩⟩⟩
  · have c0 : ¬ a m = 0 := fun e => c (by rw [stN_0.mpr e]; rfl)
    have hE : eS tS σ (jv_u σ 45 m (iI 2)) := eS.u (by unfold tS; omega)
    refine q_valueOf hV (hM.mv (hE.wk tS_m)) hm (a := a m) (by omega) had hd ?_ ⟨_, rfl, h2 (by omega) _ hE (fun j hj => ⟨?_, fun g => ?_⟩)⟩
    · rw [jv_u_at, if_neg (by omega)]; exact (hT m hm).2 (by omega)
    · rw [jv_u_at]
      unfold aU
      by_cases e : j = m
      · rw [if_pos ⟨rfl, e⟩, if_pos e]; rfl
      · rw [if_neg (by omega), if_neg e]; exact (hT j hj).1
    · unfold aU at g ⊢
      by_cases e : j = m
      · rw [if_pos e] at g; omega
      · rw [if_neg e] at g ⊢
        rw [jv_u_at, if_neg (by omega)]; exact (hT j hj).2 g
  · have c0 : a m = 0 := stN_0.mp (by omega)
    refine h0 c0 _ ((eS.u (by unfold tS; omega)).tr (eS.u (by unfold tS; omega))) (fun j hj => ⟨?_, fun g => ?_⟩)
    · rw [jv_u_at, if_neg (by omega), jv_u_at]
      unfold aU
      by_cases e : j = m
      · rw [if_pos ⟨rfl, e⟩, if_pos e, show stN (dy + 2) = 1 from stN_1.mpr (by omega)]; rfl
      · rw [if_neg (by omega), if_neg e]; exact (hT j hj).1
    · unfold aU at g ⊢
      rw [jv_u_at]
      by_cases e : j = m
      · rw [if_pos ⟨rfl, e⟩, if_pos e]; exact congrArg iI (by omega)
      · rw [if_neg e] at g ⊢
        rw [if_neg (by omega), jv_u_at, if_neg (by omega)]; exact (hT j hj).2 g
theorem w_speakingDaysM (hV : rV α) {post : jPo} {p : Nat} (hp : p < α 0 0) : ∀ (n i : Nat) (σ : jSt), rM α σ → (∀ σ', eS dS σ σ' → post (some (.int (iI (cnN (fun n => sp α (α 0 2 + n) p) 31 : Nat)))) σ') → i + n = 31 →
    jv_wp (d + 4) post (104, 4, [some (.ref 34), some (.int (iI p)), some (.int (iI (cnN (fun n => sp α (α 0 2 + n) p) i : Nat))), some (.int (iI i))], [], σ) := by
  have htd := hV.td
  intro n
  induction n with
  | zero =>
    intro i σ hM h hi
    refine ok_X9_speakingDays_L4 ⟨fun _ => ?_, fun c => absurd ?_ c⟩
    · have := h σ eS.rf
      rwa [show 31 = i by omega] at this
    · rw [iI_le ⟨by omega, by omega⟩ ⟨by omega, by omega⟩]; omega
  | succ n ih =>
    intro i σ hM h hi
    refine ok_X9_speakingDays_L4 ⟨fun c => absurd c ?_, fun _ => ?_⟩
    · rw [iI_le ⟨by omega, by omega⟩ ⟨by omega, by omega⟩]; omega
    · rw [hM.td, iI_add, show ((α 0 2 : Nat) : Int) + (i : Int) = ((α 0 2 + i : Nat) : Int) by omega]
      refine q_maySpeak hV hM hp (by omega) (fun σ' hE => ?_)
      have ih := ih (i + 1) σ' (hM.mv (hE.wk dS_m)) (fun σ'' hE' => h σ'' (hE.tr hE')) (by omega)
      unfold cnN at ih
      rw [iI_add, iI_add, iI_add, Int.add_zero, show (i : Int) + 1 = ((i + 1 : Nat) : Int) by omega, jb_0]
      refine ⟨fun c => ?_, fun c => ?_⟩
      · rwa [c] at ih
      · rw [show sp α (α 0 2 + i) p = true by simpa using c] at ih
        exact ih
theorem q_speakingDaysM (hV : rV α) (hM : rM α σ) {p : Nat} (hp : p < α 0 0) (h : ∀ σ', eS dS σ σ' → k (iI (cnN (fun n => sp α (α 0 2 + n) p) 31 : Nat)) σ') : jq_I (d + 4) 104 [.ref 34, .int (iI p)] σ k :=
  ok_X9_speakingDays (w_speakingDaysM hV hp 31 0 σ hM (fun σ' hE => ⟨_, rfl, h σ' hE⟩) (by omega))
theorem w_speakingSorts (hV : rV α) {post : jPo} {p day : Nat} (hp : p < α 0 0) {v2 : Int32} (hM : rM α σ) (e1 : σ.1 34 17 = iI ((mad day % 32 : Nat) : Int)) (e2 : σ.1 34 18 = iI ((mad day / 32 : Nat) : Int)) (h : post (some (.int (iI (spS (vo day) (α 3 p) : Nat)))) σ) : ∀ (n i : Nat), i + n = 10 →
    jv_wp (d + 3) post (129, 15, [some (.ref 34), some (.int (iI p)), some (.int v2), some (.int (iI (bsN (fun i => spk (vo day) (i % 5) (i / 5) (α 3 p)) i : Nat))), some (.int (iI i))], [], σ) := by
  have h6 := hV.P
  have hc : (iI (p : Int)).toNatClampNeg = p := iI_clamp (by omega)
  have hin : vp_in (iI (p : Int)) 6 := (iI_in (by omega) 6).mpr (by omega)
  intro n
  induction n with
  | zero =>
    intro i hi
    refine ok_X9_speakingSorts_L15 ⟨fun _ => ?_, fun c => absurd ?_ c⟩
    · unfold spS at h
      rwa [show 10 = i by omega] at h
    · rw [iI_le ⟨by omega, by omega⟩ ⟨by omega, by omega⟩]; omega
  | succ n ih =>
    intro i hi
    refine ok_X9_speakingSorts_L15 ⟨fun c => absurd c ?_, fun _ => ⟨hin, ?_⟩⟩
    · rw [iI_le ⟨by omega, by omega⟩ ⟨by omega, by omega⟩]; omega
    · have ih := ih (i + 1) (by omega)
      unfold bsN at ih
      have hr : iI (i : Int) - iI (i : Int) / iI 5 * iI 5 = iI ((i % 5 : Nat) : Int) := iI_rem (b := 5) (by omega) (by omega) (by omega)
      have hq : iI (i : Int) / iI 5 = iI ((i / 5 : Nat) : Int) := iI_div (b := 5) (by omega) (by omega) (by omega)
      rw [hr, hq, hc, hM.bk hp]
      refine q_isSpeaking (by omega) (by omega) (hV.p hp).2.2.1 e1 e2 ?_
      rw [show (iI 0 : Int32) = iI ((0 : Nat) : Int) from rfl, iI_or, iI_add, show (i : Int) + 1 = ((i + 1 : Nat) : Int) by omega, iI_sbit (by omega), jb_0, Nat.or_zero]
      refine ⟨fun c => ?_, fun c => ?_⟩
      · rwa [c] at ih
      · rwa [show spk (vo day) (i % 5) (i / 5) (α 3 p) = true by simpa using c] at ih
theorem q_speakingSorts (hV : rV α) (hM : rM α σ) {p n : Nat} (hp : p < α 0 0) (hn : n ≤ 31) (h : ∀ σ', eS dS σ σ' → k (iI (spS (vo (α 0 2 + n)) (α 3 p) : Nat)) σ') : jq_I (d + 3) 129 [.ref 34, .int (iI p), .int (iI n)] σ k := by
  have htd := hV.td
  refine ok_X9_speakingSorts ?_
  unfold vc_X9_speakingSorts
  rw [hM.td, iI_add, show ((α 0 2 : Nat) : Int) + (n : Int) = ((α 0 2 + n : Nat) : Int) by omega]
  refine q_layDate (by omega) (fun σ' hE f1 f2 f3 => ?_)
  exact w_speakingSorts hV hp (hM.mv (hE.wk dS_m)) f1 f2 ⟨_, rfl, h σ' hE⟩ 10 0 (by omega)
theorem and_comp : ∀ S : Nat, S < 1024 → 1023 - S = 1023 ^^^ S := by decide +kernel
theorem and_not {s S : Nat} (hs : s < 1024) (hS : S < 1024) : s &&& (1023 - S) = s ^^^ (s &&& S) := by
  rw [and_comp S hS]
  apply Nat.eq_of_testBit_eq
  intro i
  rw [Nat.testBit_and, Nat.testBit_xor, Nat.testBit_xor, Nat.testBit_and, show (1023 : Nat) = 2 ^ 10 - 1 from rfl, Nat.testBit_two_pow_sub_one]
  by_cases c : i < 10
  · simp only [c, decide_true]
    cases s.testBit i <;> cases S.testBit i <;> rfl
  · have : s.testBit i = false := Nat.testBit_lt_two_pow (Nat.lt_of_lt_of_le hs (Nat.le_trans (show 1024 ≤ 2 ^ 10 by decide) (Nat.pow_le_pow_right (by omega) (by omega))))
    simp [this]
theorem w_sortsOf (hV : rV α) {post : jPo} {p : Nat} (hp : p < α 0 0) : ∀ (n i : Nat) (z : Option Value) (σ : jSt), rM α σ → (∀ σ', eS dS σ σ' → post (some (.int (iI (soN α p (α 0 4) : Nat)))) σ') → i + n = α 0 4 →
    jv_wp (d + 4) post (130, 6, [some (.ref 34), some (.int (iI p)), some (.int (iI (soN α p i : Nat))), some (.int (iI ((3 * i : Nat) : Int))), z], [], σ) := by
  have h6 := hV.P
  have hsz := hV.sz
  intro n
  induction n with
  | zero =>
    intro i z σ hM h hi
    refine ok_X9_sortsOf_L6 ⟨fun _ => ?_, fun c => absurd ?_ c⟩
    · have := h σ eS.rf
      rwa [show α 0 4 = i by omega] at this
    · rw [hM.sz, iI_mul, iI_le ⟨by omega, by omega⟩ ⟨by omega, by omega⟩]; omega
  | succ n ih =>
    intro i z σ hM h hi
    have hv := hV.s (i := i) (by omega)
    have hc0 : (iI ((3 * i : Nat) : Int)).toNatClampNeg = 3 * i := iI_clamp (by omega)
    have hc1 : (iI ((3 * i + 1 : Nat) : Int)).toNatClampNeg = 3 * i + 1 := iI_clamp (by omega)
    have hc2 : (iI ((3 * i + 2 : Nat) : Int)).toNatClampNeg = 3 * i + 2 := iI_clamp (by omega)
    have hi0 : vp_in (iI ((3 * i : Nat) : Int)) 18 := (iI_in (by omega) 18).mpr (by omega)
    have hi1 : vp_in (iI ((3 * i + 1 : Nat) : Int)) 18 := (iI_in (by omega) 18).mpr (by omega)
    have hi2 : vp_in (iI ((3 * i + 2 : Nat) : Int)) 18 := (iI_in (by omega) 18).mpr (by omega)
    refine ok_X9_sortsOf_L6 ⟨fun c => absurd c ?_, fun _ => ?_⟩
    · rw [hM.sz, iI_mul, iI_le ⟨by omega, by omega⟩ ⟨by omega, by omega⟩]; omega
    · rw [iI_add, iI_add, iI_add, show ((3 * i : Nat) : Int) + 1 = ((3 * i + 1 : Nat) : Int) by omega, show ((3 * i : Nat) : Int) + 2 = ((3 * i + 2 : Nat) : Int) by omega, show ((3 * i : Nat) : Int) + 3 = ((3 * (i + 1) : Nat) : Int) by omega, hc0, hc1, hc2, (hM.see (i := i) (by omega)).2.1]
      refine ⟨hi1, q_speakingSorts hV hM hp hv.2.1 (fun σ' hE => ⟨hi0, ?_⟩)⟩
      have hM' := hM.mv (hE.wk dS_m)
      have ih := fun z => ih (i + 1) z σ' hM' (fun σ'' hE' => h σ'' (hE.tr hE')) (by omega)
      unfold soN at ih
      have hS := spS_lt (vo (α 0 2 + α 10 i)) (α 3 p)
      have hs := soN_lt α p i
      rw [(hM'.see (i := i) (by omega)).1, (hM'.see (i := i) (by omega)).2.2, iI_eq ⟨by omega, by omega⟩ ⟨by omega, by omega⟩, iI_eq ⟨by omega, by omega⟩ ⟨by omega, by omega⟩, iI_sub, show (1023 : Int) - ((spS (vo (α 0 2 + α 10 i)) (α 3 p) : Nat) : Int) = ((1023 - spS (vo (α 0 2 + α 10 i)) (α 3 p) : Nat) : Int) by omega, iI_and, iI_and, and_not hs hS]
      refine ⟨fun c => ?_, fun c => ⟨hi2, fun c2 => ?_, fun c2 => ?_⟩⟩
      · rw [if_neg (by omega)] at ih; exact ih _
      · rw [if_pos (by omega), if_neg (by omega)] at ih; exact ih _
      · rw [if_pos (by omega), if_pos (by omega)] at ih; exact ih _
theorem q_sortsOf (hV : rV α) (hM : rM α σ) {p : Nat} (hp : p < α 0 0) (h : ∀ σ', eS dS σ σ' → k (iI (soN α p (α 0 4) : Nat)) σ') : jq_I (d + 4) 130 [.ref 34, .int (iI p)] σ k :=
  ok_X9_sortsOf (w_sortsOf hV hp (α 0 4) 0 none σ hM (fun σ' hE => ⟨_, rfl, h σ' hE⟩) (by omega))
theorem pc_1024 : ∀ s : Nat, s < 1024 → pcN 12 s ≤ 10 := by decide +kernel
theorem liW_10 (α : rA) (p n : Nat) {s : Nat} (hs : s < 1024) : liW α p s n ≤ 10 := by
  have h1 := pc_1024 s hs
  have h2 := pc_1024 (s &&& spS (vo (α 0 2 + n)) (α 3 p)) (and_lt1024 hs)
  unfold liW
  dsimp only
  split <;> omega
theorem w_listenOf (hV : rV α) {post : jPo} {p s : Nat} (hp : p < α 0 0) (hs : s < 1024) (hs0 : s ≠ 0) : ∀ (n i : Nat) (z6 z7 z8 : Option Value) (be le : Int32) (σ : jSt), rM α σ → (∀ σ', eS dS σ σ' → post (some (.int (iI (liB α p s 1023 32 : Nat)))) σ') → i + n = 32 →
    (i = 0 → le = iI 11) → (0 < i → be = iI (liB α p s 1023 i : Nat) ∧ le = iI (liM α p s 1023 i : Nat)) →
    jv_wp (d + 4) post (131, 15, [some (.ref 34), some (.int (iI p)), some (.int (iI s)), some (.int be), some (.int le), some (.int (iI i)), z6, z7, z8], [], σ) := by
  have htd := hV.td
  intro n
  induction n with
  | zero =>
    intro i z6 z7 z8 be le σ hM h hi h0 h1
    refine ok_X9_listenOf_L15 ⟨fun _ => ?_, fun c => absurd ?_ c⟩
    · have := h σ eS.rf
      rw [show 32 = i by omega] at this
      rw [(h1 (by omega)).1]; exact this
    · rw [iI_le ⟨by omega, by omega⟩ ⟨by omega, by omega⟩]; omega
  | succ n ih =>
    intro i z6 z7 z8 be le σ hM h hi h0 h1
    have hw := liW_10 α p i hs
    have hm := liM_le α p s 1023 i
    refine ok_X9_listenOf_L15 ⟨fun c => absurd c ?_, fun _ => ⟨fun c => absurd c ?_, fun _ => ?_⟩⟩
    · rw [iI_le ⟨by omega, by omega⟩ ⟨by omega, by omega⟩]; omega
    · rw [iI_eq0 ⟨by omega, by omega⟩]; omega
    · refine q_speakingSorts hV hM hp (by omega) (fun σ' hE => ?_)
      have hM' := hM.mv (hE.wk dS_m)
      rw [iI_and]
      have ha := and_lt1024 (b := spS (vo (α 0 2 + i)) (α 3 p)) hs
      refine q_ones (by omega) (q_ones (by omega) ?_)
      have hsp := pcN_split s (spS (vo (α 0 2 + i)) (α 3 p)) 12
      have hl := pcN_le s 12
      rw [iI_sub, show ((pcN 12 s : Nat) : Int) - ((pcN 12 (s &&& spS (vo (α 0 2 + i)) (α 3 p)) : Nat) : Int) = ((pcN 12 s - pcN 12 (s &&& spS (vo (α 0 2 + i)) (α 3 p)) : Nat) : Int) by omega, iI_add, show (i : Int) + 1 = ((i + 1 : Nat) : Int) by omega]
      dsimp only
      have nx : ∀ (w : Nat) (z6 z7 z8 : Option Value), w = liW α p s i → (le ≤ iI (w : Int) → jv_wp (d + 4) post (131, 15, [some (.ref 34), some (.int (iI p)), some (.int (iI s)), some (.int be), some (.int le), some (.int (iI ((i + 1 : Nat) : Int))), z6, z7, z8], [], σ')) ∧ (¬ le ≤ iI (w : Int) → jv_wp (d + 4) post (131, 15, [some (.ref 34), some (.int (iI p)), some (.int (iI s)), some (.int (iI i)), some (.int (iI (w : Int))), some (.int (iI ((i + 1 : Nat) : Int))), z6, z7, z8], [], σ')) := by
        intro w z6 z7 z8 ew
        have ih := fun z6 z7 z8 be le => ih (i + 1) z6 z7 z8 be le σ' hM' (fun σ'' hE' => h σ'' (hE.tr hE')) (by omega) (fun e => absurd e (by omega))
        by_cases c0 : i = 0
        · subst c0
          rw [h0 rfl, iI_le ⟨by omega, by omega⟩ ⟨by omega, by omega⟩]
          refine ⟨fun c => by omega, fun _ => ih _ _ _ _ _ (fun _ => ?_)⟩
          subst ew
          have : liW α p s 0 < 1023 := by omega
          simp [liB, liM, this]
        · obtain ⟨g1, g2⟩ := h1 (by omega)
          rw [g1, g2, iI_le ⟨by omega, by omega⟩ ⟨by omega, by omega⟩]
          refine ⟨fun c => ih _ _ _ _ _ (fun _ => ?_), fun c => ih _ _ _ _ _ (fun _ => ?_)⟩
          · rw [liB, liM, if_neg (by omega), if_neg (by omega)]; exact ⟨rfl, rfl⟩
          · rw [liB, liM, if_pos (by omega), if_pos (by omega), ew]; exact ⟨rfl, rfl⟩
      have hW : liW α p s i = if pcN 12 (s &&& spS (vo (α 0 2 + i)) (α 3 p)) < pcN 12 s - pcN 12 (s &&& spS (vo (α 0 2 + i)) (α 3 p)) then pcN 12 s - pcN 12 (s &&& spS (vo (α 0 2 + i)) (α 3 p)) else pcN 12 (s &&& spS (vo (α 0 2 + i)) (α 3 p)) := rfl
      rw [iI_le (a := ((pcN 12 (s &&& spS (vo (α 0 2 + i)) (α 3 p)) : Nat) : Int)) ⟨by omega, by omega⟩ ⟨by omega, by omega⟩]
      refine ⟨fun c => ?_, fun c => ?_⟩
      · have nx := fun z6 z7 z8 => nx (pcN 12 s - pcN 12 (s &&& spS (vo (α 0 2 + i)) (α 3 p))) z6 z7 z8 (by rw [hW]; split <;> omega)
        exact ⟨fun c2 => ⟨fun _ => (nx _ _ _).1 c2, fun c3 => absurd c2 c3⟩, fun c2 => ⟨fun c3 => absurd c3 c2, fun _ => (nx _ _ _).2 c2⟩⟩
      · have nx := fun z6 z7 z8 => nx (pcN 12 (s &&& spS (vo (α 0 2 + i)) (α 3 p))) z6 z7 z8 (by rw [hW]; split <;> omega)
        exact ⟨fun c2 => ⟨fun _ => (nx _ _ _).1 c2, fun c3 => absurd c2 c3⟩, fun c2 => ⟨fun c3 => absurd c3 c2, fun _ => (nx _ _ _).2 c2⟩⟩
theorem q_listenOf (hV : rV α) (hM : rM α σ) {p : Nat} (hp : p < α 0 0) (h : ∀ σ', eS dS σ σ' → k (iI (lsN α p)) σ') : jq_I (d + 5) 131 [.ref 34, .int (iI p)] σ k := by
  have hs := soN_lt α p (α 0 4)
  unfold lsN at h
  refine ok_X9_listenOf (q_sortsOf hV hM hp (fun σ' hE => ?_))
  by_cases c : soN α p (α 0 4) = 0
  · rw [if_pos c] at h
    rw [c]
    refine ok_X9_listenOf_L15 ⟨fun c2 => absurd c2 ?_, fun _ => ⟨fun _ => ⟨_, rfl, h σ' hE⟩, fun c2 => absurd iI_0.symm c2⟩⟩
    rw [iI_le ⟨by omega, by omega⟩ ⟨by omega, by omega⟩]; omega
  · rw [if_neg c] at h
    exact w_listenOf hV hp hs c 32 0 none none none _ _ σ' (hM.mv (hE.wk dS_m)) (fun σ'' hE' => ⟨_, rfl, h σ'' (hE.tr hE')⟩) (by omega) (fun _ => rfl) (fun e => absurd e (by omega))
end M2
