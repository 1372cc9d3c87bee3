/-! cross -/
def crH (α : rA) (p m : Nat) : Bool := α 5 m == p && stN (α 8 m) == 1
def crA (α : rA) (p n : Nat) : rA := fun r i => if r = 8 ∧ i < n ∧ crH α p i = true then 0 else if r = 3 ∧ i = p then 1 - α 3 p else α r i
theorem crA_n {α : rA} {p n r i : Nat} (h8 : r ≠ 8) (h3 : r ≠ 3) : crA α p n r i = α r i := by
  unfold crA; rw [if_neg (by omega), if_neg (by omega)]
theorem crA_8 {α : rA} {p n i : Nat} : crA α p n 8 i = if i < n ∧ crH α p i = true then 0 else α 8 i := by
  unfold crA
  by_cases e : i < n ∧ crH α p i = true
  · rw [if_pos ⟨rfl, e⟩, if_pos e]
  · rw [if_neg (fun q => e q.2), if_neg e, if_neg (by omega)]
theorem crA_3 {α : rA} {p n i : Nat} : crA α p n 3 i = if i = p then 1 - α 3 p else α 3 i := by
  unfold crA
  rw [if_neg (by omega)]
  by_cases e : i = p
  · rw [if_pos ⟨rfl, e⟩, if_pos e]
  · rw [if_neg (by omega), if_neg e]
theorem crA_y {α : rA} {p n : Nat} (h : crH α p n = true) : crA α p (n + 1) = rU (crA α p n) 8 n 0 := by
  funext r i
  unfold rU crA
  by_cases e : r = 8 ∧ i = n
  · rw [if_pos e, if_pos ⟨e.1, by omega, by rw [e.2]; exact h⟩]
  · rw [if_neg e]
    by_cases e2 : r = 8 ∧ i < n ∧ crH α p i = true
    · rw [if_pos e2, if_pos ⟨e2.1, by omega, e2.2.2⟩]
    · rw [if_neg e2, if_neg (fun q => e2 ⟨q.1, by omega, q.2.2⟩)]
theorem crA_x {α : rA} {p n : Nat} (h : ¬ crH α p n = true) : crA α p (n + 1) = crA α p n := by
  funext r i
  unfold crA
  by_cases e2 : r = 8 ∧ i < n ∧ crH α p i = true
  · rw [if_pos e2, if_pos ⟨e2.1, by omega, e2.2.2⟩]
  · rw [if_neg e2, if_neg (fun q => e2 ⟨q.1, by rcases Nat.lt_or_ge i n with g | g; exact g; exact absurd (show crH α p n = true by rw [show n = i by omega]; exact q.2.2) h, q.2.2⟩)]
theorem rV_cr {α : rA} {p n : Nat} (hV : rV α) (hp : p < α 0 0) : rV (crA α p n) := by
  refine ⟨hV.P, hV.M, hV.td, hV.sz, fun j hj => ?_, fun m hm => ?_, fun i hi => ?_, hV.r⟩
  · have := hV.p (p := j) hj
    refine ⟨this.1, this.2.1, ?_, this.2.2.2⟩
    rw [crA_3]
    by_cases e : j = p
    · rw [if_pos e]; omega
    · rw [if_neg e]; exact this.2.2.1
  · have := hV.m (m := m) hm
    refine ⟨this.1, this.2.1, this.2.2.1, this.2.2.2.1, ?_⟩
    rw [crA_8]
    by_cases e : m < n ∧ crH α p m = true
    · rw [if_pos e]; exact Nat.zero_le _
    · rw [if_neg e]; exact this.2.2.2.2
  · exact hV.s (i := i) hi
theorem rt_cr {α : rA} {p : Nat} (hV : rV α) (hp : p < α 0 0) (n : Nat) : rt (crA α p n) = rt α ^^^ 2 ^ p := by
  have h3 := (hV.p hp).2.2.1
  refine Nat.eq_of_testBit_eq (fun i => ?_)
  rw [Nat.testBit_xor, Nat.testBit_two_pow]
  unfold rt
  rw [bsN_bit, bsN_bit, crA_n (by omega) (by omega), crA_3]
  by_cases e : i = p
  · subst e
    rw [if_pos rfl]
    rcases Nat.lt_or_ge (α 3 i) 1 with g | g
    · have : α 3 i = 0 := by omega
      simp [this, hp]
    · have : α 3 i = 1 := by omega
      simp [this, hp]
  · rw [if_neg e]
    have : ¬ p = i := fun q => e q.symm
    simp [this]
section Do
variable {α : rA} {σ σ' : jSt} {d : Nat} {k : Int32 → jSt → Prop}
theorem w_reopen (hV : rV α) {post : jPo} {p : Nat} (hp : p < α 0 0) : ∀ (n i : Nat) (σ : jSt), i + n = α 0 1 → rX 3 (crA α p i) σ → (∀ σ', eS wS σ σ' → rX 3 (crA α p (α 0 1)) σ' → σ'.1 3 12 = σ.1 3 12 → post (some (.int (iI (cnN (crH α p) (α 0 1) : Nat)))) σ') →
    jv_wp (d + 2) post (52, 4, [some (.ref 3), some (.int (iI p)), some (.int (iI (cnN (crH α p) i : Nat))), some (.int (iI i))], [], σ) := by
  have h5 := hV.M
  have h6 := hV.P
  intro n
  induction n with
  | zero =>
    intro i σ hi hX h
    have eM : σ.1 3 9 = iI ((α 0 1 : Nat) : Int) := hX.M
    refine ok_X7_reopenAskedBy_L4 ⟨fun _ => ?_, fun c => absurd ?_ c⟩
    · have := h σ eS.rf (by rw [show α 0 1 = i by omega]; exact hX) rfl
      rwa [show α 0 1 = i by omega] at this
    · rw [eM, iI_le ⟨by omega, by omega⟩ ⟨by omega, by omega⟩]; omega
  | succ n ih =>
    intro i σ hi hX h
    have eM : σ.1 3 9 = iI ((α 0 1 : Nat) : Int) := hX.M
    have hV' := rV_cr (n := i) hV hp
    have him : i < α 0 1 := by omega
    have ham := (hV.m him).1
    have e7 : σ.1 7 i = iI ((α 5 i : Nat) : Int) := hX.ak him
    have hc : (iI (i : Int)).toNatClampNeg = i := iI_clamp (by omega)
    have hin : vp_in (iI (i : Int)) 5 := (iI_in (by omega) 5).mpr (by omega)
    refine ok_X7_reopenAskedBy_L4 ⟨fun c => absurd c ?_, fun _ => ⟨hin, ?_⟩⟩
    · rw [eM, iI_le ⟨by omega, by omega⟩ ⟨by omega, by omega⟩]; omega
    dsimp only
    rw [hc, e7, iI_add, iI_add, iI_eq ⟨by omega, by omega⟩ ⟨by omega, by omega⟩, show (i : Int) + 1 = ((i + 1 : Nat) : Int) by omega, show ((cnN (crH α p) i : Nat) : Int) + 1 = ((cnN (crH α p) i + 1 : Nat) : Int) by omega]
    have e8 : crA α p i 8 i = α 8 i := by rw [crA_8, if_neg (by omega)]
    have hs := stN_lt (α 8 i)
    have no : ¬ crH α p i = true → jv_wp (d + 2) post (52, 4, [some (.ref 3), some (.int (iI p)), some (.int (iI (cnN (crH α p) i : Nat))), some (.int (iI ((i + 1 : Nat) : Int)))], [], σ) := by
      intro g
      have := ih (i + 1) σ (by omega) (by rw [crA_x g]; exact hX) h
      unfold cnN at this
      rw [if_neg g] at this
      exact this
    refine ⟨fun c => no (fun g => ?_), fun c => ?_⟩
    · unfold crH at g; simp at g; omega
    · refine q_standing hV' hX him ?_
      rw [e8, iI_eq ⟨by omega, by omega⟩ ⟨by omega, by omega⟩]
      refine ⟨fun c2 => no (fun g => ?_), fun c2 => ⟨hin, ?_⟩⟩
      · unfold crH at g; simp at g; omega
      · have g : crH α p i = true := by unfold crH; simp; omega
        have := ih (i + 1) (jv_u σ 10 i (iI (-1))) (by omega) (by rw [crA_y g]; refine rX_u8 hX (fun c k e1 e2 => ?_) ?_; rw [jv_u_at, if_neg e1]; rw [jv_u_at, if_pos ⟨rfl, rfl⟩]; rfl) (fun s E1 X1 t1 => h s ((eS.u (by unfold wS; omega)).tr E1) X1 (t1.trans (by rw [jv_u_at, if_neg (by omega)])))
        unfold cnN at this
        rw [if_pos g] at this
        exact this
def crossO (α : rA) (z : Int) : rA × Int × Int := if 0 ≤ z ∧ z < α 0 0 then (crA α z.toNat (α 0 1), ((cnN (crH α z.toNat) (α 0 1) : Nat) : Int), 0) else (α, -101, 0)
theorem q_cross (hV : rV α) (hX : rX 3 α σ) {z : Int} (hz : iR z) (h : ∀ σ', eS wS σ σ' → rX 3 (crossO α z).1 σ' → σ'.1 3 12 = σ.1 3 12 + iI (crossO α z).2.2 → k (iI (crossO α z).2.1) σ') : jq_I (d + 3) 64 [.ref 0, .int (iI z)] σ k := by
  have h6 := hV.P
  refine ok_X8_cross (q_knowsPerson hV hX hz ?_)
  dsimp only
  rw [jb_0]
  unfold crossO at h
  refine ⟨fun c => ?_, fun c => ?_⟩
  · have c := of_decide_eq_true (show decide (0 ≤ z ∧ z < α 0 0) = true by simpa using c)
    rw [if_pos c] at h
    obtain ⟨p, rfl⟩ : ∃ p : Nat, z = (p : Int) := ⟨z.toNat, by omega⟩
    have hp : p < α 0 0 := by omega
    rw [show ((p : Int)).toNat = p by omega] at h
    have hsh : iI ((1 : Nat) : Int) <<< (iI (p : Int) &&& 31) = iI ((1 * 2 ^ p : Nat) : Int) := by
      refine iI_shl (by omega) ?_
      rw [Nat.one_mul]
      exact Nat.pow_lt_pow_right (by omega) (by omega)
    rw [Nat.one_mul] at hsh
    rw [hX.rt, show (iI 1 : Int32) = iI ((1 : Nat) : Int) from rfl, hsh, iI_xor, ← rt_cr hV hp 0]
    have he : ∀ c k, ¬ (c = 3 ∧ k = 10) → (jv_u σ 3 10 (iI (rt (crA α p 0) : Nat))).1 c k = σ.1 c k := fun c k e => by rw [jv_u_at, if_neg e]
    have hX0 : rX 3 (crA α p 0) (jv_u σ 3 10 (iI (rt (crA α p 0) : Nat))) := by
      refine ⟨(he 3 8 (by omega)).trans hX.P, (he 3 9 (by omega)).trans hX.M, ?_, (he 3 11 (by omega)).trans hX.td, (he 11 3 (by omega)).trans hX.sz, fun j hj => ⟨(he 4 j (by omega)).trans (hX.kd hj), (he 5 j (by omega)).trans (hX.bn hj), (he 6 j (by omega)).trans (hX.me hj)⟩, fun j hj => ⟨(he 7 j (by omega)).trans (hX.ak hj), (he 8 j (by omega)).trans (hX.aw hj), (he 9 j (by omega)).trans (hX.wo hj), ?_⟩, fun i hi => ⟨(he 12 i (by omega)).trans (hX.who hi), (he 13 i (by omega)).trans (hX.dys hi), (he 14 i (by omega)).trans (hX.spo hi)⟩⟩
      · rw [jv_u_at, if_pos ⟨rfl, rfl⟩]
      · rw [crA_8, if_neg (by omega)]; exact (he 10 j (by omega)).trans (hX.st hj)
    refine ok_X7_reopenAskedBy ?_
    refine w_reopen hV hp (α 0 1) 0 _ (by omega) hX0 (fun s E1 X1 t1 => ⟨_, rfl, ⟨_, rfl, h s ((eS.u (by unfold wS; omega)).tr E1) X1 ?_⟩⟩)
    rw [t1, he 3 12 (by omega)]; exact i0a _
  · rw [if_neg (of_decide_eq_false c)] at h
    exact ⟨_, rfl, h σ eS.rf hX (i0a _)⟩
theorem w_crossM (hV : rV α) {post : jPo} {p : Nat} (hp : p < α 0 0) : ∀ (n i : Nat) (σ : jSt), i + n = α 0 1 → rM (crA α p i) σ → (∀ σ', eS vS σ σ' → rM (crA α p (α 0 1)) σ' → σ'.1 34 6 = σ.1 34 6 → post (some (.int (iI (cnN (crH α p) (α 0 1) : Nat)))) σ') →
    jv_wp (d + 1) post (115, 29, [some (.ref 34), some (.int (iI p)), some (.int (iI (cnN (crH α p) i : Nat))), some (.int (iI i))], [], σ) := by
  have h5 := hV.M
  have h6 := hV.P
  intro n
  induction n with
  | zero =>
    intro i σ hi hM h
    have eM : σ.1 34 4 = iI ((α 0 1 : Nat) : Int) := hM.M
    refine ok_X9_cross_L29 ⟨fun _ => ?_, fun c => absurd ?_ c⟩
    · have := h σ eS.rf (by rw [show α 0 1 = i by omega]; exact hM) rfl
      rwa [show α 0 1 = i by omega] at this
    · rw [eM, iI_le ⟨by omega, by omega⟩ ⟨by omega, by omega⟩]; omega
  | succ n ih =>
    intro i σ hi hM h
    have eM : σ.1 34 4 = iI ((α 0 1 : Nat) : Int) := hM.M
    have him : i < α 0 1 := by omega
    have ham := (hV.m him).1
    have e7 : σ.1 40 i = iI ((α 5 i : Nat) : Int) := hM.ak him
    have e8 : crA α p i 8 i = α 8 i := by rw [crA_8, if_neg (by omega)]
    have e43 : σ.1 43 i = iI ((stN (α 8 i) : Nat) : Int) := by rw [← e8]; exact hM.st him
    have hs := stN_lt (α 8 i)
    have hc : (iI (i : Int)).toNatClampNeg = i := iI_clamp (by omega)
    have hin : vp_in (iI (i : Int)) 5 := (iI_in (by omega) 5).mpr (by omega)
    refine ok_X9_cross_L29 ⟨fun c => absurd c ?_, fun _ => ⟨hin, ?_⟩⟩
    · rw [eM, iI_le ⟨by omega, by omega⟩ ⟨by omega, by omega⟩]; omega
    dsimp only
    rw [hc, e7, e43, iI_add, iI_add, iI_eq ⟨by omega, by omega⟩ ⟨by omega, by omega⟩, iI_eq ⟨by omega, by omega⟩ ⟨by omega, by omega⟩, show (i : Int) + 1 = ((i + 1 : Nat) : Int) by omega, show ((cnN (crH α p) i : Nat) : Int) + 1 = ((cnN (crH α p) i + 1 : Nat) : Int) by omega]
    have no : ¬ crH α p i = true → jv_wp (d + 1) post (115, 29, [some (.ref 34), some (.int (iI p)), some (.int (iI (cnN (crH α p) i : Nat))), some (.int (iI ((i + 1 : Nat) : Int)))], [], σ) := by
      intro g
      have := ih (i + 1) σ (by omega) (by rw [crA_x g]; exact hM) h
      unfold cnN at this
      rw [if_neg g] at this
      exact this
    refine ⟨fun c => no (fun g => ?_), fun c => ⟨hin, fun c2 => no (fun g => ?_), fun c2 => ⟨hin, ?_⟩⟩⟩
    · unfold crH at g; simp at g; omega
    · unfold crH at g; simp at g; omega
    · have g : crH α p i = true := by unfold crH; simp; omega
      have hM1 : rM (crA α p (i + 1)) (jv_u σ 43 i (iI 0)) := by
        rw [crA_y g]
        refine rM_u8 hM (fun c k e1 e2 e3 => ?_) (fun j hj => ?_) (fun j hj q => ?_)
        · rw [jv_u_at, if_neg (by omega)]
        · unfold aU
          by_cases e : j = i
          · rw [jv_u_at, if_pos ⟨rfl, e⟩, if_pos e]; rfl
          · rw [jv_u_at, if_neg (by omega), if_neg e]; exact hM.st hj
        · unfold aU at q ⊢
          by_cases e : j = i
          · rw [if_pos e] at q; omega
          · rw [if_neg e] at q ⊢
            rw [jv_u_at, if_neg (by omega)]; exact hM.on hj q
      have := ih (i + 1) (jv_u σ 43 i (iI 0)) (by omega) hM1 (fun s E1 X1 t1 => h s ((eS.u (by unfold vS; omega)).tr E1) X1 (t1.trans (by rw [jv_u_at, if_neg (by omega)])))
      unfold cnN at this
      rw [if_pos g] at this
      exact this
theorem q_crossM (hV : rV α) (hM : rM α σ) {z : Int} (hz : iR z) (h : ∀ σ', eS vS σ σ' → rM (crossO α z).1 σ' → σ'.1 34 6 = σ.1 34 6 + iI (crossO α z).2.2 → k (iI (crossO α z).2.1) σ') : jq_I (d + 3) 115 [.ref 34, .int (iI z)] σ k := by
  have h6 := hV.P
  refine ok_X9_cross (q_isPerson hV hM hz ?_)
  dsimp only
  rw [jb_0]
  unfold crossO at h
  refine ⟨fun c => ?_, fun c => ?_⟩
  · have c := of_decide_eq_true (show decide (0 ≤ z ∧ z < α 0 0) = true by simpa using c)
    rw [if_pos c] at h
    obtain ⟨p, rfl⟩ : ∃ p : Nat, z = (p : Int) := ⟨z.toNat, by omega⟩
    have hp : p < α 0 0 := by omega
    have h3 := (hV.p hp).2.2.1
    have hc : (iI (p : Int)).toNatClampNeg = p := iI_clamp (by omega)
    have hin : vp_in (iI (p : Int)) 6 := (iI_in (by omega) 6).mpr (by omega)
    rw [show ((p : Int)).toNat = p by omega] at h
    refine ⟨hin, hin, ?_⟩
    rw [hc, hM.bk hp, iI_sub, show (1 : Int) - ((α 3 p : Nat) : Int) = ((1 - α 3 p : Nat) : Int) by omega]
    have he : ∀ c k, ¬ (c = 38 ∧ k = p) → (jv_u σ 38 p (iI ((1 - α 3 p : Nat) : Int))).1 c k = σ.1 c k := fun c k e => by rw [jv_u_at, if_neg e]
    have hM0 : rM (crA α p 0) (jv_u σ 38 p (iI ((1 - α 3 p : Nat) : Int))) := by
      refine ⟨(he 34 3 (by omega)).trans hM.P, (he 34 4 (by omega)).trans hM.M, (he 34 5 (by omega)).trans hM.td, (he 34 24 (by omega)).trans hM.sz, fun j hj => ⟨(he 36 j (by omega)).trans (hM.kd hj), (he 37 j (by omega)).trans (hM.bn hj), ?_, (he 39 j (by omega)).trans (hM.me hj)⟩, fun j hj => ⟨(he 40 j (by omega)).trans (hM.ak hj), (he 41 j (by omega)).trans (hM.aw hj), (he 42 j (by omega)).trans (hM.wo hj), ?_, ?_⟩, fun i hi => ⟨(he 48 _ (by omega)).trans (hM.see hi).1, (he 48 _ (by omega)).trans (hM.see hi).2.1, (he 48 _ (by omega)).trans (hM.see hi).2.2⟩⟩
      · rw [crA_3]
        by_cases e : j = p
        · rw [jv_u_at, if_pos ⟨rfl, e⟩, if_pos e]
        · rw [he 38 j (by omega), if_neg e]; exact hM.bk hj
      · rw [crA_8, if_neg (by omega)]; exact (he 43 j (by omega)).trans (hM.st hj)
      · rw [crA_8, if_neg (by omega)]; exact fun g => (he 44 j (by omega)).trans (hM.on hj g)
    refine w_crossM hV hp (α 0 1) 0 _ (by omega) hM0 (fun s E1 X1 t1 => ⟨_, rfl, h s ((eS.u (by unfold vS; omega)).tr E1) X1 ?_⟩)
    rw [t1, he 34 6 (by omega)]; exact i0a _
  · rw [if_neg (of_decide_eq_false c)] at h
    exact ⟨_, rfl, h σ eS.rf hM (i0a _)⟩
end Do
