/-! best: the reference -/
def bmS (c k : Nat) : Prop := mS c k ∨ c = 34 ∧ k = 22
section Bm
variable {α : rA} {σ : jSt} {d : Nat} {k : Int32 → jSt → Prop}
theorem p8_5 {D : Nat} (h : D ≤ 5) : 8 ^ D ≤ 32768 := Nat.le_trans (Nat.pow_le_pow_right (by omega) h) (by decide)
theorem q_figure {row D j : Nat} (hD : D ≤ 5) (hj : j < D) (hr : row < 2147483648) (h : k (iI ((row / 8 ^ (D - 1 - j) % 8 : Nat) : Int)) σ) : jq_I (d + 1) 118 [.int (iI row), .int (iI D), .int (iI j)] σ k := by
  refine ok_X9_figure ⟨_, rfl, ?_⟩
  have e : iI 3 * (iI (D : Int) - iI 1 - iI (j : Int)) = iI ((3 * (D - 1 - j) : Nat) : Int) := by
    rw [iI_sub, iI_sub, iI_mul]; exact congrArg iI (by omega)
  rw [e, iI_shr hr (by omega), show (iI 7 : Int32) = iI ((7 : Nat) : Int) from rfl, iI_and, show (7 : Nat) = 2 ^ 3 - 1 from rfl, Nat.and_two_pow_sub_one_eq_mod, Nat.pow_mul]
  exact h
theorem w_cntA (hV : rV α) (hM : rM α σ) {post : jPo} {a : Nat → Nat} (hT : rT a (α 0 1) σ) {x1 x2 : Int32} {v : Nat} {z5 z6 : Option Value} (h : post (some (.int (iI ((v + cnA α a : Nat) : Int)))) σ) :
    ∀ (n i : Nat), i + n = α 0 1 → jv_wp (d + 1) post (119, 110, [some (.ref 34), some (.int x1), some (.int x2), some (.int (iI ((v + cnN (fun m => decide (2 ≤ a m)) i : Nat) : Int))), some (.int (iI i)), z5, z6], [], σ) := by
  have h5 := hV.M
  intro n
  induction n with
  | zero =>
    intro i hi
    refine ok_X9_worthBy_L110 ⟨fun _ => ?_, fun c => absurd ?_ c⟩
    · unfold cnA at h; rwa [show α 0 1 = i by omega] at h
    · rw [hM.M, iI_le ⟨by omega, by omega⟩ ⟨by omega, by omega⟩]; omega
  | succ n ih =>
    intro i hi
    have hc : (iI (i : Int)).toNatClampNeg = i := iI_clamp (by omega)
    have hin : vp_in (iI (i : Int)) 5 := (iI_in (by omega) 5).mpr (by omega)
    have hs := stN_lt (a i)
    refine ok_X9_worthBy_L110 ⟨fun c => absurd c ?_, fun _ => ⟨hin, ?_⟩⟩
    · rw [hM.M, iI_le ⟨by omega, by omega⟩ ⟨by omega, by omega⟩]; omega
    · have ih := ih (i + 1) (by omega)
      unfold cnN at ih
      rw [hc, (hT i (by omega)).1, iI_eq ⟨by omega, by omega⟩ ⟨by omega, by omega⟩, iI_add, iI_add, iI_add, show (i : Int) + 1 = ((i + 1 : Nat) : Int) by omega]
      refine ⟨fun c => ?_, fun c => ?_⟩
      · have c' : ¬ 2 ≤ a i := fun e => c (by rw [stN_1.mpr e]; rfl)
        rw [if_neg (by simpa using c')] at ih
        rw [Int.add_zero]; exact ih
      · have c' : 2 ≤ a i := stN_1.mp (by omega)
        rw [if_pos (by simpa using c')] at ih
        exact ih
theorem w_worthBy (hV : rV α) {post : jPo} {D row : Nat} (hD : D ≤ 5) (hr : row < 2147483648) : ∀ (n i : Nat) (a : Nat → Nat) (v : Nat) (z5 z6 : Option Value) (t : jSt), i + n = D → rM α t → rT a (α 0 1) t → (∀ m, m < α 0 1 → a m ≤ α 0 2 + i + 2) → (∀ σ', eS dtS t σ' → post (some (.int (iI (wbV α n i a v row)))) σ') →
    jv_wp (d + 5) post (119, 9, [some (.ref 34), some (.int (iI row)), some (.int (iI D)), some (.int (iI (v : Nat))), some (.int (iI i)), z5, z6], [], t) := by
  have h5 := hV.M
  have htd := hV.td
  intro n
  induction n with
  | zero =>
    intro i a v z5 z6 t hi hM hT ha h
    refine ok_X9_worthBy_L9 ⟨fun _ => ?_, fun c => absurd ?_ c⟩
    · exact w_cntA (d := d + 4) hV hM hT (h t eS.rf) (α 0 1) 0 (by omega)
    · rw [iI_le ⟨by omega, by omega⟩ ⟨by omega, by omega⟩]; omega
  | succ n ih =>
    intro i a v z5 z6 t hi hM hT ha h
    refine ok_X9_worthBy_L9 ⟨fun c => absurd c ?_, fun _ => q_figure hD (by omega) hr ?_⟩
    · rw [iI_le ⟨by omega, by omega⟩ ⟨by omega, by omega⟩]; omega
    · rw [wbV] at h
      rw [show D - 1 - i = n by omega]
      generalize hf : row / 8 ^ n % 8 = f at h ⊢
      have hf8 : f < 8 := by omega
      rw [iI_le ⟨by omega, by omega⟩ ⟨by omega, by omega⟩, hM.M, iI_le ⟨by omega, by omega⟩ ⟨by omega, by omega⟩, hM.td]
      simp only [iI_add, show (i : Int) + 1 = ((i + 1 : Nat) : Int) by omega, show ((α 0 2 : Nat) : Int) + (i : Int) = ((α 0 2 + i : Nat) : Int) by omega]
      refine ⟨fun c => ⟨fun _ => ?_, fun c2 => absurd c c2⟩, fun c => ⟨fun c2 => ?_, fun c2 => ?_⟩⟩
      · rw [if_pos (by omega)] at h
        exact ih (i + 1) a v _ _ t (by omega) hM hT (fun m hm => by have := ha m hm; omega) h
      · rw [if_neg (by omega), if_neg (by omega)] at h
        exact h t eS.rf
      · have hm : f < α 0 1 := by omega
        have haf := ha f hm
        refine q_canThen hV hM hT hm (by omega) (by omega) (fun s1 hE1 => ?_)
        have hM1 := hM.mv (hE1.wk dS_m)
        have hT1 := hT.mv hE1
        rw [jb_0]
        refine ⟨fun c3 => ⟨fun c4 => absurd c4 c, fun _ => ?_⟩, fun c3 => ?_⟩
        · have cb : cbs α f (a f) (α 0 2 + i) = true := by simpa using c3
          have a1 : a f ≠ 1 := fun e => by rw [e] at cb; simp [cbs] at cb
          rw [if_neg (by omega), if_pos ⟨hm, cb⟩] at h
          rw [hM1.td, iI_add, show ((α 0 2 : Nat) : Int) + (i : Int) = ((α 0 2 + i : Nat) : Int) by omega]
          refine q_sayThen hV hM1 hT1 hm a1 (by omega) (by omega) (fun h0 s2 hE2 hT2 => ?_) (fun h2 s2 hE2 hT2 => ?_)
          · refine ⟨fun c5 => absurd rfl c5, fun _ => ?_⟩
            unfold nxA nxV at h
            rw [if_pos h0, if_pos h0] at h
            rw [Int.add_zero]
            exact ih (i + 1) _ v _ _ s2 (by omega) (hM1.mv (hE2.wk tS_m)) hT2 (fun m hm => by have := ha m hm; unfold aU; split <;> omega) (fun σ' hE => h σ' (((hE1.wk dS_dt).tr (hE2.wk tS_dt)).tr hE))
          · have hsf := sfo_le hV (a := a f) (dy := α 0 2 + i) hm
            rw [iI_eq ⟨by omega, by omega⟩ ⟨by omega, by omega⟩, iI_mul, iI_add, iI_add]
            refine ⟨fun _ => ?_, fun c5 => absurd c5 (by omega)⟩
            unfold nxA nxV at h
            rw [if_neg (by omega), if_neg (by omega)] at h
            rw [show (v : Int) + (100 * ((sfo α f (a f) (α 0 2 + i) : Nat) : Int) + 10) = ((v + (100 * sfo α f (a f) (α 0 2 + i) + 10) : Nat) : Int) by omega]
            exact ih (i + 1) _ _ _ _ s2 (by omega) (hM1.mv (hE2.wk tS_m)) hT2 (fun m hm => by have := ha m hm; unfold aU; split <;> omega) (fun σ' hE => h σ' (((hE1.wk dS_dt).tr (hE2.wk tS_dt)).tr hE))
        · rw [if_neg (by omega), if_neg (fun q => by rw [c3] at q; exact absurd q.2 (by decide))] at h
          exact h s1 (hE1.wk dS_dt)
theorem q_worthBy (hV : rV α) (hM : rM α σ) {D row : Nat} (hD : D ≤ 5) (hr : row < 2147483648) (h : ∀ σ', eS dtS σ σ' → k (iI (wbV α D 0 (α 8) 0 row)) σ') : jq_I (d + 5) 119 [.ref 34, .int (iI row), .int (iI D)] σ k :=
  ok_X9_worthBy (q_begin hV hM (fun s1 hE1 hT1 => w_worthBy hV hD hr D 0 (α 8) 0 none none s1 (by omega) (hM.mv (hE1.wk tS_m)) hT1 (fun m hm => (hV.m hm).2.2.2.2) (fun σ' hE => ⟨_, rfl, h σ' ((hE1.wk tS_dt).tr hE)⟩)))
theorem w_bestOf (hV : rV α) {post : jPo} {D : Nat} (hD1 : 1 ≤ D) (hD : D ≤ 5) {w : Int} (hw : 0 ≤ w ∧ w ≤ 1 ∨ 10 ≤ w ∧ w ≤ 14) (h : ∀ σ', eS dtS σ σ' → post (some (.int (iI (tBe α D w)))) σ') : ∀ (n r : Nat) (z6 : Option Value) (t : jSt), r + n = 8 ^ D → rM α t → eS dtS σ t →
    jv_wp (d + 6) post (120, 8, [some (.ref 34), some (.int (iI D)), some (.int (iI w)), some (.int (iI ((fdN (wbV α D 0 (α 8) 0) 0 r (-1, 0)).2 : Nat))), some (.int (iI (fdN (wbV α D 0 (α 8) 0) 0 r (-1, 0)).1)), some (.int (iI r)), z6], [], t) := by
  have hp := p8_5 hD
  have hp0 : 0 < 8 ^ D := Nat.pow_pos (by omega)
  have e1 : iI 1 <<< ((iI 3 * iI ((D : Nat) : Int)) &&& 31) = iI ((8 ^ D : Nat) : Int) := by
    rw [iI_mul, show (3 : Int) * (D : Int) = ((3 * D : Nat) : Int) by omega, show (iI 1 : Int32) = iI ((1 : Nat) : Int) from rfl, iI_shl (by omega) (by rw [Nat.pow_mul, show (2 : Nat) ^ 3 = 8 from rfl]; omega), Nat.one_mul, Nat.pow_mul]
  have bnd : ∀ r, -1 ≤ (fdN (wbV α D 0 (α 8) 0) 0 r (-1, 0)).1 ∧ (fdN (wbV α D 0 (α 8) 0) 0 r (-1, 0)).1 ≤ 5000 := fun r =>
    ⟨fdN_ge _ _ r (-1, 0), fdN_in (fun r => by have := (wbV_in hV D 0 (α 8) 0 r).2; omega) r (-1, 0) (by decide)⟩
  intro n
  induction n with
  | zero =>
    intro r z6 t hr hM hE
    have e : r = 8 ^ D := by omega
    have eB : fdN (wbV α D 0 (α 8) 0) 0 r (-1, 0) = bB α D := by
      have := fd_bs (α := α) D 0 (α 8) 0 0 (-1, 0) (by decide)
      rw [Nat.zero_mul, ← e] at this
      exact this
    have hb := bnd r
    have hb2 : (fdN (wbV α D 0 (α 8) 0) 0 r (-1, 0)).2 < 8 ^ D := fdN_r r (-1, 0) (by omega) hp0
    have hnn : 0 ≤ (bB α D).1 := bsD_nn D 0 (α 8) 0 0 (-1, 0)
    rw [eB] at hb hb2 ⊢
    have fin := h t hE
    unfold tBe at fin
    obtain ⟨T, hT⟩ : ∃ T : Nat, (bB α D).1 = (T : Int) := ⟨(bB α D).1.toNat, by omega⟩
    rw [hT] at fin hb ⊢
    have d10 : iI (T : Int) / iI 10 = iI ((T / 10 : Nat) : Int) := iI_div (b := 10) (by omega) (by omega) (by omega)
    have d100 : iI (T : Int) / iI 100 = iI ((T / 100 : Nat) : Int) := iI_div (b := 100) (by omega) (by omega) (by omega)
    have m10 : iI ((T / 10 : Nat) : Int) - iI ((T / 10 : Nat) : Int) / iI 10 * iI 10 = iI ((T / 10 % 10 : Nat) : Int) := iI_rem (b := 10) (by omega) (by omega) (by omega)
    refine ok_X9_bestOf_L8 ⟨fun _ => ?_, fun c => absurd ?_ c⟩
    · rw [iI_le ⟨by omega, by omega⟩ ⟨by omega, by omega⟩, iI_sub, iI_le ⟨by omega, by omega⟩ ⟨by omega, by omega⟩, d10, d100, m10, iI_eq0 ⟨by omega, by omega⟩]
      refine ⟨fun c => ⟨fun c2 => ?_, fun c2 => ?_⟩, fun c => ⟨fun c2 => ?_, fun c2 => ?_⟩⟩
      · rwa [if_neg (by omega), if_neg (by omega), if_neg (by omega)] at fin
      · obtain ⟨j, hj⟩ : ∃ j : Nat, w - 10 = (j : Int) := ⟨(w - 10).toNat, by omega⟩
        rw [if_neg (by omega), if_neg (by omega), if_pos (by omega), hj, show ((j : Int)).toNat = j by omega] at fin
        rw [hj]
        exact q_figure hD (by omega) (by omega) fin
      · rw [if_neg (by omega), if_pos (by omega)] at fin
        rwa [show ((T : Int) / 10 % 10) = ((T / 10 % 10 : Nat) : Int) by omega] at fin
      · rw [if_pos c2] at fin
        rwa [show ((T : Int) / 100) = ((T / 100 : Nat) : Int) by omega] at fin
    · rw [e1, iI_le ⟨by omega, by omega⟩ ⟨by omega, by omega⟩]; omega
  | succ n ih =>
    intro r z6 t hr hM hE
    have hb := bnd r
    have hwb := wbV_in hV D 0 (α 8) 0 r
    refine ok_X9_bestOf_L8 ⟨fun c => absurd c ?_, fun _ => q_worthBy hV hM hD (by omega) (fun s1 hE1 => ?_)⟩
    · rw [e1, iI_le ⟨by omega, by omega⟩ ⟨by omega, by omega⟩]; omega
    · have hM1 := hM.mv (hE1.wk dtS_m)
      have ih := fun z6 => ih (r + 1) z6 s1 (by omega) hM1 (hE.tr hE1)
      unfold fdN upB at ih
      rw [Nat.zero_add] at ih
      rw [iI_le ⟨by omega, by omega⟩ ⟨by omega, by omega⟩, iI_add, show (r : Int) + 1 = ((r + 1 : Nat) : Int) by omega]
      refine ⟨fun c => ⟨fun _ => ?_, fun c2 => absurd c c2⟩, fun c => ⟨fun c2 => absurd c2 c, fun _ => ?_⟩⟩
      · rw [if_neg (by omega)] at ih; exact ih _
      · rw [if_pos (by omega)] at ih; exact ih _
theorem q_bestM (hV : rV α) (hM : rM α σ) {n w : Int} (hn : iR n) (hw : iR w) {pl : Nat} (hp : pl ≤ 20) (h22 : σ.1 34 22 = iI (pl : Nat)) (h : ∀ σ', eS bmS σ σ' → σ'.1 34 22 = iI ((aBe α pl n w).2 : Nat) → k (iI (aBe α pl n w).1) σ') : jq_I (d + 7) 121 [.ref 34, .int (iI n), .int (iI w)] σ k := by
  unfold aBe at h
  have no : ¬ (1 ≤ n ∧ n ≤ 5 ∧ (0 ≤ w ∧ w ≤ 1 ∨ 10 ≤ w ∧ w ≤ 14)) → k (iI (-102)) σ := fun q => by rw [if_neg q] at h; exact h σ eS.rf h22
  have body : 1 ≤ n ∧ n ≤ 5 ∧ (0 ≤ w ∧ w ≤ 1 ∨ 10 ≤ w ∧ w ≤ 14) → jq_I (d + 6) 89 [.ref 34] σ (fun x6 s5 =>
      ((¬ x6 = 0 → ∃ x, some (Value.int (iI (-103))) = some (.int x) ∧ k x s5) ∧
      (x6 = 0 → ((¬ (s5.1 34 22) = (iI 20) → jq_I (d + 6) 120 [.ref 34, .int (iI n), .int (iI w)] (jv_u s5 34 22 ((s5.1 34 22) + (iI 1))) (fun x9 s8 => ∃ x, some (Value.int x9) = some (.int x) ∧ k x s8)) ∧
      ((s5.1 34 22) = (iI 20) → ∃ x, some (Value.int (iI (-103))) = some (.int x) ∧ k x s5))))) := by
    intro c
    rw [if_pos c] at h
    obtain ⟨D, rfl⟩ : ∃ D : Nat, n = (D : Int) := ⟨n.toNat, by omega⟩
    rw [show ((D : Int)).toNat = D by omega] at h
    refine q_lacks hV hM ?_
    rw [jb_0, h22, iI_eq ⟨by omega, by omega⟩ ⟨by omega, by omega⟩]
    refine ⟨fun c2 => ⟨_, rfl, ?_⟩, fun c2 => ⟨fun c3 => ?_, fun c3 => ⟨_, rfl, ?_⟩⟩⟩
    · have c2 : α 0 0 = 0 := by simp at c2; omega
      rw [if_pos (Or.inl c2)] at h; exact h σ eS.rf h22
    · have c2 := of_decide_eq_false c2
      rw [if_neg (by omega)] at h
      rw [iI_add, show ((pl : Nat) : Int) + 1 = ((pl + 1 : Nat) : Int) by omega]
      have hE0 : eS bmS σ (jv_u σ 34 22 (iI ((pl + 1 : Nat) : Int))) := eS.u (by unfold bmS; omega)
      have hM0 : rM α (jv_u σ 34 22 (iI ((pl + 1 : Nat) : Int))) := by
        obtain ⟨g1, g2, g3, g4, g5, g6, g7⟩ := hM
        refine ⟨(bit_o (by omega)).trans g1, (bit_o (by omega)).trans g2, (bit_o (by omega)).trans g3, (bit_o (by omega)).trans g4, fun p hp => ?_, fun m hm => ?_, fun i hi => ?_⟩
        · rw [bit_o (by omega), bit_o (by omega), bit_o (by omega), bit_o (by omega)]; exact g5 p hp
        · rw [bit_o (by omega), bit_o (by omega), bit_o (by omega), bit_o (by omega), bit_o (by omega)]; exact g6 m hm
        · rw [bit_o (by omega), bit_o (by omega), bit_o (by omega)]; exact g7 i hi
      have hp8 := p8_5 (D := D) (by omega)
      refine ok_X9_bestOf (w_bestOf hV (by omega) (by omega) c.2.2 (fun s hE => ⟨_, rfl, _, rfl, h s (hE0.tr (hE.wk (fun c k q => Or.inl (dtS_m c k q)))) ?_⟩) (8 ^ D) 0 none _ (by omega) hM0 eS.rf)
      rw [hE.2 34 22 (by unfold dtS dS tS; omega), bit_e]
    · rw [if_pos (Or.inr (by omega))] at h; exact h σ eS.rf h22
  refine ok_X9_best ?_
  unfold vc_X9_best
  rw [lI_i hn, lI_i hw]
  refine q_in (b := 1) (c := 5) hn ⟨by omega, by omega⟩ ⟨by omega, by omega⟩ ?_
  rw [jb_0]
  refine ⟨fun c => ⟨_, rfl, no (fun q => of_decide_eq_false c ⟨q.1, q.2.1⟩)⟩, fun c => ?_⟩
  have c := of_decide_eq_true (show decide (1 ≤ n ∧ n ≤ 5) = true by simpa using c)
  refine q_in (b := 0) (c := 1) hw ⟨by omega, by omega⟩ ⟨by omega, by omega⟩ ?_
  rw [jb_0]
  refine ⟨fun c2 => ?_, fun c2 => ?_⟩
  · have c2 := of_decide_eq_true (show decide (0 ≤ w ∧ w ≤ 1) = true by simpa using c2)
    exact body ⟨c.1, c.2, Or.inl c2⟩
  · have c2 := of_decide_eq_false c2
    refine q_in (b := 10) (c := 14) hw ⟨by omega, by omega⟩ ⟨by omega, by omega⟩ ?_
    rw [jb_0]
    refine ⟨fun c3 => ?_, fun c3 => ⟨_, rfl, no (fun q => ?_)⟩⟩
    · have c3 := of_decide_eq_true (show decide (10 ≤ w ∧ w ≤ 14) = true by simpa using c3)
      exact body ⟨c.1, c.2, Or.inr c3⟩
    · have c3 := of_decide_eq_false c3
      omega
end Bm
