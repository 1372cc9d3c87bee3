/-! best: the search goes through all rows -/
section Sr
variable {α : rA} {d : Nat}
theorem bit_e {t : jSt} {c k : Nat} {x : Int32} : (jv_u t c k x).1 c k = x := by rw [jv_u_at, if_pos ⟨rfl, rfl⟩]
theorem bit_o {t : jSt} {c k c' k' : Nat} {x : Int32} (h : ¬ (c' = c ∧ k' = k)) : (jv_u t c k x).1 c' k' = t.1 c' k' := by rw [jv_u_at, if_neg h]
set_option maxHeartbeats 1000000 in
theorem q_search (hV : rV α) {D : Nat} (hD : D ≤ 5) : ∀ (n i : Nat) (a : Nat → Nat) (w s pre : Nat) (b : Int × Nat) (σ : jSt) (K : jSt → Prop), i + n = D → sC α D i pre a σ → (∀ m, m < α 0 1 → a m ≤ α 0 2 + i + 2) → w ≤ 9 * i → s ≤ i → bR b D σ →
    (∀ σ', eS plS σ σ' → (∀ m, m < α 0 1 → σ'.1 31 m = σ.1 31 m) → (∀ j, j < i → σ'.1 29 j = σ.1 29 j) → bR (bsD α n i a (100 * w + 10 * s) pre b) D σ' → K σ') → jq_V (d + n + 3) 25 [.ref 27, .ref 3, .int (iI i), .int (iI w), .int (iI s)] σ K := by
  have h5 := hV.M
  have htd := hV.td
  intro n
  induction n with
  | zero =>
    intro i a w s pre b σ K hi hC ha hw hs hb h
    have e : i = D := by omega
    subst e
    refine ok_X4_search ⟨fun c => absurd c ?_, fun _ => q_keepIf hV hD hC (fun m hm => by have := ha m hm; omega) (by omega) (by omega) hb (fun σ' hE hb' => ⟨rfl, h σ' (hE.wk kpS_pl) (fun m _ => hE.2 _ _ (by unfold kpS; omega)) (fun j _ => hE.2 _ _ (by unfold kpS; omega)) hb'⟩)⟩
    rw [hC.2.1, iI_lt ⟨by omega, by omega⟩ ⟨by omega, by omega⟩]; omega
  | succ n ih =>
    intro i a w s pre b σ K hi hC ha hw hs hb h
    show jq_V ((d + n + 3) + 1) 25 _ σ K
    have hci : (iI (i : Int)).toNatClampNeg = i := iI_clamp (by omega)
    have hini : vp_in (iI (i : Int)) 5 := (iI_in (by omega) 5).mpr (by omega)
    rw [bsD_s h5] at h
    generalize hG : (fun m (b : Int × Nat) => if m < α 0 1 ∧ cbs α m (a m) (α 0 2 + i) = true then bsD α n (i + 1) (nxA m a (α 0 2 + i)) (100 * w + 10 * s + nxV α m a (α 0 2 + i)) (8 * pre + m) b else b) = G at h
    have hGm : ∀ m b, G m b = if m < α 0 1 ∧ cbs α m (a m) (α 0 2 + i) = true then bsD α n (i + 1) (nxA m a (α 0 2 + i)) (100 * w + 10 * s + nxV α m a (α 0 2 + i)) (8 * pre + m) b else b := fun m b => by rw [← hG]
    have loop : ∀ (q m : Nat) (z7 : Option Value) (t : jSt), m + q = α 0 1 → eS plS σ t → sC α D i pre a t → bR (itN G m b) D t → jv_wp ((d + n + 3) + 1) (fun r σ' => r = none ∧ K σ') (25, 28, [some (.ref 27), some (.ref 3), some (.int (iI i)), some (.int (iI w)), some (.int (iI s)), some (.int (iI ((α 0 2 + i : Nat) : Int))), some (.int (iI m)), z7], [], t) := by
      intro q
      induction q with
      | zero =>
        intro m z7 t hm hE hCt hbt
        have e : m = α 0 1 := by omega
        refine ok_X4_search_L28 ⟨fun _ => ⟨hini, ?_⟩, fun c => absurd ?_ c⟩
        · rw [hci, iI_add, show (i : Int) + 1 = ((i + 1 : Nat) : Int) by omega]
          refine ih (i + 1) a w s (8 * pre + 7) (itN G m b) _ _ (by omega) (hCt.nx (x := 0) (by omega) _ a (fun j => ?_) (fun j hj => ?_) (fun c k h1 h2 => bit_o (by omega))) (fun m hm => by have := ha m hm; omega) (by omega) (by omega) (hbt.mv (fun k => bit_o (by omega)) (fun k => bit_o (by omega))) (fun σ' hE' e31 e29 hb' => ⟨rfl, h σ' ((hE.tr (eS.u (by unfold plS; omega))).tr hE') (fun j hj => ?_) (fun j hj => ?_) ?_⟩)
          · rw [jv_u_at]
            by_cases c : j = i
            · rw [if_pos ⟨rfl, c⟩, if_pos c]; rfl
            · rw [if_neg (by omega), if_neg c]
          · rw [bit_o (by omega)]; exact hCt.2.2.2.1 j hj
          · rw [e31 j hj, bit_o (by omega), hCt.2.2.2.1 j hj, hC.2.2.2.1 j hj]
          · rw [e29 j (by omega), bit_o (by omega), hCt.2.2.2.2 j hj, hC.2.2.2.2 j hj]
          · rw [e] at hb'; exact hb'
        · rw [hCt.1.M, iI_le ⟨by omega, by omega⟩ ⟨by omega, by omega⟩]; omega
      | succ q ihq =>
        intro m z7 t hm hE hCt hbt
        have hcm : (iI (m : Int)).toNatClampNeg = m := iI_clamp (by omega)
        have hinm : vp_in (iI (m : Int)) 5 := (iI_in (by omega) 5).mpr (by omega)
        have ham := ha m (by omega)
        refine ok_X4_search_L28 ⟨fun c => absurd c ?_, fun _ => ⟨hinm, ?_⟩⟩
        · rw [hCt.1.M, iI_le ⟨by omega, by omega⟩ ⟨by omega, by omega⟩]; omega
        rw [hcm, hci, hCt.2.2.2.1 m (by omega), hCt.2.2.1 i (by omega)]
        dsimp only
        refine ⟨hini, q_canBeSaid hV hCt.1 (by omega) (by omega) (by omega) ?_⟩
        rw [jb_0]
        simp only [iI_add, show (i : Int) + 1 = ((i + 1 : Nat) : Int) by omega, show (m : Int) + 1 = ((m + 1 : Nat) : Int) by omega, show (s : Int) + 1 = ((s + 1 : Nat) : Int) by omega]
        have stepb : itN G (m + 1) b = G m (itN G m b) := rfl
        rw [hGm] at stepb
        -- what is put back behind a figure
        have back : ∀ (t1 σ' : jSt) (a' : Nat → Nat) (v : Nat), cbs α m (a m) (α 0 2 + i) = true → a' = nxA m a (α 0 2 + i) → v = 100 * w + 10 * s + nxV α m a (α 0 2 + i) → (∀ c k, ¬ (c = 29 ∧ k = i) → ¬ (c = 31 ∧ k = m) → t1.1 c k = t.1 c k) → t1.2 = t.2 → eS plS t1 σ' → (∀ j, j < α 0 1 → σ'.1 31 j = t1.1 31 j) → (∀ j, j < i + 1 → σ'.1 29 j = t1.1 29 j) → bR (bsD α n (i + 1) a' v (8 * pre + m) (itN G m b)) D σ' → ∀ z7, jv_wp ((d + n + 3) + 1) (fun r σ' => r = none ∧ K σ') (25, 28, [some (.ref 27), some (.ref 3), some (.int (iI i)), some (.int (iI w)), some (.int (iI s)), some (.int (iI ((α 0 2 + i : Nat) : Int))), some (.int (iI ((m + 1 : Nat) : Int))), z7], [], jv_u σ' 31 m (iI (zA (a m)))) := by
          intro t1 σ' a' v cb ea ev k1 k2 hE' e31 e29 hb' z7
          subst ea ev
          rw [if_pos ⟨by omega, cb⟩] at stepb
          have hEt : eS plS t (jv_u σ' 31 m (iI (zA (a m)))) := by
            refine ⟨?_, fun c k hn => ?_⟩
            · rw [jv_u_2, hE'.1, k2]
            · unfold plS at hn
              rw [bit_o (by omega), hE'.2 c k (by unfold plS; omega), k1 c k (by omega) (by omega)]
          refine ihq (m + 1) z7 _ (by omega) (hE.tr hEt) (hCt.mv hEt (fun j hj => ?_) (fun j hj => ?_)) ?_
          · by_cases c : j = m
            · subst c; rw [bit_e]; exact (hCt.2.2.2.1 j hj).symm
            · rw [bit_o (by omega), e31 j hj, k1 _ _ (by omega) (by omega)]
          · rw [bit_o (by omega), e29 j (by omega), k1 _ _ (by omega) (by omega)]
          · rw [stepb]
            exact hb'.mv (fun k => bit_o (by omega)) (fun k => bit_o (by omega))
        refine ⟨fun c => ⟨hini, ?_⟩, fun c => ?_⟩
        · have cb : cbs α m (a m) (α 0 2 + i) = true := by simpa using c
          have a1 : a m ≠ 1 := fun e => by rw [e] at cb; simp [cbs] at cb
          rw [iI_eq (zA_R (by omega)) ⟨by omega, by omega⟩, zA_0]
          refine ⟨fun c0 => ⟨hinm, ?_⟩, fun c0 => ⟨hinm, ?_⟩⟩
          · have hX7 : rX 3 α (jv_u (jv_u t 29 i (iI m)) 31 m (iI (-2))) := hCt.1.pl (fun c k hc => by rw [bit_o (by omega), bit_o (by omega)])
            have hsf := sfo_le hV (a := a m) (dy := α 0 2 + i) (show m < α 0 1 by omega)
            refine q_settledFor hV hX7 (by omega) (by omega) (by omega) (by omega) ?_
            rw [iI_add, show (w : Int) + ((sfo α m (a m) (α 0 2 + i) : Nat) : Int) = ((w + sfo α m (a m) (α 0 2 + i) : Nat) : Int) by omega]
            refine ih (i + 1) (nxA m a (α 0 2 + i)) (w + sfo α m (a m) (α 0 2 + i)) (s + 1) (8 * pre + m) (itN G m b) _ _ (by omega) (hCt.nx (x := 0) (by omega) _ _ (fun j => ?_) (fun j hj => ?_) (fun c k h1 h2 => by rw [bit_o (by omega), bit_o (by omega)])) (fun j hj => ?_) (by omega) (by omega) (hbt.mv (fun k => by rw [bit_o (by omega), bit_o (by omega)]) (fun k => by rw [bit_o (by omega), bit_o (by omega)])) (fun σ' hE' e31 e29 hb' => ⟨hinm, back (jv_u (jv_u t 29 i (iI m)) 31 m (iI (-2))) σ' _ _ cb rfl ?_ (fun c k g1 g2 => by rw [bit_o g2, bit_o g1]) rfl hE' e31 e29 hb' _⟩)
            · rw [bit_o (by omega), jv_u_at]
              by_cases c : j = i
              · rw [if_pos ⟨rfl, c⟩, if_pos c]
              · rw [if_neg (by omega), if_neg c]
            · unfold nxA aU
              rw [if_neg c0]
              by_cases c : j = m
              · subst c; rw [bit_e, if_pos rfl]; rfl
              · rw [bit_o (by omega), bit_o (by omega), if_neg c]; exact hCt.2.2.2.1 j hj
            · unfold nxA aU
              have := ha j hj
              rw [if_neg c0]; split <;> omega
            · unfold nxV; rw [if_neg c0]; omega
          · refine ih (i + 1) (nxA m a (α 0 2 + i)) w s (8 * pre + m) (itN G m b) _ _ (by omega) (hCt.nx (x := 0) (by omega) _ _ (fun j => ?_) (fun j hj => ?_) (fun c k h1 h2 => by rw [bit_o (by omega), bit_o (by omega)])) (fun j hj => ?_) (by omega) (by omega) (hbt.mv (fun k => by rw [bit_o (by omega), bit_o (by omega)]) (fun k => by rw [bit_o (by omega), bit_o (by omega)])) (fun σ' hE' e31 e29 hb' => ⟨hinm, back (jv_u (jv_u t 29 i (iI m)) 31 m (iI ((α 0 2 + i : Nat) : Int))) σ' _ _ cb rfl ?_ (fun c k g1 g2 => by rw [bit_o g2, bit_o g1]) rfl hE' e31 e29 hb' _⟩)
            · rw [bit_o (by omega), jv_u_at]
              by_cases c : j = i
              · rw [if_pos ⟨rfl, c⟩, if_pos c]
              · rw [if_neg (by omega), if_neg c]
            · unfold nxA aU
              rw [if_pos c0]
              by_cases c : j = m
              · subst c; rw [bit_e, if_pos rfl, zA_2 (by omega)]; exact congrArg iI (by omega)
              · rw [bit_o (by omega), bit_o (by omega), if_neg c]; exact hCt.2.2.2.1 j hj
            · unfold nxA aU
              have := ha j hj
              rw [if_pos c0]; split <;> omega
            · unfold nxV; rw [if_pos c0]; rfl
        · rw [if_neg (fun q => by rw [c] at q; exact absurd q.2 (by decide))] at stepb
          exact ihq (m + 1) _ t (by omega) hE hCt (by rw [stepb]; exact hbt)
    refine ok_X4_search ⟨fun _ => ?_, fun c => absurd ?_ c⟩
    · rw [hC.1.td, iI_add, show ((α 0 2 : Nat) : Int) + (i : Int) = ((α 0 2 + i : Nat) : Int) by omega]
      exact loop (α 0 1) 0 none σ (by omega) eS.rf hC hb
    · rw [hC.2.1, iI_lt ⟨by omega, by omega⟩ ⟨by omega, by omega⟩]; omega
end Sr
