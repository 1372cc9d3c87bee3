/-! best: the class -/
def pkS (c _k : Nat) : Prop := 27 ≤ c ∧ c ≤ 31
theorem plS_pk (c k : Nat) (h : plS c k) : pkS c k := by unfold plS at h; unfold pkS; omega
def aBe (α : rA) (pl : Nat) (n w : Int) : Int × Nat := if 1 ≤ n ∧ n ≤ 5 ∧ (0 ≤ w ∧ w ≤ 1 ∨ 10 ≤ w ∧ w ≤ 14) then (if α 0 0 = 0 ∨ 20 ≤ pl then (-103, pl) else (tBe α n.toNat w, pl + 1)) else (-102, pl)
def bcS (c k : Nat) : Prop := c = 0 ∧ k = 6 ∨ 27 ≤ c ∧ c ≤ 31
theorem rX.pw {α : rA} {σ σ' : jSt} (h : rX 3 α σ) (ek : ∀ c k, 3 ≤ c → c < 15 → σ'.1 c k = σ.1 c k) : rX 3 α σ' := by
  obtain ⟨h1, h2, h3, h4, h5, h6, h7, h8⟩ := h
  refine ⟨?_, ?_, ?_, ?_, ?_, fun p hp => ?_, fun m hm => ?_, fun i hi => ?_⟩
  · rw [ek _ _ (by omega) (by omega)]; exact h1
  · rw [ek _ _ (by omega) (by omega)]; exact h2
  · rw [ek _ _ (by omega) (by omega)]; exact h3
  · rw [ek _ _ (by omega) (by omega)]; exact h4
  · rw [ek _ _ (by omega) (by omega)]; exact h5
  · rw [ek _ _ (by omega) (by omega), ek _ _ (by omega) (by omega), ek _ _ (by omega) (by omega)]; exact h6 p hp
  · rw [ek _ _ (by omega) (by omega), ek _ _ (by omega) (by omega), ek _ _ (by omega) (by omega), ek _ _ (by omega) (by omega)]; exact h7 m hm
  · rw [ek _ _ (by omega) (by omega), ek _ _ (by omega) (by omega), ek _ _ (by omega) (by omega)]; exact h8 i hi
section Mk
variable {α : rA} {σ : jSt} {d : Nat} {k : Int32 → jSt → Prop} {K : jSt → Prop}
theorem w_make (hV : rV α) {D : Nat} (hD1 : 1 ≤ D) (hD : D ≤ 5) {x : Int32} (h : ∀ σ', eS pkS σ σ' → bR (bB α D) D σ' → σ'.1 27 4 = iI (D : Nat) → K σ') : ∀ (n i : Nat) (t : jSt), i + n = D → eS pkS σ t → rX 3 α t → t.1 27 4 = iI (D : Nat) → (∀ j, j < i → t.1 28 j = iI (spB α (α 0 2 + j) : Nat)) → t.1 27 6 = iI (-1) → t.1 27 7 = iI (-1) → t.1 27 5 = iI (-1) →
    jv_wp (d + D + 4) (fun r σ' => r = none ∧ K σ') (23, 26, [some (.ref 27), some (.ref 3), some (.int x), some (.int (iI i))], [], t) := by
  have h5 := hV.M
  have htd := hV.td
  have c0 : (iI 0).toNatClampNeg = 0 := by decide +kernel
  have c5 : (iI 5).toNatClampNeg = 5 := by decide +kernel
  intro n
  induction n with
  | zero =>
    intro i t hi hE hX h4 h28 h6 h7 h55
    have e : i = D := by omega
    subst e
    refine ok_X4_make_L26 ⟨fun _ => ?_, fun c => absurd ?_ c⟩
    · rw [c0, c5]
      dsimp only
      generalize hs : jv_a t 31 (va_cpy (t.1 10) (t.1 31) 0 0 5) = s1
      have o : ∀ c k, c ≠ 31 → s1.1 c k = t.1 c k := fun c k g => by rw [← hs, cpa_o g]
      have hE1 : eS pkS t s1 := ⟨by rw [← hs]; rfl, fun c k n => o c k (by unfold pkS at n; omega)⟩
      refine q_search hV hD i 0 (α 8) 0 0 0 (-1, 0) s1 _ (by omega) ⟨hX.pl (fun c k hc => o c k (by omega)), (o 27 4 (by omega)).trans h4, fun j hj => (o 28 j (by omega)).trans (h28 j hj), fun m hm => ?_, fun j hj => absurd hj (by omega)⟩ (fun m hm => (hV.m hm).2.2.2.2) (by omega) (by omega) ⟨-1, -1, -1, (o 27 6 (by omega)).trans h6, (o 27 7 (by omega)).trans h7, (o 27 5 (by omega)).trans h55, Or.inl ⟨rfl, rfl, rfl, rfl⟩⟩ (fun σ' hE' _ _ hb' => ⟨rfl, h σ' ((hE.tr hE1).tr (hE'.wk plS_pk)) hb' ?_⟩)
      · rw [← hs, cpa_e, cpa_c (by omega)]; exact hX.st hm
      · rw [hE'.2 27 4 (by unfold plS; omega), o 27 4 (by omega)]; exact h4
    · rw [h4, iI_le ⟨by omega, by omega⟩ ⟨by omega, by omega⟩]; omega
  | succ n ih =>
    intro i t hi hE hX h4 h28 h6 h7 h55
    have hci : (iI (i : Int)).toNatClampNeg = i := iI_clamp (by omega)
    have hini : vp_in (iI (i : Int)) 5 := (iI_in (by omega) 5).mpr (by omega)
    refine ok_X4_make_L26 ⟨fun c => absurd c ?_, fun _ => ?_⟩
    · rw [h4, iI_le ⟨by omega, by omega⟩ ⟨by omega, by omega⟩]; omega
    · obtain ⟨E, rfl⟩ : ∃ E, D = E + 1 := ⟨D - 1, by omega⟩
      rw [hX.td, iI_add, iI_add, show ((α 0 2 : Nat) : Int) + (i : Int) = ((α 0 2 + i : Nat) : Int) by omega, show (i : Int) + 1 = ((i + 1 : Nat) : Int) by omega, hci]
      refine q_speakersOn (d := d + E) hV hX (by omega) ⟨hini, ?_⟩
      refine ih (i + 1) _ (by omega) (hE.tr (eS.u (by unfold pkS; omega))) (hX.pl (fun c k hc => bit_o (by omega))) ((bit_o (by omega)).trans h4) (fun j hj => ?_) ((bit_o (by omega)).trans h6) ((bit_o (by omega)).trans h7) ((bit_o (by omega)).trans h55)
      by_cases c : j = i
      · subst c; rw [bit_e]
      · rw [bit_o (by omega)]; exact h28 j (by omega)
theorem q_make (hV : rV α) (hX : rX 3 α σ) {D : Nat} (hD1 : 1 ≤ D) (hD : D ≤ 5) (h : ∀ σ', eS pkS σ σ' → bR (bB α D) D σ' → σ'.1 27 4 = iI (D : Nat) → K σ') : jq_V (d + D + 4) 23 [.ref 27, .ref 3, .int (iI D)] σ K := by
  refine ok_X4_make ?_
  unfold vc_X4_make
  rw [if_neg (by rw [iI_lt ⟨by omega, by omega⟩ ⟨by omega, by omega⟩]; omega)]
  dsimp only
  refine w_make hV hD1 hD h D 0 _ (by omega) ((((eS.u (by unfold pkS; omega)).tr (eS.u (by unfold pkS; omega))).tr (eS.u (by unfold pkS; omega))).tr (eS.u (by unfold pkS; omega))) (hX.pl (fun c k hc => ?_)) ?_ (fun j hj => absurd hj (by omega)) ?_ ?_ ?_
  · rw [bit_o (by omega), bit_o (by omega), bit_o (by omega), bit_o (by omega)]
  · rw [bit_o (by omega), bit_o (by omega), bit_o (by omega), bit_e]
  · rw [bit_o (by omega), bit_o (by omega), bit_e]
  · rw [bit_o (by omega), bit_e]
  · rw [bit_e]
theorem q_best (hV : rV α) (hX : rX 3 α σ) {n w : Int} (hn : iR n) (hw : iR w) {pl : Nat} (hp : pl ≤ 20) (h06 : σ.1 0 6 = iI (pl : Nat)) (h : ∀ σ', eS bcS σ σ' → σ'.1 0 6 = iI ((aBe α pl n w).2 : Nat) → k (iI (aBe α pl n w).1) σ') : jq_I (d + 11) 67 [.ref 0, .int (iI n), .int (iI w)] σ k := by
  have ew : ∀ j : Int, -100 ≤ j → j < 100 → (iI w = iI j ↔ w = j) := fun j h1 h2 => iI_eq hw ⟨by omega, by omega⟩
  unfold aBe at h
  have no : ¬ (1 ≤ n ∧ n ≤ 5 ∧ (0 ≤ w ∧ w ≤ 1 ∨ 10 ≤ w ∧ w ≤ 14)) → ∃ x, some (Value.int (iI (-102))) = some (.int x) ∧ k x σ := fun q => ⟨_, rfl, by rw [if_neg q] at h; exact h σ eS.rf h06⟩
  have body : 1 ≤ n ∧ n ≤ 5 ∧ (0 ≤ w ∧ w ≤ 1 ∨ 10 ≤ w ∧ w ≤ 14) → jq_I (d + 10) 33 [.ref 3] σ (fun x2 s1 =>
      ((x2 = 0 → ∃ x, some (Value.int (iI (-103))) = some (.int x) ∧ k x s1) ∧
      (¬ x2 = 0 → (((s1.1 0 6) < (iI 20) → jq_V (d + 10) 23 [.ref 27, .ref 3, .int (iI n)] (jv_u s1 0 6 ((s1.1 0 6) + (iI 1))) (fun s4 =>
      ((iI w = (iI 0) → ∃ x, some (Value.int (s4.1 27 6)) = some (.int x) ∧ k x s4) ∧
      (¬ iI w = (iI 0) → ((iI w = (iI 1) → ∃ x, some (Value.int (s4.1 27 7)) = some (.int x) ∧ k x s4) ∧
      (¬ iI w = (iI 1) → jq_I (d + 10) 24 [.ref 27, .int (iI w - (iI 10))] s4 (fun x6 s5 => ∃ x, some (Value.int x6) = some (.int x) ∧ k x s5))))))) ∧
      (¬ (s1.1 0 6) < (iI 20) → ∃ x, some (Value.int (iI (-103))) = some (.int x) ∧ k x s1))))) := by
    intro c
    rw [if_pos c] at h
    obtain ⟨D, rfl⟩ : ∃ D : Nat, n = (D : Int) := ⟨n.toNat, by omega⟩
    rw [show ((D : Int)).toNat = D by omega] at h
    refine q_hasRiver hV hX ?_
    rw [jb_0, h06, iI_lt ⟨by omega, by omega⟩ ⟨by omega, by omega⟩]
    refine ⟨fun c2 => ⟨_, rfl, ?_⟩, fun c2 => ⟨fun c3 => ?_, fun c3 => ⟨_, rfl, ?_⟩⟩⟩
    · have c2 := of_decide_eq_false c2
      rw [if_pos (Or.inl (by omega))] at h; exact h σ eS.rf h06
    · have c2 : 0 < α 0 0 := by simp at c2; omega
      rw [if_neg (by omega)] at h
      rw [iI_add, show ((pl : Nat) : Int) + 1 = ((pl + 1 : Nat) : Int) by omega]
      have hE0 : eS bcS σ (jv_u σ 0 6 (iI ((pl + 1 : Nat) : Int))) := eS.u (by unfold bcS; omega)
      have hX0 : rX 3 α (jv_u σ 0 6 (iI ((pl + 1 : Nat) : Int))) := hX.pw (fun c k h1 h2 => bit_o (by omega))
      have mk := q_make (d := d + 6 - D) (K := fun s4 => ((iI w = (iI 0) → ∃ x, some (Value.int (s4.1 27 6)) = some (.int x) ∧ k x s4) ∧
        (¬ iI w = (iI 0) → ((iI w = (iI 1) → ∃ x, some (Value.int (s4.1 27 7)) = some (.int x) ∧ k x s4) ∧
        (¬ iI w = (iI 1) → jq_I (d + 10) 24 [.ref 27, .int (iI w - (iI 10))] s4 (fun x6 s5 => ∃ x, some (Value.int x6) = some (.int x) ∧ k x s5)))))) hV hX0 (D := D) (by omega) (by omega) (fun s hE hb h4 => ?_)
      · rw [show d + 6 - D + D + 4 = d + 10 by omega] at mk
        exact mk
      · obtain ⟨W, S, C, e6, e7, e5, hh⟩ := hb
        have hnn : 0 ≤ (bB α D).1 := bsD_nn D 0 (α 8) 0 0 (-1, 0)
        obtain ⟨g1, g2, g3, g4, g5, g6, g7, g8⟩ : (0 ≤ W ∧ W < 100000 ∧ 0 ≤ S ∧ S < 10 ∧ 0 ≤ C ∧ C < 10 ∧ (bB α D).1 = 100 * W + 10 * S + C ∧ ∀ j, j < D → s.1 30 j = iI (((bB α D).2 / 8 ^ (D - 1 - j) % 8 : Nat) : Int)) := by
          rcases hh with q | q
          · omega
          · exact q
        have fin := h s (hE0.tr (hE.wk (fun c k q => by unfold pkS at q; unfold bcS; omega))) ((hE.2 0 6 (by unfold pkS; omega)).trans bit_e)
        dsimp only at fin
        unfold tBe at fin
        rw [e6, e7, ew 0 (by omega) (by omega), ew 1 (by omega) (by omega), iI_sub]
        refine ⟨fun c4 => ⟨_, rfl, ?_⟩, fun c4 => ⟨fun c5 => ⟨_, rfl, ?_⟩, fun c5 => ok_X4_matterOn ?_⟩⟩
        · rw [if_pos c4] at fin
          rwa [show (bB α D).1 / 100 = W by omega] at fin
        · rw [if_neg c4, if_pos c5] at fin
          rwa [show (bB α D).1 / 10 % 10 = S by omega] at fin
        · rw [if_neg c4, if_neg c5] at fin
          unfold vc_X4_matterOn
          obtain ⟨j, hj⟩ : ∃ j : Nat, w - 10 = (j : Int) := ⟨(w - 10).toNat, by omega⟩
          rw [hj] at fin ⊢
          rw [h4, iI_lt0 ⟨by omega, by omega⟩, iI_le ⟨by omega, by omega⟩ ⟨by omega, by omega⟩, iI_clamp (by omega)]
          rw [show ((j : Int)).toNat = j by omega] at fin
          refine ⟨fun c6 => absurd c6 (by omega), fun _ => ⟨fun c6 => ⟨_, rfl, _, rfl, ?_⟩, fun c6 => ⟨(iI_in (by omega) 5).mpr (by omega), _, rfl, _, rfl, ?_⟩⟩⟩
          · rwa [if_neg (by omega)] at fin
          · rw [if_pos (by omega)] at fin
            rw [g8 j (by omega)]; exact fin
    · rw [if_pos (Or.inr (by omega))] at h; exact h σ eS.rf h06
  refine ok_X8_best ?_
  unfold vc_X8_best
  rw [iI_eq0 hw, iI_lt hn ⟨by omega, by omega⟩, iI_lt ⟨by omega, by omega⟩ hn, iI_lt hw ⟨by omega, by omega⟩, iI_le ⟨by omega, by omega⟩ hw]
  rw [ew 0 (by omega) (by omega), ew 1 (by omega) (by omega)] at *
  refine ⟨fun a => ⟨fun b => no (by omega), fun b => ⟨fun c => no (by omega), fun c => body (by omega)⟩⟩, fun a => ⟨fun a2 => ⟨fun b => no (by omega), fun b => ⟨fun c => no (by omega), fun c => body (by omega)⟩⟩, fun a2 => ⟨fun a3 => ⟨fun b => no (by omega), fun b => ⟨fun c => no (by omega), fun c => no (by omega)⟩⟩, fun a3 => ⟨fun a4 => ⟨fun b => no (by omega), fun b => ⟨fun c => no (by omega), fun c => no (by omega)⟩⟩, fun a4 => ⟨fun b => no (by omega), fun b => ⟨fun c => no (by omega), fun c => body (by omega)⟩⟩⟩⟩⟩⟩
end Mk
