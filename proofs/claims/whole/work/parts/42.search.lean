/-! best: the class's search -/
def kpS (c k : Nat) : Prop := c = 27 ∧ (k = 5 ∨ k = 6 ∨ k = 7) ∨ c = 30
def plS (c k : Nat) : Prop := c = 27 ∧ (k = 5 ∨ k = 6 ∨ k = 7) ∨ c = 29 ∨ c = 30 ∨ c = 31
theorem kpS_pl (c k : Nat) (h : kpS c k) : plS c k := by unfold kpS at h; unfold plS; omega
/-- the best that is kept -/
def bR (b : Int × Nat) (D : Nat) (σ : jSt) : Prop := ∃ W S C : Int, σ.1 27 6 = iI W ∧ σ.1 27 7 = iI S ∧ σ.1 27 5 = iI C ∧ ((W = -1 ∧ S = -1 ∧ C = -1 ∧ b.1 = -1) ∨ (0 ≤ W ∧ W < 100000 ∧ 0 ≤ S ∧ S < 10 ∧ 0 ≤ C ∧ C < 10 ∧ b.1 = 100 * W + 10 * S + C ∧ ∀ j, j < D → σ.1 30 j = iI ((b.2 / 8 ^ (D - 1 - j) % 8 : Nat) : Int)))
theorem bR.mv {b : Int × Nat} {D : Nat} {σ σ' : jSt} (h : bR b D σ) (e : ∀ k, σ'.1 27 k = σ.1 27 k) (e2 : ∀ k, σ'.1 30 k = σ.1 30 k) : bR b D σ' := by
  obtain ⟨W, S, C, h1, h2, h3, h4⟩ := h
  refine ⟨W, S, C, (e 6).trans h1, (e 7).trans h2, (e 5).trans h3, h4.imp id (fun q => ⟨q.1, q.2.1, q.2.2.1, q.2.2.2.1, q.2.2.2.2.1, q.2.2.2.2.2.1, q.2.2.2.2.2.2.1, fun j hj => (e2 j).trans (q.2.2.2.2.2.2.2 j hj)⟩)⟩
/-- what the search holds to, i figures tried -/
def sC (α : rA) (D i pre : Nat) (a : Nat → Nat) (σ : jSt) : Prop := rX 3 α σ ∧ σ.1 27 4 = iI (D : Nat) ∧ (∀ j, j < D → σ.1 28 j = iI (spB α (α 0 2 + j) : Nat)) ∧ (∀ m, m < α 0 1 → σ.1 31 m = iI (zA (a m))) ∧ (∀ j, j < i → σ.1 29 j = iI ((pre / 8 ^ (i - 1 - j) % 8 : Nat) : Int))
theorem rX.pl {α : rA} {σ σ' : jSt} (h : rX 3 α σ) (ek : ∀ c k, c < 15 → σ'.1 c k = σ.1 c k) : rX 3 α σ' := by
  obtain ⟨h1, h2, h3, h4, h5, h6, h7, h8⟩ := h
  refine ⟨?_, ?_, ?_, ?_, ?_, fun p hp => ?_, fun m hm => ?_, fun i hi => ?_⟩
  · rw [ek _ _ (by omega)]; exact h1
  · rw [ek _ _ (by omega)]; exact h2
  · rw [ek _ _ (by omega)]; exact h3
  · rw [ek _ _ (by omega)]; exact h4
  · rw [ek _ _ (by omega)]; exact h5
  · rw [ek _ _ (by omega), ek _ _ (by omega), ek _ _ (by omega)]; exact h6 p hp
  · rw [ek _ _ (by omega), ek _ _ (by omega), ek _ _ (by omega), ek _ _ (by omega)]; exact h7 m hm
  · rw [ek _ _ (by omega), ek _ _ (by omega), ek _ _ (by omega)]; exact h8 i hi
theorem sC.mv {α : rA} {D i pre : Nat} {a : Nat → Nat} {σ σ' : jSt} (h : sC α D i pre a σ) (e : eS plS σ σ') (e1 : ∀ m, m < α 0 1 → σ'.1 31 m = σ.1 31 m) (e2 : ∀ j, j < i → σ'.1 29 j = σ.1 29 j) : sC α D i pre a σ' :=
  ⟨h.1.pl (fun c k hc => e.2 c k (by unfold plS; omega)), (e.2 27 4 (by unfold plS; omega)).trans h.2.1, fun j hj => (e.2 28 j (by unfold plS; omega)).trans (h.2.2.1 j hj), fun m hm => (e1 m hm).trans (h.2.2.2.1 m hm), fun j hj => (e2 j hj).trans (h.2.2.2.2 j hj)⟩
section Sr
variable {α : rA} {σ : jSt} {d : Nat} {k : Int32 → jSt → Prop} {K : jSt → Prop}
theorem zA_neg {a : Nat} : zA a < 0 ↔ ¬ 2 ≤ a := by unfold zA; split <;> (try split) <;> omega
theorem w_hma (hV : rV α) {post : jPo} {a : Nat → Nat} (ha : ∀ m, m < α 0 1 → a m < 10000) (h31 : ∀ m, m < α 0 1 → σ.1 31 m = iI (zA (a m))) (h : post (some (.int (iI (cnA α a : Nat)))) σ) :
    ∀ (n i : Nat), i + n = α 0 1 → jv_wp (d + 1) post (27, 4, [some (.ref 27), some (.int (iI (α 0 1 : Nat))), some (.int (iI (cnN (fun m => decide (2 ≤ a m)) i : Nat))), some (.int (iI i))], [], σ) := by
  have h5 := hV.M
  intro n
  induction n with
  | zero =>
    intro i hi
    refine ok_X4_howManyAsked_L4 ⟨fun _ => ?_, fun c => absurd ?_ c⟩
    · unfold cnA at h; rwa [show α 0 1 = i by omega] at h
    · rw [iI_le ⟨by omega, by omega⟩ ⟨by omega, by omega⟩]; omega
  | succ n ih =>
    intro i hi
    have hc : (iI (i : Int)).toNatClampNeg = i := iI_clamp (by omega)
    have hin : vp_in (iI (i : Int)) 5 := (iI_in (by omega) 5).mpr (by omega)
    have hai := ha i (by omega)
    refine ok_X4_howManyAsked_L4 ⟨fun c => absurd c ?_, fun _ => ⟨hin, ?_⟩⟩
    · rw [iI_le ⟨by omega, by omega⟩ ⟨by omega, by omega⟩]; omega
    · have ih := ih (i + 1) (by omega)
      unfold cnN at ih
      rw [hc, h31 i (by omega), iI_lt0 (zA_R (by omega)), zA_neg, iI_add, iI_add, show (i : Int) + 1 = ((i + 1 : Nat) : Int) by omega]
      refine ⟨fun c => ?_, fun c => ?_⟩
      · rw [if_neg (by simpa using c)] at ih; exact ih
      · rw [if_pos (by simpa using c)] at ih; exact ih
theorem q_hma (hV : rV α) {a : Nat → Nat} (ha : ∀ m, m < α 0 1 → a m < 10000) (h31 : ∀ m, m < α 0 1 → σ.1 31 m = iI (zA (a m))) (h : k (iI (cnA α a : Nat)) σ) : jq_I (d + 1) 27 [.ref 27, .int (iI (α 0 1 : Nat))] σ k :=
  ok_X4_howManyAsked (w_hma hV ha h31 ⟨_, rfl, h⟩ (α 0 1) 0 (by omega))
theorem q_keepIf (hV : rV α) {D pre w s : Nat} {a : Nat → Nat} {b : Int × Nat} (hD : D ≤ 5) (hC : sC α D D pre a σ) (ha : ∀ m, m < α 0 1 → a m < 10000) (hw : w < 100000) (hs : s < 10) (hb : bR b D σ) (h : ∀ σ', eS kpS σ σ' → bR (upB b ((100 * w + 10 * s + cnA α a : Nat) : Int) pre) D σ' → K σ') : jq_V (d + 2) 26 [.ref 27, .ref 3, .int (iI w), .int (iI s)] σ K := by
  obtain ⟨hX, h4, h28, h31, h29⟩ := hC
  have hcn := cnA_le hV a
  obtain ⟨W, S, C, e6, e7, e5, hh⟩ := id hb
  have rW : iR W := by unfold iR; omega
  have rS' : iR S := by unfold iR; omega
  have rC : iR C := by unfold iR; omega
  have c0 : (iI 0).toNatClampNeg = 0 := by decide +kernel
  have c5 : (iI 5).toNatClampNeg = 5 := by decide +kernel
  have no : ¬ b.1 < ((100 * w + 10 * s + cnA α a : Nat) : Int) → K σ := fun n => by
    refine h σ eS.rf ?_
    unfold upB
    rw [if_neg n]
    exact hb
  have yes : b.1 < ((100 * w + 10 * s + cnA α a : Nat) : Int) → ∀ t1 t2 t3 t4 : jSt, t1 = jv_u σ 27 6 (iI w) → t2 = jv_u t1 27 7 (iI s) → t3 = jv_u t2 27 5 (iI (cnA α a : Nat)) → t4 = jv_a t3 30 (va_cpy (t3.1 29) (t3.1 30) 0 0 5) → K t4 := by
    intro n t1 t2 t3 t4 f1 f2 f3 f4
    have g1 : ∀ c k, ¬ (c = 27 ∧ k = 6) → t1.1 c k = σ.1 c k := fun c k g => by rw [f1, jv_u_at, if_neg g]
    have g2 : ∀ c k, ¬ (c = 27 ∧ k = 7) → t2.1 c k = t1.1 c k := fun c k g => by rw [f2, jv_u_at, if_neg g]
    have g3 : ∀ c k, ¬ (c = 27 ∧ k = 5) → t3.1 c k = t2.1 c k := fun c k g => by rw [f3, jv_u_at, if_neg g]
    have g4 : ∀ c k, c ≠ 30 → t4.1 c k = t3.1 c k := fun c k g => by rw [f4, cpa_o g]
    refine h t4 ⟨by rw [f4, f3, f2, f1]; rfl, fun c k n => ?_⟩ ⟨w, s, cnA α a, ?_, ?_, ?_, Or.inr ⟨by omega, by omega, by omega, by omega, by omega, by omega, ?_, fun j hj => ?_⟩⟩
    · unfold kpS at n
      rw [g4 c k (by omega), g3 c k (by omega), g2 c k (by omega), g1 c k (by omega)]
    · rw [g4 _ _ (by omega), g3 _ _ (by omega), g2 _ _ (by omega), f1, jv_u_at, if_pos ⟨rfl, rfl⟩]
    · rw [g4 _ _ (by omega), g3 _ _ (by omega), f2, jv_u_at, if_pos ⟨rfl, rfl⟩]
    · rw [g4 _ _ (by omega), f3, jv_u_at, if_pos ⟨rfl, rfl⟩]
    · unfold upB; rw [if_pos n]; dsimp only; omega
    · unfold upB; rw [if_pos n, f4, cpa_e, cpa_c (by omega), g3 _ _ (by omega), g2 _ _ (by omega), g1 _ _ (by omega)]
      exact h29 j hj
  refine ok_X4_keepIfBetter ?_
  unfold vc_X4_keepIfBetter
  rw [e6, e7, hX.M, c0, c5, iI_lt ⟨by omega, by omega⟩ rW, iI_eq ⟨by omega, by omega⟩ rW, iI_le rS' ⟨by omega, by omega⟩]
  have tail : ¬ (w : Int) < W → ((w : Int) = W → S ≤ s) → ((¬ iI (w : Int) = σ.1 27 6 → K (jv_a (jv_u (jv_u (jv_u σ 27 6 (iI w)) 27 7 (iI s)) 27 5 (iI (cnA α a : Nat))) 30 (va_cpy ((jv_u (jv_u (jv_u σ 27 6 (iI w)) 27 7 (iI s)) 27 5 (iI (cnA α a : Nat))).1 29) ((jv_u (jv_u (jv_u σ 27 6 (iI w)) 27 7 (iI s)) 27 5 (iI (cnA α a : Nat))).1 30) 0 0 5))) ∧ (iI (w : Int) = σ.1 27 6 → (¬ iI (s : Int) = σ.1 27 7 → K (jv_a (jv_u (jv_u (jv_u σ 27 6 (iI w)) 27 7 (iI s)) 27 5 (iI (cnA α a : Nat))) 30 (va_cpy ((jv_u (jv_u (jv_u σ 27 6 (iI w)) 27 7 (iI s)) 27 5 (iI (cnA α a : Nat))).1 29) ((jv_u (jv_u (jv_u σ 27 6 (iI w)) 27 7 (iI s)) 27 5 (iI (cnA α a : Nat))).1 30) 0 0 5))) ∧ (iI (s : Int) = σ.1 27 7 → (σ.1 27 5 < iI (cnA α a : Nat) → K (jv_a (jv_u (jv_u (jv_u σ 27 6 (iI w)) 27 7 (iI s)) 27 5 (iI (cnA α a : Nat))) 30 (va_cpy ((jv_u (jv_u (jv_u σ 27 6 (iI w)) 27 7 (iI s)) 27 5 (iI (cnA α a : Nat))).1 29) ((jv_u (jv_u (jv_u σ 27 6 (iI w)) 27 7 (iI s)) 27 5 (iI (cnA α a : Nat))).1 30) 0 0 5))) ∧ (¬ σ.1 27 5 < iI (cnA α a : Nat) → K σ)))) := by
    intro n1 n2
    rw [e6, e7, e5, iI_eq ⟨by omega, by omega⟩ rW, iI_eq ⟨by omega, by omega⟩ rS', iI_lt rC ⟨by omega, by omega⟩]
    refine ⟨fun c => yes (by omega) _ _ _ _ rfl rfl rfl rfl, fun c => ⟨fun c2 => yes (by omega) _ _ _ _ rfl rfl rfl rfl, fun c2 => ⟨fun c3 => yes (by omega) _ _ _ _ rfl rfl rfl rfl, fun c3 => no (by omega)⟩⟩⟩
  refine ⟨fun c => ⟨rfl, no (by omega)⟩, fun c => ⟨fun c2 => q_hma hV ha h31 ?_, fun c2 => ⟨fun c3 => q_hma hV ha h31 ?_, fun c3 => ⟨rfl, no (by omega)⟩⟩⟩⟩
  · obtain ⟨t1, t2⟩ := tail c (by omega)
    exact ⟨fun q => ⟨rfl, t1 q⟩, fun q => ⟨fun q2 => ⟨rfl, (t2 q).1 q2⟩, fun q2 => ⟨fun q3 => ⟨rfl, ((t2 q).2 q2).1 q3⟩, fun q3 => ⟨rfl, ((t2 q).2 q2).2 q3⟩⟩⟩⟩
  · obtain ⟨t1, t2⟩ := tail c (by omega)
    exact ⟨fun q => ⟨rfl, t1 q⟩, fun q => ⟨fun q2 => ⟨rfl, (t2 q).1 q2⟩, fun q2 => ⟨fun q3 => ⟨rfl, ((t2 q).2 q2).1 q3⟩, fun q3 => ⟨rfl, ((t2 q).2 q2).2 q3⟩⟩⟩⟩
theorem dig_s {i j pre m : Nat} (hj : j < i) (hm : m < 8) : (8 * pre + m) / 8 ^ (i + 1 - 1 - j) % 8 = pre / 8 ^ (i - 1 - j) % 8 := by
  rw [show i + 1 - 1 - j = (i - 1 - j) + 1 by omega, Nat.pow_succ, Nat.mul_comm (8 ^ (i - 1 - j)) 8, ← Nat.div_div_eq_div_mul, show (8 * pre + m) / 8 = pre by omega]
theorem dig_e {i pre m : Nat} (hm : m < 8) : (8 * pre + m) / 8 ^ (i + 1 - 1 - i) % 8 = m := by
  rw [show i + 1 - 1 - i = 0 by omega, Nat.pow_zero, Nat.div_one]; omega
/-- the context one figure on -/
theorem sC.nx {D i pre m x : Nat} {a : Nat → Nat} (h : sC α D i pre a σ) (hm : m < 8) (σ' : jSt) (a' : Nat → Nat) (e29 : ∀ j, σ'.1 29 j = if j = i then iI (m : Int) else σ.1 29 j) (e31 : ∀ j, j < α 0 1 → σ'.1 31 j = iI (zA (a' j))) (ek : ∀ c k, c ≠ 29 → c ≠ 31 → σ'.1 c k = σ.1 c k) : sC α D (i + 1) (8 * pre + m) a' σ' := by
  refine ⟨h.1.pl (fun c k hc => ek c k (by omega) (by omega)), (ek 27 4 (by omega) (by omega)).trans h.2.1, fun j hj => (ek 28 j (by omega) (by omega)).trans (h.2.2.1 j hj), e31, fun j hj => ?_⟩
  rw [e29]
  by_cases c : j = i
  · subst c; rw [if_pos rfl, dig_e hm]
  · rw [if_neg c, dig_s (by omega) hm]; exact h.2.2.2.2 j (by omega)
end Sr
