/-! a river is read: the reference; letters and blank on both sides -/
section R3
variable {σ : jSt} {d : Nat} {k : Int32 → jSt → Prop} {K : jSt → Prop} {g : Nat → Nat} {n : Nat}
theorem w_rivP (hV : pV g n) {P : Nat} (hF : rvF g n P) {post : jPo} : ∀ (r p : Nat) (σ : jSt), pM g n σ → σ.1 34 3 = iI (P : Nat) → p + r = P →
    (∀ σ', σ'.2 = σ.2 → (∀ c k, ¬ (36 ≤ c ∧ c ≤ 39) → σ'.1 c k = σ.1 c k) → (∀ c j, j < p → σ'.1 c j = σ.1 c j) → (∀ j, p ≤ j → j < P → σ'.1 36 j = iI (rP g n P 1 j : Nat) ∧ σ'.1 37 j = iI (rP g n P 2 j : Nat) ∧ σ'.1 38 j = iI (rP g n P 3 j : Nat) ∧ σ'.1 39 j = iI (rP g n P 4 j : Nat)) → jv_wp (d + 2) post (88, 154, [some (.ref 34), some (.int (iI 0)), none], [], σ')) →
    jv_wp (d + 2) post (88, 64, [some (.ref 34), some (.int (iI p)), none], [], σ) := by
  have hp' := fun p hp => rv_p (p := p) hF hp
  obtain ⟨h1, h2, h3, h4, h5, -⟩ := hF
  intro r
  induction r with
  | zero =>
    intro p σ hM hP hr h
    refine ok_X9_river_L64 ⟨fun _ => h σ rfl (fun _ _ _ => rfl) (fun _ _ _ => rfl) (fun j j1 j2 => absurd j1 (by omega)), fun c => absurd ?_ c⟩
    rw [hP, iI_le ⟨by omega, by omega⟩ ⟨by omega, by omega⟩]; omega
  | succ r ih =>
    intro p σ hM hP hr h
    have hv := hp' p (by omega)
    have hk4 := (kdL_in (g (4 * p))).2
    have hc : (iI (p : Int)).toNatClampNeg = p := iI_clamp (by omega)
    have hin : vp_in (iI (p : Int)) 6 := (iI_in (by omega) 6).mpr (by omega)
    have cl : ∀ t : Nat, t < 44 → (iI (t : Int)).toNatClampNeg = t := fun t ht => iI_clamp (by omega)
    have vi : ∀ t : Nat, t < 44 → vp_in (iI (t : Int)) 44 := fun t ht => (iI_in (by omega) 44).mpr ht
    have hg0 := hV.2 (4 * p) (by omega)
    have hg1 := hV.2 (4 * p + 1) (by omega)
    refine ok_X9_river_L64 ⟨fun c => absurd c ?_, fun _ => ?_⟩
    · rw [hP, iI_le ⟨by omega, by omega⟩ ⟨by omega, by omega⟩]; omega
    · dsimp only
      rw [iI_mul, show 4 * (p : Int) = ((4 * p : Nat) : Int) by omega, iI_add, iI_add, iI_add, show ((4 * p : Nat) : Int) + 1 = ((4 * p + 1 : Nat) : Int) by omega, show ((4 * p : Nat) : Int) + 2 = ((4 * p + 2 : Nat) : Int) by omega, show (p : Int) + 1 = ((p + 1 : Nat) : Int) by omega, cl (4 * p) (by omega), cl (4 * p + 1) (by omega), cl (4 * p + 2) (by omega), hc]
      refine ⟨vi _ (by omega), ?_⟩
      rw [hM.2 _ (by omega)]
      refine q_kindBy (by omega) ⟨hin, vi _ (by omega), ?_⟩
      simp (decide := true) only [jv_u_at, true_and, false_and, ite_true, ite_false]
      rw [hM.2 _ (by omega), hM.2 _ (by omega), iI_eq ⟨by omega, by omega⟩ ⟨by omega, by omega⟩, iI_sub]
      have nx : ∀ b : Int32, b = iI (rP g n P 2 p : Nat) → jv_wp (d + 2) post (88, 64, [some (.ref 34), some (.int (iI ((p + 1 : Nat) : Int))), none], [], jv_u (jv_u (jv_u (jv_u σ 36 p (iI (kdL (g (4 * p))))) 37 p b) 38 p b) 39 p (iI (((g (4 * p + 2) : Nat) : Int) - 48))) := by
        intro b eb
        have hE : ∀ c k, ¬ (36 ≤ c ∧ c ≤ 39 ∧ k = p) → (jv_u (jv_u (jv_u (jv_u σ 36 p (iI (kdL (g (4 * p))))) 37 p b) 38 p b) 39 p (iI (((g (4 * p + 2) : Nat) : Int) - 48))).1 c k = σ.1 c k := by
          intro c k q
          rw [jv_u_at, if_neg (by omega), jv_u_at, if_neg (by omega), jv_u_at, if_neg (by omega), jv_u_at, if_neg (by omega)]
        refine ih (p + 1) _ ⟨by rw [hE _ _ (by omega)]; exact hM.1, fun i hi => by rw [hE _ _ (by omega)]; exact hM.2 i hi⟩ (by rw [hE _ _ (by omega)]; exact hP) (by omega) (fun σ' f0 f1 f2 f3 => h σ' f0 (fun c k q => ?_) (fun c j hj => ?_) (fun j j1 j2 => ?_))
        · rw [f1 c k q, hE _ _ (by omega)]
        · rw [f2 c j (by omega), hE _ _ (by omega)]
        · by_cases e : j = p
          · subst e
            rw [f2 36 j (by omega), f2 37 j (by omega), f2 38 j (by omega), f2 39 j (by omega)]
            simp (decide := true) only [jv_u_at, true_and, false_and, ite_true, ite_false]
            refine ⟨congrArg iI ?_, eb, eb, congrArg iI ?_⟩
            · show _ = (((kdL (g (4 * j))).toNat : Nat) : Int); omega
            · show _ = ((g (4 * j + 2) - 48 : Nat) : Int); omega
          · exact f3 j (by omega) j2
      refine ⟨fun c => ⟨hin, hin, hin, vi _ (by omega), hin, nx _ ?_⟩, fun c => ⟨hin, hin, hin, vi _ (by omega), hin, nx _ ?_⟩⟩
      · show _ = iI (((if g (4 * p + 1) = 114 then 1 else 0 : Nat)) : Int); rw [if_pos (by omega)]; rfl
      · show _ = iI (((if g (4 * p + 1) = 114 then 1 else 0 : Nat)) : Int); rw [if_neg (by omega)]; rfl
theorem w_rivM {P : Nat} (hF : rvF g n P) {post : jPo} : ∀ (r m : Nat) (z : Option Value) (σ : jSt), pM g n σ → σ.1 34 4 = iI (((n + 1) / 4 - P : Nat) : Int) → σ.1 34 2 = iI ((4 * P : Nat) - 1 : Int) → m + r = (n + 1) / 4 - P →
    (∀ σ', σ'.2 = σ.2 → (∀ c k, ¬ (40 ≤ c ∧ c ≤ 44) → ¬ (c = 34 ∧ (k = 1 ∨ k = 5 ∨ k = 6 ∨ k = 7 ∨ k = 24)) → σ'.1 c k = σ.1 c k) → σ'.1 34 5 = iI 0 → σ'.1 34 6 = iI 0 → σ'.1 34 24 = iI 0 → σ'.1 34 7 = σ.1 34 7 + iI 1 → σ'.1 34 1 = iI 0 → (∀ c j, j < m → c ≠ 34 → σ'.1 c j = σ.1 c j) → (∀ j, m ≤ j → j < (n + 1) / 4 - P → σ'.1 40 j = iI (rP g n P 5 j : Nat) ∧ σ'.1 41 j = iI (rP g n P 6 j : Nat) ∧ σ'.1 42 j = iI (rP g n P 7 j : Nat) ∧ σ'.1 43 j = iI 0) → post (some (.int (σ.1 34 3))) σ') →
    jv_wp (d + 1) post (88, 154, [some (.ref 34), some (.int (iI m)), z], [], σ) := by
  have hm' := fun m hm => rv_m (m := m) hF hm
  obtain ⟨h1, h2, h3, h4, h5, -⟩ := hF
  intro r
  induction r with
  | zero =>
    intro m z σ hM hMM hEn hr h
    refine ok_X9_river_L154 ⟨fun _ => ?_, fun c => absurd ?_ c⟩
    · have e3 : (jv_u (jv_u (jv_u (jv_u (jv_u σ 34 5 (iI 0)) 34 6 (iI 0)) 34 24 (iI 0)) 34 7 ((jv_u (jv_u (jv_u σ 34 5 (iI 0)) 34 6 (iI 0)) 34 24 (iI 0)).1 34 7 + iI 1)) 34 1 (iI 0)).1 34 3 = σ.1 34 3 := by
        simp (decide := true) only [jv_u_at, ite_false]
      dsimp only
      rw [e3]
      refine h _ rfl (fun c k q1 q2 => ?_) ?_ ?_ ?_ ?_ ?_ (fun c j hj hc => ?_) (fun j j1 j2 => absurd j1 (by omega))
      · rw [jv_u_at, if_neg (by omega), jv_u_at, if_neg (by omega), jv_u_at, if_neg (by omega), jv_u_at, if_neg (by omega), jv_u_at, if_neg (by omega)]
      · simp (decide := true) only [jv_u_at, ite_true, ite_false]
      · simp (decide := true) only [jv_u_at, ite_true, ite_false]
      · simp (decide := true) only [jv_u_at, ite_true, ite_false]
      · simp (decide := true) only [jv_u_at, ite_true, ite_false]
      · simp (decide := true) only [jv_u_at, ite_true, ite_false]
      · rw [jv_u_at, if_neg (by omega), jv_u_at, if_neg (by omega), jv_u_at, if_neg (by omega), jv_u_at, if_neg (by omega), jv_u_at, if_neg (by omega)]
    · rw [hMM, iI_le ⟨by omega, by omega⟩ ⟨by omega, by omega⟩]; omega
  | succ r ih =>
    intro m z σ hM hMM hEn hr h
    have hv := hm' m (by omega)
    have hin : vp_in (iI (m : Int)) 5 := (iI_in (by omega) 5).mpr (by omega)
    have cl : ∀ t : Nat, t < 44 → (iI (t : Int)).toNatClampNeg = t := fun t ht => iI_clamp (by omega)
    have vi : ∀ t : Nat, t < 44 → vp_in (iI (t : Int)) 44 := fun t ht => (iI_in (by omega) 44).mpr ht
    refine ok_X9_river_L154 ⟨fun c => absurd c ?_, fun _ => ?_⟩
    · rw [hMM, iI_le ⟨by omega, by omega⟩ ⟨by omega, by omega⟩]; omega
    · dsimp only
      have e1 : σ.1 34 2 + iI 1 + iI 4 * iI (m : Int) = iI ((4 * (P + m) : Nat) : Int) := by
        rw [hEn, iI_mul, iI_add, iI_add]; exact congrArg iI (by omega)
      rw [e1, iI_add, iI_add, iI_add, show ((4 * (P + m) : Nat) : Int) + 1 = ((4 * (P + m) + 1 : Nat) : Int) by omega, show ((4 * (P + m) : Nat) : Int) + 2 = ((4 * (P + m) + 2 : Nat) : Int) by omega, show (m : Int) + 1 = ((m + 1 : Nat) : Int) by omega, cl (4 * (P + m)) (by omega), cl (4 * (P + m) + 1) (by omega), cl (4 * (P + m) + 2) (by omega), cl m (by omega)]
      simp (decide := true) only [jv_u_at, false_and, ite_false]
      rw [hM.2 _ (by omega), hM.2 _ (by omega), hM.2 _ (by omega), iI_sub, iI_sub, iI_sub]
      refine ⟨vi _ (by omega), hin, vi _ (by omega), hin, vi _ (by omega), hin, hin, hin, ?_⟩
      have hE : ∀ c k, ¬ (40 ≤ c ∧ c ≤ 44 ∧ k = m) → (jv_u (jv_u (jv_u (jv_u (jv_u σ 40 m (iI (((g (4 * (P + m)) : Nat) : Int) - 48))) 41 m (iI (((g (4 * (P + m) + 1) : Nat) : Int) - 48))) 42 m (iI (((g (4 * (P + m) + 2) : Nat) : Int) - 48))) 43 m (iI 0)) 44 m (iI 0)).1 c k = σ.1 c k := by
        intro c k hn
        rw [jv_u_at, if_neg (by omega), jv_u_at, if_neg (by omega), jv_u_at, if_neg (by omega), jv_u_at, if_neg (by omega), jv_u_at, if_neg (by omega)]
      refine ih (m + 1) _ _ ⟨by rw [hE _ _ (by omega)]; exact hM.1, fun i hi => by rw [hE _ _ (by omega)]; exact hM.2 i hi⟩ (by rw [hE _ _ (by omega)]; exact hMM) (by rw [hE _ _ (by omega)]; exact hEn) (by omega) (fun σ' f0 f1 f2 f3 f4 f5 f6 f7 f8 => ?_)
      rw [hE 34 3 (by omega)]
      rw [hE 34 7 (by omega)] at f5
      refine h σ' f0 (fun c k q1 q2 => ?_) f2 f3 f4 f5 f6 (fun c j hj q => ?_) (fun j j1 j2 => ?_)
      · rw [f1 c k q1 q2, hE _ _ (by omega)]
      · rw [f7 c j (by omega) q, hE _ _ (by omega)]
      · by_cases e : j = m
        · subst e
          rw [f7 40 j (by omega) (by omega), f7 41 j (by omega) (by omega), f7 42 j (by omega) (by omega), f7 43 j (by omega) (by omega)]
          simp (decide := true) only [jv_u_at, true_and, false_and, ite_true, ite_false]
          refine ⟨congrArg iI ?_, congrArg iI ?_, congrArg iI ?_, trivial⟩
          · show _ = ((g (4 * (P + j)) - 48 : Nat) : Int); omega
          · show _ = ((g (4 * (P + j) + 1) - 48 : Nat) : Int); omega
          · show _ = ((g (4 * (P + j) + 2) - 48 : Nat) : Int); omega
        · exact f8 j (by omega) j2
def mvS (c k : Nat) : Prop := (c = 34 ∧ (k = 1 ∨ k = 2 ∨ k = 3 ∨ k = 4 ∨ k = 5 ∨ k = 6 ∨ k = 7 ∨ k = 24)) ∨ (36 ≤ c ∧ c ≤ 44)
/-- river() of the reference -/
theorem q_riverM (hV : pV g n) (hM : pM g n σ) (h0 : whl g n = false → ∀ σ', eS mS σ σ' → k (iI (-103)) σ') (h1 : whl g n = true → ∀ σ', eS mvS σ σ' → rM (rP g n (fsc g n 0 0).2) σ' → σ'.1 34 6 = iI 0 → σ'.1 34 1 = iI 0 → σ'.1 34 7 = σ.1 34 7 + iI 1 → k (iI ((fsc g n 0 0).2 : Nat)) σ') : jq_I (d + 5) 88 [.ref 34] σ k := by
  have h44 := hV.1
  have hle := fsc_le (g := g) n 0 0
  refine ok_X9_river (q_faultOf hV hM (fun s1 hE1 hen => ?_))
  have hM1 := hM.mv (hE1.wk fS_m)
  rw [hM1.1, iI_lt ⟨by omega, by omega⟩ ⟨by omega, by omega⟩]
  have no : whl g n = false → ∃ x, some (Value.int (iI (-103))) = some (.int x) ∧ k x s1 := fun q => ⟨_, rfl, h0 q s1 (hE1.wk fS_m)⟩
  refine ⟨fun c => no ?_, fun c => ?_⟩
  · unfold whl; exact decide_eq_false (by omega)
  · have hf : fsc g n 0 0 = (n, (fsc g n 0 0).2) := Prod.ext (by show (fsc g n 0 0).1 = n; omega) rfl
    have h11 := fsc_P6 hV hf
    by_cases e : (fsc g n 0 0).2 = 0
    · refine ⟨fun _ => no ?_, fun c2 => absurd ?_ c2⟩
      · unfold whl; exact decide_eq_false (by omega)
      · rw [hen]; unfold enN; rw [if_pos e]; exact iI_0.symm
    · obtain ⟨-, q1⟩ := fsc_A n 0 _ (by rw [Nat.zero_add]; exact hf) (fun j hj => absurd hj (by omega))
      obtain ⟨x, e1, e2, e3, e4, e5, e6, -⟩ := q1 e
      have hen1 : s1.1 34 2 = iI ((4 * (fsc g n 0 0).2 : Nat) - 1 : Int) := by rw [hen]; unfold enN; rw [if_neg e]
      have hr : iI ((n + 1 - 4 * (fsc g n 0 0).2 : Nat) : Int) - iI ((n + 1 - 4 * (fsc g n 0 0).2 : Nat) : Int) / iI 4 * iI 4 = iI (((n + 1 - 4 * (fsc g n 0 0).2) % 4 : Nat) : Int) := iI_rem (b := 4) (by omega) (by omega) (by omega)
      have hsub : iI (n : Int) - iI ((4 * (fsc g n 0 0).2 : Nat) - 1 : Int) = iI ((n + 1 - 4 * (fsc g n 0 0).2 : Nat) : Int) := by
        rw [iI_sub]; exact congrArg iI (by omega)
      refine ⟨fun c2 => absurd c2 ?_, fun _ => ?_⟩
      · rw [hen1, iI_eq0 ⟨by omega, by omega⟩]; omega
      · rw [hen1, hsub, hr, iI_eq0 ⟨by omega, by omega⟩]
        refine ⟨fun c3 => ?_, fun c3 => no ?_⟩
        · have hn3 : n % 4 = 3 := by omega
          have hw : whl g n = true := decide_eq_true ⟨hn3, by omega, e⟩
          have hF := rv_of hf e hn3
          have hF0 := hF
          obtain ⟨g1, g2, g3, g4, g5, -⟩ := hF0
          have d1 : (iI ((4 * (fsc g n 0 0).2 : Nat) - 1 : Int) + iI 1) / iI 4 = iI ((fsc g n 0 0).2 : Nat) := by
            rw [iI_add, show ((4 * (fsc g n 0 0).2 : Nat) : Int) - 1 + 1 = ((4 * (fsc g n 0 0).2 : Nat) : Int) by omega, show (iI 4 : Int32) = iI ((4 : Nat) : Int) from rfl, iI_div (by omega) (by omega) (by omega)]
            exact congrArg (fun n : Nat => iI (n : Int)) (by omega)
          have d2 : iI ((n + 1 - 4 * (fsc g n 0 0).2 : Nat) : Int) / iI 4 = iI (((n + 1) / 4 - (fsc g n 0 0).2 : Nat) : Int) := by
            rw [show (iI 4 : Int32) = iI ((4 : Nat) : Int) from rfl, iI_div (by omega) (by omega) (by omega)]
            exact congrArg (fun n : Nat => iI (n : Int)) (by omega)
          dsimp only
          simp (decide := true) only [jv_u_at, ite_false]
          rw [hM1.1, hen1, hsub, d1, d2]
          have hu : ∀ c k, ¬ (c = 34 ∧ (k = 3 ∨ k = 4)) → (jv_u (jv_u s1 34 3 (iI ((fsc g n 0 0).2 : Nat))) 34 4 (iI (((n + 1) / 4 - (fsc g n 0 0).2 : Nat) : Int))).1 c k = s1.1 c k := fun c k q => by
            rw [jv_u_at, if_neg (by omega), jv_u_at, if_neg (by omega)]
          refine w_rivP hV hF (fsc g n 0 0).2 0 _ ⟨by rw [hu _ _ (by omega)]; exact hM1.1, fun i hi => by rw [hu _ _ (by omega)]; exact hM1.2 i hi⟩ (by simp (decide := true) only [jv_u_at, ite_true, ite_false]) (by omega) (fun s2 b0 b1 b2 b3 => ?_)
          refine w_rivM hF ((n + 1) / 4 - (fsc g n 0 0).2) 0 none s2 ⟨by rw [b1 _ _ (by omega), hu _ _ (by omega)]; exact hM1.1, fun i hi => by rw [b1 _ _ (by omega), hu _ _ (by omega)]; exact hM1.2 i hi⟩ (by rw [b1 _ _ (by omega)]; simp (decide := true) only [jv_u_at, ite_true]) (by rw [b1 _ _ (by omega), hu _ _ (by omega)]; exact hen1) (by omega) (fun s3 c0 c1 c4 c5 c6 c7 c8 c9 c10 => ?_)
          rw [b1 34 3 (by omega)]
          have e33 : (jv_u (jv_u s1 34 3 (iI ((fsc g n 0 0).2 : Nat))) 34 4 (iI (((n + 1) / 4 - (fsc g n 0 0).2 : Nat) : Int))).1 34 3 = iI ((fsc g n 0 0).2 : Nat) := by
            simp (decide := true) only [jv_u_at, ite_true, ite_false]
          rw [e33]
          refine ⟨_, rfl, h1 hw s3 ⟨(c0.trans b0).trans hE1.1, fun c k q => ?_⟩ ?_ c5 c8 ?_⟩
          · unfold mvS at q
            rw [c1 c k (by omega) (by omega), b1 c k (by omega), hu c k (by omega), hE1.2 c k (by unfold fS; omega)]
          · refine ⟨?_, ?_, c4, c6, fun p hp => ?_, fun m hm => ?_, fun i hi => absurd hi (Nat.not_lt_zero _)⟩
            · rw [c1 _ _ (by omega) (by omega), b1 _ _ (by omega), e33]; rfl
            · rw [c1 _ _ (by omega) (by omega), b1 _ _ (by omega)]; simp (decide := true) only [jv_u_at, ite_true]; rfl
            · rw [c1 _ _ (by omega) (by omega), c1 _ _ (by omega) (by omega), c1 _ _ (by omega) (by omega), c1 _ _ (by omega) (by omega)]; exact b3 p (by omega) hp
            · obtain ⟨t1, t2, t3, t4⟩ := c10 m (by omega) hm
              exact ⟨t1, t2, t3, t4, fun q => absurd q (by show ¬ 2 ≤ 0; omega)⟩
          · rw [c7, b1 34 7 (by omega), hu 34 7 (by omega), hE1.2 34 7 (by unfold fS; omega)]
        · unfold whl; exact decide_eq_false (by omega)
end R3
