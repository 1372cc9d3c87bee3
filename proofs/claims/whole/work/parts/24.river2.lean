/-! a river is read: both sides -/
section R2
variable {σ : jSt} {d : Nat} {k : Int32 → jSt → Prop} {K : jSt → Prop} {g : Nat → Nat} {n : Nat}
def xS (c _k : Nat) : Prop := 3 ≤ c ∧ c ≤ 11
theorem pX.mx {σ' : jSt} (h : pX g n σ) (e : eS xS σ σ') : pX g n σ' := by
  refine ⟨?_, fun i hi => ?_⟩
  · rw [e.2 _ _ (by unfold xS; omega)]; exact h.1
  · rw [e.2 _ _ (by unfold xS; omega)]; exact h.2 i hi
theorem mnI {a b : Int} (ha : iR a) (hb : iR b) (h : b ≤ a) : (if iI a < iI b then iI a else iI b) = iI b := by
  by_cases c : a < b
  · omega
  · rw [if_neg (by rw [iI_lt ha hb]; exact c)]
theorem q_beginX {P M : Nat} (hP : P ≤ 6) (hM : M ≤ 5) (h : ∀ σ', eS xS σ σ' → σ'.1 3 8 = iI (P : Nat) → σ'.1 3 9 = iI (M : Nat) → σ'.1 3 10 = iI 0 → σ'.1 3 11 = iI 0 → σ'.1 3 12 = iI 0 → σ'.1 11 3 = iI 0 → K σ') : jq_V (d + 1) 36 [.ref 3, .int (iI P), .int (iI M)] σ K := by
  refine ok_X7_begin ?_
  unfold vc_X7_begin
  rw [mnI ⟨by omega, by omega⟩ ⟨by omega, by omega⟩ (by omega), mnI ⟨by omega, by omega⟩ ⟨by omega, by omega⟩ (by omega)]
  have u : ∀ (s : jSt) (c k : Nat) (x : Int32), 3 ≤ c → c ≤ 11 → eS xS s (jv_u s c k x) := fun s c k x h1 h2 => eS.u ⟨h1, h2⟩
  refine ⟨rfl, h _ ((((((u _ _ _ _ (by omega) (by omega)).tr (u _ _ _ _ (by omega) (by omega))).tr (u _ _ _ _ (by omega) (by omega))).tr (u _ _ _ _ (by omega) (by omega))).tr (u _ _ _ _ (by omega) (by omega))).tr (u _ _ _ _ (by omega) (by omega))) ?_ ?_ ?_ ?_ ?_ ?_⟩
  all_goals simp (decide := true) only [jv_u_at, ite_true, ite_false]
theorem q_place {p kd b me : Nat} (hp : p < 6) (hb : b < 2) (h : ∀ σ', σ'.2 = σ.2 → σ'.1 4 p = iI (kd : Nat) → σ'.1 5 p = iI (b : Nat) → σ'.1 6 p = iI (me : Nat) → σ'.1 3 10 = (σ.1 3 10 ||| iI (b : Nat) <<< (iI p &&& 31)) → (∀ c k, ¬ ((c = 4 ∨ c = 5 ∨ c = 6) ∧ k = p) → ¬ (c = 3 ∧ k = 10) → σ'.1 c k = σ.1 c k) → K σ') : jq_V (d + 1) 37 [.ref 3, .int (iI p), .int (iI kd), .int (iI b), .int (iI me)] σ K := by
  have hc : (iI (p : Int)).toNatClampNeg = p := iI_clamp (by omega)
  have hin : vp_in (iI (p : Int)) 6 := (iI_in (by omega) 6).mpr (by omega)
  refine ok_X7_place ?_
  unfold vc_X7_place
  rw [hc, iI_eq0 ⟨by omega, by omega⟩]
  have fin : ∀ x : Int32, x = iI (b : Nat) → K (jv_u (jv_u (jv_u (jv_u σ 4 p (iI kd)) 5 p x) 6 p (iI me)) 3 10 ((jv_u (jv_u (jv_u σ 4 p (iI kd)) 5 p x) 6 p (iI me)).1 3 10 ||| (jv_u (jv_u (jv_u σ 4 p (iI kd)) 5 p x) 6 p (iI me)).1 5 p <<< (iI p &&& 31))) := by
    intro x ex
    subst ex
    refine h _ rfl ?_ ?_ ?_ ?_ ?_
    · simp (decide := true) only [jv_u_at, true_and, ite_true, ite_false, false_and]
    · simp (decide := true) only [jv_u_at, true_and, ite_true, ite_false, false_and]
    · simp (decide := true) only [jv_u_at, true_and, ite_true, ite_false, false_and]
    · simp (decide := true) only [jv_u_at, true_and, ite_true, ite_false, false_and]
    · intro c k h1 h2
      rw [jv_u_at, if_neg h2, jv_u_at, if_neg (by omega), jv_u_at, if_neg (by omega), jv_u_at, if_neg (by omega)]
  refine ⟨hin, fun c => ⟨hin, hin, hin, rfl, fin _ ?_⟩, fun c => ⟨hin, hin, hin, rfl, fin _ ?_⟩⟩
  · exact congrArg iI (by omega)
  · exact congrArg iI (by omega)
theorem w_readM {P : Nat} (hF : rvF g n P) {post : jPo} {v3 : Int32} : ∀ (r m : Nat) (z : Option Value) (σ : jSt), pX g n σ → σ.1 3 9 = iI (((n + 1) / 4 - P : Nat) : Int) → m + r = (n + 1) / 4 - P →
    (∀ σ', σ'.2 = σ.2 → (∀ c k, ¬ (7 ≤ c ∧ c ≤ 10) → σ'.1 c k = σ.1 c k) → (∀ c j, j < m → σ'.1 c j = σ.1 c j) → (∀ j, m ≤ j → j < (n + 1) / 4 - P → σ'.1 7 j = iI (rP g n P 5 j : Nat) ∧ σ'.1 8 j = iI (rP g n P 6 j : Nat) ∧ σ'.1 9 j = iI (rP g n P 7 j : Nat) ∧ σ'.1 10 j = iI (-1)) → post none σ') →
    jv_wp (d + 1) post (21, 96, [some (.ref 1), some (.ref 3), some (.int (iI P)), some (.int v3), some (.int (iI m)), z], [], σ) := by
  have hm' := fun m hm => rv_m (m := m) hF hm
  obtain ⟨h1, h2, h3, h4, h5, -⟩ := hF
  intro r
  induction r with
  | zero =>
    intro m z σ hX hM hr h
    refine ok_X3_readInto_L96 ⟨fun _ => h σ rfl (fun _ _ _ => rfl) (fun _ _ _ => rfl) (fun j j1 j2 => absurd j1 (by omega)), fun c => absurd ?_ c⟩
    rw [hM, iI_le ⟨by omega, by omega⟩ ⟨by omega, by omega⟩]; omega
  | succ r ih =>
    intro m z σ hX hM hr h
    have hv := hm' m (by omega)
    have hc : (iI (m : Int)).toNatClampNeg = m := iI_clamp (by omega)
    have hin : vp_in (iI (m : Int)) 5 := (iI_in (by omega) 5).mpr (by omega)
    have cl : ∀ t : Nat, t < 44 → (iI (t : Int)).toNatClampNeg = t := fun t ht => iI_clamp (by omega)
    have vi : ∀ t : Nat, t < 44 → vp_in (iI (t : Int)) 44 := fun t ht => (iI_in (by omega) 44).mpr ht
    refine ok_X3_readInto_L96 ⟨fun c => absurd c ?_, fun _ => ?_⟩
    · rw [hM, iI_le ⟨by omega, by omega⟩ ⟨by omega, by omega⟩]; omega
    · dsimp only
      rw [iI_add (P : Int) (m : Int), iI_mul, show ((P : Int) + (m : Int)) * 4 = ((4 * (P + m) : Nat) : Int) by omega, iI_add, iI_add, iI_add, show ((4 * (P + m) : Nat) : Int) + 1 = ((4 * (P + m) + 1 : Nat) : Int) by omega, show ((4 * (P + m) : Nat) : Int) + 2 = ((4 * (P + m) + 2 : Nat) : Int) by omega, show (m : Int) + 1 = ((m + 1 : Nat) : Int) by omega, cl _ (by omega), cl _ (by omega), cl _ (by omega), cl _ (by omega)]
      simp (decide := true) only [jv_u_at, false_and, ite_false]
      rw [hX.2 _ (by omega), hX.2 _ (by omega), hX.2 _ (by omega), iI_sub, iI_sub, iI_sub]
      refine ⟨vi _ (by omega), hin, vi _ (by omega), hin, vi _ (by omega), hin, hin, ?_⟩
      have hE : ∀ c k, ¬ (7 ≤ c ∧ c ≤ 10 ∧ k = m) → (jv_u (jv_u (jv_u (jv_u σ 7 m (iI (((g (4 * (P + m)) : Nat) : Int) - 48))) 8 m (iI (((g (4 * (P + m) + 1) : Nat) : Int) - 48))) 9 m (iI (((g (4 * (P + m) + 2) : Nat) : Int) - 48))) 10 m (iI (-1))).1 c k = σ.1 c k := by
        intro c k hn
        rw [jv_u_at, if_neg (by omega), jv_u_at, if_neg (by omega), jv_u_at, if_neg (by omega), jv_u_at, if_neg (by omega)]
      refine ih (m + 1) _ _ ⟨by rw [hE _ _ (by omega)]; exact hX.1, fun i hi => by rw [hE _ _ (by omega)]; exact hX.2 i hi⟩ (by rw [hE _ _ (by omega)]; exact hM) (by omega) (fun σ' e1 e2 e3 e4 => h σ' e1 (fun c k hn => ?_) (fun c j hj => ?_) (fun j j1 j2 => ?_))
      · rw [e2 c k hn, hE _ _ (by omega)]
      · rw [e3 c j (by omega), hE _ _ (by omega)]
      · by_cases e : j = m
        · subst e
          rw [e3 7 j (by omega), e3 8 j (by omega), e3 9 j (by omega), e3 10 j (by omega)]
          simp (decide := true) only [jv_u_at, true_and, false_and, ite_true, ite_false]
          refine ⟨congrArg iI ?_, congrArg iI ?_, congrArg iI ?_, trivial⟩
          · show _ = ((g (4 * (P + j)) - 48 : Nat) : Int); omega
          · show _ = ((g (4 * (P + j) + 1) - 48 : Nat) : Int); omega
          · show _ = ((g (4 * (P + j) + 2) - 48 : Nat) : Int); omega
        · exact e4 j (by omega) j2
theorem w_readP (hV : pV g n) {P : Nat} (hF : rvF g n P) {post : jPo} {v3 : Int32} : ∀ (r p : Nat) (z : Option Value) (σ : jSt), pX g n σ → σ.1 3 8 = iI (P : Nat) → σ.1 3 10 = iI (bsN (fun q => rP g n P 3 q == 1) p : Nat) → p + r = P →
    (∀ σ', σ'.2 = σ.2 → pX g n σ' → (∀ c k, ¬ (4 ≤ c ∧ c ≤ 6) → ¬ (c = 3 ∧ k = 10) → σ'.1 c k = σ.1 c k) → σ'.1 3 10 = iI (rt (rP g n P) : Nat) → (∀ c j, j < p → c ≠ 3 → σ'.1 c j = σ.1 c j) → (∀ j, p ≤ j → j < P → σ'.1 4 j = iI (rP g n P 1 j : Nat) ∧ σ'.1 5 j = iI (rP g n P 2 j : Nat) ∧ σ'.1 6 j = iI (rP g n P 4 j : Nat)) → ∀ z, jv_wp (d + 7) post (21, 96, [some (.ref 1), some (.ref 3), some (.int (iI P)), some (.int v3), some (.int (iI 0)), z], [], σ')) →
    jv_wp (d + 7) post (21, 25, [some (.ref 1), some (.ref 3), some (.int (iI P)), some (.int v3), some (.int (iI p)), z], [], σ) := by
  have hp' := fun p hp => rv_p (p := p) hF hp
  obtain ⟨h1, h2, h3, h4, h5, -⟩ := hF
  intro r
  induction r with
  | zero =>
    intro p z σ hX hP hrt hr h
    refine ok_X3_readInto_L25 ⟨fun _ => h σ rfl hX (fun _ _ _ _ => rfl) ?_ (fun _ _ _ _ => rfl) (fun j j1 j2 => absurd j1 (by omega)) _, fun c => absurd ?_ c⟩
    · rw [hrt]; unfold rt; rw [show rP g n P 0 0 = p from by show P = p; omega]
    · rw [hP, iI_le ⟨by omega, by omega⟩ ⟨by omega, by omega⟩]; omega
  | succ r ih =>
    intro p z σ hX hP hrt hr h
    have hv := hp' p (by omega)
    have hk4 := (kdL_in (g (4 * p))).2
    have cl : ∀ t : Nat, t < 44 → (iI (t : Int)).toNatClampNeg = t := fun t ht => iI_clamp (by omega)
    have vi : ∀ t : Nat, t < 44 → vp_in (iI (t : Int)) 44 := fun t ht => (iI_in (by omega) 44).mpr ht
    have hg0 := hV.2 (4 * p) (by omega)
    have hg1 := hV.2 (4 * p + 1) (by omega)
    refine ok_X3_readInto_L25 ⟨fun c => absurd c ?_, fun _ => ?_⟩
    · rw [hP, iI_le ⟨by omega, by omega⟩ ⟨by omega, by omega⟩]; omega
    · dsimp only
      rw [iI_mul, show (p : Int) * 4 = ((4 * p : Nat) : Int) by omega, iI_add, iI_add, iI_add, show ((4 * p : Nat) : Int) + 1 = ((4 * p + 1 : Nat) : Int) by omega, show ((4 * p : Nat) : Int) + 2 = ((4 * p + 2 : Nat) : Int) by omega, show (p : Int) + 1 = ((p + 1 : Nat) : Int) by omega]
      refine ⟨vi _ (by omega), ?_⟩
      rw [cl _ (by omega), cl _ (by omega), cl _ (by omega), hX.2 _ (by omega)]
      refine q_kindOf (by omega) ⟨vi _ (by omega), ?_⟩
      rw [hX.2 _ (by omega), hX.2 _ (by omega), iI_eq ⟨by omega, by omega⟩ ⟨by omega, by omega⟩, iI_sub, show kdL (g (4 * p)) = (((kdL (g (4 * p))).toNat : Nat) : Int) by omega, show ((g (4 * p + 2) : Nat) : Int) - 48 = ((g (4 * p + 2) - 48 : Nat) : Int) by omega]
      have nx : ∀ b : Nat, b = rP g n P 2 p → jq_V (d + 6) 37 [.ref 3, .int (iI p), .int (iI (((kdL (g (4 * p))).toNat : Nat) : Int)), .int (iI b), .int (iI ((g (4 * p + 2) - 48 : Nat) : Int))] σ (fun s => jv_wp (d + 7) post (21, 25, [some (.ref 1), some (.ref 3), some (.int (iI P)), some (.int v3), some (.int (iI ((p + 1 : Nat) : Int))), some (.int (iI ((4 * p : Nat) : Int)))], [], s)) := by
        intro b eb
        have hb2 : b < 2 := by rw [eb]; show (if g (4 * p + 1) = 114 then 1 else 0) < 2; split <;> omega
        refine q_place (by omega) hb2 (fun s e0 e1 e2 e3 e4 e5 => ?_)
        refine ih (p + 1) _ s ⟨by rw [e5 _ _ (by omega) (by omega)]; exact hX.1, fun i hi => by rw [e5 _ _ (by omega) (by omega)]; exact hX.2 i hi⟩ (by rw [e5 _ _ (by omega) (by omega)]; exact hP) ?_ (by omega) (fun σ' f0 f1 f2 f3 f4 f5 => h σ' (f0.trans e0) f1 (fun c k n1 n2 => ?_) f3 (fun c j hj n3 => ?_) (fun j j1 j2 => ?_))
        · have eB : bsN (fun q => rP g n P 3 q == 1) (p + 1) = if (rP g n P 3 p == 1) = true then bsN (fun q => rP g n P 3 q == 1) p ||| 2 ^ p else bsN (fun q => rP g n P 3 q == 1) p := rfl
          rw [e4, hrt, eB]
          have eb3 : rP g n P 3 p = b := by rw [eb]; rfl
          rcases (show b = 0 ∨ b = 1 by omega) with e | e
          · rw [e, iI_shl (by omega) (by omega), iI_or, Nat.zero_mul, Nat.or_zero, if_neg (by rw [eb3, e]; decide)]
          · rw [e, show (iI ((1 : Nat) : Int) : Int32) = iI 1 from rfl, iI_sbit (by omega), if_pos (by rw [eb3, e]; decide)]
        · rw [f2 c k n1 n2, e5 _ _ (by omega) n2]
        · rw [f4 c j (by omega) n3, e5 _ _ (by omega) (by omega)]
        · by_cases e : j = p
          · subst e
            rw [f4 4 j (by omega) (by omega), f4 5 j (by omega) (by omega), f4 6 j (by omega) (by omega), e1, e2, e3]
            exact ⟨rfl, by rw [eb], rfl⟩
          · exact f5 j (by omega) j2
      refine ⟨fun c => ⟨vi _ (by omega), nx 0 ?_⟩, fun c => ⟨vi _ (by omega), nx 1 ?_⟩⟩
      · show 0 = if g (4 * p + 1) = 114 then 1 else 0; rw [if_neg (by omega)]
      · show 1 = if g (4 * p + 1) = 114 then 1 else 0; rw [if_pos (by omega)]
theorem q_readInto (hV : pV g n) (hX : pX g n σ) {P : Nat} (hf : fsc g n 0 0 = (n, P)) (hF : rvF g n P) (h : ∀ σ', eS xS σ σ' → rX 3 (rP g n P) σ' → σ'.1 3 12 = iI 0 → K σ') : jq_V (d + 8) 21 [.ref 1, .ref 3] σ K := by
  have h44 := hV.1
  have hF0 := hF
  obtain ⟨h1, h2, h3, h4, h5, -⟩ := hF0
  refine ok_X3_readInto (q_peopleTold hV hX hf ?_)
  have e1 : (iI (n : Int) + iI 1) / iI 4 = iI (((n + 1) / 4 : Nat) : Int) := by
    rw [iI_add, show (n : Int) + 1 = ((n + 1 : Nat) : Int) by omega]; exact iI_div (b := 4) (by omega) (by omega) (by omega)
  dsimp only
  rw [hX.1, e1, iI_sub, show (((n + 1) / 4 : Nat) : Int) - (P : Int) = (((n + 1) / 4 - P : Nat) : Int) by omega]
  refine q_beginX (by omega) (by omega) (fun s1 hE1 a1 a2 a3 a4 a5 a6 => ?_)
  refine w_readP hV hF P 0 none s1 (hX.mx hE1) a1 a3 (by omega) (fun s2 b0 b1 b2 b3 b4 b5 z => ?_)
  refine w_readM hF ((n + 1) / 4 - P) 0 z s2 b1 (by rw [b2 _ _ (by omega) (by omega)]; exact a2) (by omega) (fun s3 c0 c1 c2 c3 => ⟨rfl, h s3 ⟨(c0.trans b0).trans hE1.1, fun c k q => ?_⟩ ?_ ?_⟩)
  · unfold xS at q
    rw [c1 c k (by omega), b2 c k (by omega) (by omega), hE1.2 c k (by unfold xS; omega)]
  · refine ⟨?_, ?_, ?_, ?_, ?_, fun p hp => ?_, fun m hm => ?_, fun i hi => absurd hi (Nat.not_lt_zero _)⟩
    · rw [c1 _ _ (by omega), b2 _ _ (by omega) (by omega), a1]; rfl
    · rw [c1 _ _ (by omega), b2 _ _ (by omega) (by omega), a2]; rfl
    · rw [c1 _ _ (by omega), b3]
    · rw [c1 _ _ (by omega), b2 _ _ (by omega) (by omega), a4]; rfl
    · rw [c1 _ _ (by omega), b2 _ _ (by omega) (by omega), a6]; rfl
    · rw [c1 _ _ (by omega), c1 _ _ (by omega), c1 _ _ (by omega)]; exact b5 p (by omega) hp
    · exact c3 m (by omega) hm
  · rw [c1 _ _ (by omega), b2 _ _ (by omega) (by omega), a5]
def rvS (c k : Nat) : Prop := (3 ≤ c ∧ c ≤ 11) ∨ (c = 1 ∧ k = 1) ∨ (c = 15 ∧ k = 8) ∨ (c = 0 ∧ k = 5)
/-- river() of the class -/
theorem q_riverX (hV : pV g n) (hX : pX g n σ) (h0 : whl g n = false → k (iI (-103)) σ) (h1 : whl g n = true → rvF g n (fsc g n 0 0).2 → ∀ σ', eS rvS σ σ' → rX 3 (rP g n (fsc g n 0 0).2) σ' → σ'.1 3 12 = iI 0 → σ'.1 1 1 = iI 0 → σ'.1 15 8 = iI 0 → σ'.1 0 5 = σ.1 0 5 + iI 1 → k (iI ((fsc g n 0 0).2 : Nat)) σ') : jq_I (d + 10) 57 [.ref 0] σ k := by
  refine ok_X8_river (q_isWhole hV hX ?_)
  rw [jb_0]
  refine ⟨fun c => ?_, fun c => ⟨_, rfl, h0 c⟩⟩
  have c : whl g n = true := by simpa using c
  have cw := of_decide_eq_true c
  have hf : fsc g n 0 0 = (n, (fsc g n 0 0).2) := Prod.ext cw.2.1 rfl
  have hF := rv_of hf cw.2.2 cw.1
  refine q_readInto hV hX hf hF (fun s1 hE1 hR h12 => ?_)
  dsimp only
  have hR' : ∀ s : jSt, (∀ c k, 3 ≤ c → c ≤ 14 → s.1 c k = s1.1 c k) → rX 3 (rP g n (fsc g n 0 0).2) s := fun s hs => by
    obtain ⟨r1, r2, r3, r4, r5, r6, r7, r8⟩ := hR
    refine ⟨?_, ?_, ?_, ?_, ?_, fun p hp => ?_, fun m hm => ?_, fun i hi => ?_⟩
    · rw [hs _ _ (by omega) (by omega)]; exact r1
    · rw [hs _ _ (by omega) (by omega)]; exact r2
    · rw [hs _ _ (by omega) (by omega)]; exact r3
    · rw [hs _ _ (by omega) (by omega)]; exact r4
    · rw [hs _ _ (by omega) (by omega)]; exact r5
    · rw [hs _ _ (by omega) (by omega), hs _ _ (by omega) (by omega), hs _ _ (by omega) (by omega)]; exact r6 p hp
    · rw [hs _ _ (by omega) (by omega), hs _ _ (by omega) (by omega), hs _ _ (by omega) (by omega), hs _ _ (by omega) (by omega)]; exact r7 m hm
    · rw [hs _ _ (by omega) (by omega), hs _ _ (by omega) (by omega), hs _ _ (by omega) (by omega)]; exact r8 i hi
  have hs : ∀ c k, 3 ≤ c → c ≤ 14 → (jv_u (jv_u (jv_u s1 1 1 (iI 0)) 15 8 (iI 0)) 0 5 ((jv_u (jv_u s1 1 1 (iI 0)) 15 8 (iI 0)).1 0 5 + iI 1)).1 c k = s1.1 c k := fun c k q1 q2 => by
    rw [jv_u_at, if_neg (by omega), jv_u_at, if_neg (by omega), jv_u_at, if_neg (by omega)]
  have hr8 := (hR' _ hs).1
  refine ⟨_, rfl, ?_⟩
  rw [show ((jv_u (jv_u (jv_u s1 1 1 (iI 0)) 15 8 (iI 0)) 0 5 ((jv_u (jv_u s1 1 1 (iI 0)) 15 8 (iI 0)).1 0 5 + iI 1)).1 3 8) = iI ((fsc g n 0 0).2 : Nat) from hr8]
  refine h1 c hF _ ⟨hE1.1, fun c k q => ?_⟩ (hR' _ hs) ?_ ?_ ?_ ?_
  · unfold rvS at q
    rw [jv_u_at, if_neg (by omega), jv_u_at, if_neg (by omega), jv_u_at, if_neg (by omega), hE1.2 c k (by unfold xS; omega)]
  · rw [hs _ _ (by omega) (by omega)]; exact h12
  · simp (decide := true) only [jv_u_at, ite_true, ite_false]
  · simp (decide := true) only [jv_u_at, ite_true, ite_false]
  · simp (decide := true) only [jv_u_at, ite_true, ite_false]
    rw [hE1.2 0 5 (by unfold xS; omega)]
end R2
