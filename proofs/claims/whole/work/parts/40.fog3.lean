/-! fog: the reference's rows -/
/-- a sum over r < n -/
def smN (g : Nat → Int) : Nat → Int
  | 0 => 0
  | n + 1 => smN g n + g n
theorem smN_cg {g g' : Nat → Int} : ∀ n, (∀ r, r < n → g r = g' r) → smN g n = smN g' n
  | 0, _ => rfl
  | n + 1, h => by unfold smN; rw [smN_cg n (fun r hr => h r (by omega)), h n (by omega)]
theorem smN_add (g : Nat → Int) (a : Nat) : ∀ b, smN g (a + b) = smN g a + smN (fun r => g (a + r)) b
  | 0 => by simp [smN]
  | b + 1 => by
    show smN g (a + b) + g (a + b) = smN g a + (smN (fun r => g (a + r)) b + g (a + b))
    rw [smN_add g a b]; omega
theorem smN_mul (c : Int) (g : Nat → Int) : ∀ n, smN (fun r => c * g r) n = c * smN g n
  | 0 => by simp [smN]
  | n + 1 => by unfold smN; rw [smN_mul c g n]; grind
section Fg3
variable {α : rA} {m : Nat} {f : Int}
/-- how it stands in row r behind n days, and the row's ways -/
def fgY (α : rA) (m r : Nat) : Nat → Nat
  | 0 => α 8 m
  | n + 1 => if r.testBit n then fgY α m r n else fgT α m n (fgY α m r n)
def fgW (f : Int) (r : Nat) : Nat → Int
  | 0 => 1
  | n + 1 => fgW f r n * (if r.testBit n then f else 10 - f)
theorem fgY_cg (r s : Nat) : ∀ n, (∀ i, i < n → r.testBit i = s.testBit i) → fgY α m r n = fgY α m s n
  | 0, _ => rfl
  | n + 1, h => by unfold fgY; rw [fgY_cg r s n (fun i hi => h i (by omega)), h n (by omega)]
theorem fgW_cg (r s : Nat) : ∀ n, (∀ i, i < n → r.testBit i = s.testBit i) → fgW f r n = fgW f s n
  | 0, _ => rfl
  | n + 1, h => by unfold fgW; rw [fgW_cg r s n (fun i hi => h i (by omega)), h n (by omega)]
theorem fgY_le (h8 : α 8 m ≤ α 0 2 + 2) (r : Nat) : ∀ n, fgY α m r n ≤ α 0 2 + n + 2
  | 0 => h8
  | n + 1 => by
    have := fgY_le h8 r n
    unfold fgY
    split
    · omega
    · have := fgT_le (m := m) this
      omega
theorem fg_sum : ∀ (n : Nat) (g : Nat → Int), smN (fun r => fgW f r n * g (fgY α m r n)) (2 ^ n) = fgS α m f n g
  | 0, g => by simp [smN, fgW, fgY, fgS]
  | n + 1, g => by
    rw [Nat.pow_succ, Nat.mul_two, smN_add]
    have e1 : smN (fun r => fgW f r (n + 1) * g (fgY α m r (n + 1))) (2 ^ n) = smN (fun r => (10 - f) * (fgW f r n * g (fgT α m n (fgY α m r n)))) (2 ^ n) := by
      refine smN_cg _ (fun r hr => ?_)
      rw [fgW, fgY, Nat.testBit_lt_two_pow hr]
      simp; grind
    have e2 : smN (fun r => fgW f (2 ^ n + r) (n + 1) * g (fgY α m (2 ^ n + r) (n + 1))) (2 ^ n) = smN (fun r => f * (fgW f r n * g (fgY α m r n))) (2 ^ n) := by
      refine smN_cg _ (fun r hr => ?_)
      rw [fgW, fgY, Nat.testBit_two_pow_add_eq, Nat.testBit_lt_two_pow hr, fgW_cg (2 ^ n + r) r n (fun i hi => Nat.testBit_two_pow_add_gt hi r), fgY_cg (2 ^ n + r) r n (fun i hi => Nat.testBit_two_pow_add_gt hi r)]
      simp; grind
    rw [e1, e2, smN_mul, smN_mul, fg_sum n (fun a => g (fgT α m n a)), fg_sum n g]
    rfl
end Fg3
section FgM
variable {α : rA} {σ : jSt} {d : Nat} {k : Int32 → jSt → Prop}
theorem w_euc {post : jPo} {x1 x2 x3 x4 : Int32} {U A G : Nat} (hU : U < 2147483648) (hA : A < 2147483648) (hG0 : 0 < G) (hG : G < 2147483648) (h0 : x4 = 0 → post (some (.int (iI ((U / G : Nat) : Int)))) σ) (h1 : ¬ x4 = 0 → post (some (.int (iI ((A / G : Nat) : Int)))) σ) :
    ∀ (n x y : Nat) (z9 z10 : Option Value), y ≤ n → x < 2147483648 → y < 2147483648 → Nat.gcd x y = G → jv_wp (d + 1) post (125, 165, [some (.ref 34), some (.int x1), some (.int x2), some (.int x3), some (.int x4), some (.int (iI U)), some (.int (iI A)), some (.int (iI x)), some (.int (iI y)), z9, z10], [], σ) := by
  intro n
  induction n with
  | zero =>
    intro x y z9 z10 hn hx hy hg
    have e : y = 0 := by omega
    subst e
    rw [Nat.gcd_zero_right] at hg
    subst hg
    have nz : ¬ iI (x : Int) = 0 := by rw [iI_eq0 ⟨by omega, by omega⟩]; omega
    refine ok_X9_fogOf_L165 ⟨fun _ => ⟨fun c => ⟨nz, ?_⟩, fun c => ⟨nz, ?_⟩⟩, fun c => absurd ?_ c⟩
    · rw [iI_div hA hG0 hG]; exact h1 c
    · rw [iI_div hU hG0 hG]; exact h0 c
    · rw [iI_le0 ⟨by omega, by omega⟩]; omega
  | succ n ih =>
    intro x y z9 z10 hn hx hy hg
    by_cases e : y = 0
    · exact ih x y z9 z10 (by omega) hx hy hg
    · have nz : ¬ iI (y : Int) = 0 := by rw [iI_eq0 ⟨by omega, by omega⟩]; omega
      refine ok_X9_fogOf_L165 ⟨fun c => absurd c ?_, fun _ => ⟨nz, ?_⟩⟩
      · rw [iI_le0 ⟨by omega, by omega⟩]; omega
      · rw [iI_rem hx (by omega) hy]
        have hl := Nat.mod_lt x (show 0 < y by omega)
        refine ih y (x % y) _ _ (by omega) hy (by omega) ?_
        rw [← hg, Nat.gcd_comm x y, Nat.gcd_rec y x, Nat.gcd_comm]
theorem w_fogDays (hV : rV α) {post : jPo} {m D r : Nat} {f : Int} (hm : m < α 0 1) (hD : D ≤ 8) (hr : r < 256) {x4 x5 x6 : Int32}
    (h : ∀ σ' z9 z10, rM α σ' → eS dtS σ σ' → jv_wp (d + 5) post (125, 31, [some (.ref 34), some (.int (iI m)), some (.int (iI D)), some (.int (iI f)), some (.int x4), some (.int (x5 + iI (if fgY α m r D = 1 then fgW f r D else 0))), some (.int x6), some (.int (iI ((r + 1 : Nat) : Int))), some (.int (iI (fgW f r D))), z9, z10], [], σ')) :
    ∀ (n i : Nat) (a : Nat → Nat) (z10 : Option Value) (s : jSt), i + n = D → rM α s → rT a (α 0 1) s → eS dtS σ s → a m = fgY α m r i → jv_wp (d + 5) post (125, 49, [some (.ref 34), some (.int (iI m)), some (.int (iI D)), some (.int (iI f)), some (.int x4), some (.int x5), some (.int x6), some (.int (iI r)), some (.int (iI (fgW f r i))), some (.int (iI i)), z10], [], s) := by
  have htd := hV.td
  have h5 := hV.M
  have hv := hV.m hm
  have hc : (iI (m : Int)).toNatClampNeg = m := iI_clamp (by omega)
  have hin : vp_in (iI (m : Int)) 5 := (iI_in (by omega) 5).mpr (by omega)
  intro n
  induction n with
  | zero =>
    intro i a z10 s hi hM hT hE ha
    have e : i = D := by omega
    subst e
    have hs := stN_lt (a m)
    refine ok_X9_fogOf_L49 ⟨fun _ => ⟨hin, ?_⟩, fun c => absurd ?_ c⟩
    · rw [hc, (hT m hm).1, iI_eq ⟨by omega, by omega⟩ ⟨by omega, by omega⟩, iI_add, show (r : Int) + 1 = ((r + 1 : Nat) : Int) by omega]
      have := fun z9 z10 => h s z9 z10 hM hE
      rw [← ha] at this
      refine ⟨fun c => ?_, fun c => ?_⟩
      · rw [if_neg (fun e => c (by rw [stN_2.mpr e]; rfl))] at this
        exact this _ _
      · rw [if_pos (stN_2.mp (by omega))] at this
        exact this _ _
    · rw [iI_le ⟨by omega, by omega⟩ ⟨by omega, by omega⟩]; omega
  | succ n ih =>
    intro i a z10 s hi hM hT hE ha
    have hle := fgY_le hv.2.2.2.2 r i
    refine ok_X9_fogOf_L49 ⟨fun c => absurd c ?_, fun _ => ?_⟩
    · rw [iI_le ⟨by omega, by omega⟩ ⟨by omega, by omega⟩]; omega
    · have ih := fun a z10 s => ih (i + 1) a z10 s (by omega)
      unfold fgW fgY at ih
      rw [iI_bit (by omega) (by omega), jb_1, iI_sub, iI_mul, iI_mul, hM.td, iI_add, iI_add, show (i : Int) + 1 = ((i + 1 : Nat) : Int) by omega, show ((α 0 2 : Nat) : Int) + (i : Int) = ((α 0 2 + i : Nat) : Int) by omega]
      refine ⟨fun c => ?_, fun c => ?_⟩
      · rw [if_neg c, if_neg c] at ih
        refine q_canThen hV hM hT hm (by omega) (by omega) (fun s1 hE1 => ?_)
        have hM1 := hM.mv (hE1.wk dS_m)
        have hT1 := hT.mv hE1
        rw [jb_0]
        dsimp only
        unfold fgT at ih
        rw [ha]
        refine ⟨fun c2 => ?_, fun c2 => ?_⟩
        · rw [if_neg (by simp [c2])] at ih
          exact ih a _ s1 hM1 hT1 (hE.tr (hE1.wk dS_dt)) ha
        · have c2 : cbs α m (fgY α m r i) (α 0 2 + i) = true := by simpa using c2
          have a1 : a m ≠ 1 := fun e => by rw [← ha, e] at c2; simp [cbs] at c2
          rw [if_pos c2] at ih
          rw [hM1.td, iI_add, show ((α 0 2 : Nat) : Int) + (i : Int) = ((α 0 2 + i : Nat) : Int) by omega]
          refine q_sayThen hV hM1 hT1 hm a1 (by omega) (by omega) (fun h0 s2 hE2 hT2 => ?_) (fun h2 s2 hE2 hT2 => ?_)
          · rw [if_pos (by omega)] at ih
            exact ih _ _ s2 (hM1.mv (hE2.wk tS_m)) hT2 ((hE.tr (hE1.wk dS_dt)).tr (hE2.wk tS_dt)) (aU_eq _ _ _)
          · rw [if_neg (by omega)] at ih
            exact ih _ _ s2 (hM1.mv (hE2.wk tS_m)) hT2 ((hE.tr (hE1.wk dS_dt)).tr (hE2.wk tS_dt)) (aU_eq _ _ _)
      · rw [if_pos c, if_pos c] at ih
        exact ih a _ s hM hT hE ha
theorem w_fogRows (hV : rV α) {post : jPo} {m D : Nat} {f : Int} (hm : m < α 0 1) (hD : D ≤ 8) {x4 x6 : Int32}
    (h : ∀ σ' z9 z10, eS dtS σ σ' → jv_wp (d + 5) post (125, 165, [some (.ref 34), some (.int (iI m)), some (.int (iI D)), some (.int (iI f)), some (.int x4), some (.int (iI (fgS α m f D gD))), some (.int x6), some (.int x6), some (.int (iI (fgS α m f D gD))), z9, z10], [], σ')) :
    ∀ (n r : Nat) (z8 z9 z10 : Option Value) (s : jSt), r + n = 2 ^ D → rM α s → eS dtS σ s → jv_wp (d + 5) post (125, 31, [some (.ref 34), some (.int (iI m)), some (.int (iI D)), some (.int (iI f)), some (.int x4), some (.int (iI (smN (fun r => fgW f r D * gD (fgY α m r D)) r))), some (.int x6), some (.int (iI r)), z8, z9, z10], [], s) := by
  have h256 : 2 ^ D ≤ 256 := Nat.le_trans (Nat.pow_le_pow_right (by omega) hD) (show 2 ^ 8 ≤ 256 by decide)
  have e1 : iI 1 <<< (iI ((D : Nat) : Int) &&& 31) = iI ((2 ^ D : Nat) : Int) := by
    rw [show (iI 1 : Int32) = iI ((1 : Nat) : Int) from rfl, iI_shl (by omega) (by omega), Nat.one_mul]
  intro n
  induction n with
  | zero =>
    intro r z8 z9 z10 s hr hM hE
    have e : r = 2 ^ D := by omega
    refine ok_X9_fogOf_L31 ⟨fun _ => ?_, fun c => absurd ?_ c⟩
    · rw [e, fg_sum]; exact h s z9 z10 hE
    · rw [e1, iI_le ⟨by omega, by omega⟩ ⟨by omega, by omega⟩]; omega
  | succ n ih =>
    intro r z8 z9 z10 s hr hM hE
    refine ok_X9_fogOf_L31 ⟨fun c => absurd c ?_, fun _ => ?_⟩
    · rw [e1, iI_le ⟨by omega, by omega⟩ ⟨by omega, by omega⟩]; omega
    · refine q_begin hV hM (fun s1 hE1 hT1 => ?_)
      refine w_fogDays (σ := s1) hV hm hD (by omega) (fun s2 z9 z10 hM2 hE2 => ?_) D 0 (α 8) z10 s1 (by omega) (hM.mv (hE1.wk tS_m)) hT1 eS.rf rfl
      have ih := ih (r + 1) (some (.int (iI (fgW f r D)))) z9 z10 s2 (by omega) hM2 ((hE.tr (hE1.wk tS_dt)).tr hE2)
      rw [iI_add, show (if fgY α m r D = 1 then fgW f r D else 0) = fgW f r D * gD (fgY α m r D) by unfold gD; split <;> simp]
      exact ih
theorem w_fogAll (hV : rV α) {post : jPo} {m D : Nat} {f : Int} {x4 : Int32} (hD : D ≤ 8)
    (h : jv_wp (d + 5) post (125, 31, [some (.ref 34), some (.int (iI m)), some (.int (iI D)), some (.int (iI f)), some (.int x4), some (.int (iI 0)), some (.int (iI ((10 ^ D : Nat) : Int))), some (.int (iI 0)), none, none, none], [], σ)) :
    ∀ (n i : Nat), i + n = D → jv_wp (d + 5) post (125, 9, [some (.ref 34), some (.int (iI m)), some (.int (iI D)), some (.int (iI f)), some (.int x4), some (.int (iI 0)), some (.int (iI ((10 ^ i : Nat) : Int))), some (.int (iI i)), none, none, none], [], σ) := by
  intro n
  induction n with
  | zero =>
    intro i hi
    have e : i = D := by omega
    subst e
    refine ok_X9_fogOf_L9 ⟨fun _ => h, fun c => absurd ?_ c⟩
    rw [iI_le ⟨by omega, by omega⟩ ⟨by omega, by omega⟩]; omega
  | succ n ih =>
    intro i hi
    refine ok_X9_fogOf_L9 ⟨fun c => absurd c ?_, fun _ => ?_⟩
    · rw [iI_le ⟨by omega, by omega⟩ ⟨by omega, by omega⟩]; omega
    · rw [p10_s, iI_add, show (i : Int) + 1 = ((i + 1 : Nat) : Int) by omega]
      exact ih (i + 1) (by omega)
/-- what fog answers -/
def tFo (α : rA) (m D : Nat) (f w : Int) : Nat := if w = 0 then fgP α m f D / Nat.gcd (10 ^ D) (fgP α m f D) else 10 ^ D / Nat.gcd (10 ^ D) (fgP α m f D)
def aFo (α : rA) (z n f w : Int) : Int := if 0 ≤ z ∧ z < α 0 1 then (if 1 ≤ n ∧ n ≤ 8 ∧ 0 ≤ f ∧ f ≤ 10 ∧ 0 ≤ w ∧ w ≤ 1 then (if α 8 z.toNat = 1 then -103 else (tFo α z.toNat n.toNat f w : Nat)) else -102) else -101
theorem q_fogOf (hV : rV α) (hM : rM α σ) {m D : Nat} {f w : Int} (hm : m < α 0 1) (hD : D ≤ 8) (hf0 : 0 ≤ f) (hf : f ≤ 10) (hw : iR w) (h : ∀ σ', eS dtS σ σ' → k (iI ((tFo α m D f w : Nat) : Int)) σ') : jq_I (d + 5) 125 [.ref 34, .int (iI m), .int (iI D), .int (iI f), .int (iI w)] σ k := by
  have hp := p10_8 hD
  have hU := fgP_le (α := α) (m := m) hf0 hf hD
  have hp0 : 0 < 10 ^ D := Nat.pow_pos (by omega)
  have hg0 : 0 < Nat.gcd (10 ^ D) (fgP α m f D) := Nat.gcd_pos_of_pos_left _ hp0
  have hg : Nat.gcd (10 ^ D) (fgP α m f D) ≤ 10 ^ D := Nat.gcd_le_left _ hp0
  refine ok_X9_fogOf (w_fogAll hV hD (w_fogRows hV hm hD (fun s z9 z10 hE => ?_) (2 ^ D) 0 none none none σ (by omega) hM eS.rf) D 0 (by omega))
  rw [← fgP_c hf0 hf]
  unfold tFo at h
  refine w_euc (by omega) (by omega) hg0 (by omega) (fun c => ⟨_, rfl, ?_⟩) (fun c => ⟨_, rfl, ?_⟩) (fgP α m f D) _ _ z9 z10 (Nat.le_refl _) (by omega) (by omega) rfl
  · rw [iI_eq0 hw] at c
    have := h s hE
    rwa [if_pos c] at this
  · rw [iI_eq0 hw] at c
    have := h s hE
    rwa [if_neg c] at this
theorem q_fogM (hV : rV α) (hM : rM α σ) {z n f w : Int} (hz : iR z) (hn : iR n) (hf : iR f) (hw : iR w) (h : ∀ σ', eS dtS σ σ' → k (iI (aFo α z n f w)) σ') : jq_I (d + 6) 126 [.ref 34, .int (iI z), .int (iI n), .int (iI f), .int (iI w)] σ k := by
  have h5 := hV.M
  refine ok_X9_fog (q_isMatter hV hM hz ?_)
  dsimp only
  unfold aFo at h
  rw [jb_0, lI_i hn, lI_i hf, lI_i hw]
  refine ⟨fun c => ?_, fun c => ?_⟩
  · have c := of_decide_eq_true (show decide (0 ≤ z ∧ z < α 0 1) = true by simpa using c)
    rw [if_pos c] at h
    obtain ⟨m, rfl⟩ : ∃ m : Nat, z = (m : Int) := ⟨z.toNat, by omega⟩
    have hm : m < α 0 1 := by omega
    have hc : (iI (m : Int)).toNatClampNeg = m := iI_clamp (by omega)
    have hin : vp_in (iI (m : Int)) 5 := (iI_in (by omega) 5).mpr (by omega)
    rw [show ((m : Int)).toNat = m by omega] at h
    have no : ¬ (1 ≤ n ∧ n ≤ 8 ∧ 0 ≤ f ∧ f ≤ 10 ∧ 0 ≤ w ∧ w ≤ 1) → k (iI (-102)) σ := fun q => by
      have := h σ eS.rf
      rwa [if_neg q] at this
    refine q_in (b := 1) (c := 8) hn ⟨by omega, by omega⟩ ⟨by omega, by omega⟩ ?_
    rw [jb_0]
    refine ⟨fun c1 => ⟨_, rfl, no (fun q => of_decide_eq_false c1 ⟨q.1, q.2.1⟩)⟩, fun c1 => ?_⟩
    have c1 := of_decide_eq_true (show decide (1 ≤ n ∧ n ≤ 8) = true by simpa using c1)
    refine q_in (b := 0) (c := 10) hf ⟨by omega, by omega⟩ ⟨by omega, by omega⟩ ?_
    rw [jb_0]
    refine ⟨fun c2 => ⟨_, rfl, no (fun q => of_decide_eq_false c2 ⟨q.2.2.1, q.2.2.2.1⟩)⟩, fun c2 => ?_⟩
    have c2 := of_decide_eq_true (show decide (0 ≤ f ∧ f ≤ 10) = true by simpa using c2)
    refine q_in (b := 0) (c := 1) hw ⟨by omega, by omega⟩ ⟨by omega, by omega⟩ ?_
    rw [jb_0]
    refine ⟨fun c3 => ⟨hin, ?_⟩, fun c3 => ⟨_, rfl, no (fun q => of_decide_eq_false c3 ⟨q.2.2.2.2.1, q.2.2.2.2.2⟩)⟩⟩
    have c3 := of_decide_eq_true (show decide (0 ≤ w ∧ w ≤ 1) = true by simpa using c3)
    have hs := stN_lt (α 8 m)
    obtain ⟨D, rfl⟩ : ∃ D : Nat, n = (D : Int) := ⟨n.toNat, by omega⟩
    rw [if_pos ⟨c1.1, c1.2, c2.1, c2.2, c3.1, c3.2⟩, show ((D : Int)).toNat = D by omega] at h
    rw [hc, hM.st hm, iI_eq ⟨by omega, by omega⟩ ⟨by omega, by omega⟩]
    refine ⟨fun c4 => q_fogOf hV hM hm (by omega) c2.1 c2.2 hw (fun s hE => ⟨_, rfl, ?_⟩), fun c4 => ⟨_, rfl, ?_⟩⟩
    · have := h s hE
      rwa [if_neg (fun e => c4 (by rw [stN_2.mpr e]; rfl))] at this
    · have := h σ eS.rf
      rwa [if_pos (stN_2.mp (by omega))] at this
  · have := h σ eS.rf
    rw [if_neg (of_decide_eq_false c)] at this
    exact ⟨_, rfl, this⟩
theorem q_fog (hV : rV α) (hX : rX 3 α σ) {z n f w : Int} (hz : iR z) (hn : iR n) (hf : iR f) (hw : iR w) (h : k (iI (aFo α z n f w)) σ) : jq_I (d + 6) 69 [.ref 0, .int (iI z), .int (iI n), .int (iI f), .int (iI w)] σ k := by
  have h5 := hV.M
  refine ok_X8_fog (q_knowsMatter hV hX hz ?_)
  dsimp only
  unfold aFo at h
  rw [jb_0, iI_lt hn ⟨by omega, by omega⟩, iI_lt ⟨by omega, by omega⟩ hn, iI_lt0 hf, iI_lt ⟨by omega, by omega⟩ hf, iI_lt0 hw, iI_le hw ⟨by omega, by omega⟩]
  refine ⟨fun c => ?_, fun c => ?_⟩
  · have c := of_decide_eq_true (show decide (0 ≤ z ∧ z < α 0 1) = true by simpa using c)
    rw [if_pos c] at h
    obtain ⟨m, rfl⟩ : ∃ m : Nat, z = (m : Int) := ⟨z.toNat, by omega⟩
    have hm : m < α 0 1 := by omega
    have hv := hV.m hm
    have htd := hV.td
    have hc : (iI (m : Int)).toNatClampNeg = m := iI_clamp (by omega)
    have hin : vp_in (iI (m : Int)) 5 := (iI_in (by omega) 5).mpr (by omega)
    rw [show ((m : Int)).toNat = m by omega] at h
    have no : ¬ (1 ≤ n ∧ n ≤ 8 ∧ 0 ≤ f ∧ f ≤ 10 ∧ 0 ≤ w ∧ w ≤ 1) → k (iI (-102)) σ := fun q => by rwa [if_neg q] at h
    refine ⟨fun c1 => ⟨_, rfl, no (by omega)⟩, fun c1 => ⟨fun c2 => ⟨_, rfl, no (by omega)⟩, fun c2 => ⟨fun c3 => ⟨_, rfl, no (by omega)⟩, fun c3 => ⟨fun c4 => ⟨_, rfl, no (by omega)⟩, fun c4 => ⟨fun c5 => ⟨_, rfl, no (by omega)⟩, fun c5 => ⟨fun c6 => ⟨hin, ?_⟩, fun c6 => ⟨_, rfl, no (by omega)⟩⟩⟩⟩⟩⟩⟩
    obtain ⟨D, rfl⟩ : ∃ D : Nat, n = (D : Int) := ⟨n.toNat, by omega⟩
    rw [if_pos ⟨by omega, by omega, by omega, by omega, by omega, by omega⟩, show ((D : Int)).toNat = D by omega] at h
    rw [hc, hX.st hm, iI_eq (zA_R (by omega)) ⟨by omega, by omega⟩, zA_1]
    refine ⟨fun c7 => ?_, fun c7 => ⟨_, rfl, ?_⟩⟩
    · rw [if_neg c7] at h
      unfold tFo at h
      have hP := fgP_le (α := α) (m := m) (f := f) (n := D) (by omega) (by omega) (by omega)
      refine q_partsSettled hV hX hm c7 (by omega) (by omega) (by omega) ?_
      rw [iI_eq0 hw]
      refine ⟨fun c8 => ?_, fun c8 => ?_⟩
      · rw [if_neg c8] at h
        exact q_lowestTerms (by omega) hP (fun _ => ⟨_, rfl, h⟩) (fun c => absurd iI_0.symm c)
      · rw [if_pos c8] at h
        exact q_lowestTerms (by omega) hP (fun c => absurd c (by decide +kernel)) (fun _ => ⟨_, rfl, h⟩)
    · rwa [if_pos c7] at h
  · rw [if_neg (of_decide_eq_false c)] at h
    exact ⟨_, rfl, h⟩
end FgM
