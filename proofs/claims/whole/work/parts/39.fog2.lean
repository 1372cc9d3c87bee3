/-! fog: shares -/
section Fg
variable {α : rA} {m : Nat} {f : Int}
/-- how it stands behind a clear day i -/
def fgT (α : rA) (m i a : Nat) : Nat := if cbs α m a (α 0 2 + i) then (if a = 0 then α 0 2 + i + 2 else 1) else a
/-- the share, of 10 ^ n, of what g counts behind n days -/
def fgS (α : rA) (m : Nat) (f : Int) : Nat → (Nat → Int) → Int
  | 0, g => g (α 8 m)
  | n + 1, g => (10 - f) * fgS α m f n (fun a => g (fgT α m n a)) + f * fgS α m f n g
def gO (a : Nat) : Int := if a = 0 then 1 else 0
def gD (a : Nat) : Int := if a = 1 then 1 else 0
def gQ (a : Nat) : Int := if 2 ≤ a then 1 else 0
/-- what can be behind n days -/
def fgR (α : rA) (m n a : Nat) : Prop := if n = 0 then a = α 8 m else a ≤ α 0 2 + n + 1
theorem fgT_le {i a : Nat} (h : a ≤ α 0 2 + i + 2) : fgT α m i a ≤ α 0 2 + i + 2 := by
  unfold fgT; split
  · split <;> omega
  · exact h
theorem fgS_cg (h8 : α 8 m ≤ α 0 2 + 2) : ∀ (n : Nat) (g g' : Nat → Int), (∀ a, fgR α m n a → g a = g' a) → fgS α m f n g = fgS α m f n g'
  | 0, g, g', h => h _ (by unfold fgR; rw [if_pos rfl])
  | n + 1, g, g', h => by
    have hr : ∀ a, fgR α m n a → a ≤ α 0 2 + n + 2 := fun a ha => by
      unfold fgR at ha; split at ha <;> omega
    have hb : ∀ a, a ≤ α 0 2 + n + 2 → fgR α m (n + 1) a := fun a ha => by
      unfold fgR; rw [if_neg (by omega)]; omega
    unfold fgS
    rw [fgS_cg h8 n (fun a => g (fgT α m n a)) (fun a => g' (fgT α m n a)) (fun a ha => h _ (hb _ (fgT_le (hr a ha)))), fgS_cg h8 n g g' (fun a ha => h _ (hb _ (hr a ha)))]
theorem fgS_ln (x y : Int) : ∀ (n : Nat) (g h : Nat → Int), fgS α m f n (fun a => x * g a + y * h a) = x * fgS α m f n g + y * fgS α m f n h
  | 0, g, h => rfl
  | n + 1, g, h => by
    unfold fgS
    rw [fgS_ln x y n (fun a => g (fgT α m n a)) (fun a => h (fgT α m n a)), fgS_ln x y n g h]
    grind
theorem fgS_in (h0 : 0 ≤ f) (h10 : f ≤ 10) : ∀ (n : Nat) (g : Nat → Int), (∀ a, 0 ≤ g a ∧ g a ≤ 1) → 0 ≤ fgS α m f n g ∧ fgS α m f n g ≤ ((10 ^ n : Nat) : Int)
  | 0, g, h => ⟨(h _).1, (h _).2⟩
  | n + 1, g, h => by
    obtain ⟨a1, a2⟩ := fgS_in h0 h10 n (fun a => g (fgT α m n a)) (fun a => h _)
    obtain ⟨b1, b2⟩ := fgS_in h0 h10 n g h
    unfold fgS
    have p1 : 0 ≤ (10 - f) * fgS α m f n (fun a => g (fgT α m n a)) := Int.mul_nonneg (by omega) a1
    have p2 : 0 ≤ f * fgS α m f n g := Int.mul_nonneg h0 b1
    have p3 : (10 - f) * fgS α m f n (fun a => g (fgT α m n a)) ≤ (10 - f) * ((10 ^ n : Nat) : Int) := Int.mul_le_mul_of_nonneg_left a2 (by omega)
    have p4 : f * fgS α m f n g ≤ f * ((10 ^ n : Nat) : Int) := Int.mul_le_mul_of_nonneg_left b2 h0
    have p5 : (10 - f) * ((10 ^ n : Nat) : Int) + f * ((10 ^ n : Nat) : Int) = ((10 ^ (n + 1) : Nat) : Int) := by
      rw [Nat.pow_succ, Int.natCast_mul]; grind
    omega
theorem gO_in (a : Nat) : 0 ≤ gO a ∧ gO a ≤ 1 := by unfold gO; split <;> omega
theorem gD_in (a : Nat) : 0 ≤ gD a ∧ gD a ≤ 1 := by unfold gD; split <;> omega
theorem gQ_in (a : Nat) : 0 ≤ gQ a ∧ gQ a ≤ 1 := by unfold gQ; split <;> omega
/-- a day: what of the open is asked, of the asked settled -/
theorem fg_day (h8 : α 8 m ≤ α 0 2 + 2) {i : Nat} {c2 : Bool} (hc : ∀ a, fgR α m i a → 2 ≤ a → cbs α m a (α 0 2 + i) = c2) :
    let o := fgS α m f i gO
    let q := fgS α m f i gQ
    let N := if cbs α m 0 (α 0 2 + i) then o * (10 - f) else 0
    let S := if c2 then q * (10 - f) else 0
    fgS α m f (i + 1) gO = o * 10 - N ∧ fgS α m f (i + 1) gQ = q * 10 + N - S ∧ fgS α m f (i + 1) gD = fgS α m f i gD * 10 + S := by
  dsimp only
  have c1 : cbs α m 1 (α 0 2 + i) = false := by unfold cbs; rw [if_pos rfl]
  have eO : fgS α m f i (fun a => gO (fgT α m i a)) = (if cbs α m 0 (α 0 2 + i) then 0 else 1) * fgS α m f i gO + 0 * fgS α m f i gO := by
    rw [← fgS_ln]
    refine fgS_cg h8 i _ _ (fun a ha => ?_)
    rcases (show a = 0 ∨ a = 1 ∨ 2 ≤ a by omega) with rfl | rfl | h2
    · unfold fgT; cases cbs α m 0 (α 0 2 + i) <;> simp [gO]
    · unfold fgT; rw [c1]; simp [gO]
    · unfold fgT; rw [hc a ha h2]; cases c2 <;> simp [gO] <;> split <;> omega
  have eQ : fgS α m f i (fun a => gQ (fgT α m i a)) = (if cbs α m 0 (α 0 2 + i) then 1 else 0) * fgS α m f i gO + (if c2 then 0 else 1) * fgS α m f i gQ := by
    rw [← fgS_ln]
    refine fgS_cg h8 i _ _ (fun a ha => ?_)
    rcases (show a = 0 ∨ a = 1 ∨ 2 ≤ a by omega) with rfl | rfl | h2
    · unfold fgT; cases cbs α m 0 (α 0 2 + i) <;> simp [gO, gQ]
    · unfold fgT; rw [c1]; simp [gO, gQ]
    · have h0 : ¬ a = 0 := by omega
      unfold fgT; rw [hc a ha h2]; cases c2 <;> simp [gO, gQ, h0, h2]
  have eD : fgS α m f i (fun a => gD (fgT α m i a)) = 1 * fgS α m f i gD + (if c2 then 1 else 0) * fgS α m f i gQ := by
    rw [← fgS_ln]
    refine fgS_cg h8 i _ _ (fun a ha => ?_)
    rcases (show a = 0 ∨ a = 1 ∨ 2 ≤ a by omega) with rfl | rfl | h2
    · unfold fgT; cases cbs α m 0 (α 0 2 + i) <;> simp [gD, gQ]
    · unfold fgT; rw [c1]; simp [gD, gQ]
    · have h0 : ¬ a = 0 := by omega
      have h1 : ¬ a = 1 := by omega
      unfold fgT; rw [hc a ha h2]; cases c2 <;> simp [gD, gQ, h0, h1, h2]
  refine ⟨?_, ?_, ?_⟩
  · rw [fgS, eO]; cases cbs α m 0 (α 0 2 + i) <;> simp <;> grind
  · rw [fgS, eQ]; cases cbs α m 0 (α 0 2 + i) <;> cases c2 <;> simp <;> grind
  · rw [fgS, eD]; cases c2 <;> simp <;> grind
/-- in how many of 10 ^ n -/
def fgP (α : rA) (m : Nat) (f : Int) (n : Nat) : Nat := (fgS α m f n gD).toNat
theorem fgP_c (h0 : 0 ≤ f) (h10 : f ≤ 10) (n : Nat) : ((fgP α m f n : Nat) : Int) = fgS α m f n gD := by
  have := (fgS_in (α := α) (m := m) h0 h10 n gD gD_in).1
  unfold fgP; omega
theorem fgP_le (h0 : 0 ≤ f) (h10 : f ≤ 10) {n : Nat} (hn : n ≤ 8) : fgP α m f n ≤ 100000000 := by
  have := (fgS_in (α := α) (m := m) h0 h10 n gD gD_in).2
  have h2 := p10_8 hn
  unfold fgP; omega
end Fg
section FgX
variable {α : rA} {σ : jSt} {d : Nat} {k : Int32 → jSt → Prop}
theorem w_parts (hV : rV α) (hX : rX 3 α σ) {post : jPo} {m D : Nat} {f : Int} (hm : m < α 0 1) (hD : D ≤ 8) (hf0 : 0 ≤ f) (hf : f ≤ 10) (h : post (some (.int (iI (fgS α m f D gD)))) σ) :
    ∀ (n i : Nat) (z10 z11 z12 z13 z14 : Option Value), i + n = D → jv_wp (d + 5) post (13, 39, [some (.ref 3), some (.int (iI m)), some (.int (iI D)), some (.int (iI f)), some (.int (iI (zA (α 8 m)))), some (.int (iI (10 - f))), some (.int (iI (fgS α m f i gO))), some (.int (iI (fgS α m f i gQ))), some (.int (iI (fgS α m f i gD))), some (.int (iI i)), z10, z11, z12, z13, z14], [], σ) := by
  have htd := hV.td
  have hv := hV.m hm
  intro n
  induction n with
  | zero =>
    intro i z10 z11 z12 z13 z14 hi
    refine ok_X2_partsSettled_L39 ⟨fun _ => ?_, fun c => absurd ?_ c⟩
    · rw [show i = D by omega]; exact h
    · rw [iI_le ⟨by omega, by omega⟩ ⟨by omega, by omega⟩]; omega
  | succ n ih =>
    intro i z10 z11 z12 z13 z14 hi
    have fin : ∀ (x y z : Int) (z10 z11 z12 z13 z14 : Option Value), fgS α m f (i + 1) gO = x → fgS α m f (i + 1) gQ = y → fgS α m f (i + 1) gD = z → jv_wp (d + 5) post (13, 39, [some (.ref 3), some (.int (iI m)), some (.int (iI D)), some (.int (iI f)), some (.int (iI (zA (α 8 m)))), some (.int (iI (10 - f))), some (.int (iI x)), some (.int (iI y)), some (.int (iI z)), some (.int (iI ((i + 1 : Nat) : Int))), z10, z11, z12, z13, z14], [], σ) := by
      intro x y z z10 z11 z12 z13 z14 e1 e2 e3
      subst e1 e2 e3
      exact ih (i + 1) z10 z11 z12 z13 z14 (by omega)
    have hq := fgS_in (α := α) (m := m) hf0 hf i gQ gQ_in
    have hp := p10_8 (D := i) (by omega)
    have e1 : ((α 0 2 : Nat) : Int) + (i : Int) = ((α 0 2 + i : Nat) : Int) := by omega
    have e2 : (i : Int) + 1 = ((i + 1 : Nat) : Int) := by omega
    have hi0 : (iI (i : Int) = 0) ↔ i = 0 := by rw [iI_eq0 ⟨by omega, by omega⟩]; omega
    have hq0 : (iI (fgS α m f i gQ) ≤ 0) ↔ fgS α m f i gQ ≤ 0 := by rw [iI_le0 ⟨by omega, by omega⟩]
    have e3 : ((α 0 2 + i : Nat) : Int) - 1 = zA (α 0 2 + i + 1) ∨ i = 0 := by
      by_cases c : i = 0
      · exact Or.inr c
      · rw [zA_2 (by omega)]; omega
    refine ok_X2_partsSettled_L39 ⟨fun c => absurd c ?_, fun _ => ?_⟩
    · rw [iI_le ⟨by omega, by omega⟩ ⟨by omega, by omega⟩]; omega
    · rw [hX.td, hi0, hq0]
      dsimp only
      simp only [iI_add, iI_mul, iI_sub, e1, e2]
      refine q_speakersOn hV hX (by omega) (q_canBeSaid (a := 0) hV hX hm (by omega) (by omega) ?_)
      rw [jb_0]
      have dayN : ¬ i = 0 → ∀ c2, cbs α m (α 0 2 + i + 1) (α 0 2 + i) = c2 → ∀ a, fgR α m i a → 2 ≤ a → cbs α m a (α 0 2 + i) = c2 := by
        intro c c2 hc a ha h2
        unfold fgR at ha
        rw [if_neg c] at ha
        unfold cbs at hc ⊢
        rw [if_neg (by omega), if_neg (by omega), decide_eq_true (by omega)] at hc ⊢
        exact hc
      have day0 : i = 0 → ∀ c2, cbs α m (α 8 m) (α 0 2 + i) = c2 → ∀ a, fgR α m i a → 2 ≤ a → cbs α m a (α 0 2 + i) = c2 := by
        intro c c2 hc a ha h2
        unfold fgR at ha
        rw [if_pos c] at ha
        rw [ha]; exact hc
      refine ⟨fun c0 => ⟨fun ci => ⟨fun cq => ?_, fun cq => ?_⟩, fun ci => ⟨fun cq => ?_, fun cq => ?_⟩⟩, fun c0 => ⟨fun ci => ⟨fun cq => ?_, fun cq => ?_⟩, fun ci => ⟨fun cq => ?_, fun cq => ?_⟩⟩⟩
      · have hd := fg_day (f := f) hv.2.2.2.2 (dayN ci _ rfl)
        dsimp only at hd
        rw [c0, show fgS α m f i gQ = 0 by omega] at hd
        refine fin _ _ _ _ _ _ _ _ (hd.1.trans ?_) (hd.2.1.trans ?_) (hd.2.2.trans ?_) <;> simp
        omega
      · rw [show ((α 0 2 + i : Nat) : Int) - 1 = zA (α 0 2 + i + 1) by omega]
        refine q_canBeSaid hV hX hm (by omega) (by omega) ?_
        rw [jb_0]
        refine ⟨fun cc => ?_, fun cc => ?_⟩
        · have hd := fg_day (f := f) hv.2.2.2.2 (dayN ci _ cc)
          dsimp only at hd
          rw [c0] at hd
          refine fin _ _ _ _ _ _ _ _ (hd.1.trans ?_) (hd.2.1.trans ?_) (hd.2.2.trans ?_) <;> simp
        · have hd := fg_day (f := f) hv.2.2.2.2 (dayN ci true (by simpa using cc))
          dsimp only at hd
          rw [c0] at hd
          refine fin _ _ _ _ _ _ _ _ (hd.1.trans ?_) (hd.2.1.trans ?_) (hd.2.2.trans ?_) <;> simp
      · have hd := fg_day (f := f) hv.2.2.2.2 (day0 ci _ rfl)
        dsimp only at hd
        rw [c0, show fgS α m f i gQ = 0 by omega] at hd
        refine fin _ _ _ _ _ _ _ _ (hd.1.trans ?_) (hd.2.1.trans ?_) (hd.2.2.trans ?_) <;> simp
        omega
      · refine q_canBeSaid hV hX hm (by omega) (by omega) ?_
        rw [jb_0]
        refine ⟨fun cc => ?_, fun cc => ?_⟩
        · have hd := fg_day (f := f) hv.2.2.2.2 (day0 ci _ cc)
          dsimp only at hd
          rw [c0] at hd
          refine fin _ _ _ _ _ _ _ _ (hd.1.trans ?_) (hd.2.1.trans ?_) (hd.2.2.trans ?_) <;> simp
        · have hd := fg_day (f := f) hv.2.2.2.2 (day0 ci true (by simpa using cc))
          dsimp only at hd
          rw [c0] at hd
          refine fin _ _ _ _ _ _ _ _ (hd.1.trans ?_) (hd.2.1.trans ?_) (hd.2.2.trans ?_) <;> simp
      · have c0 : cbs α m 0 (α 0 2 + i) = true := by simpa using c0
        have hd := fg_day (f := f) hv.2.2.2.2 (dayN ci _ rfl)
        dsimp only at hd
        rw [c0, show fgS α m f i gQ = 0 by omega] at hd
        refine fin _ _ _ _ _ _ _ _ (hd.1.trans ?_) (hd.2.1.trans ?_) (hd.2.2.trans ?_) <;> simp
        omega
      · have c0 : cbs α m 0 (α 0 2 + i) = true := by simpa using c0
        rw [show ((α 0 2 + i : Nat) : Int) - 1 = zA (α 0 2 + i + 1) by omega]
        refine q_canBeSaid hV hX hm (by omega) (by omega) ?_
        rw [jb_0]
        refine ⟨fun cc => ?_, fun cc => ?_⟩
        · have hd := fg_day (f := f) hv.2.2.2.2 (dayN ci _ cc)
          dsimp only at hd
          rw [c0] at hd
          refine fin _ _ _ _ _ _ _ _ (hd.1.trans ?_) (hd.2.1.trans ?_) (hd.2.2.trans ?_) <;> simp
        · have hd := fg_day (f := f) hv.2.2.2.2 (dayN ci true (by simpa using cc))
          dsimp only at hd
          rw [c0] at hd
          refine fin _ _ _ _ _ _ _ _ (hd.1.trans ?_) (hd.2.1.trans ?_) (hd.2.2.trans ?_) <;> simp
      · have c0 : cbs α m 0 (α 0 2 + i) = true := by simpa using c0
        have hd := fg_day (f := f) hv.2.2.2.2 (day0 ci _ rfl)
        dsimp only at hd
        rw [c0, show fgS α m f i gQ = 0 by omega] at hd
        refine fin _ _ _ _ _ _ _ _ (hd.1.trans ?_) (hd.2.1.trans ?_) (hd.2.2.trans ?_) <;> simp
        omega
      · have c0 : cbs α m 0 (α 0 2 + i) = true := by simpa using c0
        refine q_canBeSaid hV hX hm (by omega) (by omega) ?_
        rw [jb_0]
        refine ⟨fun cc => ?_, fun cc => ?_⟩
        · have hd := fg_day (f := f) hv.2.2.2.2 (day0 ci _ cc)
          dsimp only at hd
          rw [c0] at hd
          refine fin _ _ _ _ _ _ _ _ (hd.1.trans ?_) (hd.2.1.trans ?_) (hd.2.2.trans ?_) <;> simp
        · have hd := fg_day (f := f) hv.2.2.2.2 (day0 ci true (by simpa using cc))
          dsimp only at hd
          rw [c0] at hd
          refine fin _ _ _ _ _ _ _ _ (hd.1.trans ?_) (hd.2.1.trans ?_) (hd.2.2.trans ?_) <;> simp
theorem q_partsSettled (hV : rV α) (hX : rX 3 α σ) {m D : Nat} {f : Int} (hm : m < α 0 1) (h1 : α 8 m ≠ 1) (hD : D ≤ 8) (hf0 : 0 ≤ f) (hf : f ≤ 10) (h : k (iI ((fgP α m f D : Nat) : Int)) σ) : jq_I (d + 5) 13 [.ref 3, .int (iI m), .int (iI D), .int (iI f)] σ k := by
  have h5 := hV.M
  have htd := hV.td
  have hv := hV.m hm
  have hc : (iI (m : Int)).toNatClampNeg = m := iI_clamp (by omega)
  have hin : vp_in (iI (m : Int)) 5 := (iI_in (by omega) 5).mpr (by omega)
  rw [fgP_c hf0 hf] at h
  have go := w_parts (d := d) hV hX hm hD hf0 hf (post := fun r σ' => ∃ x, r = some (.int x) ∧ k x σ') ⟨_, rfl, h⟩ D 0 none none none none none (by omega)
  refine ok_X2_partsSettled ⟨hin, ?_⟩
  rw [hc, hX.st hm]
  dsimp only
  rw [iI_eq (zA_R (by omega)) ⟨by omega, by omega⟩, zA_0]
  simp only [iI_sub]
  unfold fgS gO gQ gD at go
  refine ⟨fun c => ?_, fun c => ?_⟩
  · rw [if_neg c, if_pos (show 2 ≤ α 8 m by omega), if_neg h1] at go
    exact go
  · rw [if_pos c, if_neg (show ¬ 2 ≤ α 8 m by omega), if_neg h1] at go
    exact go
end FgX
