/-! the reference: its picture, its calendar, who speaks -/
section JE
/-- nothing but S has changed -/
def eS (S : Nat → Nat → Prop) (σ σ' : jSt) : Prop := σ'.2 = σ.2 ∧ ∀ c k, ¬ S c k → σ'.1 c k = σ.1 c k
theorem eS.rf {S : Nat → Nat → Prop} {σ : jSt} : eS S σ σ := ⟨rfl, fun _ _ _ => rfl⟩
theorem eS.tr {S : Nat → Nat → Prop} {σ σ1 σ2 : jSt} (h1 : eS S σ σ1) (h2 : eS S σ1 σ2) : eS S σ σ2 := ⟨h2.1.trans h1.1, fun c k h => (h2.2 c k h).trans (h1.2 c k h)⟩
theorem eS.wk {S T : Nat → Nat → Prop} {σ σ' : jSt} (h : eS S σ σ') (hST : ∀ c k, S c k → T c k) : eS T σ σ' := ⟨h.1, fun c k n => h.2 c k (fun q => n (hST c k q))⟩
theorem jv_u_at {σ : jSt} {c k c' k' : Nat} {x : Int32} : (jv_u σ c k x).1 c' k' = if c' = c ∧ k' = k then x else σ.1 c' k' := by
  unfold jv_u jv_a upd
  by_cases h1 : c' = c
  · subst h1
    by_cases h2 : k' = k
    · simp [h2]
    · simp [h2]
  · simp [h1]
theorem jv_u_2 {σ : jSt} {c k : Nat} {x : Int32} : (jv_u σ c k x).2 = σ.2 := rfl
theorem eS.u {S : Nat → Nat → Prop} {σ : jSt} {c k : Nat} {x : Int32} (h : S c k) : eS S σ (jv_u σ c k x) := by
  refine ⟨rfl, fun c' k' n => ?_⟩
  rw [jv_u_at, if_neg]
  rintro ⟨rfl, rfl⟩
  exact n h
/-- the laid date -/
def dS (c k : Nat) : Prop := c = 34 ∧ (k = 17 ∨ k = 18 ∨ k = 19)
/-- how matters stand then -/
def tS (c _k : Nat) : Prop := c = 45 ∨ c = 46
/-- all that the reference only uses within a call -/
def mS (c k : Nat) : Prop := c = 34 ∧ (k = 2 ∨ k = 17 ∨ k = 18 ∨ k = 19 ∨ k = 26) ∨ c = 45 ∨ c = 46 ∨ c = 47
def dtS (c k : Nat) : Prop := dS c k ∨ tS c k
theorem dS_m (c k : Nat) (h : dS c k) : mS c k := by unfold dS at h; unfold mS; omega
theorem tS_m (c k : Nat) (h : tS c k) : mS c k := by unfold tS at h; unfold mS; omega
theorem dtS_m (c k : Nat) (h : dtS c k) : mS c k := h.elim (dS_m c k) (tS_m c k)
theorem dS_dt (c k : Nat) (h : dS c k) : dtS c k := Or.inl h
theorem tS_dt (c k : Nat) (h : tS c k) : dtS c k := Or.inr h
end JE
/-- the reference's river -/
def rM (α : rA) (σ : jSt) : Prop :=
  σ.1 34 3 = iI (α 0 0 : Nat) ∧ σ.1 34 4 = iI (α 0 1 : Nat) ∧ σ.1 34 5 = iI (α 0 2 : Nat) ∧ σ.1 34 24 = iI (α 0 4 : Nat) ∧
  (∀ p, p < α 0 0 → σ.1 36 p = iI (α 1 p : Nat) ∧ σ.1 37 p = iI (α 2 p : Nat) ∧ σ.1 38 p = iI (α 3 p : Nat) ∧ σ.1 39 p = iI (α 4 p : Nat)) ∧
  (∀ m, m < α 0 1 → σ.1 40 m = iI (α 5 m : Nat) ∧ σ.1 41 m = iI (α 6 m : Nat) ∧ σ.1 42 m = iI (α 7 m : Nat) ∧ σ.1 43 m = iI (stN (α 8 m) : Nat) ∧ (2 ≤ α 8 m → σ.1 44 m = iI ((α 8 m : Int) - 2))) ∧
  (∀ i, i < α 0 4 → σ.1 48 (3 * i) = iI (α 9 i : Nat) ∧ σ.1 48 (3 * i + 1) = iI (α 10 i : Nat) ∧ σ.1 48 (3 * i + 2) = iI (α 11 i : Nat))
/-- how matters stand then -/
def rT (a : Nat → Nat) (M : Nat) (σ : jSt) : Prop := ∀ m, m < M → σ.1 45 m = iI (stN (a m) : Nat) ∧ (2 ≤ a m → σ.1 46 m = iI ((a m : Int) - 2))
section RM
variable {α : rA} {σ σ' : jSt}
theorem rM.P (h : rM α σ) : σ.1 34 3 = iI (α 0 0 : Nat) := h.1
theorem rM.M (h : rM α σ) : σ.1 34 4 = iI (α 0 1 : Nat) := h.2.1
theorem rM.td (h : rM α σ) : σ.1 34 5 = iI (α 0 2 : Nat) := h.2.2.1
theorem rM.sz (h : rM α σ) : σ.1 34 24 = iI (α 0 4 : Nat) := h.2.2.2.1
theorem rM.kd (h : rM α σ) {p : Nat} (hp : p < α 0 0) : σ.1 36 p = iI (α 1 p : Nat) := (h.2.2.2.2.1 p hp).1
theorem rM.bn (h : rM α σ) {p : Nat} (hp : p < α 0 0) : σ.1 37 p = iI (α 2 p : Nat) := (h.2.2.2.2.1 p hp).2.1
theorem rM.bk (h : rM α σ) {p : Nat} (hp : p < α 0 0) : σ.1 38 p = iI (α 3 p : Nat) := (h.2.2.2.2.1 p hp).2.2.1
theorem rM.me (h : rM α σ) {p : Nat} (hp : p < α 0 0) : σ.1 39 p = iI (α 4 p : Nat) := (h.2.2.2.2.1 p hp).2.2.2
theorem rM.ak (h : rM α σ) {m : Nat} (hm : m < α 0 1) : σ.1 40 m = iI (α 5 m : Nat) := (h.2.2.2.2.2.1 m hm).1
theorem rM.aw (h : rM α σ) {m : Nat} (hm : m < α 0 1) : σ.1 41 m = iI (α 6 m : Nat) := (h.2.2.2.2.2.1 m hm).2.1
theorem rM.wo (h : rM α σ) {m : Nat} (hm : m < α 0 1) : σ.1 42 m = iI (α 7 m : Nat) := (h.2.2.2.2.2.1 m hm).2.2.1
theorem rM.st (h : rM α σ) {m : Nat} (hm : m < α 0 1) : σ.1 43 m = iI (stN (α 8 m) : Nat) := (h.2.2.2.2.2.1 m hm).2.2.2.1
theorem rM.on (h : rM α σ) {m : Nat} (hm : m < α 0 1) (h2 : 2 ≤ α 8 m) : σ.1 44 m = iI ((α 8 m : Int) - 2) := (h.2.2.2.2.2.1 m hm).2.2.2.2 h2
theorem rM.see (h : rM α σ) {i : Nat} (hi : i < α 0 4) : σ.1 48 (3 * i) = iI (α 9 i : Nat) ∧ σ.1 48 (3 * i + 1) = iI (α 10 i : Nat) ∧ σ.1 48 (3 * i + 2) = iI (α 11 i : Nat) := h.2.2.2.2.2.2 i hi
theorem rM.mv (h : rM α σ) (e : eS mS σ σ') : rM α σ' := by
  have ek : ∀ c k, ¬ mS c k → σ'.1 c k = σ.1 c k := e.2
  obtain ⟨h1, h2, h3, h4, h5, h6, h7⟩ := h
  refine ⟨?_, ?_, ?_, ?_, fun p hp => ?_, fun m hm => ?_, fun i hi => ?_⟩
  · rw [ek _ _ (by unfold mS; omega)]; exact h1
  · rw [ek _ _ (by unfold mS; omega)]; exact h2
  · rw [ek _ _ (by unfold mS; omega)]; exact h3
  · rw [ek _ _ (by unfold mS; omega)]; exact h4
  · rw [ek _ _ (by unfold mS; omega), ek _ _ (by unfold mS; omega), ek _ _ (by unfold mS; omega), ek _ _ (by unfold mS; omega)]; exact h5 p hp
  · rw [ek _ _ (by unfold mS; omega), ek _ _ (by unfold mS; omega), ek _ _ (by unfold mS; omega), ek _ _ (by unfold mS; omega), ek _ _ (by unfold mS; omega)]; exact h6 m hm
  · rw [ek _ _ (by unfold mS; omega), ek _ _ (by unfold mS; omega), ek _ _ (by unfold mS; omega)]; exact h7 i hi
theorem rT.mv {a : Nat → Nat} {M : Nat} (h : rT a M σ) (e : eS dS σ σ') : rT a M σ' := by
  intro m hm
  rw [e.2 _ _ (by unfold dS; omega), e.2 _ _ (by unfold dS; omega)]
  exact h m hm
theorem rX.mv {w : Nat} (hw : w ≤ 15) (h : rX w α σ) (e : eS mS σ σ') : rX w α σ' := by
  have ek : ∀ c k, ¬ mS c k → σ'.1 c k = σ.1 c k := e.2
  obtain ⟨h1, h2, h3, h4, h5, h6, h7, h8⟩ := h
  refine ⟨?_, ?_, ?_, ?_, ?_, fun p hp => ?_, fun m hm => ?_, fun i hi => ?_⟩
  · rw [ek _ _ (by unfold mS; omega)]; exact h1
  · rw [ek _ _ (by unfold mS; omega)]; exact h2
  · rw [ek _ _ (by unfold mS; omega)]; exact h3
  · rw [ek _ _ (by unfold mS; omega)]; exact h4
  · rw [ek _ _ (by unfold mS; omega)]; exact h5
  · rw [ek _ _ (by unfold mS; omega), ek _ _ (by unfold mS; omega), ek _ _ (by unfold mS; omega)]; exact h6 p hp
  · rw [ek _ _ (by unfold mS; omega), ek _ _ (by unfold mS; omega), ek _ _ (by unfold mS; omega), ek _ _ (by unfold mS; omega)]; exact h7 m hm
  · rw [ek _ _ (by unfold mS; omega), ek _ _ (by unfold mS; omega), ek _ _ (by unfold mS; omega)]; exact h8 i hi
end RM
section MCal
variable {α : rA} {σ : jSt} {d : Nat} {k : Int32 → jSt → Prop}
def dyN (m y : Nat) : Nat := if m = 2 then (if y % 4 = 3 then 29 else 28) else if m = 4 ∨ m = 6 ∨ m = 9 ∨ m = 11 then 30 else 31
theorem dyN_in (m y : Nat) : 28 ≤ dyN m y ∧ dyN m y ≤ 31 := by unfold dyN; split <;> (try split) <;> omega
theorem q_daysOf {m y : Nat} (hm : m < 20) (hy : y < 100000) (h : k (iI (dyN m y : Nat)) σ) : jq_I (d + 1) 92 [.int (iI m), .int (iI y)] σ k := by
  refine ok_X9_daysOf ?_
  have h4 : iI (y : Int) - iI (y : Int) / iI 4 * iI 4 = iI ((y % 4 : Nat) : Int) := iI_rem (b := 4) (by omega) (by omega) (by omega)
  have em : ∀ j : Int, 0 ≤ j → j < 100 → (iI (m : Int) = iI j ↔ (m : Int) = j) := fun j h1 h2 => iI_eq ⟨by omega, by omega⟩ ⟨by omega, by omega⟩
  unfold vc_X9_daysOf
  rw [h4, iI_eq (a := ((y % 4 : Nat) : Int)) ⟨by omega, by omega⟩ ⟨by omega, by omega⟩, em 2 (by omega) (by omega), em 3 (by omega) (by omega), em 4 (by omega) (by omega), em 5 (by omega) (by omega), em 6 (by omega) (by omega), em 7 (by omega) (by omega), em 8 (by omega) (by omega), em 9 (by omega) (by omega), em 10 (by omega) (by omega), em 11 (by omega) (by omega)]
  have fin : ∀ z : Nat, dyN m y = z → (∃ x, some (Value.int (iI (z : Int))) = some (.int x) ∧ k x σ) := fun z e => ⟨_, rfl, by rw [← e]; exact h⟩
  refine ⟨fun c => ⟨fun c1 => fin 28 ?_, fun c1 => fin 29 ?_⟩, fun c => ⟨fun c1 => fin 31 ?_, fun c1 => ⟨fun c2 => fin 30 ?_, fun c2 => ⟨fun c3 => fin 31 ?_, fun c3 => ⟨fun c4 => fin 30 ?_, fun c4 => ⟨fun c5 => fin 31 ?_, fun c5 => ⟨fun c6 => fin 31 ?_, fun c6 => ⟨fun c7 => fin 30 ?_, fun c7 => ⟨fun c8 => fin 31 ?_, fun c8 => ⟨fun c9 => fin 30 ?_, fun c9 => fin 31 ?_⟩⟩⟩⟩⟩⟩⟩⟩⟩⟩
  all_goals unfold dyN
  all_goals (repeat' split) <;> omega
/-- left, month, year behind n steps -/
def laN : Nat → Nat → Nat → Nat → Nat × Nat × Nat
  | 0, l, m, y => (l, m, y)
  | n + 1, l, m, y => if l < dyN m y then (l, m, y) else laN n (l - dyN m y) (if m = 12 then 1 else m + 1) (if m = 12 then y + 1 else y)
theorem w_layDate {post : jPo} {dy : Int32} : ∀ (n l m y : Nat) (σ : jSt), σ.1 34 18 = iI m → σ.1 34 19 = iI y → 1 ≤ m → m ≤ 12 → y + n < 100000 → l < 5000 → (laN n l m y).1 < dyN (laN n l m y).2.1 (laN n l m y).2.2 →
    (∀ σ', eS dS σ σ' → σ'.1 34 17 = iI (((laN n l m y).1 + 1 : Nat) : Int) → σ'.1 34 18 = iI ((laN n l m y).2.1 : Nat) → σ'.1 34 19 = iI ((laN n l m y).2.2 : Nat) → post none σ') →
    jv_wp (d + 2) post (93, 22, [some (.ref 34), some (.int dy), some (.int (iI l))], [], σ) := by
  intro n
  have done : ∀ (l m y : Nat) (σ : jSt), σ.1 34 18 = iI m → σ.1 34 19 = iI y → m ≤ 12 → y < 100000 → l < 5000 → l < dyN m y → (∀ σ', eS dS σ σ' → σ'.1 34 17 = iI ((l + 1 : Nat) : Int) → σ'.1 34 18 = iI (m : Nat) → σ'.1 34 19 = iI (y : Nat) → post none σ') → jv_wp (d + 2) post (93, 22, [some (.ref 34), some (.int dy), some (.int (iI l))], [], σ) := by
    intro l m y σ e1 e2 hm hy hl hx h
    have hd := dyN_in m y
    refine ok_X9_layDate_L22 ?_
    unfold vc_X9_layDate_L22
    rw [e1, e2]
    refine q_daysOf (by omega) (by omega) ?_
    rw [iI_lt ⟨by omega, by omega⟩ ⟨by omega, by omega⟩]
    refine ⟨fun _ => ?_, fun c => absurd (by omega) c⟩
    refine h _ (eS.u (by unfold dS; omega)) ?_ ?_ ?_
    · rw [jv_u_at, if_pos ⟨rfl, rfl⟩, iI_add]; exact congrArg iI (by omega)
    · rw [jv_u_at, if_neg (by omega)]; exact e1
    · rw [jv_u_at, if_neg (by omega)]; exact e2
  induction n with
  | zero =>
    intro l m y σ e1 e2 h1 h2 h3 h4 hx h
    exact done l m y σ e1 e2 h2 (by omega) h4 hx h
  | succ n ih =>
    intro l m y σ e1 e2 h1 h2 h3 h4 hx h
    by_cases c : l < dyN m y
    · unfold laN at hx h
      rw [if_pos c] at hx h
      exact done l m y σ e1 e2 h2 (by omega) h4 hx h
    · unfold laN at hx h
      rw [if_neg c] at hx h
      have hd := dyN_in m y
      refine ok_X9_layDate_L22 ?_
      unfold vc_X9_layDate_L22
      rw [e1, e2]
      refine q_daysOf (by omega) (by omega) ⟨fun c2 => ?_, fun _ => ?_⟩
      · rw [iI_lt ⟨by omega, by omega⟩ ⟨by omega, by omega⟩] at c2; omega
      · rw [e1, e2]
        refine q_daysOf (by omega) (by omega) ?_
        dsimp only
        simp (decide := true) only [jv_u_at, ite_true, ite_false, e1, e2, iI_sub, iI_add]
        rw [iI_eq ⟨by omega, by omega⟩ ⟨by omega, by omega⟩, show (l : Int) - (dyN m y : Nat) = ((l - dyN m y : Nat) : Int) by omega]
        have nx : ∀ (s : jSt) (m' y' : Nat), eS dS σ s → m' = (if m = 12 then 1 else m + 1) → y' = (if m = 12 then y + 1 else y) → s.1 34 18 = iI (m' : Nat) → s.1 34 19 = iI (y' : Nat) → jv_wp (d + 2) post (93, 22, [some (.ref 34), some (.int dy), some (.int (iI ((l - dyN m y : Nat) : Int)))], [], s) := by
          intro s m' y' hE hm' hy' g1 g2
          rw [← hm', ← hy'] at hx h
          refine ih (l - dyN m y) m' y' s g1 g2 (by subst hm'; split <;> omega) (by subst hm'; split <;> omega) (by subst hy'; split <;> omega) (by omega) hx ?_
          intro σ' hE' f1 f2 f3
          exact h σ' (hE.tr hE') f1 f2 f3
        have dd : ∀ k, k = 17 ∨ k = 18 ∨ k = 19 → dS 34 k := fun k hk => ⟨rfl, hk⟩
        refine ⟨fun c2 => ⟨fun c3 => ?_, fun c3 => absurd c3 c2⟩, fun c2 => ⟨fun c3 => absurd c2 c3, fun c3 => ?_⟩⟩
        · refine nx _ (m + 1) y (((eS.u (dd 18 (by omega))).tr (eS.u (dd 19 (by omega)))).tr (eS.u (dd 18 (by omega)))) (by rw [if_neg (by omega)]) (by rw [if_neg (by omega)]) ?_ ?_
          · rw [jv_u_at, if_pos ⟨rfl, rfl⟩]; exact congrArg iI (by omega)
          · rw [jv_u_at, if_neg (by omega), jv_u_at, if_pos ⟨rfl, rfl⟩]; exact congrArg iI (by omega)
        · refine nx _ 1 (y + 1) (((eS.u (dd 18 (by omega))).tr (eS.u (dd 19 (by omega)))).tr (eS.u (dd 18 (by omega)))) (by rw [if_pos (by omega)]) (by rw [if_pos (by omega)]) ?_ ?_
          · rw [jv_u_at, if_pos ⟨rfl, rfl⟩]; rfl
          · rw [jv_u_at, if_neg (by omega), jv_u_at, if_pos ⟨rfl, rfl⟩]; exact congrArg iI (by omega)
def la (day : Nat) : Nat × Nat × Nat := laN 60 (day % 1461) 1 (4 * (day / 1461))
def laP (day : Nat) : Bool := decide ((la day).1 < dyN (la day).2.1 (la day).2.2) && decide (mad day = (la day).2.1 * 32 + (la day).1 + 1) && decide (yeN day = (la day).2.2) && decide ((la day).1 < 31) && decide (1 ≤ (la day).2.1) && decide ((la day).2.1 ≤ 12)
theorem la_0 : ∀ a : Nat, a < 40 → (List.range 50).all (fun b => laP (50 * a + b)) = true := by decide +kernel
/-- both calendars agree (days of the promise lie below 2000) -/
theorem la_ok (day : Nat) (h : day < 2000) : (la day).1 < dyN (la day).2.1 (la day).2.2 ∧ mad day = (la day).2.1 * 32 + (la day).1 + 1 ∧ yeN day = (la day).2.2 ∧ (la day).1 < 31 ∧ 1 ≤ (la day).2.1 ∧ (la day).2.1 ≤ 12 := by
  have h0 := List.all_eq_true.mp (la_0 (day / 50) (by omega)) (day % 50) (List.mem_range.mpr (by omega))
  rw [show 50 * (day / 50) + day % 50 = day by omega] at h0
  unfold laP at h0
  simp only [Bool.and_eq_true, decide_eq_true_eq] at h0
  exact ⟨h0.1.1.1.1.1, h0.1.1.1.1.2, h0.1.1.1.2, h0.1.1.2, h0.1.2, h0.2⟩
theorem q_layDate {K : jSt → Prop} {day : Nat} (hd : day < 2000) (h : ∀ σ', eS dS σ σ' → σ'.1 34 17 = iI ((mad day % 32 : Nat) : Int) → σ'.1 34 18 = iI ((mad day / 32 : Nat) : Int) → σ'.1 34 19 = iI ((yeN day : Nat) : Int) → K σ') : jq_V (d + 2) 93 [.ref 34, .int (iI day)] σ K := by
  obtain ⟨l1, l2, l3, l4, l5, l6⟩ := la_ok day hd
  have hr : iI (day : Int) - iI (day : Int) / iI 1461 * iI 1461 = iI ((day % 1461 : Nat) : Int) := iI_rem (b := 1461) (by omega) (by omega) (by omega)
  have hq : iI (day : Int) / iI 1461 = iI ((day / 1461 : Nat) : Int) := iI_div (b := 1461) (by omega) (by omega) (by omega)
  refine ok_X9_layDate ?_
  unfold vc_X9_layDate
  rw [hr, hq]
  have dd : ∀ k, k = 17 ∨ k = 18 ∨ k = 19 → dS 34 k := fun k hk => ⟨rfl, hk⟩
  refine w_layDate 60 (day % 1461) 1 (4 * (day / 1461)) _ ?_ ?_ (by omega) (by omega) (by omega) (by omega) l1 ?_
  · rw [jv_u_at, if_pos ⟨rfl, rfl⟩]; rfl
  · rw [jv_u_at, if_neg (by omega), jv_u_at, if_pos ⟨rfl, rfl⟩, iI_mul]; exact congrArg iI (by omega)
  · intro σ' hE f1 f2 f3
    refine ⟨rfl, h σ' (((eS.u (dd 19 (by omega))).tr (eS.u (dd 18 (by omega)))).tr hE) ?_ ?_ ?_⟩
    · rw [f1, l2]; exact congrArg (fun n : Nat => iI (n : Int)) (by change _ = _; have := l4; unfold la at *; omega)
    · rw [f2, l2]; exact congrArg (fun n : Nat => iI (n : Int)) (by have := l4; unfold la at *; omega)
    · rw [f3, l3]; rfl
/-- is a bank on, the date laid -/
theorem vo_bit (day : Nat) : ∀ s, s < 2 → (vo day).testBit s = (decide (mad day = 93) || decide (mad day % 32 % 2 = 1 - s)) := by
  intro s hs
  have hb : ∀ v s : Nat, s < 2 → v < 8 → v.testBit s = decide (v / 2 ^ s % 2 = 1) := fun v s _ _ => by rw [Nat.testBit_eq_decide_div_mod_eq]
  rw [hb _ _ hs (by rcases vo_in day with h | h | h | h <;> omega)]
  unfold vo
  rcases (show s = 0 ∨ s = 1 by omega) with rfl | rfl
  · split
    · next h => simp [h]
    · next h =>
      split
      · next h2 => simp [h, h2]
      · next h2 =>
        split
        · next h3 => simp [h]; omega
        · next h3 => simp [h]; omega
  · split
    · next h => simp [h]
    · next h =>
      split
      · next h2 => simp [h, h2]
      · next h2 =>
        split
        · next h3 => simp [h]; omega
        · next h3 => simp [h]; omega
theorem q_isBankOn {day s : Nat} (hs : s < 2) (e1 : σ.1 34 17 = iI ((mad day % 32 : Nat) : Int)) (e2 : σ.1 34 18 = iI ((mad day / 32 : Nat) : Int)) (h : k (jb ((vo day).testBit s)) σ) : jq_I (d + 1) 94 [.ref 34, .int (iI s)] σ k := by
  have hl := mad_lt day
  have h2 : iI ((mad day % 32 : Nat) : Int) - iI ((mad day % 32 : Nat) : Int) / iI 2 * iI 2 = iI ((mad day % 32 % 2 : Nat) : Int) := iI_rem (b := 2) (by omega) (by omega) (by omega)
  refine ok_X9_isBankOn ?_
  unfold vc_X9_isBankOn
  rw [e1, e2, h2, iI_sub, iI_eq ⟨by omega, by omega⟩ ⟨by omega, by omega⟩, iI_eq ⟨by omega, by omega⟩ ⟨by omega, by omega⟩, iI_eq ⟨by omega, by omega⟩ ⟨by omega, by omega⟩]
  rw [vo_bit day s hs] at h
  have z : ∀ b : Bool, (decide (mad day = 93) || decide (mad day % 32 % 2 = 1 - s)) = b → (∃ x, some (Value.int (jb b)) = some (.int x) ∧ k x σ) := fun b e => ⟨_, rfl, by rw [← e]; exact h⟩
  rw [jb_t, jb_f]
  refine ⟨fun c => ⟨fun c2 => z false ?_, fun c2 => z true ?_⟩, fun c => ⟨fun c1 => ⟨fun c2 => z false ?_, fun c2 => z true ?_⟩, fun c1 => z true ?_⟩⟩
  · rw [decide_eq_false (by omega), decide_eq_false (by omega)]; rfl
  · rw [decide_eq_true (show mad day % 32 % 2 = 1 - s by omega), Bool.or_true]
  · rw [decide_eq_false (by omega), decide_eq_false (by omega)]; rfl
  · rw [decide_eq_true (show mad day % 32 % 2 = 1 - s by omega), Bool.or_true]
  · rw [decide_eq_true (show mad day = 93 by omega), Bool.true_or]
theorem vo_first (day : Nat) : (vo day).testBit 2 = decide (mad day % 32 = 1) := by
  rw [Nat.testBit_eq_decide_div_mod_eq]
  unfold vo
  split
  · next h => simp [h]
  · split
    · next h2 => simp [h2]
    · next h2 =>
      split <;> simp [h2]
theorem q_isSpeaking {day kd bn bk : Nat} (hk : kd < 5) (hb : bn < 2) (hbk : bk < 2) (e1 : σ.1 34 17 = iI ((mad day % 32 : Nat) : Int)) (e2 : σ.1 34 18 = iI ((mad day / 32 : Nat) : Int)) (h : k (jb (spk (vo day) kd bn bk)) σ) : jq_I (d + 2) 95 [.ref 34, .int (iI kd), .int (iI bn), .int (iI bk)] σ k := by
  have hl := mad_lt day
  refine ok_X9_isSpeaking ?_
  have ek : ∀ j : Int, 0 ≤ j → j < 100 → (iI (kd : Int) = iI j ↔ (kd : Int) = j) := fun j h1 h2 => iI_eq ⟨by omega, by omega⟩ ⟨by omega, by omega⟩
  unfold vc_X9_isSpeaking
  rw [ek 1 (by omega) (by omega), ek 2 (by omega) (by omega), ek 3 (by omega) (by omega), ek 4 (by omega) (by omega)]
  unfold spk at h
  refine ⟨fun c => ⟨_, rfl, ?_⟩, fun c => ⟨fun c1 => q_isBankOn hbk e1 e2 ?_, fun c1 => ⟨fun c2 => q_isBankOn hb e1 e2 ⟨jb_z _, _, rfl, ?_⟩, fun c2 => ⟨fun c3 => ⟨_, rfl, ?_⟩, fun c3 => q_isBankOn hbk e1 e2 ⟨jb_z _, _, rfl, ?_⟩⟩⟩⟩⟩
  · rw [jb_t]; rwa [if_pos (by omega)] at h
  · rw [if_neg (by omega), if_pos (by omega), vo_first] at h
    rw [jb_0, e1, iI_eq ⟨by omega, by omega⟩ ⟨by omega, by omega⟩]
    refine ⟨fun c2 => ⟨_, rfl, ?_⟩, fun c2 => ⟨fun c3 => ⟨_, rfl, ?_⟩, fun c3 => ⟨_, rfl, ?_⟩⟩⟩
    · rw [jb_t]; rwa [show (vo day).testBit bk = true by simpa using c2, Bool.true_or] at h
    · rw [jb_f]; rwa [c2, decide_eq_false (by omega)] at h
    · rw [jb_t]; rwa [decide_eq_true (by omega), Bool.or_true] at h
  · rwa [if_neg (by omega), if_neg (by omega), if_pos (by omega)] at h
  · rw [jb_t]; rwa [if_pos (by omega)] at h
  · rwa [if_neg (by omega), if_neg (by omega), if_neg (by omega)] at h
theorem q_maySpeak (hV : rV α) (hM : rM α σ) {p dy : Nat} (hp : p < α 0 0) (hd : dy < 2000) (h : ∀ σ', eS dS σ σ' → k (jb (sp α dy p)) σ') : jq_I (d + 3) 96 [.ref 34, .int (iI p), .int (iI dy)] σ k := by
  have h6 := hV.P
  have hv := hV.p hp
  have hc : (iI (p : Int)).toNatClampNeg = p := iI_clamp (by omega)
  have hin : vp_in (iI (p : Int)) 6 := (iI_in (by omega) 6).mpr (by omega)
  refine ok_X9_maySpeak (q_layDate hd (fun σ' hE e1 e2 e3 => ⟨hin, hin, hin, ?_⟩))
  have hM' := hM.mv (hE.wk dS_m)
  rw [hc, hM'.kd hp, hM'.bn hp, hM'.bk hp]
  exact q_isSpeaking hv.1 hv.2.1 hv.2.2.1 e1 e2 ⟨jb_z _, _, rfl, h σ' hE⟩
end MCal
