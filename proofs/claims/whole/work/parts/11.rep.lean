/-! what a river is, in numbers: P, M, the day .. in row 0; rows 1 kinds, 2 born, 3 banks, 4 memory, 5 asks, 6 answers, 7 worth, 8 how it stands (0 open, 1 settled, d + 2: asked on day d), 9 .. 11 what is seen -/
abbrev rA : Type := Nat → Nat → Nat
def rU (α : rA) (k i v : Nat) : rA := fun a b => if a = k ∧ b = i then v else α a b
def zA (a : Nat) : Int := if a = 0 then -1 else if a = 1 then -2 else (a : Int) - 2
def rV (α : rA) : Prop := α 0 0 ≤ 6 ∧ α 0 1 ≤ 5 ∧ α 0 2 ≤ 1460 ∧ α 0 4 ≤ 6 ∧ (∀ p, p < α 0 0 → α 1 p < 5 ∧ α 2 p < 2 ∧ α 3 p < 2 ∧ α 4 p < 10) ∧ (∀ m, m < α 0 1 → α 5 m < α 0 0 ∧ α 6 m < α 0 0 ∧ 1 ≤ α 7 m ∧ α 7 m ≤ 9 ∧ α 8 m ≤ α 0 2 + 2) ∧ (∀ i, i < α 0 4 → α 9 i < α 0 0 ∧ α 10 i ≤ 31 ∧ α 11 i < 2) ∧ (0 < α 0 1 ↔ 0 < α 0 0)
def rt (α : rA) : Nat := bsN (fun p => α 3 p == 1) (α 0 0)
/-- a World of the class's at cells w .. w + 11 -/
def rX (w : Nat) (α : rA) (σ : jSt) : Prop :=
  σ.1 w 8 = iI (α 0 0 : Nat) ∧ σ.1 w 9 = iI (α 0 1 : Nat) ∧ σ.1 w 10 = iI (rt α : Nat) ∧ σ.1 w 11 = iI (α 0 2 : Nat) ∧ σ.1 (w + 8) 3 = iI (α 0 4 : Nat) ∧
  (∀ p, p < α 0 0 → σ.1 (w + 1) p = iI (α 1 p : Nat) ∧ σ.1 (w + 2) p = iI (α 2 p : Nat) ∧ σ.1 (w + 3) p = iI (α 4 p : Nat)) ∧
  (∀ m, m < α 0 1 → σ.1 (w + 4) m = iI (α 5 m : Nat) ∧ σ.1 (w + 5) m = iI (α 6 m : Nat) ∧ σ.1 (w + 6) m = iI (α 7 m : Nat) ∧ σ.1 (w + 7) m = iI (zA (α 8 m))) ∧
  (∀ i, i < α 0 4 → σ.1 (w + 9) i = iI (α 9 i : Nat) ∧ σ.1 (w + 10) i = iI (α 10 i : Nat) ∧ σ.1 (w + 11) i = iI (α 11 i : Nat))
section RX
variable {α : rA} {σ : jSt} (h : rX 3 α σ)
theorem rX.P (h : rX 3 α σ) : σ.1 3 8 = iI (α 0 0 : Nat) := h.1
theorem rX.M (h : rX 3 α σ) : σ.1 3 9 = iI (α 0 1 : Nat) := h.2.1
theorem rX.rt (h : rX 3 α σ) : σ.1 3 10 = iI (rt α : Nat) := h.2.2.1
theorem rX.td (h : rX 3 α σ) : σ.1 3 11 = iI (α 0 2 : Nat) := h.2.2.2.1
theorem rX.sz (h : rX 3 α σ) : σ.1 11 3 = iI (α 0 4 : Nat) := h.2.2.2.2.1
theorem rX.kd (h : rX 3 α σ) {p : Nat} (hp : p < α 0 0) : σ.1 4 p = iI (α 1 p : Nat) := (h.2.2.2.2.2.1 p hp).1
theorem rX.bn (h : rX 3 α σ) {p : Nat} (hp : p < α 0 0) : σ.1 5 p = iI (α 2 p : Nat) := (h.2.2.2.2.2.1 p hp).2.1
theorem rX.me (h : rX 3 α σ) {p : Nat} (hp : p < α 0 0) : σ.1 6 p = iI (α 4 p : Nat) := (h.2.2.2.2.2.1 p hp).2.2
theorem rX.ak (h : rX 3 α σ) {m : Nat} (hm : m < α 0 1) : σ.1 7 m = iI (α 5 m : Nat) := (h.2.2.2.2.2.2.1 m hm).1
theorem rX.aw (h : rX 3 α σ) {m : Nat} (hm : m < α 0 1) : σ.1 8 m = iI (α 6 m : Nat) := (h.2.2.2.2.2.2.1 m hm).2.1
theorem rX.wo (h : rX 3 α σ) {m : Nat} (hm : m < α 0 1) : σ.1 9 m = iI (α 7 m : Nat) := (h.2.2.2.2.2.2.1 m hm).2.2.1
theorem rX.st (h : rX 3 α σ) {m : Nat} (hm : m < α 0 1) : σ.1 10 m = iI (zA (α 8 m)) := (h.2.2.2.2.2.2.1 m hm).2.2.2
theorem rX.who (h : rX 3 α σ) {i : Nat} (hi : i < α 0 4) : σ.1 12 i = iI (α 9 i : Nat) := (h.2.2.2.2.2.2.2 i hi).1
theorem rX.dys (h : rX 3 α σ) {i : Nat} (hi : i < α 0 4) : σ.1 13 i = iI (α 10 i : Nat) := (h.2.2.2.2.2.2.2 i hi).2.1
theorem rX.spo (h : rX 3 α σ) {i : Nat} (hi : i < α 0 4) : σ.1 14 i = iI (α 11 i : Nat) := (h.2.2.2.2.2.2.2 i hi).2.2
theorem rV.P (h : rV α) : α 0 0 ≤ 6 := h.1
theorem rV.M (h : rV α) : α 0 1 ≤ 5 := h.2.1
theorem rV.td (h : rV α) : α 0 2 ≤ 1460 := h.2.2.1
theorem rV.sz (h : rV α) : α 0 4 ≤ 6 := h.2.2.2.1
theorem rV.p (h : rV α) {p : Nat} (hp : p < α 0 0) : α 1 p < 5 ∧ α 2 p < 2 ∧ α 3 p < 2 ∧ α 4 p < 10 := h.2.2.2.2.1 p hp
theorem rV.m (h : rV α) {m : Nat} (hm : m < α 0 1) : α 5 m < α 0 0 ∧ α 6 m < α 0 0 ∧ 1 ≤ α 7 m ∧ α 7 m ≤ 9 ∧ α 8 m ≤ α 0 2 + 2 := h.2.2.2.2.2.1 m hm
theorem rV.s (h : rV α) {i : Nat} (hi : i < α 0 4) : α 9 i < α 0 0 ∧ α 10 i ≤ 31 ∧ α 11 i < 2 := h.2.2.2.2.2.2.1 i hi
theorem rV.r (h : rV α) : 0 < α 0 1 ↔ 0 < α 0 0 := h.2.2.2.2.2.2.2
end RX
theorem rt_lt (α : rA) : rt α < 2 ^ α 0 0 := bsN_lt _ _
theorem rt_bit {α : rA} {p : Nat} (hp : p < α 0 0) : (rt α).testBit p = (α 3 p == 1) := by
  unfold rt; rw [bsN_bit]; simp [hp]
theorem lt64 {x n : Nat} (h : x < 2 ^ n) (hn : n ≤ 6) : x < 64 := Nat.lt_of_lt_of_le h (Nat.pow_le_pow_right (by omega) hn)
/-- may one speak on a day -/
def sp (α : rA) (dy p : Nat) : Bool := spk (vo dy) (α 1 p) (α 2 p) (α 3 p)
/-- who may, as bits, if these were on the right -/
def spI (α : rA) (dy r : Nat) : Nat := bsN (fun p => spk (vo dy) (α 1 p) (α 2 p) (if r.testBit p then 1 else 0)) (α 0 0)
/-- who may, as bits -/
def spB (α : rA) (dy : Nat) : Nat := bsN (sp α dy) (α 0 0)
theorem spI_rt {α : rA} (hV : rV α) (dy : Nat) : spI α dy (rt α) = spB α dy := by
  unfold spI spB
  refine bsN_congr _ (fun p hp => ?_)
  have h := (hV.p hp).2.2.1
  rw [rt_bit hp]
  unfold sp
  congr 1
  by_cases e : α 3 p = 1
  · simp [e]
  · have : α 3 p = 0 := by omega
    simp [this]
/-- how many i < n -/
def cnN (f : Nat → Bool) : Nat → Nat
  | 0 => 0
  | n + 1 => cnN f n + (if f n then 1 else 0)
theorem cnN_le (f : Nat → Bool) : ∀ n, cnN f n ≤ n
  | 0 => Nat.le_refl 0
  | n + 1 => by
    have := cnN_le f n
    unfold cnN
    split <;> omega
theorem cnN_congr {f g : Nat → Bool} : ∀ n, (∀ i, i < n → f i = g i) → cnN f n = cnN g n
  | 0, _ => rfl
  | n + 1, h => by
    unfold cnN
    rw [h n (by omega), cnN_congr n (fun i hi => h i (by omega))]
/-- can a matter that stands so be asked or answered on a day -/
def cbs (α : rA) (m a dy : Nat) : Bool := if a = 1 then false else if a = 0 then sp α dy (α 5 m) else decide (a < dy + 2) && sp α dy (α 6 m)
/-- for how much it is settled then -/
def sfo (α : rA) (m a dy : Nat) : Nat :=
  let l := α 7 m - (dy + 2 - a - α 4 (α 5 m))
  if α 1 (α 6 m) = 4 then l - 1 else if α 1 (α 6 m) = 1 then l / 2 else l
theorem sfo_le {α : rA} (hV : rV α) {m a dy : Nat} (hm : m < α 0 1) : sfo α m a dy ≤ 9 := by
  have := (hV.m hm).2.2.2.1
  unfold sfo
  dsimp only
  split
  · omega
  · split <;> omega

theorem iI_lt0 {a : Int} (h : iR a) : iI a < 0 ↔ a < 0 := by rw [iI_0, iI_lt h ⟨by omega, by omega⟩]
theorem iI_le0 {a : Int} (h : iR a) : iI a ≤ 0 ↔ a ≤ 0 := by rw [iI_0, iI_le h ⟨by omega, by omega⟩]
theorem iI_eq0 {a : Int} (h : iR a) : iI a = 0 ↔ a = 0 := by rw [iI_0, iI_eq h ⟨by omega, by omega⟩]
theorem iI_0le {a : Int} (h : iR a) : 0 ≤ iI a ↔ 0 ≤ a := by rw [iI_0, iI_le ⟨by omega, by omega⟩ h]
theorem iI_0lt {a : Int} (h : iR a) : 0 < iI a ↔ 0 < a := by rw [iI_0, iI_lt ⟨by omega, by omega⟩ h]
