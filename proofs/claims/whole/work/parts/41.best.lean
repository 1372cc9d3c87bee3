/-! best: all rows in their order, and the search -/
section Bs
variable {α : rA}
def nxA (m : Nat) (a : Nat → Nat) (dy : Nat) : Nat → Nat := aU a m (if a m = 0 then dy + 2 else 1)
def nxV (α : rA) (m : Nat) (a : Nat → Nat) (dy : Nat) : Nat := if a m = 0 then 0 else 100 * sfo α m (a m) dy + 10
/-- how many are asked -/
def cnA (α : rA) (a : Nat → Nat) : Nat := cnN (fun m => decide (2 ≤ a m)) (α 0 1)
/-- what a row comes to, its last n figures from day i on; -1 -/
def wbV (α : rA) : Nat → Nat → (Nat → Nat) → Nat → Nat → Int
  | 0, _, a, v, _ => ((v + cnA α a : Nat) : Int)
  | n + 1, i, a, v, row => if row / 8 ^ n % 8 = 7 then wbV α n (i + 1) a v row else if row / 8 ^ n % 8 < α 0 1 ∧ cbs α (row / 8 ^ n % 8) (a (row / 8 ^ n % 8)) (α 0 2 + i) = true then wbV α n (i + 1) (nxA (row / 8 ^ n % 8) a (α 0 2 + i)) (v + nxV α (row / 8 ^ n % 8) a (α 0 2 + i)) row else -1
def upB (b : Int × Nat) (t : Int) (r : Nat) : Int × Nat := if b.1 < t then (t, r) else b
def fdN (f : Nat → Int) (lo : Nat) : Nat → Int × Nat → Int × Nat
  | 0, b => b
  | k + 1, b => upB (fdN f lo k b) (f (lo + k)) (lo + k)
def itN (g : Nat → Int × Nat → Int × Nat) : Nat → Int × Nat → Int × Nat
  | 0, b => b
  | k + 1, b => g k (itN g k b)
def bsD (α : rA) : Nat → Nat → (Nat → Nat) → Nat → Nat → Int × Nat → Int × Nat
  | 0, _, a, v, pre, b => upB b ((v + cnA α a : Nat) : Int) pre
  | n + 1, i, a, v, pre, b => bsD α n (i + 1) a v (8 * pre + 7) (itN (fun m b => if m < α 0 1 ∧ cbs α m (a m) (α 0 2 + i) = true then bsD α n (i + 1) (nxA m a (α 0 2 + i)) (v + nxV α m a (α 0 2 + i)) (8 * pre + m) b else b) 7 b)
theorem upB_ge (b : Int × Nat) (t : Int) (r : Nat) : b.1 ≤ (upB b t r).1 := by
  unfold upB; split
  · exact Int.le_of_lt (by assumption)
  · exact Int.le_refl _
theorem fdN_ge (f : Nat → Int) (lo : Nat) : ∀ k b, b.1 ≤ (fdN f lo k b).1
  | 0, b => Int.le_refl _
  | k + 1, b => Int.le_trans (fdN_ge f lo k b) (upB_ge _ _ _)
theorem fdN_cg {f g : Nat → Int} {lo : Nat} : ∀ k b, (∀ r, r < k → f (lo + r) = g (lo + r)) → fdN f lo k b = fdN g lo k b
  | 0, b, _ => rfl
  | k + 1, b, h => by unfold fdN; rw [fdN_cg k b (fun r hr => h r (by omega)), h k (by omega)]
theorem fdN_add (f : Nat → Int) (lo j : Nat) : ∀ k b, fdN f lo (j + k) b = fdN f (lo + j) k (fdN f lo j b)
  | 0, b => rfl
  | k + 1, b => by
    show upB (fdN f lo (j + k) b) (f (lo + (j + k))) (lo + (j + k)) = upB (fdN f (lo + j) k (fdN f lo j b)) (f (lo + j + k)) (lo + j + k)
    rw [fdN_add f lo j k b, Nat.add_assoc]
theorem fdN_no {f : Nat → Int} {lo : Nat} {b : Int × Nat} (hb : -1 ≤ b.1) : ∀ k, (∀ r, r < k → f (lo + r) = -1) → fdN f lo k b = b
  | 0, _ => rfl
  | k + 1, h => by
    unfold fdN
    rw [fdN_no hb k (fun r hr => h r (by omega)), h k (by omega)]
    unfold upB
    rw [if_neg (by omega)]
theorem dig8 {n q r : Nat} (h : r < 8 ^ n) : (q * 8 ^ n + r) / 8 ^ n = q := by
  rw [Nat.mul_comm, Nat.mul_add_div (Nat.pow_pos (by omega)), Nat.div_eq_of_lt h, Nat.add_zero]
theorem fd_bs : ∀ (n i : Nat) (a : Nat → Nat) (v pre : Nat) (b : Int × Nat), -1 ≤ b.1 → fdN (wbV α n i a v) (pre * 8 ^ n) (8 ^ n) b = bsD α n i a v pre b
  | 0, i, a, v, pre, b, hb => by
    show upB b (wbV α 0 i a v (pre * 8 ^ 0 + 0)) (pre * 8 ^ 0 + 0) = _
    simp [wbV, bsD]
  | n + 1, i, a, v, pre, b, hb => by
    have hf : ∀ m, m < 8 → ∀ r, r < 8 ^ n → ((8 * pre + m) * 8 ^ n + r) / 8 ^ n % 8 = m := fun m hm r hr => by rw [dig8 hr]; omega
    have blk : ∀ m, m < 7 → ∀ b, -1 ≤ b.1 → fdN (wbV α (n + 1) i a v) ((8 * pre + m) * 8 ^ n) (8 ^ n) b = (if m < α 0 1 ∧ cbs α m (a m) (α 0 2 + i) = true then bsD α n (i + 1) (nxA m a (α 0 2 + i)) (v + nxV α m a (α 0 2 + i)) (8 * pre + m) b else b) := by
      intro m hm b hb
      by_cases c : m < α 0 1 ∧ cbs α m (a m) (α 0 2 + i) = true
      · rw [if_pos c, ← fd_bs n (i + 1) _ _ _ b hb]
        refine fdN_cg _ _ (fun r hr => ?_)
        rw [wbV, hf m (by omega) r hr, if_neg (by omega), if_pos c]
      · rw [if_neg c]
        refine fdN_no hb _ (fun r hr => ?_)
        rw [wbV, hf m (by omega) r hr, if_neg (by omega), if_neg c]
    have blk7 : ∀ b, -1 ≤ b.1 → fdN (wbV α (n + 1) i a v) ((8 * pre + 7) * 8 ^ n) (8 ^ n) b = bsD α n (i + 1) a v (8 * pre + 7) b := by
      intro b hb
      rw [← fd_bs n (i + 1) _ _ _ b hb]
      refine fdN_cg _ _ (fun r hr => ?_)
      rw [wbV, hf 7 (by omega) r hr, if_pos rfl]
    have run : ∀ k, k ≤ 7 → fdN (wbV α (n + 1) i a v) (8 * pre * 8 ^ n) (k * 8 ^ n) b = itN (fun m b => if m < α 0 1 ∧ cbs α m (a m) (α 0 2 + i) = true then bsD α n (i + 1) (nxA m a (α 0 2 + i)) (v + nxV α m a (α 0 2 + i)) (8 * pre + m) b else b) k b := by
      intro k
      induction k with
      | zero => intro _; rw [Nat.zero_mul]; rfl
      | succ k ih =>
        intro hk
        have hge := fdN_ge (wbV α (n + 1) i a v) (8 * pre * 8 ^ n) (k * 8 ^ n) b
        rw [Nat.add_mul, Nat.one_mul, fdN_add, ← Nat.add_mul, blk k (by omega) _ (by omega), ih (by omega)]
        rfl
    have hge := fdN_ge (wbV α (n + 1) i a v) (8 * pre * 8 ^ n) (7 * 8 ^ n) b
    rw [show pre * 8 ^ (n + 1) = 8 * pre * 8 ^ n by rw [Nat.pow_succ]; grind, show 8 ^ (n + 1) = 7 * 8 ^ n + 8 ^ n by rw [Nat.pow_succ]; omega, fdN_add, ← Nat.add_mul, blk7 _ (by omega), run 7 (by omega)]
    rfl
theorem itN_cut {g : Nat → Int × Nat → Int × Nat} {M : Nat} (hg : ∀ m b, M ≤ m → g m b = b) (b : Int × Nat) : ∀ k, itN g (M + k) b = itN g M b
  | 0 => rfl
  | k + 1 => by
    show g (M + k) (itN g (M + k) b) = _
    rw [hg _ _ (by omega), itN_cut hg b k]
theorem bsD_s (h5 : α 0 1 ≤ 5) (n i : Nat) (a : Nat → Nat) (v pre : Nat) (b : Int × Nat) : bsD α (n + 1) i a v pre b = bsD α n (i + 1) a v (8 * pre + 7) (itN (fun m b => if m < α 0 1 ∧ cbs α m (a m) (α 0 2 + i) = true then bsD α n (i + 1) (nxA m a (α 0 2 + i)) (v + nxV α m a (α 0 2 + i)) (8 * pre + m) b else b) (α 0 1) b) := by
  rw [bsD]
  congr 1
  have hc : ∀ g : Nat → Int × Nat → Int × Nat, (∀ m b, α 0 1 ≤ m → g m b = b) → itN g 7 b = itN g (α 0 1) b := fun g hg => by
    rw [← itN_cut hg b (7 - α 0 1), show α 0 1 + (7 - α 0 1) = 7 by omega]
  exact hc _ (fun m b hm => if_neg (fun q => absurd q.1 (by omega)))
theorem cnA_le (hV : rV α) (a : Nat → Nat) : cnA α a ≤ 5 := Nat.le_trans (cnN_le _ _) hV.M
theorem nxV_le (hV : rV α) {m : Nat} (hm : m < α 0 1) (a : Nat → Nat) (dy : Nat) : nxV α m a dy ≤ 910 := by
  have := sfo_le hV (a := a m) (dy := dy) hm
  unfold nxV; split <;> omega
theorem wbV_in (hV : rV α) : ∀ (n i : Nat) (a : Nat → Nat) (v row : Nat), -1 ≤ wbV α n i a v row ∧ wbV α n i a v row ≤ ((v + 910 * n + 5 : Nat) : Int)
  | 0, i, a, v, row => by
    have := cnA_le hV a
    unfold wbV; omega
  | n + 1, i, a, v, row => by
    unfold wbV
    split
    · have := wbV_in hV n (i + 1) a v row
      omega
    · split
      · next h =>
        have := wbV_in hV n (i + 1) (nxA (row / 8 ^ n % 8) a (α 0 2 + i)) (v + nxV α (row / 8 ^ n % 8) a (α 0 2 + i)) row
        have h2 := nxV_le hV h.1 a (α 0 2 + i)
        omega
      · omega
/-- the best row of D days: what it comes to, and the row -/
def bB (α : rA) (D : Nat) : Int × Nat := bsD α D 0 (α 8) 0 0 (-1, 0)
def tBe (α : rA) (D : Nat) (w : Int) : Int := if w = 0 then (bB α D).1 / 100 else if w = 1 then (bB α D).1 / 10 % 10 else if w - 10 < D then (((bB α D).2 / 8 ^ (D - 1 - (w - 10).toNat) % 8 : Nat) : Int) else -1
theorem fdN_in {f : Nat → Int} {lo : Nat} {T : Int} (hf : ∀ r, f r ≤ T) : ∀ k b, b.1 ≤ T → (fdN f lo k b).1 ≤ T
  | 0, b, hb => hb
  | k + 1, b, hb => by
    unfold fdN upB
    split
    · exact hf _
    · exact fdN_in hf k b hb
theorem fdN_r {f : Nat → Int} {lo N : Nat} : ∀ k b, lo + k ≤ N → b.2 < N → (fdN f lo k b).2 < N
  | 0, b, _, hb => hb
  | k + 1, b, h, hb => by
    unfold fdN upB
    split
    · show lo + k < N; omega
    · exact fdN_r k b (by omega) hb
theorem upB_nn {b : Int × Nat} {t : Int} {r : Nat} (h : 0 ≤ t) : 0 ≤ (upB b t r).1 := by
  unfold upB; split
  · exact h
  · omega
theorem bsD_nn : ∀ (n i : Nat) (a : Nat → Nat) (v pre : Nat) (b : Int × Nat), 0 ≤ (bsD α n i a v pre b).1
  | 0, i, a, v, pre, b => upB_nn (by omega)
  | n + 1, i, a, v, pre, b => by unfold bsD; exact bsD_nn n _ _ _ _ _
end Bs
