/-! bits -/
section JBits
theorem iI_bv (n : Nat) : (iI (n : Int)).toBitVec = BitVec.ofNat 32 n := by
  show (Int32.ofNat n).toBitVec = _
  rfl
theorem i32_ext {x y : Int32} (h : x.toBitVec = y.toBitVec) : x = y := Int32.toBitVec_inj.mp h
theorem iI_and (a b : Nat) : iI (a : Int) &&& iI (b : Int) = iI ((a &&& b : Nat) : Int) := by
  apply i32_ext
  rw [Int32.toBitVec_and, iI_bv, iI_bv, iI_bv]
  apply BitVec.eq_of_toNat_eq
  simp [BitVec.toNat_and, BitVec.toNat_ofNat, Nat.and_mod_two_pow (n := 32)]
theorem iI_or (a b : Nat) : iI (a : Int) ||| iI (b : Int) = iI ((a ||| b : Nat) : Int) := by
  apply i32_ext
  rw [Int32.toBitVec_or, iI_bv, iI_bv, iI_bv]
  apply BitVec.eq_of_toNat_eq
  simp [BitVec.toNat_or, BitVec.toNat_ofNat, Nat.or_mod_two_pow (n := 32)]
theorem iI_xor (a b : Nat) : iI (a : Int) ^^^ iI (b : Int) = iI ((a ^^^ b : Nat) : Int) := by
  apply i32_ext
  rw [Int32.toBitVec_xor, iI_bv, iI_bv, iI_bv]
  apply BitVec.eq_of_toNat_eq
  simp [BitVec.toNat_xor, BitVec.toNat_ofNat, Nat.xor_mod_two_pow (n := 32)]
theorem iI_andn (x y : Int32) : x &&& (y ^^^ iI (-1)) = x ^^^ (x &&& y) := by
  apply i32_ext
  rw [Int32.toBitVec_and, Int32.toBitVec_xor, Int32.toBitVec_xor, Int32.toBitVec_and, show (iI (-1)).toBitVec = BitVec.allOnes 32 by decide +kernel]
  apply BitVec.eq_of_getLsbD_eq
  intro i hi
  simp only [BitVec.getLsbD_and, BitVec.getLsbD_xor, BitVec.getLsbD_allOnes, hi, decide_true]
  cases x.toBitVec.getLsbD i <;> cases y.toBitVec.getLsbD i <;> rfl
theorem iI_s31 : ∀ n : Nat, n < 32 → ((iI (n : Int) &&& 31).toBitVec.smod 32).toNat = n := by decide +kernel
theorem iI_shr {s i : Nat} (hs : s < 2147483648) (hi : i < 32) : iI (s : Int) >>> (iI (i : Int) &&& 31) = iI ((s / 2 ^ i : Nat) : Int) := pk_shrN hs _ i (iI_s31 i hi)
theorem iI_shl {s i : Nat} (hi : i < 32) (hs : s * 2 ^ i < 2 ^ 32) : iI (s : Int) <<< (iI (i : Int) &&& 31) = iI ((s * 2 ^ i : Nat) : Int) := pk_shlN _ i (iI_s31 i hi) hs
theorem tb_mod (s i : Nat) : s / 2 ^ i % 2 = if s.testBit i then 1 else 0 := by
  rw [Nat.testBit_eq_decide_div_mod_eq]
  rcases Nat.mod_two_eq_zero_or_one (s / 2 ^ i) with h | h <;> simp [h]
/-- a bit, as the code reads it -/
theorem iI_bit {s i : Nat} (hs : s < 2147483648) (hi : i < 32) : iI (s : Int) >>> (iI (i : Int) &&& 31) &&& iI 1 = jb (s.testBit i) := by
  rw [iI_shr hs hi]
  have : iI ((s / 2 ^ i : Nat) : Int) &&& iI ((1 : Nat) : Int) = iI ((s / 2 ^ i &&& 1 : Nat) : Int) := iI_and _ _
  rw [show (iI 1 : Int32) = iI ((1 : Nat) : Int) from rfl, this, Nat.and_one_is_mod, tb_mod]
  cases s.testBit i
  · exact jb_f
  · exact jb_t
theorem iI_sbit {s i : Nat} (hi : i < 31) : iI (s : Int) ||| iI 1 <<< (iI (i : Int) &&& 31) = iI ((s ||| 2 ^ i : Nat) : Int) := by
  have h : iI ((1 : Nat) : Int) <<< (iI (i : Int) &&& 31) = iI ((1 * 2 ^ i : Nat) : Int) := by
    refine iI_shl (by omega) ?_
    rw [Nat.one_mul]
    exact Nat.pow_lt_pow_right (by omega) (by omega)
  rw [Nat.one_mul] at h
  rw [show (iI 1 : Int32) = iI ((1 : Nat) : Int) from rfl, h, iI_or]
/-- how many of the first k bits -/
def pcN : Nat → Nat → Nat
  | 0, _ => 0
  | k + 1, n => pcN k n + n / 2 ^ k % 2
/-- the set of those i < n with f i -/
def bsN (f : Nat → Bool) : Nat → Nat
  | 0 => 0
  | n + 1 => if f n then bsN f n ||| 2 ^ n else bsN f n
theorem bsN_lt (f : Nat → Bool) : ∀ n, bsN f n < 2 ^ n
  | 0 => by simp [bsN]
  | n + 1 => by
    have h := bsN_lt f n
    have h2 : 2 ^ n < 2 ^ (n + 1) := Nat.pow_lt_pow_right (by omega) (by omega)
    unfold bsN
    split
    · exact Nat.or_lt_two_pow (by omega) h2
    · omega
theorem bsN_bit (f : Nat → Bool) : ∀ n i, (bsN f n).testBit i = (decide (i < n) && f i)
  | 0, i => by simp [bsN]
  | n + 1, i => by
    unfold bsN
    have ih := bsN_bit f n i
    split
    · next h =>
      rw [Nat.testBit_or, ih, Nat.testBit_two_pow]
      by_cases e : n = i
      · subst e; simp [h]
      · have : decide (i < n + 1) = decide (i < n) := by simp; omega
        simp [e, this]
    · next h =>
      rw [ih]
      by_cases e : n = i
      · subst e; simp [h]
      · have : decide (i < n + 1) = decide (i < n) := by simp; omega
        simp [this]
theorem bsN_congr {f g : Nat → Bool} : ∀ n, (∀ i, i < n → f i = g i) → bsN f n = bsN g n
  | 0, _ => rfl
  | n + 1, h => by
    unfold bsN
    rw [h n (by omega), bsN_congr n (fun i hi => h i (by omega))]
end JBits
