/-! calls in formulas; ints by integers -/
def jq_I (d a : Nat) (as : List Value) (σ : jSt) (k : Int32 → jSt → Prop) : Prop := jv_wp d (fun r σ' => ∃ x, r = some (.int x) ∧ k x σ') (jv_en a as σ)
def jq_L (d a : Nat) (as : List Value) (σ : jSt) (k : Int64 → jSt → Prop) : Prop := jv_wp d (fun r σ' => ∃ x, r = some (.long x) ∧ k x σ') (jv_en a as σ)
def jq_V (d a : Nat) (as : List Value) (σ : jSt) (k : jSt → Prop) : Prop := jv_wp d (fun r σ' => r = none ∧ k σ') (jv_en a as σ)
theorem jq_I_con {d a : Nat} {as : List Value} {σ : jSt} {k k' : Int32 → jSt → Prop} (h : jq_I d a as σ k) (hk : ∀ x σ, k x σ → k' x σ) : jq_I d a as σ k' := jv_wp_con h (fun r σ q => q.elim fun x q => ⟨x, q.1, hk _ _ q.2⟩)
theorem jq_V_con {d a : Nat} {as : List Value} {σ : jSt} {k k' : jSt → Prop} (h : jq_V d a as σ k) (hk : ∀ σ, k σ → k' σ) : jq_V d a as σ k' := jv_wp_con h (fun r σ q => ⟨q.1, hk _ q.2⟩)
section JA
variable {a b : Int} {n : Nat}
theorem iI_add (a b : Int) : iI a + iI b = iI (a + b) := (Int32.ofInt_add a b).symm
theorem iI_sub (a b : Int) : iI a - iI b = iI (a - b) := (Int32.ofInt_sub a b).symm
theorem iI_mul (a b : Int) : iI a * iI b = iI (a * b) := (Int32.ofInt_mul a b).symm
def iR (a : Int) : Prop := -2147483648 ≤ a ∧ a < 2147483648
theorem iI_toInt (h : iR a) : (iI a).toInt = a := by
  unfold iR at h
  exact Int32.toInt_ofInt_of_le (by simp; omega) (by simp; omega)
theorem iI_lt (ha : iR a) (hb : iR b) : iI a < iI b ↔ a < b := by rw [Int32.lt_iff_toInt_lt, iI_toInt ha, iI_toInt hb]
theorem iI_le (ha : iR a) (hb : iR b) : iI a ≤ iI b ↔ a ≤ b := by rw [Int32.le_iff_toInt_le, iI_toInt ha, iI_toInt hb]
theorem iI_eq (ha : iR a) (hb : iR b) : iI a = iI b ↔ a = b := by
  constructor
  · intro h
    have := congrArg Int32.toInt h
    rwa [iI_toInt ha, iI_toInt hb] at this
  · intro h; rw [h]
theorem iI_self (x : Int32) : iI x.toInt = x := Int32.ofInt_toInt x
theorem iR_self (x : Int32) : iR x.toInt := ⟨Int32.le_toInt x, Int32.toInt_lt x⟩
theorem iI_of (x : Int32) : ∃ z, iR z ∧ x = iI z := ⟨x.toInt, iR_self x, (iI_self x).symm⟩
theorem iI_nI (n : Nat) : iI (n : Int) = nI n := rfl
theorem iI_ofNat (n : Nat) : Int32.ofNat n = iI (n : Int) := rfl
theorem iI_0 : (0 : Int32) = iI 0 := by decide +kernel
theorem iI_1 : (1 : Int32) = iI 1 := by decide +kernel
theorem iI_clamp (h : n < 2147483648) : (iI (n : Int)).toNatClampNeg = n := nI_clamp h
theorem iI_in (h : n < 2147483648) (m : Nat) : vp_in (iI (n : Int)) m ↔ n < m := by
  unfold vp_in
  rw [iI_clamp h, iI_0, iI_lt ⟨by omega, by omega⟩ ⟨by omega, by omega⟩]
  omega
theorem iI_div {a b : Nat} (ha : a < 2147483648) (h0 : 0 < b) (hb : b < 2147483648) : iI (a : Int) / iI (b : Int) = iI ((a / b : Nat) : Int) := pk_div ha h0 hb
theorem iI_rem {a b : Nat} (ha : a < 2147483648) (h0 : 0 < b) (hb : b < 2147483648) : iI (a : Int) - iI (a : Int) / iI (b : Int) * iI (b : Int) = iI ((a % b : Nat) : Int) := pk_rem ha h0 hb
theorem iI_zor (x : Bool) : (iI (if x then 1 else 0) = 0 ∨ iI (if x then 1 else 0) = 1) := by cases x <;> decide +kernel
/-- 1 if so, else 0 -/
def jb (b : Bool) : Int32 := if b then 1 else 0
theorem jb_z (b : Bool) : jb b = 0 ∨ jb b = 1 := by cases b <;> simp [jb]
theorem jb_t : iI 1 = jb true := by decide +kernel
theorem jb_f : iI 0 = jb false := by decide +kernel
theorem jb_0 {b : Bool} : jb b = 0 ↔ b = false := by cases b <;> simp [jb]
theorem jb_1 {b : Bool} : jb b = iI 1 ↔ b = true := by cases b <;> decide +kernel
end JA
