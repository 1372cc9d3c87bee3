/-! the class: sorts, whom to listen to, how soon, who should live where -/
section Out
variable {α : rA} {σ : jSt} {d : Nat} {k : Int32 → jSt → Prop}
/-- the sorts left behind the first n that is seen -/
def soN (α : rA) (p : Nat) : Nat → Nat
  | 0 => 1023
  | i + 1 => if α 9 i = p then (if α 11 i = 1 then soN α p i &&& spS (vo (α 0 2 + α 10 i)) (α 3 p) else soN α p i ^^^ (soN α p i &&& spS (vo (α 0 2 + α 10 i)) (α 3 p))) else soN α p i
theorem and_lt1024 {a b : Nat} (h : a < 1024) : a &&& b < 1024 := Nat.lt_of_le_of_lt Nat.and_le_left h
theorem xor_lt1024 {a b : Nat} (h : a < 1024) (h2 : b < 1024) : a ^^^ b < 1024 := Nat.xor_lt_two_pow (n := 10) h h2
theorem soN_lt (α : rA) (p : Nat) : ∀ n, soN α p n < 1024
  | 0 => by simp [soN]
  | i + 1 => by
    have := soN_lt α p i
    unfold soN
    split
    · split
      · exact and_lt1024 this
      · exact xor_lt1024 this (and_lt1024 this)
    · exact this
theorem w_sortsLeft (hV : rV α) (hX : rX 3 α σ) {post : jPo} {p : Nat} (hp : p < α 0 0) (h : post (some (.int (iI (soN α p (α 0 4) : Nat)))) σ) :
    ∀ (n i : Nat) (z : Option Value), i + n = α 0 4 → jv_wp (d + 3) post (29, 8, [some (.ref 11), some (.int (iI p)), some (.int (iI (α 3 p : Nat))), some (.int (iI (α 0 2 : Nat))), some (.int (iI (soN α p i : Nat))), some (.int (iI i)), z], [], σ) := by
  have h6 := hV.P
  have hs := hV.sz
  have htd := hV.td
  intro n
  induction n with
  | zero =>
    intro i z hi
    refine ok_X5_sortsLeft_L8 ⟨fun _ => ?_, fun c => absurd ?_ c⟩
    · rwa [show α 0 4 = i by omega] at h
    · rw [hX.sz, iI_le ⟨by omega, by omega⟩ ⟨by omega, by omega⟩]; omega
  | succ n ih =>
    intro i z hi
    have hv := hV.s (i := i) (by omega)
    have hc : (iI (i : Int)).toNatClampNeg = i := iI_clamp (by omega)
    have hin : vp_in (iI (i : Int)) 6 := (iI_in (by omega) 6).mpr (by omega)
    have ih := fun z => ih (i + 1) z (by omega)
    unfold soN at ih
    refine ok_X5_sortsLeft_L8 ⟨fun c => absurd c ?_, fun _ => ⟨hin, ?_⟩⟩
    · rw [hX.sz, iI_le ⟨by omega, by omega⟩ ⟨by omega, by omega⟩]; omega
    · rw [hc, hX.who (by omega), iI_eq ⟨by omega, by omega⟩ ⟨by omega, by omega⟩, hX.dys (by omega), iI_add, iI_add, show (i : Int) + 1 = ((i + 1 : Nat) : Int) by omega, show ((α 0 2 : Nat) : Int) + ((α 10 i : Nat) : Int) = ((α 0 2 + α 10 i : Nat) : Int) by omega]
      refine ⟨fun c => ?_, fun c => ⟨hin, q_voicesOn (by omega) (q_speaking (hV.p hp).2.2.1 ⟨hin, ?_⟩)⟩⟩
      · rw [if_neg (by omega)] at ih; exact ih _
      · rw [if_pos (by omega)] at ih
        rw [hX.spo (by omega), iI_eq0 ⟨by omega, by omega⟩]
        dsimp only
        rw [iI_andn, iI_and, iI_xor]
        refine ⟨fun c2 => ?_, fun c2 => ?_⟩
        · rw [if_neg (by omega)] at ih; exact ih _
        · rw [if_pos (by omega)] at ih; exact ih _
theorem q_possibleSorts (hV : rV α) (hX : rX 3 α σ) {p : Nat} (hp : p < α 0 0) (h : k (iI (soN α p (α 0 4) : Nat)) σ) : jq_I (d + 4) 44 [.ref 3, .int (iI p)] σ k := by
  refine ok_X7_possibleSorts (q_bankOf hV hX hp ?_)
  rw [hX.td]
  exact ok_X5_sortsLeft (w_sortsLeft hV hX hp ⟨_, rfl, _, rfl, h⟩ (α 0 4) 0 none (by omega))
theorem pcN_split (s S : Nat) : ∀ n, pcN n (s ^^^ (s &&& S)) + pcN n (s &&& S) = pcN n s
  | 0 => rfl
  | n + 1 => by
    have ih := pcN_split s S n
    unfold pcN
    have : (s ^^^ (s &&& S)) / 2 ^ n % 2 + (s &&& S) / 2 ^ n % 2 = s / 2 ^ n % 2 := by
      rw [tb_mod, tb_mod, tb_mod, Nat.testBit_xor, Nat.testBit_and]
      cases s.testBit n <;> cases S.testBit n <;> rfl
    omega
theorem pcN_le (s : Nat) : ∀ n, pcN n s ≤ n
  | 0 => Nat.le_refl 0
  | n + 1 => by
    have := pcN_le s n
    unfold pcN
    omega
/-- of these sorts so many are left at worst -/
def liW (α : rA) (p s n : Nat) : Nat :=
  let y := pcN 12 (s &&& spS (vo (α 0 2 + n)) (α 3 p))
  if y < pcN 12 s - y then pcN 12 s - y else y
def liM (α : rA) (p s c : Nat) : Nat → Nat
  | 0 => c
  | n + 1 => if liW α p s n < liM α p s c n then liW α p s n else liM α p s c n
def liB (α : rA) (p s c : Nat) : Nat → Nat
  | 0 => 0
  | n + 1 => if liW α p s n < liM α p s c n then n else liB α p s c n
theorem liW_le (α : rA) (p s n : Nat) : liW α p s n ≤ 12 := by
  have h1 := pcN_le s 12
  have h2 := pcN_le (s &&& spS (vo (α 0 2 + n)) (α 3 p)) 12
  unfold liW
  dsimp only
  split <;> omega
theorem liM_le (α : rA) (p s c : Nat) : ∀ n, liM α p s c n ≤ c
  | 0 => Nat.le_refl _
  | n + 1 => by
    have := liM_le α p s c n
    unfold liM
    split <;> omega
theorem liB_lt (α : rA) (p s c : Nat) : ∀ n, liB α p s c n ≤ n
  | 0 => Nat.le_refl _
  | n + 1 => by
    have := liB_lt α p s c n
    unfold liB
    split <;> omega
theorem w_listen (hV : rV α) (hX : rX 3 α σ) {post : jPo} {p s : Nat} (hp : p < α 0 0) (hs : s < 1024) (h : post (some (.int (iI (liB α p s 1023 32 : Nat)))) σ) :
    ∀ (n i : Nat) (z7 z8 : Option Value), i + n = 32 → jv_wp (d + 3) post (45, 29, [some (.ref 3), some (.int (iI p)), some (.int (iI s)), some (.int (iI (α 3 p : Nat))), some (.int (iI (liM α p s 1023 i : Nat))), some (.int (iI (liB α p s 1023 i : Nat))), some (.int (iI i)), z7, z8], [], σ) := by
  have htd := hV.td
  intro n
  induction n with
  | zero =>
    intro i z7 z8 hi
    refine ok_X7_dayToListen_L29 ⟨fun _ => ?_, fun c => absurd ?_ c⟩
    · rwa [show 32 = i by omega] at h
    · rw [iI_lt ⟨by omega, by omega⟩ ⟨by omega, by omega⟩]; omega
  | succ n ih =>
    intro i z7 z8 hi
    have ih := fun z7 z8 => ih (i + 1) z7 z8 (by omega)
    unfold liM liB at ih
    have hm := liM_le α p s 1023 i
    have hw := liW_le α p s i
    have hb := (hV.p hp).2.2.1
    refine ok_X7_dayToListen_L29 ⟨fun c => absurd c ?_, fun _ => ?_⟩
    · rw [iI_lt ⟨by omega, by omega⟩ ⟨by omega, by omega⟩]; omega
    · rw [hX.td, iI_add, show ((α 0 2 : Nat) : Int) + (i : Int) = ((α 0 2 + i : Nat) : Int) by omega]
      refine q_voicesOn (by omega) (q_speaking hb ?_)
      rw [iI_andn, iI_and, iI_xor]
      refine q_bitCount (and_lt1024 hs) (q_bitCount (xor_lt1024 hs (and_lt1024 hs)) ?_)
      have hsp := pcN_split s (spS (vo (α 0 2 + i)) (α 3 p)) 12
      have hl := pcN_le s 12
      have e : (if iI ((pcN 12 (s &&& spS (vo (α 0 2 + i)) (α 3 p)) : Nat) : Int) < iI ((pcN 12 (s ^^^ (s &&& spS (vo (α 0 2 + i)) (α 3 p))) : Nat) : Int) then iI ((pcN 12 (s ^^^ (s &&& spS (vo (α 0 2 + i)) (α 3 p))) : Nat) : Int) else iI ((pcN 12 (s &&& spS (vo (α 0 2 + i)) (α 3 p)) : Nat) : Int)) = iI ((liW α p s i : Nat) : Int) := by
        unfold liW
        dsimp only
        by_cases c : pcN 12 (s &&& spS (vo (α 0 2 + i)) (α 3 p)) < pcN 12 s - pcN 12 (s &&& spS (vo (α 0 2 + i)) (α 3 p))
        · rw [if_pos c, if_pos (by rw [iI_lt ⟨by omega, by omega⟩ ⟨by omega, by omega⟩]; omega)]; exact congrArg iI (by omega)
        · rw [if_neg c, if_neg (by rw [iI_lt ⟨by omega, by omega⟩ ⟨by omega, by omega⟩]; omega)]
      rw [e]
      dsimp only
      rw [iI_le ⟨by omega, by omega⟩ ⟨by omega, by omega⟩, iI_add, show (i : Int) + 1 = ((i + 1 : Nat) : Int) by omega]
      refine ⟨fun c => ?_, fun c => ?_⟩
      · rw [if_neg (by omega), if_neg (by omega)] at ih; exact ih _ _
      · rw [if_pos (by omega), if_pos (by omega)] at ih; exact ih _ _
/-- whom .. when to listen; -1: there are no sorts -/
def lsN (α : rA) (p : Nat) : Int := if soN α p (α 0 4) = 0 then -1 else (liB α p (soN α p (α 0 4)) 1023 32 : Int)
theorem q_dayToListen (hV : rV α) (hX : rX 3 α σ) {p : Nat} (hp : p < α 0 0) (h : k (iI (lsN α p)) σ) : jq_I (d + 5) 45 [.ref 3, .int (iI p)] σ k := by
  have hs := soN_lt α p (α 0 4)
  refine ok_X7_dayToListen (q_possibleSorts hV hX hp ?_)
  rw [iI_eq0 ⟨by omega, by omega⟩]
  unfold lsN at h
  refine ⟨fun c => q_bankOf hV hX hp ?_, fun c => ?_⟩
  · rw [if_neg (by omega)] at h
    exact w_listen hV hX hp hs ⟨_, rfl, h⟩ 32 0 none none (by omega)
  · rw [if_pos (by omega)] at h; exact ⟨_, rfl, h⟩
/-- how soon, from day i on; -1 -/
def snN (α : rA) (m : Nat) : Nat → Nat → Nat → Int
  | 0, _, _ => -1
  | n + 1, i, a => if cbs α m a (α 0 2 + i) then (if a = 0 then snN α m n (i + 1) (α 0 2 + i + 2) else (i : Int)) else snN α m n (i + 1) a
theorem snN_1 (α : rA) (m : Nat) : ∀ n i, snN α m n i 1 = -1
  | 0, _ => rfl
  | n + 1, i => by
    unfold snN
    rw [show cbs α m 1 (α 0 2 + i) = false by simp [cbs]]
    exact snN_1 α m n (i + 1)
theorem w_soonest (hV : rV α) (hX : rX 3 α σ) {post : jPo} {m : Nat} (hm : m < α 0 1) :
    ∀ (n i a : Nat) (z : Option Value), i + n = 71 → a < 5000 → post (some (.int (iI (snN α m n i a)))) σ → jv_wp (d + 5) post (9, 9, [some (.ref 3), some (.int (iI m)), some (.int (iI (zA a))), some (.int (iI i)), z], [], σ) := by
  have htd := hV.td
  intro n
  induction n with
  | zero =>
    intro i a z hi ha h
    refine ok_X2_soonest_L9 ⟨fun _ => ?_, fun c => absurd ?_ c⟩
    · exact h
    · rw [iI_lt ⟨by omega, by omega⟩ ⟨by omega, by omega⟩]; omega
  | succ n ih =>
    intro i a z hi ha h
    refine ok_X2_soonest_L9 ⟨fun c => absurd c ?_, fun _ => ?_⟩
    · rw [iI_lt ⟨by omega, by omega⟩ ⟨by omega, by omega⟩]; omega
    · rw [iI_eq (zA_R (by omega)) ⟨by omega, by omega⟩, iI_eq (zA_R (by omega)) ⟨by omega, by omega⟩, zA_0, zA_1]
      refine ⟨fun c => ?_, fun c => ?_⟩
      · subst c
        rw [snN_1] at h
        exact h
      · rw [hX.td, iI_add, show ((α 0 2 : Nat) : Int) + (i : Int) = ((α 0 2 + i : Nat) : Int) by omega]
        refine q_speakersOn hV hX (by omega) (q_canBeSaid hV hX hm (by omega) (by omega) ?_)
        dsimp only
        rw [iI_add, show (i : Int) + 1 = ((i + 1 : Nat) : Int) by omega, jb_0]
        unfold snN at h
        refine ⟨fun c2 => ?_, fun c2 => ⟨fun c3 => ?_, fun c3 => ?_⟩⟩
        · rw [c2] at h
          exact ih (i + 1) a _ (by omega) ha h
        · rw [if_pos (by simpa using c2), if_pos c3] at h
          have := ih (i + 1) (α 0 2 + i + 2) (some (.int (iI ((α 0 2 + i : Nat) : Int)))) (by omega) (by omega) h
          rw [zA_2 (by omega), show ((α 0 2 + i + 2 : Nat) : Int) - 2 = ((α 0 2 + i : Nat) : Int) by omega] at this
          exact this
        · rw [if_pos (by simpa using c2), if_neg c3] at h; exact h
theorem q_soonest (hV : rV α) (hX : rX 3 α σ) {m : Nat} (hm : m < α 0 1) (h : k (iI (snN α m 71 0 (α 8 m))) σ) : jq_I (d + 5) 9 [.ref 3, .int (iI m)] σ k := by
  have h5 := hV.M
  have htd := hV.td
  have hv := hV.m hm
  have hc : (iI (m : Int)).toNatClampNeg = m := iI_clamp (by omega)
  have hin : vp_in (iI (m : Int)) 5 := (iI_in (by omega) 5).mpr (by omega)
  refine ok_X2_soonest ⟨hin, ?_⟩
  rw [hc, hX.st hm]
  exact w_soonest hV hX hm 71 0 _ none (by omega) (by omega) ⟨_, rfl, h⟩
/-- how many that are open can be asked by those of s1 and answered by those of s2 -/
def sbF (α : rA) (s1 s2 : Nat) (m : Nat) : Bool := α 8 m == 0 && (s1.testBit (α 5 m) && s2.testBit (α 6 m))
theorem w_settledBy (hV : rV α) (hX : rX 3 α σ) {post : jPo} {s1 s2 : Nat} (h1 : s1 < 64) (h2 : s2 < 64) (h : post (some (.int (iI (cnN (sbF α s1 s2) (α 0 1) : Nat)))) σ) :
    ∀ (n m : Nat) (z : Option Value), m + n = α 0 1 → jv_wp (d + 1) post (12, 5, [some (.ref 3), some (.int (iI s1)), some (.int (iI s2)), some (.int (iI (cnN (sbF α s1 s2) m : Nat))), some (.int (iI m)), z], [], σ) := by
  have h5 := hV.M
  have h6 := hV.P
  have htd := hV.td
  intro n
  induction n with
  | zero =>
    intro m z hm
    refine ok_X2_settledBy_L5 ⟨fun _ => ?_, fun c => absurd ?_ c⟩
    · rwa [show α 0 1 = m by omega] at h
    · rw [hX.M, iI_le ⟨by omega, by omega⟩ ⟨by omega, by omega⟩]; omega
  | succ n ih =>
    intro m z hm
    have ih := fun z => ih (m + 1) z (by omega)
    unfold cnN at ih
    have hv := hV.m (m := m) (by omega)
    have hc : (iI (m : Int)).toNatClampNeg = m := iI_clamp (by omega)
    have hin : vp_in (iI (m : Int)) 5 := (iI_in (by omega) 5).mpr (by omega)
    refine ok_X2_settledBy_L5 ⟨fun c => absurd c ?_, fun _ => ⟨hin, ?_⟩⟩
    · rw [hX.M, iI_le ⟨by omega, by omega⟩ ⟨by omega, by omega⟩]; omega
    · rw [hc, hX.st (by omega), hX.ak (by omega), hX.aw (by omega), iI_eq (zA_R (by omega)) ⟨by omega, by omega⟩, zA_0, iI_bit (by omega) (by omega), iI_bit (by omega) (by omega), jb_1, jb_1, iI_add, iI_add, show (m : Int) + 1 = ((m + 1 : Nat) : Int) by omega]
      unfold sbF at ih
      refine ⟨fun c => ?_, fun c => ⟨hin, fun c2 => ?_, fun c2 => ⟨hin, fun c3 => ?_, fun c3 => ?_⟩⟩⟩
      · rw [if_neg (by simp [c])] at ih; exact ih _
      · rw [if_neg (by simp [c2])] at ih; exact ih _
      · rw [if_neg (by simp [c3])] at ih; exact ih _
      · rw [if_pos (by simp [c, c2, c3])] at ih; exact ih _
theorem q_settledBy (hV : rV α) (hX : rX 3 α σ) {s1 s2 : Nat} (h1 : s1 < 64) (h2 : s2 < 64) (h : k (iI (cnN (sbF α s1 s2) (α 0 1) : Nat)) σ) : jq_I (d + 1) 12 [.ref 3, .int (iI s1), .int (iI s2)] σ k :=
  ok_X2_settledBy (w_settledBy hV hX h1 h2 ⟨_, rfl, h⟩ (α 0 1) 0 none (by omega))
theorem spI_lt (hV : rV α) (dy r : Nat) : spI α dy r < 64 := lt64 (bsN_lt _ _) hV.P
/-- how many would be settled by tomorrow, these on the right -/
def lvF (α : rA) (r : Nat) : Nat := cnN (sbF α (spI α (α 0 2) r) (spI α (α 0 2 + 1) r)) (α 0 1)
def lvD (α : rA) (r : Nat) : Nat := pcN 12 (r ^^^ rt α)
def lvW (α : rA) (r : Nat) : Nat := 10 * lvF α r + 6 - lvD α r
def lvC (α : rA) : Nat → Nat
  | 0 => 0
  | n + 1 => if n = 0 then 0 else if lvW α (lvC α n) < lvW α n then n else lvC α n
theorem q_settledByTomorrow (hV : rV α) (hX : rX 3 α σ) {r : Nat} (hr : r < 64) (h : k (iI (lvF α r : Nat)) σ) : jq_I (d + 4) 11 [.ref 3, .int (iI r)] σ k := by
  have htd := hV.td
  refine ok_X2_settledByTomorrow ?_
  unfold vc_X2_settledByTomorrow
  rw [hX.td]
  refine q_speakersIf hV hX (by omega) (by omega) ?_
  rw [hX.td, iI_add, show ((α 0 2 : Nat) : Int) + 1 = ((α 0 2 + 1 : Nat) : Int) by omega]
  exact q_speakersIf hV hX (by omega) (by omega) (q_settledBy hV hX (spI_lt hV _ _) (spI_lt hV _ _) ⟨_, rfl, h⟩)
theorem spI_mix (α : rA) (dy r : Nat) (hr : r < 2 ^ α 0 0) : (spI α dy 0 ^^^ (spI α dy 0 &&& r)) ||| (spI α dy (2 ^ α 0 0 - 1) &&& r) = spI α dy r := by
  apply Nat.eq_of_testBit_eq
  intro i
  unfold spI
  rw [Nat.testBit_or, Nat.testBit_xor, Nat.testBit_and, Nat.testBit_and, bsN_bit, bsN_bit, bsN_bit, Nat.zero_testBit, Nat.testBit_two_pow_sub_one]
  by_cases c : i < α 0 0
  · simp only [c, decide_true, Bool.true_and, if_true]
    cases r.testBit i <;> simp
  · simp [c]
theorem pc_x64 : ∀ a : Nat, a < 64 → pcN 12 a ≤ 6 := by decide +kernel
theorem lvD_le (hV : rV α) {r : Nat} (hr : r < 64) : lvD α r ≤ 6 := by
  have h := lt64 (rt_lt α) hV.P
  exact pc_x64 _ (Nat.xor_lt_two_pow (n := 6) hr h)
theorem lvF_le (hV : rV α) (r : Nat) : lvF α r ≤ 5 := Nat.le_trans (cnN_le _ _) hV.M
theorem lvC_lt (α : rA) : ∀ n, 0 < n → lvC α n < n
  | 0, h => absurd h (by omega)
  | n + 1, _ => by
    unfold lvC
    split
    · omega
    · have := lvC_lt α n (by omega)
      split <;> omega
theorem w_bestHomes (hV : rV α) (hX : rX 3 α σ) {post : jPo} (h : post (some (.int (iI (lvC α (2 ^ α 0 0) : Nat)))) σ) :
    ∀ (n r : Nat) (z10 z11 z12 z13 : Option Value) (mo few ch : Int32), r + n = 2 ^ α 0 0 → (r = 0 → mo = iI (-1)) → (0 < r → ch = iI (lvC α r : Nat) ∧ mo = iI (lvF α (lvC α r) : Nat) ∧ few = iI (lvD α (lvC α r) : Nat)) →
      jv_wp (d + 2) post (10, 70, [some (.ref 3), some (.int (iI ((2 ^ α 0 0 - 1 : Nat) : Int))), some (.int (iI (spI α (α 0 2) 0 : Nat))), some (.int (iI (spI α (α 0 2) (2 ^ α 0 0 - 1) : Nat))), some (.int (iI (spI α (α 0 2 + 1) 0 : Nat))), some (.int (iI (spI α (α 0 2 + 1) (2 ^ α 0 0 - 1) : Nat))), some (.int ch), some (.int mo), some (.int few), some (.int (iI r)), z10, z11, z12, z13], [], σ) := by
  have h6 := hV.P
  have hp6 : 2 ^ α 0 0 ≤ 64 := Nat.le_trans (Nat.pow_le_pow_right (by omega) h6) (show 2 ^ 6 ≤ 64 by decide)
  have hp0 : 0 < 2 ^ α 0 0 := Nat.two_pow_pos _
  have hrt := lt64 (rt_lt α) h6
  intro n
  induction n with
  | zero =>
    intro r z10 z11 z12 z13 mo few ch hr h0 h1
    refine ok_X2_bestHomes_L70 ⟨fun _ => ?_, fun c => absurd ?_ c⟩
    · rw [(h1 (by omega)).1, show r = 2 ^ α 0 0 by omega]; exact h
    · rw [iI_lt ⟨by omega, by omega⟩ ⟨by omega, by omega⟩]; omega
  | succ n ih =>
    intro r z10 z11 z12 z13 mo few ch hr h0 h1
    refine ok_X2_bestHomes_L70 ⟨fun c => absurd c ?_, fun _ => ?_⟩
    · rw [iI_lt ⟨by omega, by omega⟩ ⟨by omega, by omega⟩]; omega
    · rw [iI_andn, iI_andn, iI_and, iI_and, iI_and, iI_and, iI_xor, iI_xor, iI_or, iI_or, spI_mix α _ r (by omega), spI_mix α _ r (by omega)]
      refine q_settledBy hV hX (spI_lt hV _ _) (spI_lt hV _ _) ?_
      rw [hX.rt, iI_xor]
      refine q_bitCount (Nat.lt_trans (Nat.xor_lt_two_pow (n := 6) (show r < 64 by omega) hrt) (by omega)) ?_
      have e1 : cnN (sbF α (spI α (α 0 2) r) (spI α (α 0 2 + 1) r)) (α 0 1) = lvF α r := rfl
      have e2 : pcN 12 (r ^^^ rt α) = lvD α r := rfl
      rw [e1, e2]
      dsimp only
      rw [iI_add, show (r : Int) + 1 = ((r + 1 : Nat) : Int) by omega]
      have hF := lvF_le hV r
      have hD := lvD_le hV (r := r) (by omega)
      by_cases c0 : r = 0
      · subst c0
        rw [h0 rfl]
        refine ⟨fun _ => ?_, fun c => absurd ?_ c⟩
        · exact ih 1 _ _ _ _ _ _ _ (by omega) (fun h => absurd h (by omega)) (fun _ => ⟨rfl, rfl, rfl⟩)
        · rw [iI_lt ⟨by omega, by omega⟩ ⟨by omega, by omega⟩]; omega
      · obtain ⟨g1, g2, g3⟩ := h1 (by omega)
        have hc := lvC_lt α r (by omega)
        have hF' := lvF_le hV (lvC α r)
        have hD' := lvD_le hV (r := lvC α r) (by omega)
        have ec : lvC α (r + 1) = if lvW α (lvC α r) < lvW α r then r else lvC α r := by
          rw [lvC, if_neg c0]
        unfold lvW at ec
        rw [g1, g2, g3, iI_lt ⟨by omega, by omega⟩ ⟨by omega, by omega⟩, iI_eq ⟨by omega, by omega⟩ ⟨by omega, by omega⟩, iI_le ⟨by omega, by omega⟩ ⟨by omega, by omega⟩]
        have yes : 10 * lvF α (lvC α r) + 6 - lvD α (lvC α r) < 10 * lvF α r + 6 - lvD α r → ∀ z10 z11 z12 z13, jv_wp (d + 2) post (10, 70, [some (.ref 3), some (.int (iI ((2 ^ α 0 0 - 1 : Nat) : Int))), some (.int (iI (spI α (α 0 2) 0 : Nat))), some (.int (iI (spI α (α 0 2) (2 ^ α 0 0 - 1) : Nat))), some (.int (iI (spI α (α 0 2 + 1) 0 : Nat))), some (.int (iI (spI α (α 0 2 + 1) (2 ^ α 0 0 - 1) : Nat))), some (.int (iI r)), some (.int (iI (lvF α r : Nat))), some (.int (iI (lvD α r : Nat))), some (.int (iI ((r + 1 : Nat) : Int))), z10, z11, z12, z13], [], σ) := by
          intro hw z10 z11 z12 z13
          rw [if_pos hw] at ec
          refine ih (r + 1) _ _ _ _ _ _ _ (by omega) (fun h => absurd h (by omega)) (fun _ => ?_)
          rw [ec]; exact ⟨rfl, rfl, rfl⟩
        have no : ¬ 10 * lvF α (lvC α r) + 6 - lvD α (lvC α r) < 10 * lvF α r + 6 - lvD α r → ∀ z10 z11 z12 z13, jv_wp (d + 2) post (10, 70, [some (.ref 3), some (.int (iI ((2 ^ α 0 0 - 1 : Nat) : Int))), some (.int (iI (spI α (α 0 2) 0 : Nat))), some (.int (iI (spI α (α 0 2) (2 ^ α 0 0 - 1) : Nat))), some (.int (iI (spI α (α 0 2 + 1) 0 : Nat))), some (.int (iI (spI α (α 0 2 + 1) (2 ^ α 0 0 - 1) : Nat))), some (.int (iI (lvC α r : Nat))), some (.int (iI (lvF α (lvC α r) : Nat))), some (.int (iI (lvD α (lvC α r) : Nat))), some (.int (iI ((r + 1 : Nat) : Int))), z10, z11, z12, z13], [], σ) := by
          intro hw z10 z11 z12 z13
          rw [if_neg hw] at ec
          refine ih (r + 1) _ _ _ _ _ _ _ (by omega) (fun h => absurd h (by omega)) (fun _ => ?_)
          rw [ec]; exact ⟨rfl, rfl, rfl⟩
        refine ⟨fun c => yes (by omega) _ _ _ _, fun c => ⟨fun c2 => no (by omega) _ _ _ _, fun c2 => ⟨fun c3 => no (by omega) _ _ _ _, fun c3 => yes (by omega) _ _ _ _⟩⟩⟩
theorem q_bestHomes (hV : rV α) (hX : rX 3 α σ) (h : k (iI (lvC α (2 ^ α 0 0) : Nat)) σ) : jq_I (d + 4) 10 [.ref 3] σ k := by
  have h6 := hV.P
  have htd := hV.td
  have hp6 : 2 ^ α 0 0 ≤ 64 := Nat.le_trans (Nat.pow_le_pow_right (by omega) h6) (show 2 ^ 6 ≤ 64 by decide)
  have hp0 : 0 < 2 ^ α 0 0 := Nat.two_pow_pos _
  have e1 : iI 1 <<< (iI ((α 0 0 : Nat) : Int) &&& 31) - iI 1 = iI ((2 ^ α 0 0 - 1 : Nat) : Int) := by
    rw [show (iI 1 : Int32) = iI ((1 : Nat) : Int) from rfl, iI_shl (by omega) (by omega), Nat.one_mul, iI_sub]; exact congrArg iI (by omega)
  refine ok_X2_bestHomes ?_
  unfold vc_X2_bestHomes
  rw [hX.P, e1, hX.td, show (iI 0 : Int32) = iI ((0 : Nat) : Int) from rfl]
  refine q_speakersIf hV hX (by omega) (by omega) ?_
  rw [hX.td]
  refine q_speakersIf hV hX (by omega) (by omega) ?_
  rw [hX.td, iI_add, show ((α 0 2 : Nat) : Int) + 1 = ((α 0 2 + 1 : Nat) : Int) by omega]
  refine q_speakersIf hV hX (by omega) (by omega) ?_
  rw [hX.td, iI_add, show ((α 0 2 : Nat) : Int) + 1 = ((α 0 2 + 1 : Nat) : Int) by omega]
  refine q_speakersIf hV hX (by omega) (by omega) ?_
  exact w_bestHomes hV hX ⟨_, rfl, h⟩ (2 ^ α 0 0) 0 _ _ _ _ _ _ _ (by omega) (fun _ => rfl) (fun h => absurd h (by omega))
end Out
