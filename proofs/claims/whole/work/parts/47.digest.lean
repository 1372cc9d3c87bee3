/-! digest: the class -/
def mx (h : Int64) (x : Int32) : Int64 := Int64.ofNat 31 * h + x.toInt64
def mxN (f : Nat → Int32) : Nat → Int64 → Int64
  | 0, h => h
  | n + 1, h => mx (mxN f n h) (f n)
def mxQ (F : Nat → Int64 → Int64) : Nat → Int64 → Int64
  | 0, h => h
  | n + 1, h => F n (mxQ F n h)
def dgP (α : rA) : Int64 := mxQ (fun p => mxN (fun w => iI (tPe α p (w : Nat))) 8) (α 0 0) (Int64.ofNat 1279)
def dgM (α : rA) : Int64 := mxQ (fun m => mxN (fun w => iI (tMa α m (w : Nat))) 7) (α 0 1) (dgP α)
def dgD (α : rA) : Int64 := mxN (fun w => iI (tDa α (α 0 2 + 40) (w : Nat))) 4 (mxN (fun w => iI (tDa α (α 0 2) (w : Nat))) 4 (dgM α))
def dgR (α : rA) : Int64 := if α 0 0 = 0 then dgM α else mx (mx (dgD α) (iI (aLv α 0))) (iI (aLv α 1))
def dgG (α : rA) (g : Nat → Nat) (n : Nat) : Int64 := mxN (fun i => iI (g i : Nat)) n (dgR α)
def dg (α : rA) (g : Nat → Nat) (n : Nat) (tot pn rd pl : Int32) : Int64 := mxN (fun w => aCo α tot pn rd pl (w : Nat)) 12 (dgG α g n)
section Dg
variable {α : rA} {σ : jSt} {d : Nat} {k : Int64 → jSt → Prop} {post : jPo}
theorem w_dP2 (hV : rV α) (hX : rX 3 α σ) {p : Nat} (hp : p < α 0 0) {H : Int64} (h : ∀ z4, jv_wp (d + 8) post (76, 6, [some (.ref 0), some (.long (mxN (fun w => iI (tPe α p (w : Nat))) 8 H)), none, some (.int (iI ((p + 1 : Nat) : Int))), z4], [], σ)) :
    ∀ (n w : Nat), w + n = 8 → jv_wp (d + 8) post (76, 20, [some (.ref 0), some (.long (mxN (fun w => iI (tPe α p (w : Nat))) w H)), none, some (.int (iI p)), some (.int (iI w))], [], σ) := by
  have h6 := hV.P
  intro n
  induction n with
  | zero =>
    intro w hw
    have e : w = 8 := by omega
    subst e
    refine ok_X8_digest_L20 ⟨fun _ => ?_, fun c => absurd ?_ c⟩
    · rw [iI_add, show (p : Int) + 1 = ((p + 1 : Nat) : Int) by omega]; exact h _
    · rw [iI_lt ⟨by omega, by omega⟩ ⟨by omega, by omega⟩]; omega
  | succ n ih =>
    intro w hw
    refine ok_X8_digest_L20 ⟨fun c => absurd c ?_, fun _ => ?_⟩
    · rw [iI_lt ⟨by omega, by omega⟩ ⟨by omega, by omega⟩]; omega
    · refine q_person hV hX ⟨by omega, by omega⟩ ⟨by omega, by omega⟩ ?_
      rw [iI_add, show (w : Int) + 1 = ((w + 1 : Nat) : Int) by omega]
      have ih := ih (w + 1) (by omega)
      have e : aPe α (p : Int) (w : Nat) = tPe α p (w : Nat) := by unfold aPe; rw [if_pos (by omega), show ((p : Int)).toNat = p by omega]
      rw [e]
      exact ih
theorem w_dP (hV : rV α) (hX : rX 3 α σ) (h : ∀ z4, jv_wp (d + 8) post (76, 56, [some (.ref 0), some (.long (dgP α)), none, some (.int (iI 0)), z4], [], σ)) :
    ∀ (n p : Nat) (z4 : Option Value), p + n = α 0 0 → jv_wp (d + 8) post (76, 6, [some (.ref 0), some (.long (mxQ (fun p => mxN (fun w => iI (tPe α p (w : Nat))) 8) p (Int64.ofNat 1279))), none, some (.int (iI p)), z4], [], σ) := by
  have h6 := hV.P
  intro n
  induction n with
  | zero =>
    intro p z4 hp
    refine ok_X8_digest_L6 ⟨fun _ => ?_, fun c => absurd ?_ c⟩
    · unfold dgP at h; rw [show p = α 0 0 by omega]; exact h _
    · rw [hX.P, iI_le ⟨by omega, by omega⟩ ⟨by omega, by omega⟩]; omega
  | succ n ih =>
    intro p z4 hp
    refine ok_X8_digest_L6 ⟨fun c => absurd c ?_, fun _ => w_dP2 hV hX (by omega) (fun z4 => ih (p + 1) z4 (by omega)) 8 0 (by omega)⟩
    rw [hX.P, iI_le ⟨by omega, by omega⟩ ⟨by omega, by omega⟩]; omega
theorem w_dM2 (hV : rV α) (hX : rX 3 α σ) {m : Nat} (hm : m < α 0 1) {H : Int64} (h : ∀ z4, jv_wp (d + 8) post (76, 56, [some (.ref 0), some (.long (mxN (fun w => iI (tMa α m (w : Nat))) 7 H)), none, some (.int (iI ((m + 1 : Nat) : Int))), z4], [], σ)) :
    ∀ (n w : Nat), w + n = 7 → jv_wp (d + 8) post (76, 70, [some (.ref 0), some (.long (mxN (fun w => iI (tMa α m (w : Nat))) w H)), none, some (.int (iI m)), some (.int (iI w))], [], σ) := by
  have h5 := hV.M
  intro n
  induction n with
  | zero =>
    intro w hw
    have e : w = 7 := by omega
    subst e
    refine ok_X8_digest_L70 ⟨fun _ => ?_, fun c => absurd ?_ c⟩
    · rw [iI_add, show (m : Int) + 1 = ((m + 1 : Nat) : Int) by omega]; exact h _
    · rw [iI_lt ⟨by omega, by omega⟩ ⟨by omega, by omega⟩]; omega
  | succ n ih =>
    intro w hw
    refine ok_X8_digest_L70 ⟨fun c => absurd c ?_, fun _ => ?_⟩
    · rw [iI_lt ⟨by omega, by omega⟩ ⟨by omega, by omega⟩]; omega
    · refine q_matter (d := d + 1) hV hX ⟨by omega, by omega⟩ ⟨by omega, by omega⟩ ?_
      rw [iI_add, show (w : Int) + 1 = ((w + 1 : Nat) : Int) by omega]
      have ih := ih (w + 1) (by omega)
      have e : aMa α (m : Int) (w : Nat) = tMa α m (w : Nat) := by unfold aMa; rw [if_pos (by omega), show ((m : Int)).toNat = m by omega]
      rw [e]
      exact ih
theorem w_wd2 (hV : rV α) (hX : rX 3 α σ) (hr : ¬ α 0 0 = 0) {D : Nat} (hD : D ≤ 40) {H0 H : Int64} (h : ∀ z6, jv_wp (d + 6) post (77, 5, [some (.ref 0), some (.long H0), none, some (.long (mxN (fun w => iI (tDa α (α 0 2 + D) (w : Nat))) 4 H)), none, some (.int (iI ((D + 40 : Nat) : Int))), z6], [], σ)) :
    ∀ (n w : Nat), w + n = 4 → jv_wp (d + 6) post (77, 15, [some (.ref 0), some (.long H0), none, some (.long (mxN (fun w => iI (tDa α (α 0 2 + D) (w : Nat))) w H)), none, some (.int (iI D)), some (.int (iI w))], [], σ) := by
  intro n
  induction n with
  | zero =>
    intro w hw
    have e : w = 4 := by omega
    subst e
    refine ok_X8_withDates_L15 ⟨fun _ => ?_, fun c => absurd ?_ c⟩
    · rw [iI_add, show (D : Int) + 40 = ((D + 40 : Nat) : Int) by omega]; exact h _
    · rw [iI_lt ⟨by omega, by omega⟩ ⟨by omega, by omega⟩]; omega
  | succ n ih =>
    intro w hw
    refine ok_X8_withDates_L15 ⟨fun c => absurd c ?_, fun _ => ?_⟩
    · rw [iI_lt ⟨by omega, by omega⟩ ⟨by omega, by omega⟩]; omega
    · refine q_date hV hX ⟨by omega, by omega⟩ ⟨by omega, by omega⟩ ?_
      rw [iI_add, show (w : Int) + 1 = ((w + 1 : Nat) : Int) by omega]
      have ih := ih (w + 1) (by omega)
      have e : aDa α (D : Int) (w : Nat) = tDa α (α 0 2 + D) (w : Nat) := by unfold aDa; rw [if_pos (by omega), if_neg hr, show ((D : Int)).toNat = D by omega]
      rw [e]
      exact ih
theorem q_withDates (hV : rV α) (hX : rX 3 α σ) (hr : ¬ α 0 0 = 0) (h : k (dgD α) σ) : jq_L (d + 6) 77 [.ref 0, .long (dgM α)] σ k := by
  refine ok_X8_withDates (ok_X8_withDates_L5 ⟨fun c => absurd c (by decide +kernel), fun _ => w_wd2 (D := 0) hV hX hr (by omega) (fun z6 => ?_) 4 0 (by omega)⟩)
  refine ok_X8_withDates_L5 ⟨fun c => absurd c (by decide +kernel), fun _ => w_wd2 (D := 40) hV hX hr (by omega) (fun z6 => ?_) 4 0 (by omega)⟩
  exact ok_X8_withDates_L5 ⟨fun _ => ⟨_, rfl, h⟩, fun c => absurd (by decide +kernel) c⟩
theorem w_dM (hV : rV α) (hX : rX 3 α σ) (h : ∀ z4, jv_wp (d + 8) post (76, 148, [some (.ref 0), some (.long (dgR α)), none, some (.int (iI 0)), z4], [], σ)) :
    ∀ (n m : Nat) (z4 : Option Value), m + n = α 0 1 → jv_wp (d + 8) post (76, 56, [some (.ref 0), some (.long (mxQ (fun m => mxN (fun w => iI (tMa α m (w : Nat))) 7) m (dgP α))), none, some (.int (iI m)), z4], [], σ) := by
  have h5 := hV.M
  intro n
  induction n with
  | zero =>
    intro m z4 hm
    refine ok_X8_digest_L56 ⟨fun _ => q_hasRiver hV hX ?_, fun c => absurd ?_ c⟩
    · rw [show m = α 0 1 by omega, jb_0]
      refine ⟨fun c => ?_, fun c => ?_⟩
      · have c := of_decide_eq_false c
        unfold dgR at h
        rw [if_pos (by omega)] at h
        exact h z4
      · have c : 0 < α 0 0 := by simp at c; omega
        unfold dgR at h
        rw [if_neg (by omega)] at h
        refine q_withDates (d := d + 1) hV hX (by omega) ?_
        refine q_live (w := 0) (d := d + 2) hV hX ⟨by omega, by omega⟩ ?_
        refine q_live (w := 1) (d := d + 2) hV hX ⟨by omega, by omega⟩ ?_
        exact h z4
    · rw [hX.M, iI_le ⟨by omega, by omega⟩ ⟨by omega, by omega⟩]; omega
  | succ n ih =>
    intro m z4 hm
    refine ok_X8_digest_L56 ⟨fun c => absurd c ?_, fun _ => w_dM2 hV hX (by omega) (fun z4 => ih (m + 1) z4 (by omega)) 7 0 (by omega)⟩
    rw [hX.M, iI_le ⟨by omega, by omega⟩ ⟨by omega, by omega⟩]; omega
theorem w_dG {g : Nat → Nat} {N : Nat} (hG : pV g N) (hp : pX g N σ) (h : ∀ z4, jv_wp (d + 8) post (76, 184, [some (.ref 0), some (.long (dgG α g N)), none, some (.int (iI 0)), z4], [], σ)) :
    ∀ (n i : Nat) (z4 : Option Value), i + n = N → jv_wp (d + 8) post (76, 148, [some (.ref 0), some (.long (mxN (fun i => iI (g i : Nat)) i (dgR α))), none, some (.int (iI i)), z4], [], σ) := by
  have h44 := hG.1
  intro n
  induction n with
  | zero =>
    intro i z4 hi
    refine ok_X8_digest_L148 ⟨fun _ => ?_, fun c => absurd ?_ c⟩
    · unfold dgG at h; rw [show i = N by omega]; exact h _
    · rw [hp.1, iI_le ⟨by omega, by omega⟩ ⟨by omega, by omega⟩]; omega
  | succ n ih =>
    intro i z4 hi
    have hc : (iI (i : Int)).toNatClampNeg = i := iI_clamp (by omega)
    have hin : vp_in (iI (i : Int)) 44 := (iI_in (by omega) 44).mpr (by omega)
    refine ok_X8_digest_L148 ⟨fun c => absurd c ?_, fun _ => ⟨hin, ?_⟩⟩
    · rw [hp.1, iI_le ⟨by omega, by omega⟩ ⟨by omega, by omega⟩]; omega
    · rw [hc, hp.2 i (by omega), iI_add, show (i : Int) + 1 = ((i + 1 : Nat) : Int) by omega]
      exact ih (i + 1) z4 (by omega)
theorem w_dC (hV : rV α) (hX : rX 3 α σ) {g : Nat → Nat} {N : Nat} (h : post (some (.long (dg α g N (σ.1 3 12) (σ.1 1 1) (σ.1 0 5) (σ.1 0 6)))) σ) :
    ∀ (n i : Nat) (z4 : Option Value), i + n = 12 → jv_wp (d + 8) post (76, 184, [some (.ref 0), some (.long (mxN (fun w => aCo α (σ.1 3 12) (σ.1 1 1) (σ.1 0 5) (σ.1 0 6) (w : Nat)) i (dgG α g N))), none, some (.int (iI i)), z4], [], σ) := by
  intro n
  induction n with
  | zero =>
    intro i z4 hi
    refine ok_X8_digest_L184 ⟨fun _ => ?_, fun c => absurd ?_ c⟩
    · unfold dg at h; rw [show i = 12 by omega]; exact h
    · rw [iI_lt ⟨by omega, by omega⟩ ⟨by omega, by omega⟩]; omega
  | succ n ih =>
    intro i z4 hi
    refine ok_X8_digest_L184 ⟨fun c => absurd c ?_, fun _ => ?_⟩
    · rw [iI_lt ⟨by omega, by omega⟩ ⟨by omega, by omega⟩]; omega
    · refine q_count (d := d + 2) hV hX ⟨by omega, by omega⟩ ?_
      rw [iI_add, show (i : Int) + 1 = ((i + 1 : Nat) : Int) by omega]
      exact ih (i + 1) z4 (by omega)
theorem q_digest (hV : rV α) (hX : rX 3 α σ) {g : Nat → Nat} {N : Nat} (hG : pV g N) (hp : pX g N σ) (h : k (dg α g N (σ.1 3 12) (σ.1 1 1) (σ.1 0 5) (σ.1 0 6)) σ) : jq_L (d + 8) 76 [.ref 0] σ k := by
  have s4 : ∀ z4, jv_wp (d + 8) (fun r σ' => ∃ x, r = some (.long x) ∧ k x σ') (76, 184, [some (.ref 0), some (.long (dgG α g N)), none, some (.int (iI 0)), z4], [], σ) := fun z4 => by
    have := w_dC (d := d) (post := fun r σ' => ∃ x, r = some (.long x) ∧ k x σ') hV hX ⟨_, rfl, h⟩ 12 0 z4 (by omega)
    rw [mxN] at this
    exact this
  have s3 : ∀ z4, jv_wp (d + 8) (fun r σ' => ∃ x, r = some (.long x) ∧ k x σ') (76, 148, [some (.ref 0), some (.long (dgR α)), none, some (.int (iI 0)), z4], [], σ) := fun z4 => by
    have := w_dG hG hp s4 N 0 z4 (by omega)
    rw [mxN] at this
    exact this
  have s2 : ∀ z4, jv_wp (d + 8) (fun r σ' => ∃ x, r = some (.long x) ∧ k x σ') (76, 56, [some (.ref 0), some (.long (dgP α)), none, some (.int (iI 0)), z4], [], σ) := fun z4 => by
    have := w_dM hV hX s3 (α 0 1) 0 z4 (by omega)
    rw [mxQ] at this
    exact this
  have s1 := w_dP hV hX s2 (α 0 0) 0 none (by omega)
  rw [mxQ] at s1
  exact ok_X8_digest s1
end Dg
