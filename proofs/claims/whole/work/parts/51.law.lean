/-! the law's loop -/
section Lw
variable {σ : jSt} {L : Nat} {xs : Nat → Int32} {d cx cm n : Nat} {F : Int32 → Int32 → jSt → Prop}
theorem lw0 (hs : σ.2.2 = (L, xs)) (hq : two d cx cm [.ref 0] [.ref 34] n σ) (hF : ∀ x y s3, x = y → rel (n + 5) s3 → s3.2.2 = (L, xs) → F x y s3) : jq_I d cx [.ref 0] σ (fun x s1 => jq_I d cm [.ref 34] s1 (fun y s3 => F x y s3)) :=
  jq_I_con hq (fun _ _ q => jq_I_con q.2 (fun _ s3 r => hF _ _ s3 r.1 r.2.1 (r.2.2.trans hs)))
theorem lw1 (hs : σ.2.2 = (L, xs)) {u : Int32} (hin : vp_in u L) {z : Int} (hv : xs u.toNatClampNeg = iI z) (hq : two d cx cm [.ref 0, .int (iI z)] [.ref 34, .int (iI z)] n σ) (hF : ∀ x y s3, x = y → rel (n + 5) s3 → s3.2.2 = (L, xs) → F x y s3) :
    vp_in u σ.2.2.1 ∧ jq_I d cx [.ref 0, .int (σ.2.2.2 u.toNatClampNeg)] σ (fun x s1 => vp_in u s1.2.2.1 ∧ jq_I d cm [.ref 34, .int (s1.2.2.2 u.toNatClampNeg)] s1 (fun y s3 => F x y s3)) := by
  rw [hs]
  dsimp only
  rw [hv]
  refine ⟨hin, jq_I_con hq (fun x s1 q => ?_)⟩
  have e1 := q.1.trans hs
  rw [e1]
  dsimp only
  rw [hv]
  exact ⟨hin, jq_I_con q.2 (fun _ s3 r => hF _ _ s3 r.1 r.2.1 (r.2.2.trans hs))⟩
theorem lw2 (hs : σ.2.2 = (L, xs)) {u u2 : Int32} (hin : vp_in u L) (hin2 : vp_in u2 L) {z z2 : Int} (hv : xs u.toNatClampNeg = iI z) (hv2 : xs u2.toNatClampNeg = iI z2) (hq : two d cx cm [.ref 0, .int (iI z), .int (iI z2)] [.ref 34, .int (iI z), .int (iI z2)] n σ) (hF : ∀ x y s3, x = y → rel (n + 5) s3 → s3.2.2 = (L, xs) → F x y s3) :
    vp_in u σ.2.2.1 ∧ vp_in u2 σ.2.2.1 ∧ jq_I d cx [.ref 0, .int (σ.2.2.2 u.toNatClampNeg), .int (σ.2.2.2 u2.toNatClampNeg)] σ (fun x s1 => vp_in u s1.2.2.1 ∧ vp_in u2 s1.2.2.1 ∧ jq_I d cm [.ref 34, .int (s1.2.2.2 u.toNatClampNeg), .int (s1.2.2.2 u2.toNatClampNeg)] s1 (fun y s3 => F x y s3)) := by
  rw [hs]
  dsimp only
  rw [hv, hv2]
  refine ⟨hin, hin2, jq_I_con hq (fun x s1 q => ?_)⟩
  have e1 := q.1.trans hs
  rw [e1]
  dsimp only
  rw [hv, hv2]
  exact ⟨hin, hin2, jq_I_con q.2 (fun _ s3 r => hF _ _ s3 r.1 r.2.1 (r.2.2.trans hs))⟩
theorem lw3 (hs : σ.2.2 = (L, xs)) {u u2 u3 : Int32} (hin : vp_in u L) (hin2 : vp_in u2 L) (hin3 : vp_in u3 L) {z z2 z3 : Int} (hv : xs u.toNatClampNeg = iI z) (hv2 : xs u2.toNatClampNeg = iI z2) (hv3 : xs u3.toNatClampNeg = iI z3) (hq : two d cx cm [.ref 0, .int (iI z), .int (iI z2), .int (iI z3)] [.ref 34, .int (iI z), .int (iI z2), .int (iI z3)] n σ) (hF : ∀ x y s3, x = y → rel (n + 5) s3 → s3.2.2 = (L, xs) → F x y s3) :
    vp_in u σ.2.2.1 ∧ vp_in u2 σ.2.2.1 ∧ vp_in u3 σ.2.2.1 ∧ jq_I d cx [.ref 0, .int (σ.2.2.2 u.toNatClampNeg), .int (σ.2.2.2 u2.toNatClampNeg), .int (σ.2.2.2 u3.toNatClampNeg)] σ (fun x s1 => vp_in u s1.2.2.1 ∧ vp_in u2 s1.2.2.1 ∧ vp_in u3 s1.2.2.1 ∧ jq_I d cm [.ref 34, .int (s1.2.2.2 u.toNatClampNeg), .int (s1.2.2.2 u2.toNatClampNeg), .int (s1.2.2.2 u3.toNatClampNeg)] s1 (fun y s3 => F x y s3)) := by
  rw [hs]
  dsimp only
  rw [hv, hv2, hv3]
  refine ⟨hin, hin2, hin3, jq_I_con hq (fun x s1 q => ?_)⟩
  have e1 := q.1.trans hs
  rw [e1]
  dsimp only
  rw [hv, hv2, hv3]
  exact ⟨hin, hin2, hin3, jq_I_con q.2 (fun _ s3 r => hF _ _ s3 r.1 r.2.1 (r.2.2.trans hs))⟩
theorem lw4 (hs : σ.2.2 = (L, xs)) {u u2 u3 u4 : Int32} (hin : vp_in u L) (hin2 : vp_in u2 L) (hin3 : vp_in u3 L) (hin4 : vp_in u4 L) {z z2 z3 z4 : Int} (hv : xs u.toNatClampNeg = iI z) (hv2 : xs u2.toNatClampNeg = iI z2) (hv3 : xs u3.toNatClampNeg = iI z3) (hv4 : xs u4.toNatClampNeg = iI z4) (hq : two d cx cm [.ref 0, .int (iI z), .int (iI z2), .int (iI z3), .int (iI z4)] [.ref 34, .int (iI z), .int (iI z2), .int (iI z3), .int (iI z4)] n σ) (hF : ∀ x y s3, x = y → rel (n + 5) s3 → s3.2.2 = (L, xs) → F x y s3) :
    vp_in u σ.2.2.1 ∧ vp_in u2 σ.2.2.1 ∧ vp_in u3 σ.2.2.1 ∧ vp_in u4 σ.2.2.1 ∧ jq_I d cx [.ref 0, .int (σ.2.2.2 u.toNatClampNeg), .int (σ.2.2.2 u2.toNatClampNeg), .int (σ.2.2.2 u3.toNatClampNeg), .int (σ.2.2.2 u4.toNatClampNeg)] σ (fun x s1 => vp_in u s1.2.2.1 ∧ vp_in u2 s1.2.2.1 ∧ vp_in u3 s1.2.2.1 ∧ vp_in u4 s1.2.2.1 ∧ jq_I d cm [.ref 34, .int (s1.2.2.2 u.toNatClampNeg), .int (s1.2.2.2 u2.toNatClampNeg), .int (s1.2.2.2 u3.toNatClampNeg), .int (s1.2.2.2 u4.toNatClampNeg)] s1 (fun y s3 => F x y s3)) := by
  rw [hs]
  dsimp only
  rw [hv, hv2, hv3, hv4]
  refine ⟨hin, hin2, hin3, hin4, jq_I_con hq (fun x s1 q => ?_)⟩
  have e1 := q.1.trans hs
  rw [e1]
  dsimp only
  rw [hv, hv2, hv3, hv4]
  exact ⟨hin, hin2, hin3, hin4, jq_I_con q.2 (fun _ s3 r => hF _ _ s3 r.1 r.2.1 (r.2.2.trans hs))⟩
theorem lwS {d : Nat} {F0 F1 F2 F3 : Int32 → Int32 → jSt → Prop} (hs : σ.2.2 = (L, xs)) {u u2 u3 : Int32} (hin : vp_in u L) (hin2 : vp_in u2 L) (hin3 : vp_in u3 L) {z z2 : Int} (hz : iR z) (hz2 : iR z2) (hv : xs u.toNatClampNeg = iI z) (hv2 : xs u2.toNatClampNeg = iI z2) (hR : rel n σ)
    (hF0 : ∀ x y s3, x = y → rel (n + 5) s3 → s3.2.2 = (L, xs) → F0 x y s3) (hF1 : ∀ x y s3, x = y → rel (n + 5) s3 → s3.2.2 = (L, xs) → F3 x y s3) :
    vp_in u σ.2.2.1 ∧ vp_in u2 σ.2.2.1 ∧ vp_in u3 σ.2.2.1 ∧ ((σ.2.2.2 u3.toNatClampNeg = 0 → jq_I (d + 11) 70 [.ref 0, .int (σ.2.2.2 u.toNatClampNeg), .int (σ.2.2.2 u2.toNatClampNeg), .int (iI 0)] σ (fun x s1 => vp_in u s1.2.2.1 ∧ vp_in u2 s1.2.2.1 ∧ vp_in u3 s1.2.2.1 ∧ ((s1.2.2.2 u3.toNatClampNeg = 0 → jq_I (d + 11) 127 [.ref 34, .int (s1.2.2.2 u.toNatClampNeg), .int (s1.2.2.2 u2.toNatClampNeg), .int (iI 0)] s1 (fun y s3 => F0 x y s3)) ∧ (¬ s1.2.2.2 u3.toNatClampNeg = 0 → jq_I (d + 11) 127 [.ref 34, .int (s1.2.2.2 u.toNatClampNeg), .int (s1.2.2.2 u2.toNatClampNeg), .int (iI 1)] s1 (fun y s3 => F1 x y s3))))) ∧
      (¬ σ.2.2.2 u3.toNatClampNeg = 0 → jq_I (d + 11) 70 [.ref 0, .int (σ.2.2.2 u.toNatClampNeg), .int (σ.2.2.2 u2.toNatClampNeg), .int (iI 1)] σ (fun x s1 => vp_in u s1.2.2.1 ∧ vp_in u2 s1.2.2.1 ∧ vp_in u3 s1.2.2.1 ∧ ((s1.2.2.2 u3.toNatClampNeg = 0 → jq_I (d + 11) 127 [.ref 34, .int (s1.2.2.2 u.toNatClampNeg), .int (s1.2.2.2 u2.toNatClampNeg), .int (iI 0)] s1 (fun y s3 => F2 x y s3)) ∧ (¬ s1.2.2.2 u3.toNatClampNeg = 0 → jq_I (d + 11) 127 [.ref 34, .int (s1.2.2.2 u.toNatClampNeg), .int (s1.2.2.2 u2.toNatClampNeg), .int (iI 1)] s1 (fun y s3 => F3 x y s3)))))) := by
  rw [hs]
  dsimp only
  rw [hv, hv2]
  refine ⟨hin, hin2, hin3, fun c => ?_, fun c => ?_⟩
  · refine jq_I_con (c_see (d := d) (b := 0) hR hz hz2 (by omega)) (fun x s1 q => ?_)
    have e1 := q.1.trans hs
    rw [e1]
    dsimp only
    rw [hv, hv2]
    exact ⟨hin, hin2, hin3, fun _ => jq_I_con q.2 (fun _ s3 r => hF0 _ _ s3 r.1 r.2.1 (r.2.2.trans hs)), fun c2 => absurd c c2⟩
  · refine jq_I_con (c_see (d := d) (b := 1) hR hz hz2 (by omega)) (fun x s1 q => ?_)
    have e1 := q.1.trans hs
    rw [e1]
    dsimp only
    rw [hv, hv2]
    exact ⟨hin, hin2, hin3, fun c2 => absurd c2 c, fun _ => jq_I_con q.2 (fun _ s3 r => hF1 _ _ s3 r.1 r.2.1 (r.2.2.trans hs))⟩
theorem lc_rf (x : Int64) : lg_cmp x x = 0 := by
  unfold lg_cmp
  rw [if_neg Int64.lt_irrefl, if_pos rfl]
theorem w_law {post : jPo} (hL : L ≤ 2560) (hp : ∀ s : jSt, s.2.2 = (L, xs) → post (some (.int (iI 1))) s) : ∀ (q i : Nat) (σ : jSt), L < i + 5 * q + 5 → i ≤ 2560 → rel i σ → σ.2.2 = (L, xs) → jv_wp (d + 12) post (0, 18, [some (.ref 56), some (.ref 0), some (.ref 34), some (.int (iI i))], [], σ) := by
  intro q
  have fin : ∀ (i : Nat) (σ : jSt), i ≤ 2560 → σ.2.2 = (L, xs) → ¬ i + 5 ≤ L → jv_wp (d + 12) post (0, 18, [some (.ref 56), some (.ref 0), some (.ref 34), some (.int (iI i))], [], σ) := by
    intro i σ hi hs c
    refine ok_L_law_L18 ⟨fun _ => hp σ hs, fun c2 => absurd ?_ c2⟩
    rw [hs]
    show Int32.ofNat L - iI 5 < iI (i : Int)
    rw [iI_ofNat, iI_sub, iI_lt ⟨by omega, by omega⟩ ⟨by omega, by omega⟩]; omega
  induction q with
  | zero =>
    intro i σ hq hi hR hs
    exact fin i σ hi hs (by omega)
  | succ q ih =>
    intro i σ hq hi hR hs
    by_cases c : i + 5 ≤ L
    · have hv : ∀ k : Nat, k < 5 → vp_in (iI (i : Int) + iI (k : Int)) L := fun k hk => by
        rw [iI_add, show (i : Int) + (k : Int) = ((i + k : Nat) : Int) by omega]
        exact (iI_in (by omega) L).mpr (by omega)
      have i1 := hv 1 (by omega)
      have i2 := hv 2 (by omega)
      have i3 := hv 3 (by omega)
      have i4 := hv 4 (by omega)
      obtain ⟨z1, hz1, e1⟩ := iI_of (xs (iI (i : Int) + iI 1).toNatClampNeg)
      obtain ⟨z2, hz2, e2⟩ := iI_of (xs (iI (i : Int) + iI 2).toNatClampNeg)
      obtain ⟨z3, hz3, e3⟩ := iI_of (xs (iI (i : Int) + iI 3).toNatClampNeg)
      obtain ⟨z4, hz4, e4⟩ := iI_of (xs (iI (i : Int) + iI 4).toNatClampNeg)
      have nx : ∀ s3, rel (i + 5) s3 → s3.2.2 = (L, xs) → jv_wp (d + 12) post (0, 18, [some (.ref 56), some (.ref 0), some (.ref 34), some (.int (iI (i : Int) + iI 5))], [], s3) := by
        intro s3 r es
        rw [iI_add, show (i : Int) + 5 = ((i + 5 : Nat) : Int) by omega]
        exact ih (i + 5) s3 (by omega) (by omega) r es
      have fn : ∀ (x y : Int32) s3, x = y → rel (i + 5) s3 → s3.2.2 = (L, xs) → ((x = y → jv_wp (d + 12) post (0, 18, [some (.ref 56), some (.ref 0), some (.ref 34), some (.int (iI (i : Int) + iI 5))], [], s3)) ∧ (¬ x = y → post (some (.int (iI 0))) s3)) := fun x y s3 e r es => ⟨fun _ => nx s3 r es, fun c => absurd e c⟩
      refine ok_L_law_L18 ⟨fun c2 => absurd c2 ?_, fun _ => ⟨?_, ?_⟩⟩
      · rw [hs]
        show ¬ Int32.ofNat L - iI 5 < iI (i : Int)
        rw [iI_ofNat, iI_sub, iI_lt ⟨by omega, by omega⟩ ⟨by omega, by omega⟩]; omega
      · rw [hs]; exact (iI_in (by omega) L).mpr (by omega)
      refine ⟨fun _ => lw1 hs i1 e1 (c_letter hR hz1) fn, fun _ => ?_⟩
      refine ⟨fun _ => lw0 hs (c_blank hR) fn, fun _ => ?_⟩
      refine ⟨fun _ => lw0 hs (c_fault hR) fn, fun _ => ?_⟩
      refine ⟨fun _ => lw0 hs (c_river hR) fn, fun _ => ?_⟩
      refine ⟨fun _ => lw2 hs i1 i2 e1 e2 (c_person hR hz1 hz2) fn, fun _ => ?_⟩
      refine ⟨fun _ => lw2 hs i1 i2 e1 e2 (c_as hR hz1 hz2) fn, fun _ => ?_⟩
      refine ⟨fun _ => lw2 hs i1 i2 e1 e2 (c_matter hR hz1 hz2) fn, fun _ => ?_⟩
      refine ⟨fun _ => lw2 hs i1 i2 e1 e2 (c_date hR hz1 hz2) fn, fun _ => ?_⟩
      refine ⟨fun _ => lw1 hs i1 e1 (c_say hR hz1) fn, fun _ => ?_⟩
      refine ⟨fun _ => lw0 hs (c_day hR) fn, fun _ => ?_⟩
      refine ⟨fun _ => lw1 hs i1 e1 (c_cross hR hz1) fn, fun _ => ?_⟩
      refine ⟨fun _ => lw2 hs i1 i2 e1 e2 (c_open hR hz1 hz2) fn, fun _ => ?_⟩
      refine ⟨fun _ => lw3 hs i1 i2 i3 e1 e2 e3 (c_change hR hz1 hz2 hz3) fn, fun _ => ?_⟩
      refine ⟨fun _ => lw2 hs i1 i2 e1 e2 (c_best hR hz1 hz2) fn, fun _ => ?_⟩
      refine ⟨fun _ => lw1 hs i1 e1 (c_live hR hz1) fn, fun _ => ?_⟩
      refine ⟨fun _ => lw4 hs i1 i2 i3 i4 e1 e2 e3 e4 (c_fog hR hz1 hz2 hz3 hz4) fn, fun _ => ?_⟩
      refine ⟨fun _ => lwS hs i1 i2 i3 hz1 hz2 e1 e2 hR fn fn, fun _ => ?_⟩
      refine ⟨fun _ => lw0 hs (c_forget hR) fn, fun _ => ?_⟩
      refine ⟨fun _ => lw3 hs i1 i2 i3 e1 e2 e3 (c_years hR hz1 hz2 hz3) fn, fun _ => ?_⟩
      refine ⟨fun _ => lw0 hs (c_image hR) fn, fun _ => ?_⟩
      refine ⟨fun _ => lw0 hs (c_restore hR (by omega)) fn, fun _ => ?_⟩
      refine ⟨fun _ => lw1 hs i1 e1 (c_count hR hz1) fn, fun _ => ?_⟩
      refine ⟨fun _ => jq_L_con (c_digest hR) (fun x s1 q => jq_L_con q.2 (fun y s3 r => ⟨fun _ => nx s3 r.2.1 (r.2.2.trans hs), fun c => absurd (by rw [r.1]; exact lc_rf _) c⟩)), fun _ => ?_⟩
      obtain ⟨α, g, pn, rd, pl, hB⟩ := hR
      exact nx σ hB.same hs
    · exact fin i σ hi hs c
theorem q_law {post : jPo} (hL : L ≤ 2560) (hp : ∀ s : jSt, s.2.2 = (L, xs) → post (some (.int (iI 1))) s) (hR : rel 0 σ) (hs : σ.2.2 = (L, xs)) : jv_wp (d + 12) post (0, 16, [some (.ref 56), some (.ref 0), some (.ref 34), none], [], σ) :=
  ok_L_law_16 (w_law hL hp L 0 σ (by omega) (by omega) hR hs)
end Lw
