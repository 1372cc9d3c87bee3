/-! digest: the reference -/
/-- nothing has changed but what S says, and the hash -/
def eH (σ σ' : jSt) : Prop := σ'.2.2 = σ.2.2 ∧ ∀ c k, ¬ mS c k → σ'.1 c k = σ.1 c k
section Dm
variable {α : rA} {σ : jSt} {d : Nat} {k : Int32 → jSt → Prop} {K : jSt → Prop} {post : jPo}
theorem eH.rf : eH σ σ := ⟨rfl, fun _ _ _ => rfl⟩
theorem rM.mh {t : jSt} (h : rM α σ) (e : eH σ t) : rM α t := h.mv (σ' := (t.1, σ.2)) ⟨rfl, e.2⟩
theorem pM.mh {t : jSt} {g : Nat → Nat} {n : Nat} (h : pM g n σ) (e : eH σ t) : pM g n t := ⟨(e.2 34 1 (by unfold mS; omega)).trans h.1, fun i hi => (e.2 35 i (by unfold mS; omega)).trans (h.2 i hi)⟩
theorem q_mix {x : Int64} (h : K (jv_h σ (Int64.ofNat 31 * σ.2.1 + x))) : jq_V (d + 1) 140 [.ref 34, .long x] σ K := ok_X9_mix ⟨rfl, h⟩
/-- told, and mixed in -/
theorem eH.mx {S : Nat → Nat → Prop} {t s : jSt} (e : eH σ t) (e2 : eS S t s) (hS : ∀ c k, S c k → mS c k) (x : Int32) : eH σ (jv_h s (Int64.ofNat 31 * s.2.1 + x.toInt64)) ∧ (jv_h s (Int64.ofNat 31 * s.2.1 + x.toInt64)).2.1 = mx t.2.1 x := by
  refine ⟨⟨?_, fun c k n => ?_⟩, ?_⟩
  · show s.2.2 = σ.2.2
    rw [e2.1]; exact e.1
  · show s.1 c k = σ.1 c k
    rw [e2.2 c k (fun q => n (hS c k q))]; exact e.2 c k n
  · show Int64.ofNat 31 * s.2.1 + x.toInt64 = _
    rw [e2.1]; rfl
theorem q_tellDate (hV : rV α) (hM : rM α σ) {dy : Nat} (hd : dy < 2000) {w : Nat} (hw : w < 4) (h : ∀ σ', eS dS σ σ' → k (iI (tDa α dy (w : Nat))) σ') : jq_I (d + 5) 111 [.ref 34, .int (iI dy), .int (iI w)] σ k := by
  refine ok_X9_tellDate ?_
  unfold vc_X9_tellDate
  unfold tDa at h
  rw [iI_eq0 ⟨by omega, by omega⟩, iI_eq ⟨by omega, by omega⟩ ⟨by omega, by omega⟩, iI_eq ⟨by omega, by omega⟩ ⟨by omega, by omega⟩]
  refine ⟨fun d3 => q_layDate (by omega) (fun s hE e1 e2 e3 => ⟨fun d0 => ⟨fun d1 => ⟨_, rfl, ?_⟩, fun d1 => ⟨_, rfl, ?_⟩⟩, fun d0 => ⟨_, rfl, ?_⟩⟩), fun d3 => q_speakers hV hM (by omega) (fun s hE => ⟨_, rfl, ?_⟩)⟩
  · have := h s hE
    rwa [if_neg d0, if_neg d1, if_pos (by omega), ← e3] at this
  · have := h s hE
    rwa [if_neg d0, if_pos d1, ← e2] at this
  · have := h s hE
    rwa [if_pos d0, ← e1] at this
  · have := h s hE
    rwa [if_neg (by omega), if_neg (by omega), if_neg (by omega)] at this
theorem w_sr1 (hV : rV α) (hM : rM α σ) {H : Int64} (h : ∀ t, eH σ t → t.2.1 = mxN (fun w => iI (tDa α (α 0 2) (w : Nat))) 4 H → jv_wp (d + 6) post (141, 29, [some (.ref 34), some (.int (iI 0))], [], t)) :
    ∀ (n w : Nat) (t : jSt), w + n = 4 → eH σ t → t.2.1 = mxN (fun w => iI (tDa α (α 0 2) (w : Nat))) w H → jv_wp (d + 6) post (141, 2, [some (.ref 34), some (.int (iI w))], [], t) := by
  have htd := hV.td
  intro n
  induction n with
  | zero =>
    intro w t hw hE e
    have e4 : w = 4 := by omega
    subst e4
    exact ok_X9_sayRiver_L2 ⟨fun _ => h t hE e, fun c => absurd (by decide +kernel) c⟩
  | succ n ih =>
    intro w t hw hE e
    refine ok_X9_sayRiver_L2 ⟨fun c => absurd c ?_, fun _ => ?_⟩
    · rw [iI_le ⟨by omega, by omega⟩ ⟨by omega, by omega⟩]; omega
    · rw [(hM.mh hE).td]
      refine q_tellDate hV (hM.mh hE) (by omega) (by omega) (fun s hE1 => q_mix ?_)
      obtain ⟨g1, g2⟩ := hE.mx hE1 dS_m (iI (tDa α (α 0 2) (w : Nat)))
      rw [iI_add, show (w : Int) + 1 = ((w + 1 : Nat) : Int) by omega]
      exact ih (w + 1) _ (by omega) g1 (by rw [g2, e, mxN])
theorem w_sr2 (hV : rV α) (hM : rM α σ) {H : Int64} (h : ∀ t, eH σ t → t.2.1 = mx (mx (mxN (fun w => iI (tDa α (α 0 2 + 40) (w : Nat))) 4 H) (iI (aLv α 0))) (iI (aLv α 1)) → post none t) (hr : ¬ α 0 0 = 0) :
    ∀ (n w : Nat) (t : jSt), w + n = 4 → eH σ t → t.2.1 = mxN (fun w => iI (tDa α (α 0 2 + 40) (w : Nat))) w H → jv_wp (d + 6) post (141, 29, [some (.ref 34), some (.int (iI w))], [], t) := by
  have htd := hV.td
  intro n
  induction n with
  | zero =>
    intro w t hw hE e
    have e4 : w = 4 := by omega
    subst e4
    have a0 : aLv α 0 = ((lvF α (lvC α (2 ^ α 0 0)) : Nat) : Int) := by unfold aLv; rw [if_pos (by omega), if_neg hr, if_pos rfl]
    have a1 : aLv α 1 = ((lvC α (2 ^ α 0 0) : Nat) : Int) := by unfold aLv; rw [if_pos (by omega), if_neg hr, if_neg (by omega)]
    rw [a0, a1] at h
    refine ok_X9_sayRiver_L29 ⟨fun _ => ?_, fun c => absurd (by decide +kernel) c⟩
    refine q_liveOf hV (hM.mh hE) (fun s hE1 => ⟨fun c => absurd iI_0.symm c, fun _ => q_mix ?_⟩)
    obtain ⟨g1, g2⟩ := hE.mx hE1 (fun _ _ q => q) (iI ((lvF α (lvC α (2 ^ α 0 0)) : Nat) : Int))
    refine q_liveOf hV (hM.mh g1) (fun s2 hE2 => ⟨fun _ => q_mix ?_, fun c => absurd c (by decide +kernel)⟩)
    obtain ⟨f1, f2⟩ := g1.mx hE2 (fun _ _ q => q) (iI ((lvC α (2 ^ α 0 0) : Nat) : Int))
    exact h _ f1 (by rw [f2, g2, e])
  | succ n ih =>
    intro w t hw hE e
    refine ok_X9_sayRiver_L29 ⟨fun c => absurd c ?_, fun _ => ?_⟩
    · rw [iI_le ⟨by omega, by omega⟩ ⟨by omega, by omega⟩]; omega
    · rw [(hM.mh hE).td, iI_add, show ((α 0 2 : Nat) : Int) + 40 = ((α 0 2 + 40 : Nat) : Int) by omega]
      refine q_tellDate hV (hM.mh hE) (by omega) (by omega) (fun s hE1 => q_mix ?_)
      obtain ⟨g1, g2⟩ := hE.mx hE1 dS_m (iI (tDa α (α 0 2 + 40) (w : Nat)))
      rw [iI_add, show (w : Int) + 1 = ((w + 1 : Nat) : Int) by omega]
      exact ih (w + 1) _ (by omega) g1 (by rw [g2, e, mxN])
theorem q_sayRiver (hV : rV α) (hM : rM α σ) (hr : ¬ α 0 0 = 0) (e : σ.2.1 = dgM α) (h : ∀ t, eH σ t → t.2.1 = dgR α → K t) : jq_V (d + 6) 141 [.ref 34] σ K := by
  refine ok_X9_sayRiver (w_sr1 hV hM (H := dgM α) (fun t hE et => ?_) 4 0 σ (by omega) eH.rf (by rw [mxN]; exact e))
  refine w_sr2 hV hM (H := mxN (fun w => iI (tDa α (α 0 2) (w : Nat))) 4 (dgM α)) (fun t hE et => ⟨rfl, h t hE ?_⟩) hr 4 0 t (by omega) hE (by rw [mxN]; exact et)
  unfold dgR
  rw [if_neg hr]
  exact et
theorem w_eP2 (hV : rV α) (hM : rM α σ) {p : Nat} (hp : p < α 0 0) {H : Int64} (h : ∀ t z2, eH σ t → t.2.1 = mxN (fun w => iI (tPe α p (w : Nat))) 8 H → jv_wp (d + 7) post (142, 9, [some (.ref 34), some (.int (iI ((p + 1 : Nat) : Int))), z2], [], t)) :
    ∀ (n w : Nat) (t : jSt), w + n = 8 → eH σ t → t.2.1 = mxN (fun w => iI (tPe α p (w : Nat))) w H → jv_wp (d + 7) post (142, 19, [some (.ref 34), some (.int (iI p)), some (.int (iI w))], [], t) := by
  have h6 := hV.P
  intro n
  induction n with
  | zero =>
    intro w t hw hE e
    have e4 : w = 8 := by omega
    subst e4
    refine ok_X9_digest_L19 ⟨fun _ => ?_, fun c => absurd (by decide +kernel) c⟩
    rw [iI_add, show (p : Int) + 1 = ((p + 1 : Nat) : Int) by omega]
    exact h t _ hE e
  | succ n ih =>
    intro w t hw hE e
    refine ok_X9_digest_L19 ⟨fun c => absurd c ?_, fun _ => ?_⟩
    · rw [iI_le ⟨by omega, by omega⟩ ⟨by omega, by omega⟩]; omega
    · refine q_tellPerson hV (hM.mh hE) hp (w := (w : Nat)) ⟨by omega, by omega⟩ (fun s hE1 => q_mix ?_)
      obtain ⟨g1, g2⟩ := hE.mx hE1 dS_m (iI (tPe α p (w : Nat)))
      rw [iI_add, show (w : Int) + 1 = ((w + 1 : Nat) : Int) by omega]
      exact ih (w + 1) _ (by omega) g1 (by rw [g2, e, mxN])
theorem w_eP (hV : rV α) (hM : rM α σ) (h : ∀ t z2, eH σ t → t.2.1 = dgP α → jv_wp (d + 7) post (142, 50, [some (.ref 34), some (.int (iI 0)), z2], [], t)) :
    ∀ (n p : Nat) (z2 : Option Value) (t : jSt), p + n = α 0 0 → eH σ t → t.2.1 = mxQ (fun p => mxN (fun w => iI (tPe α p (w : Nat))) 8) p (Int64.ofNat 1279) → jv_wp (d + 7) post (142, 9, [some (.ref 34), some (.int (iI p)), z2], [], t) := by
  have h6 := hV.P
  intro n
  induction n with
  | zero =>
    intro p z2 t hp hE e
    refine ok_X9_digest_L9 ⟨fun _ => ?_, fun c => absurd ?_ c⟩
    · unfold dgP at h; rw [show p = α 0 0 by omega] at e; exact h t _ hE e
    · rw [(hM.mh hE).P, iI_le ⟨by omega, by omega⟩ ⟨by omega, by omega⟩]; omega
  | succ n ih =>
    intro p z2 t hp hE e
    refine ok_X9_digest_L9 ⟨fun c => absurd c ?_, fun _ => w_eP2 hV hM (by omega) (fun t z2 hE e => ih (p + 1) z2 t (by omega) hE (by rw [e, mxQ])) 8 0 t (by omega) hE (by rw [mxN]; exact e)⟩
    rw [(hM.mh hE).P, iI_le ⟨by omega, by omega⟩ ⟨by omega, by omega⟩]; omega
theorem w_eM2 (hV : rV α) (hM : rM α σ) {m : Nat} (hm : m < α 0 1) {H : Int64} (h : ∀ t z2, eH σ t → t.2.1 = mxN (fun w => iI (tMa α m (w : Nat))) 7 H → jv_wp (d + 7) post (142, 50, [some (.ref 34), some (.int (iI ((m + 1 : Nat) : Int))), z2], [], t)) :
    ∀ (n w : Nat) (t : jSt), w + n = 7 → eH σ t → t.2.1 = mxN (fun w => iI (tMa α m (w : Nat))) w H → jv_wp (d + 7) post (142, 60, [some (.ref 34), some (.int (iI m)), some (.int (iI w))], [], t) := by
  have h5 := hV.M
  intro n
  induction n with
  | zero =>
    intro w t hw hE e
    have e4 : w = 7 := by omega
    subst e4
    refine ok_X9_digest_L60 ⟨fun _ => ?_, fun c => absurd (by decide +kernel) c⟩
    rw [iI_add, show (m : Int) + 1 = ((m + 1 : Nat) : Int) by omega]
    exact h t _ hE e
  | succ n ih =>
    intro w t hw hE e
    refine ok_X9_digest_L60 ⟨fun c => absurd c ?_, fun _ => ?_⟩
    · rw [iI_le ⟨by omega, by omega⟩ ⟨by omega, by omega⟩]; omega
    · refine q_tellMatter hV (hM.mh hE) hm (w := (w : Nat)) ⟨by omega, by omega⟩ (fun s hE1 => q_mix ?_)
      obtain ⟨g1, g2⟩ := hE.mx hE1 dtS_m (iI (tMa α m (w : Nat)))
      rw [iI_add, show (w : Int) + 1 = ((w + 1 : Nat) : Int) by omega]
      exact ih (w + 1) _ (by omega) g1 (by rw [g2, e, mxN])
theorem eH.tr {s t : jSt} (h1 : eH σ s) (h2 : eH s t) : eH σ t := ⟨h2.1.trans h1.1, fun c k n => (h2.2 c k n).trans (h1.2 c k n)⟩
theorem w_eM (hV : rV α) (hM : rM α σ) (h : ∀ t z2, eH σ t → t.2.1 = dgR α → jv_wp (d + 7) post (142, 102, [some (.ref 34), some (.int (iI 0)), z2], [], t)) :
    ∀ (n m : Nat) (z2 : Option Value) (t : jSt), m + n = α 0 1 → eH σ t → t.2.1 = mxQ (fun m => mxN (fun w => iI (tMa α m (w : Nat))) 7) m (dgP α) → jv_wp (d + 7) post (142, 50, [some (.ref 34), some (.int (iI m)), z2], [], t) := by
  have h5 := hV.M
  intro n
  induction n with
  | zero =>
    intro m z2 t hm hE e
    have e : t.2.1 = dgM α := by unfold dgM; rw [← show m = α 0 1 by omega]; exact e
    refine ok_X9_digest_L50 ⟨fun _ => q_lacks hV (hM.mh hE) ?_, fun c => absurd ?_ c⟩
    · rw [jb_0]
      refine ⟨fun c => ?_, fun c => ?_⟩
      · have c : α 0 0 = 0 := by simp at c; omega
        exact h t _ hE (by unfold dgR; rw [if_pos c]; exact e)
      · have c := of_decide_eq_false c
        exact q_sayRiver hV (hM.mh hE) c e (fun t2 hE2 e2 => h t2 _ (hE.tr hE2) e2)
    · rw [(hM.mh hE).M, iI_le ⟨by omega, by omega⟩ ⟨by omega, by omega⟩]; omega
  | succ n ih =>
    intro m z2 t hm hE e
    refine ok_X9_digest_L50 ⟨fun c => absurd c ?_, fun _ => w_eM2 hV hM (by omega) (fun t z2 hE e => ih (m + 1) z2 t (by omega) hE (by rw [e, mxQ])) 7 0 t (by omega) hE (by rw [mxN]; exact e)⟩
    rw [(hM.mh hE).M, iI_le ⟨by omega, by omega⟩ ⟨by omega, by omega⟩]; omega
theorem w_eG {g : Nat → Nat} {N : Nat} (hG : pV g N) (hp : pM g N σ) (h : ∀ t z2, eH σ t → t.2.1 = dgG α g N → jv_wp (d + 7) post (142, 129, [some (.ref 34), some (.int (iI 0)), z2], [], t)) :
    ∀ (n i : Nat) (z2 : Option Value) (t : jSt), i + n = N → eH σ t → t.2.1 = mxN (fun i => iI (g i : Nat)) i (dgR α) → jv_wp (d + 7) post (142, 102, [some (.ref 34), some (.int (iI i)), z2], [], t) := by
  have h44 := hG.1
  intro n
  induction n with
  | zero =>
    intro i z2 t hi hE e
    refine ok_X9_digest_L102 ⟨fun _ => ?_, fun c => absurd ?_ c⟩
    · exact h t _ hE (by unfold dgG; rw [← show i = N by omega]; exact e)
    · rw [(hp.mh hE).1, iI_le ⟨by omega, by omega⟩ ⟨by omega, by omega⟩]; omega
  | succ n ih =>
    intro i z2 t hi hE e
    have hc : (iI (i : Int)).toNatClampNeg = i := iI_clamp (by omega)
    have hin : vp_in (iI (i : Int)) 44 := (iI_in (by omega) 44).mpr (by omega)
    refine ok_X9_digest_L102 ⟨fun c => absurd c ?_, fun _ => ⟨hin, ?_⟩⟩
    · rw [(hp.mh hE).1, iI_le ⟨by omega, by omega⟩ ⟨by omega, by omega⟩]; omega
    · rw [hc, (hp.mh hE).2 i (by omega), iI_add, show (i : Int) + 1 = ((i + 1 : Nat) : Int) by omega]
      obtain ⟨g1, g2⟩ := hE.mx (S := dS) eS.rf dS_m (iI (g i : Nat))
      exact q_mix (ih (i + 1) z2 _ (by omega) g1 (by rw [g2, e, mxN]))
theorem w_eC (hV : rV α) (hM : rM α σ) {g : Nat → Nat} {N : Nat} (h : ∀ t, eH σ t → post (some (.long (dg α g N (σ.1 34 6) (σ.1 34 1) (σ.1 34 7) (σ.1 34 22)))) t) :
    ∀ (n i : Nat) (z2 : Option Value) (t : jSt), i + n = 12 → eH σ t → t.2.1 = mxN (fun w => aCo α (σ.1 34 6) (σ.1 34 1) (σ.1 34 7) (σ.1 34 22) (w : Nat)) i (dgG α g N) → jv_wp (d + 7) post (142, 129, [some (.ref 34), some (.int (iI i)), z2], [], t) := by
  intro n
  induction n with
  | zero =>
    intro i z2 t hi hE e
    refine ok_X9_digest_L129 ⟨fun _ => ?_, fun c => absurd ?_ c⟩
    · have := h t hE
      unfold dg at this
      rw [← show i = 12 by omega, ← e] at this
      exact this
    · rw [iI_le ⟨by omega, by omega⟩ ⟨by omega, by omega⟩]; omega
  | succ n ih =>
    intro i z2 t hi hE e
    refine ok_X9_digest_L129 ⟨fun c => absurd c ?_, fun _ => ?_⟩
    · rw [iI_le ⟨by omega, by omega⟩ ⟨by omega, by omega⟩]; omega
    · refine q_countOf (d := d + 1) hV (hM.mh hE) (w := (i : Nat)) ⟨by omega, by omega⟩ (fun s hE1 => q_mix ?_)
      rw [hE.2 34 6 (by unfold mS; omega), hE.2 34 1 (by unfold mS; omega), hE.2 34 7 (by unfold mS; omega), hE.2 34 22 (by unfold mS; omega), iI_add, show (i : Int) + 1 = ((i + 1 : Nat) : Int) by omega]
      obtain ⟨g1, g2⟩ := hE.mx hE1 dS_m (aCo α (σ.1 34 6) (σ.1 34 1) (σ.1 34 7) (σ.1 34 22) (i : Nat))
      exact ih (i + 1) z2 _ (by omega) g1 (by rw [g2, e, mxN])
theorem q_digestM {k : Int64 → jSt → Prop} (hV : rV α) (hM : rM α σ) {g : Nat → Nat} {N : Nat} (hG : pV g N) (hp : pM g N σ) (h : ∀ t, eH σ t → k (dg α g N (σ.1 34 6) (σ.1 34 1) (σ.1 34 7) (σ.1 34 22)) t) : jq_L (d + 7) 142 [.ref 34] σ k := by
  refine ok_X9_digest (w_eP hV hM (fun t z2 hE e => w_eM hV hM (fun t z2 hE e => w_eG hG hp (fun t z2 hE e => w_eC hV hM (fun t hE => ⟨_, rfl, h t hE⟩) 12 0 z2 t (by omega) hE (by rw [mxN]; exact e)) N 0 z2 t (by omega) hE (by rw [mxN]; exact e)) (α 0 1) 0 z2 t (by omega) hE (by rw [mxQ]; exact e)) (α 0 0) 0 none (jv_h σ (Int64.ofNat 1279)) (by omega) ⟨rfl, fun _ _ _ => rfl⟩ (by rw [mxQ]; rfl))
end Dm
