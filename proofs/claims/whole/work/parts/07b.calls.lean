/-! what it is that a frame of the little machine stands for; calls -/
def jv_room (d : Nat) : Room := { frames := d + 1, cells := 0, slots := 0, locals := 64 * (d + 1) }
def jv_ir (mt : jM) (r : Option Value) (pc : Nat) : Prop :=
  (∃ (x : Int32) (ty : FieldType), r = some (.int x) ∧ decode mt.2.1 pc = .ok (.ireturn, 1) ∧ mt.2.2.2.1 = some ty ∧ narrow ty (.int x) = .int x) ∨
  (∃ x : Int64, r = some (.long x) ∧ decode mt.2.1 pc = .ok (.lreturn, 1) ∧ mt.2.2.2.1 = some .long) ∨
  (r = none ∧ decode mt.2.1 pc = .ok (.return_, 1) ∧ mt.2.2.2.1 = none)
def jv_Hp (D : va_G) (ad : Nat → Nat) (cA : Nat → ClassId) (A : Nat → Prop) (s : State) (L : Nat) (xs : Nat → Int32) (σ : jSt) (H : Heap) (locs : List Loc) : Prop :=
  va_P D jv_cls (jv_W ad cA σ) H ∧ va_D A (jv_W ad cA σ) ∧ va_S A s.heap H locs ∧ σ.2.2 = (L, xs)
def jv_At (l : Launch) (p : Program) (e : Env) (R : Room) (s : State) (m : MethodId) (args : Array Value) (below : List Frame) (meth : Method) (c : Code) (D : va_G) (ad : Nat → Nat) (cA : Nat → ClassId) (A : Nat → Prop) (mt : jM) (cells slots : Nat) (Q : State → Prop) (d : Nat) (post : jPo) (L : Nat) (xs : Nat → Int32) : Prop :=
  p.tables.exec = Jvm.exec ∧ c.code = mt.2.1 ∧ c.maxLocals = mt.2.2.1 ∧ s.vm.findClass mt.1.cls = some m.cls ∧ (∀ w ∈ jv_Tg, w.before args s = true) ∧ va_K D jv_cls (jv_tys cA) s ∧ jv_Fz A ad L xs s s.heap ∧ (∀ q, s.heap.size ≤ q → A q) ∧ cells ≤ R.cells ∧ slots ≤ R.slots ∧ d + 1 ≤ R.frames ∧ 64 * (d + 1) ≤ R.locals ∧
  (∀ (r : Option Value) (σ' : jSt) (H' : Heap) (locs' : List Loc) (ls' : Array Slot) (pc' : Nat), post r σ' → jv_ir mt r pc' → jv_Hp D ad cA A s L xs σ' H' locs' → W p l e R s m args below meth c H' locs' cells slots Q (F0 m pc' ls' r.toList))
def jv_X (l : Launch) (d : Nat) (post : jPo) (fr : jFr) : Prop :=
  ∀ (p : Program) (e : Env) (R : Room) (s : State) (m : MethodId) (args : Array Value) (below : List Frame) (meth : Method) (c : Code) (D : va_G) (ad : Nat → Nat) (cA : Nat → ClassId) (A : Nat → Prop) (mt : jM) (cells slots : Nat) (Q : State → Prop) (L : Nat) (xs : Nat → Int32) (H : Heap) (locs : List Loc) (lsA : Array Slot),
    jv_mt[fr.1]? = some mt → jv_At l p e R s m args below meth c D ad cA A mt cells slots Q d post L xs → jv_loc ad lsA mt.2.2.1 fr.2.2.1 → jv_Hp D ad cA A s L xs fr.2.2.2.2 H locs → W p l e R s m args below meth c H locs cells slots Q (F0 m fr.2.1 lsA (fr.2.2.2.1.map (jv_c ad)))
def jv_B (D : va_G) (ad : Nat → Nat) (cA : Nat → ClassId) (A : Nat → Prop) (L : Nat) (xs : Nat → Int32) (u : jSt) (t : State) : Prop := va_P D jv_cls (jv_W ad cA u) t.heap ∧ va_K D jv_cls (jv_tys cA) t ∧ va_D A (jv_W ad cA u) ∧ u.2.2 = (L, xs)
def jv_Pc (D : va_G) (ad : Nat → Nat) (cA : Nat → ClassId) (L : Nat) (xs : Nat → Int32) (as : List Value) (σ : jSt) (sz : Nat) : Array Value → State → Prop :=
  va_Pc (as.map (jv_c ad)) (fun U => U.heap.size = sz ∧ va_P D jv_cls (jv_W ad cA σ) U.heap ∧ va_K D jv_cls (jv_tys cA) U ∧ va_D (fun _ => True) (jv_W ad cA σ) ∧ jv_Fz (va_A (jv_W ad cA σ) sz) ad L xs U U.heap)
theorem jv_met {l : Launch} {d a : Nat} {as : List Value} {σ : jSt} {Q : jPo} {mt : jM} {D : va_G} {ad : Nat → Nat} {cA : Nat → ClassId} {L : Nat} {xs : Nat → Int32} {sz : Nat} {Qc : Array Value → State → Outcome → State → Prop}
    (hm : jv_mt[a]? = some mt) (ha : a ≠ 0) (hsl : (jv_slots as).length ≤ mt.2.2.1) (q : jv_X l d Q (jv_en a as σ)) (hL : σ.2.2 = (L, xs))
    (hq : ∀ (s t : State) (r : Option Value) (u : jSt), Q r u → jv_B D ad cA (va_A (jv_W ad cA σ) sz) L xs u t → va_F (va_A (jv_W ad cA σ) sz) s t → Qc (as.map (jv_c ad)).toArray s (.returned r) t) :
    Met l mt.1 (jv_ws mt) (jv_room d) (jv_Pc D ad cA L xs as σ sz) Qc 0 0 (va_A (jv_W ad cA σ) sz) := by
  refine va_MetF (cc := mt.2.1) (maxL := mt.2.2.1) (ret := mt.2.2.2.1) (jv_mt_f hm ha).2.2.2.2.1 rfl ?_
  intro p e s m args below meth c s₁ B hml hv
  obtain ⟨rfl, hsz, hP, hK, hD, hF⟩ := hv
  have hx := B.exec
  have hb := B.bytes
  have hr := B.returns
  have hlocks := B.notSynchronized
  have hts : ∀ w ∈ jv_Tg, w.before (as.map (jv_c ad)).toArray s = true := fun w hw => atoms_spec (ws := jv_ws mt) B.pre w (List.mem_cons_of_mem _ hw)
  have hown : s.vm.findClass mt.1.cls = some m.cls := findClass_of_methodNamed B.named
  subst hsz
  rw [lg_entry_eq]
  have hmax : jv_maxL a = mt.2.2.1 := by simp [jv_maxL, hm]
  refine q p e _ s m _ below meth c D ad cA (va_A (jv_W ad cA σ) s.heap.size) mt 0 0 _ L xs s.heap [] _ hm ⟨hx, hb, hml, hown, hts, hK, hF, fun q h => Or.inr h, Nat.zero_le _, Nat.zero_le _, Nat.le_refl _, Nat.le_refl _, ?_⟩ ?_ ⟨hP, hD.self, va_S.rf, hL⟩
  · intro r σ' H' locs' ls' pc' hpost hir hHp
    obtain ⟨gP, gD, gS, gL⟩ := hHp
    have hQ : ∀ t : State, t.heap = H' → s.WarmedH t.vm → Qc (as.map (jv_c ad)).toArray s (.returned r) t := fun t ht hW =>
      hq s t r σ' hpost ⟨by rw [ht]; exact gP, va_K.moved hW.alike hK, gD, gL⟩ (gS.F ht)
    rcases hir with ⟨x, ty, rfl, h2, h3, h4⟩ | ⟨x, rfl, h2, h3⟩ | ⟨rfl, h2, h3⟩
    · exact W.zret hx hb (by rw [hr, h3]) h4 hQ gS.2.2 h2
    · exact W.lret hx hb (by rw [hr, h3]) hQ gS.2.2 h2
    · exact W.vret hx hb (by rw [hr, h3]) hQ gS.2.2 h2
  · show jv_loc ad _ mt.2.2.1 (jv_pad (jv_maxL a) (jv_slots as))
    rw [hmax]
    exact jv_loc_en hsl
section JC
variable {l : Launch} {p : Program} {e : Env} {R : Room} {s : State} {m : MethodId} {args : Array Value} {below : List Frame} {meth : Method} {c : Code} {D : va_G} {ad : Nat → Nat} {cA : Nat → ClassId} {A : Nat → Prop} {mt : jM} {cells slots : Nat} {Q : State → Prop} {d : Nat} {post : jPo} {L : Nat} {xs : Nat → Int32} {H : Heap} {locs : List Loc} {lsA : Array Slot} {σ : jSt} {pc : Nat}
theorem jv_blind {as : List Value} {sz : Nat} : FrameBlind (jv_Pc D ad cA L xs as σ sz) := by
  intro a U g mk q
  obtain ⟨q0, q1, qP, qK, qD, qF⟩ := q
  exact ⟨q0, q1, qP, va_K.moved (u := U) (U := U.calling g mk a) (Vm.Alike.refl U.vm) qK, qD, qF.calling g mk a⟩
theorem jv_pre {as : List Value} (hK : va_K D jv_cls (jv_tys cA) s) (hFz : jv_Fz A ad L xs s s.heap) (hA : ∀ q, s.heap.size ≤ q → A q) (hp : jv_Hp D ad cA A s L xs σ H locs) : ∀ U : State, U.heap = H → s.WarmedH U.vm → jv_Pc D ad cA L xs as σ H.size (as.map (jv_c ad)).toArray U := by
  intro U hU hW
  obtain ⟨hP, hD, hS, hL⟩ := hp
  refine ⟨rfl, by rw [hU], by rw [hU]; exact hP, va_K.moved hW.alike hK, hD.weaken (fun _ _ _ _ => trivial), ?_⟩
  refine hFz.mv hW hU hS ?_
  intro q hq
  rcases hq with ⟨k, e, hk⟩ | h
  · exact hD.2 k (q, e) hk
  · exact hA q (Nat.le_trans hS.1 h)
theorem jv_fre (hA : ∀ q, s.heap.size ≤ q → A q) (hp : jv_Hp D ad cA A s L xs σ H locs) : ∀ q, va_A (jv_W ad cA σ) H.size q → A q := by
  intro q hq
  rcases hq with ⟨k, e, hk⟩ | h
  · exact hp.2.1.2 k (q, e) hk
  · exact hA q (Nat.le_trans hp.2.2.1.1 h)
theorem jv_runv {a idx cc : Nat} {as' rest st : List Value} {ls : List (Option Value)} {mt' : jM} {Qc : Array Value → State → Outcome → State → Prop} (C0 : jv_At l p e R s m args below meth c D ad cA A mt cells slots Q (d + 1) post L xs) (hl : jv_loc ad lsA mt.2.2.1 ls) (hp : jv_Hp D ad cA A s L xs σ H locs)
    (hm : jv_mt[a]? = some mt') (ha : a ≠ 0) (hk : mt'.2.2.2.2.2.1 = 1) (hlk : Cond.methodLink mt.1.cls idx mt'.1 ∈ jv_Tg) (hst : st = (Value.ref cc :: as').reverse ++ rest) (hrc : jv_rcv mt'.2.2.2.2.2.2.1 (Value.ref cc :: as') = true) (hn : (Value.ref cc :: as').length = mt'.2.2.2.2.1) (hw : (rest.map fun v => v.category).sum ≤ 8)
    (hdg : decode mt.2.1 pc = .ok (.invokevirtual idx, 3)) (hM : Met l mt'.1 (jv_ws mt') (jv_room d) (jv_Pc D ad cA L xs (Value.ref cc :: as') σ H.size) Qc 0 0 (va_A (jv_W ad cA σ) H.size)) :
    va_Run p l e R s m args below meth c H locs cells slots 0 0 (F0 m pc lsA (st.map (jv_c ad))) (rest.map (jv_c ad)) (Qc ((Value.ref cc :: as').map (jv_c ad)).toArray) (va_A (jv_W ad cA σ) H.size) := by
  obtain ⟨hx, hb, hml, hown, hts, hK, hFz, hA, hce, hsl, hfr, hlo, -⟩ := C0
  obtain ⟨f1, f2, f3, f4, f5, f6, f7⟩ := jv_mt_f hm ha
  rcases f2 with ⟨f2, -⟩ | ⟨-, f2, f8, f9⟩
  · rw [hk] at f2; cases f2
  have hG : GoodIn jv_Tg (wsV mt.1.cls idx mt'.1.cls mt'.1 (jv_ws mt')) := jv_good (by
    intro w hw
    unfold wsV jv_ws at hw
    simp only [List.mem_append, List.mem_cons, List.not_mem_nil, or_false] at hw
    rcases hw with (rfl | rfl | rfl | rfl) | rfl | hw
    · exact hlk
    · exact f2
    · exact f8
    · exact f3
    · exact f1
    · exact hw)
  have hrecv : ∃ cellB : Cell, H[ad cc]? = some cellB ∧ cellB.vm.isStatics = false ∧ s.vm.findClass mt'.1.cls = some cellB.cls := by
    unfold jv_rcv at hrc
    dsimp only at hrc
    rcases f9 with ⟨q, q1, q2⟩ | ⟨q1, q2, q3⟩
    · split at hrc
      · next cj fs hs =>
        have : cj = mt'.2.2.2.2.2.2.1 := by simpa using hrc
        subst this
        have := va_recv hK hp.1 q1 (jv_W_at hs)
        rwa [q2] at this
      · cases hrc
      · next hs =>
        simp at hrc
        rw [hrc.2] at q1
        cases q1
    · split at hrc
      · next cj fs hs =>
        have e1 : cj = mt'.2.2.2.2.2.2.1 := by simpa using hrc
        rw [q2] at e1
        subst e1
        exfalso
        have : jv_shp.all (fun q => match q with
          | .inl _ => true
          | .inr (ci, _) => decide (ci ≠ 7)) = true := by decide +kernel
        have := List.all_eq_true.mp this _ (List.mem_of_getElem? hs)
        simp at this
      · cases hrc
      · next hs =>
        simp at hrc
        rw [hrc.1, q3]
        exact va_Orecv hFz.2.2.2.2.2.2.1 hp.2.2.1
  refine va_runV (C := mt'.1.cls) (As := as'.map (jv_c ad)) (b := ad cc) ⟨hx, hb, hml, hown, hts⟩ hM (cwV (mt'.2.2.2.2.1 - mt'.2.2.2.2.2.1) hts hG rfl rfl rfl ⟨rfl, f4.1, f4.2.1, f4.2.2⟩ ⟨?_, ?_⟩) ⟨jv_blind, hrecv, jv_pre hK hFz hA hp⟩ rfl ?_ hl.2.1 ?_ ?_ hdg ⟨hce, hsl⟩
  · show d + 1 + 1 ≤ R.frames
    exact hfr
  · show 8 + (mt'.2.2.1 + 11) + 64 * (d + 1) ≤ R.locals
    omega
  · rw [List.length_map, ← hn, hk]; rfl
  · subst hst
    simp [jv_c]
  · refine lv_room ?_
    rw [jv_c_sum]; exact hw
theorem jv_runs {a idx : Nat} {as rest st : List Value} {ls : List (Option Value)} {mt' : jM} {Qc : Array Value → State → Outcome → State → Prop} (C0 : jv_At l p e R s m args below meth c D ad cA A mt cells slots Q (d + 1) post L xs) (hl : jv_loc ad lsA mt.2.2.1 ls) (hp : jv_Hp D ad cA A s L xs σ H locs)
    (hm : jv_mt[a]? = some mt') (ha : a ≠ 0) (hk : mt'.2.2.2.2.2.1 = 0) (hlk : Cond.methodLink mt.1.cls idx mt'.1 ∈ jv_Tg) (hst : st = as.reverse ++ rest) (hn : as.length = mt'.2.2.2.2.1) (hw : (rest.map fun v => v.category).sum ≤ 8)
    (hdg : decode mt.2.1 pc = .ok (.invokestatic idx, 3)) (hM : Met l mt'.1 (jv_ws mt') (jv_room d) (jv_Pc D ad cA L xs as σ H.size) Qc 0 0 (va_A (jv_W ad cA σ) H.size)) :
    va_Run p l e R s m args below meth c H locs cells slots 0 0 (F0 m pc lsA (st.map (jv_c ad))) (rest.map (jv_c ad)) (Qc (as.map (jv_c ad)).toArray) (va_A (jv_W ad cA σ) H.size) := by
  obtain ⟨hx, hb, hml, hown, hts, hK, hFz, hA, hce, hsl, hfr, hlo, -⟩ := C0
  obtain ⟨f1, f2, f3, f4, f5, f6, f7⟩ := jv_mt_f hm ha
  rcases f2 with ⟨-, f2⟩ | ⟨f2, -⟩
  · have hG : GoodIn jv_Tg (va_wsS mt.1.cls idx mt'.1 (jv_ws mt')) := jv_good (by
      intro w hw
      unfold va_wsS jv_ws at hw
      simp only [List.mem_append, List.mem_cons, List.not_mem_nil, or_false] at hw
      rcases hw with (rfl | rfl | rfl) | rfl | hw
      · exact hlk
      · exact f2
      · exact f3
      · exact f1
      · exact hw)
    refine va_runS (As := as.map (jv_c ad)) ⟨hx, hb, hml, hown, hts⟩ hM (va_cwS (mt'.2.2.2.2.1 - mt'.2.2.2.2.2.1) hts hG rfl rfl rfl ⟨f4.1, f4.2.1, f4.2.2⟩ ⟨?_, ?_⟩) ⟨jv_blind, jv_pre hK hFz hA hp⟩ rfl ?_ hl.2.1 ?_ ?_ hdg ⟨hce, hsl⟩
    · show d + 1 + 1 ≤ R.frames
      exact hfr
    · show 8 + (mt'.2.2.1 + 11) + 64 * (d + 1) ≤ R.locals
      omega
    · rw [List.length_map, ← hn, hk]; rfl
    · subst hst
      simp
    · refine lv_room ?_
      rw [jv_c_sum]; exact hw
  · rw [hk] at f2; cases f2
end JC
