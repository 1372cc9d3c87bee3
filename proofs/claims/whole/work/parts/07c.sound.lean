section JI
/-- a field that is an int (a long) is so in the class's table, and not final -/
theorem jv_kc : jv_shp.all (fun q => match q with
    | .inl _ => true
    | .inr (ci, fs) => match jv_cls[ci]? with
      | some (_, T, _) => fs.zipIdx.all (fun f => (decide (f.1 = 0 → (T f.2).2.2.2 = false ∧ parseFieldDescriptor (T f.2).2.2.1 = some .int)) && (decide (f.1 = 1 → (T f.2).2.2.2 = false ∧ parseFieldDescriptor (T f.2).2.2.1 = some .long)))
      | none => false) = true := by decide +kernel
theorem jv_kinds {c ci k N : Nat} {fs : List Nat} {C : String} {T : u_T} (h : jv_shp[c]? = some (.inr (ci, fs))) (hk : fs[k]? = some 0) (hc : jv_cls[ci]? = some (C, T, N)) : (T k).2.2.2 = false ∧ parseFieldDescriptor (T k).2.2.1 = some .int := by
  have h1 := List.all_eq_true.mp jv_kc _ (List.mem_of_getElem? h)
  dsimp only at h1
  rw [hc] at h1
  have h2 := List.all_eq_true.mp h1 (0, k) (List.mem_of_getElem? (i := k) (by simp [List.getElem?_zipIdx, hk]))
  simp only [Bool.and_eq_true, decide_eq_true_eq] at h2
  exact h2.1 trivial
theorem jv_kindl {c ci k N : Nat} {fs : List Nat} {C : String} {T : u_T} (h : jv_shp[c]? = some (.inr (ci, fs))) (hk : fs[k]? = some 1) (hc : jv_cls[ci]? = some (C, T, N)) : (T k).2.2.2 = false ∧ parseFieldDescriptor (T k).2.2.1 = some .long := by
  have h1 := List.all_eq_true.mp jv_kc _ (List.mem_of_getElem? h)
  dsimp only at h1
  rw [hc] at h1
  have h2 := List.all_eq_true.mp h1 (1, k) (List.mem_of_getElem? (i := k) (by simp [List.getElem?_zipIdx, hk]))
  simp only [Bool.and_eq_true, decide_eq_true_eq] at h2
  exact h2.2 trivial
variable {l : Launch} {p : Program} {e : Env} {R : Room} {s : State} {m : MethodId} {args : Array Value} {below : List Frame} {meth : Method} {c : Code} {D : va_G} {ad : Nat → Nat} {cA : Nat → ClassId} {A : Nat → Prop} {mt : jM} {cells slots : Nat} {Q : State → Prop} {d : Nat} {post : jPo} {L : Nat} {xs : Nat → Int32} {H : Heap} {locs : List Loc} {lsA : Array Slot} {σ : jSt} {pc mi n a pl : Nat} {ls : List (Option Value)} {st : List Value}
theorem jv_inv2 {vir : Bool} (C0 : jv_At l p e R s m args below meth c D ad cA A mt cells slots Q d post L xs) (hp : jv_Hp D ad cA A s L xs σ H locs)
    (hrun : ∀ (d' : Nat) (mt' : jM) (Qc : Array Value → State → Outcome → State → Prop), d = d' + 1 → jv_mt[a]? = some mt' → a ≠ 0 → (mt'.2.2.2.2.2.1 == 1) = vir → (st.take mt'.2.2.2.2.1).length = mt'.2.2.2.2.1 → ((st.drop mt'.2.2.2.2.1).map fun v => v.category).sum ≤ 8 → (vir = true → jv_rcv mt'.2.2.2.2.2.2.1 (st.take mt'.2.2.2.2.1).reverse = true) →
      Met l mt'.1 (jv_ws mt') (jv_room d') (jv_Pc D ad cA L xs (st.take mt'.2.2.2.2.1).reverse σ H.size) Qc 0 0 (va_A (jv_W ad cA σ) H.size) →
      va_Run p l e R s m args below meth c H locs cells slots 0 0 (F0 m pc lsA (st.map (jv_c ad))) ((st.drop mt'.2.2.2.2.1).map (jv_c ad)) (Qc ((st.take mt'.2.2.2.2.1).reverse.map (jv_c ad)).toArray) (va_A (jv_W ad cA σ) H.size))
    (nx : List Value → jSt → Prop)
    (go : ∀ (st' : List Value) (σ' : jSt), nx st' σ' → ∀ (H' : Heap) (locs' : List Loc), jv_Hp D ad cA A s L xs σ' H' locs' → W p l e R s m args below meth c H' locs' cells slots Q (F0 m (pc + 3) lsA (st'.map (jv_c ad))))
    (q : jv_inv (jv_cl (jv_X l) d) vir a st σ nx) : W p l e R s m args below meth c H locs cells slots Q (F0 m pc lsA (st.map (jv_c ad))) := by
  have hfr := jv_fre (L := L) (xs := xs) C0.2.2.2.2.2.2.2.1 hp
  obtain ⟨hx, hb, hml, hown, hts, hK, hFz, hA, hce, hsl, hfr0, hlo, hret⟩ := id C0
  obtain ⟨hP, hD, hS, hL⟩ := id hp
  unfold jv_inv at q
  split at q
  · next y0 c0 ml ret n kind ci pls hm =>
    obtain ⟨e4, q⟩ := jv_pop_to _ _ _ q
    rw [List.append_nil] at q
    split at q
    · next ec =>
      simp only [Bool.and_eq_true, beq_iff_eq, decide_eq_true_eq, Bool.or_eq_true, Bool.not_eq_true'] at ec
      obtain ⟨⟨⟨⟨e1, e2⟩, e3⟩, e5⟩, e6⟩ := ec
      have e6' : vir = true → jv_rcv ci (st.take n).reverse = true := fun hv => by
        rcases e6 with h | h
        · rw [h] at hv; cases hv
        · exact h
      match d, hrun, q with
      | 0, _, q => split at q <;> exact q.elim
      | d' + 1, hrun, q =>
        have hrun := fun Qc => hrun d' (y0, c0, ml, ret, n, kind, ci, pls) Qc rfl hm e2 e1 e4 e5 e6'
        have back : ∀ (u : jSt) (t : State) (H1 : Heap) (locs1 : List Loc), t.heap = H1 → jv_B D ad cA (va_A (jv_W ad cA σ) H.size) L xs u t → va_S A s.heap H1 locs1 → jv_Hp D ad cA A s L xs u H1 locs1 := by
          intro u t H1 locs1 ht hB hS1
          obtain ⟨b1, b2, b3, b4⟩ := hB
          rw [ht] at b1
          exact ⟨b1, b3.weaken (fun _ _ _ h => hfr _ h), hS1, b4⟩
        split at q
        · have q : jv_X l d' (fun r σ' => r = none ∧ nx (st.drop n) σ') (jv_en a (st.take n).reverse σ) := q
          have hM := jv_met (D := D) (ad := ad) (cA := cA) (sz := H.size) (Qc := va_Qv (fun u => nx (st.drop n) u) (jv_B D ad cA (va_A (jv_W ad cA σ) H.size) L xs) (va_A (jv_W ad cA σ) H.size)) hm e2 e3 q hL (fun s t r u hQ hB hF => ⟨⟨u, by rw [hQ.1], hQ.2, hB⟩, hF⟩)
          refine va_callv (hrun _ hM) hS (fun q _ h => hfr q h) hfr (fun u t H1 locs1 ht hvm hw hB hz1 hk1 hS1 => ?_)
          exact go _ _ hw _ _ (back u t H1 locs1 ht hB hS1)
        · have q : jv_X l d' (fun r σ' => ∃ x, r = some (.long x) ∧ nx (.long x :: st.drop n) σ') (jv_en a (st.take n).reverse σ) := q
          have hM := jv_met (D := D) (ad := ad) (cA := cA) (sz := H.size) (Qc := va_Ql (fun x u => nx (.long x :: st.drop n) u) (jv_B D ad cA (va_A (jv_W ad cA σ) H.size) L xs) (va_A (jv_W ad cA σ) H.size)) hm e2 e3 q hL (fun s t r u hQ hB hF => by
            obtain ⟨x, h1, h2⟩ := hQ
            exact ⟨⟨x, u, by rw [h1], h2, hB⟩, hF⟩)
          refine va_calll (hrun _ hM) hS (fun q _ h => hfr q h) hfr (fun x u t H1 locs1 ht hvm hw hB hz1 hk1 hS1 => ?_)
          exact go _ _ hw _ _ (back u t H1 locs1 ht hB hS1)
        · have q : jv_X l d' (fun r σ' => ∃ x, r = some (.int x) ∧ nx (.int x :: st.drop n) σ') (jv_en a (st.take n).reverse σ) := q
          have hM := jv_met (D := D) (ad := ad) (cA := cA) (sz := H.size) (Qc := va_Qi (fun x u => nx (.int x :: st.drop n) u) (jv_B D ad cA (va_A (jv_W ad cA σ) H.size) L xs) (va_A (jv_W ad cA σ) H.size)) hm e2 e3 q hL (fun s t r u hQ hB hF => by
            obtain ⟨x, h1, h2⟩ := hQ
            exact ⟨⟨x, u, by rw [h1], h2, hB⟩, hF⟩)
          refine va_calli (hrun _ hM) hS (fun q _ h => hfr q h) hfr (fun x u t H1 locs1 ht hvm hw hB hz1 hk1 hS1 => ?_)
          exact go _ _ hw _ _ (back u t H1 locs1 ht hB hS1)
    · exact q.elim
  · exact q.elim
theorem jv_mla (hck : jv_ml mt.1.cls n a pl = true) {mt' : jM} (hm : jv_mt[a]? = some mt') : Cond.methodLink mt.1.cls n mt'.1 ∈ jv_Tg := by
  unfold jv_ml at hck
  have hl : a < 152 := by rw [← jv_lens.1]; exact (List.getElem?_eq_some_iff.mp hm).1
  rw [if_neg (by omega), if_neg (by omega), if_neg (by omega), hm] at hck
  exact jv_inTg (decide_eq_true_eq.mp hck) rfl
theorem jv_invv (C0 : jv_At l p e R s m args below meth c D ad cA A mt cells slots Q d post L xs) (hl : jv_loc ad lsA mt.2.2.1 ls) (hp : jv_Hp D ad cA A s L xs σ H locs) (hdg : decode mt.2.1 pc = .ok (.invokevirtual n, 3)) (hck : jv_ml mt.1.cls n a pl = true)
    (go : ∀ (np : Nat) (ls' : List (Option Value)) (st' : List Value) (σ' : jSt), jv_X l d post (mi, np, ls', st', σ') → ∀ (H' : Heap) (locs' : List Loc) (lsA' : Array Slot), jv_loc ad lsA' mt.2.2.1 ls' → jv_Hp D ad cA A s L xs σ' H' locs' → W p l e R s m args below meth c H' locs' cells slots Q (F0 m np lsA' (st'.map (jv_c ad))))
    (q : jv_inv (jv_cl (jv_X l) d) true a st σ (fun st σ => jv_X l d post (mi, pc + 3, ls, st, σ))) : W p l e R s m args below meth c H locs cells slots Q (F0 m pc lsA (st.map (jv_c ad))) := by
  refine jv_inv2 C0 hp ?_ _ (fun st' σ' h H' locs' hp' => go _ _ _ _ h _ _ _ hl hp') q
  intro d' mt' Qc hd hm ha hk hlen hw hrc hM
  subst hd
  have hrc := hrc rfl
  have hk : mt'.2.2.2.2.2.1 = 1 := by simpa using hk
  obtain ⟨cc, as', has⟩ : ∃ cc as', (st.take mt'.2.2.2.2.1).reverse = Value.ref cc :: as' := by
    unfold jv_rcv at hrc
    split at hrc
    · next cc as' h => exact ⟨cc, as', h⟩
    · cases hrc
  rw [has] at hM hrc ⊢
  refine jv_runv C0 hl hp hm ha hk (jv_mla hck hm) ?_ hrc ?_ hw hdg hM
  · rw [← has, List.reverse_reverse, List.take_append_drop]
  · rw [← has, List.length_reverse, hlen]
theorem jv_invs (C0 : jv_At l p e R s m args below meth c D ad cA A mt cells slots Q d post L xs) (hl : jv_loc ad lsA mt.2.2.1 ls) (hp : jv_Hp D ad cA A s L xs σ H locs) (hdg : decode mt.2.1 pc = .ok (.invokestatic n, 3))
    (hck : (match jv_mt[a]? with
      | some m => decide (lw_tbl[pl]? = some (.methodLink mt.1.cls n m.1))
      | none => false) = true)
    (go : ∀ (np : Nat) (ls' : List (Option Value)) (st' : List Value) (σ' : jSt), jv_X l d post (mi, np, ls', st', σ') → ∀ (H' : Heap) (locs' : List Loc) (lsA' : Array Slot), jv_loc ad lsA' mt.2.2.1 ls' → jv_Hp D ad cA A s L xs σ' H' locs' → W p l e R s m args below meth c H' locs' cells slots Q (F0 m np lsA' (st'.map (jv_c ad))))
    (q : jv_inv (jv_cl (jv_X l) d) false a st σ (fun st σ => jv_X l d post (mi, pc + 3, ls, st, σ))) : W p l e R s m args below meth c H locs cells slots Q (F0 m pc lsA (st.map (jv_c ad))) := by
  refine jv_inv2 C0 hp ?_ _ (fun st' σ' h H' locs' hp' => go _ _ _ _ h _ _ _ hl hp') q
  intro d' mt' Qc hd hm ha hk hlen hw hrc hM
  subst hd
  rw [hm] at hck
  have hk : mt'.2.2.2.2.2.1 = 0 := by
    rcases (jv_mt_f hm ha).2.1 with h | h
    · exact h.1
    · rw [h.1] at hk; cases hk
  refine jv_runs C0 hl hp hm ha hk (jv_inTg (decide_eq_true_eq.mp hck) rfl) ?_ ?_ hw hdg hM
  · rw [List.reverse_reverse, List.take_append_drop]
  · rw [List.length_reverse, hlen]
end JI
/-! ONE STEP of the little machine is steps of the machine -/
theorem jv_sw_lk {x : Int32} {lf : Int → Prop} : ∀ (ps : List (Int × Int)) (d : Int), (∀ q ∈ ps, -1000000 ≤ q.1 ∧ q.1 ≤ 1000000) → jv_sw x lf ps d → ∃ off, Op.lookupswitch.offset ps d x.toInt = off ∧ lf off ∧ (off = d ∨ ∃ k, (k, off) ∈ ps)
  | [], d, _, h => ⟨d, rfl, h, Or.inl rfl⟩
  | (k, o) :: r, d, hk, h => by
    have hk0 := hk (k, o) List.mem_cons_self
    have ek : (iI k).toInt = k := by
      show (Int32.ofInt k).toInt = k
      exact Int32.toInt_ofInt_of_le (by simp at hk0 ⊢; omega) (by simp at hk0 ⊢; omega)
    by_cases e : x = iI k
    · refine ⟨o, ?_, h.1 e, Or.inr ⟨k, List.mem_cons_self⟩⟩
      subst e
      rw [Op.lookupswitch.offset_cons, if_pos ek.symm]
    · obtain ⟨off, h1, h2, h3⟩ := jv_sw_lk r d (fun q hq => hk q (List.mem_cons_of_mem _ hq)) (h.2 e)
      refine ⟨off, ?_, h2, h3.elim Or.inl (fun ⟨k, h⟩ => Or.inr ⟨k, List.mem_cons_of_mem _ h⟩)⟩
      rw [lv_osw e ek]; exact h1
theorem jv_sw_tb {x : Int32} {lf : Int → Prop} : ∀ (offs : List Int) (lo d : Int), jv_sw x lf (jv_keys lo offs) d → (∃ (j : Nat) (off : Int), offs[j]? = some off ∧ x = iI (lo + j) ∧ lf off) ∨ ((∀ j : Nat, j < offs.length → x ≠ iI (lo + j)) ∧ lf d)
  | [], lo, d, h => Or.inr ⟨fun j hj => absurd hj (Nat.not_lt_zero _), h⟩
  | o :: r, lo, d, h => by
    by_cases e : x = iI lo
    · exact Or.inl ⟨0, o, rfl, by simpa using e, h.1 e⟩
    · rcases jv_sw_tb r (lo + 1) d (h.2 e) with ⟨j, off, h1, h2, h3⟩ | ⟨h1, h2⟩
      · refine Or.inl ⟨j + 1, off, by simpa using h1, ?_, h3⟩
        rw [h2]; congr 1; push_cast; omega
      · refine Or.inr ⟨fun j hj => ?_, h2⟩
        match j, hj with
        | 0, _ => simpa using e
        | j + 1, hj =>
          have := h1 j (by simpa using hj)
          intro e2
          apply this
          rw [e2]; congr 1; push_cast; omega
theorem jv_wNat : Cond.native arraycopyName ∈ jv_Tg := jv_wc (p := 576) (by decide +kernel)
theorem jv_wAcs : Cond.static arraycopyName ∈ jv_Tg := jv_wc (p := 575) (by decide +kernel)
theorem jv_wSys : Cond.initialized "java/lang/System" ∈ jv_Tg := jv_wc (p := 63) (by decide +kernel)
theorem jv_wMat : Cond.initialized "java/lang/Math" ∈ jv_Tg := jv_wc (p := 55) (by decide +kernel)
theorem jv_wMxs : Cond.static Lib.Math.max.name ∈ jv_Tg := jv_wc (p := 322) (by decide +kernel)
theorem jv_wMxc : Cond.code Lib.Math.max.name Lib.Math.max.code 2 (some .int) ∈ jv_Tg := jv_wc (p := 323) (by decide +kernel)
theorem jv_wMns : Cond.static Lib.Math.min.name ∈ jv_Tg := jv_wc (p := 325) (by decide +kernel)
theorem jv_wMnc : Cond.code Lib.Math.min.name Lib.Math.min.code 2 (some .int) ∈ jv_Tg := jv_wc (p := 326) (by decide +kernel)
theorem jv_nwd : nativeFrameWords "java/lang/System" "arraycopy" 5 = 7 := by decide +kernel
set_option maxHeartbeats 4000000 in
set_option maxRecDepth 20000 in
theorem jv_step (l : Launch) : ∀ (d : Nat) (post : jPo) (fr : jFr), jv_tr (jv_cl (jv_X l) d) (jv_X l d post) post fr → jv_X l d post fr := by
  intro d post ⟨mi, pc, ls, st, σ⟩ q
  intro p e R s m args below meth c D ad cA A mt cells slots Q L xs H locs lsA hm C0 hl hp
  unfold jv_tr at q
  dsimp only at q hm hl hp ⊢
  split at q
  next e he =>
    obtain ⟨m', hm', hck⟩ := jv_prog_chk he
    cases hm.symm.trans hm'
    obtain ⟨i, np, a, b, pl⟩ := e
    unfold jv_chk at hck
    simp only [Bool.and_eq_true, decide_eq_true_eq] at hck
    obtain ⟨⟨hdg, hnp⟩, hck⟩ := hck
    have go : ∀ (np : Nat) (ls' : List (Option Value)) (st' : List Value) (σ' : jSt), jv_X l d post (mi, np, ls', st', σ') → ∀ (H' : Heap) (locs' : List Loc) (lsA' : Array Slot), jv_loc ad lsA' mt.2.2.1 ls' → jv_Hp D ad cA A s L xs σ' H' locs' → W p l _ R s m args below meth c H' locs' cells slots Q (F0 m np lsA' (st'.map (jv_c ad))) :=
      fun np ls' st' σ' h H' locs' lsA' hl hp => h p _ R s m args below meth c D ad cA A mt cells slots Q L xs H' locs' lsA' hm C0 hl hp
    obtain ⟨hx, hb, hml, hown, hts, hK, hFz, hA, hce, hsl, hfr, hlo, hret⟩ := id C0
    obtain ⟨hP, hD, hS, hL⟩ := id hp
    have hl2 := hl.2.2.2
    cases i
    case iconst n =>
      have hdg : decode mt.2.1 pc = .ok (.iconst n, 1) := hdg
      have hnp : np = pc + 1 := hnp
      subst hnp
      exact lv_iconst hx hb hdg rfl (go _ _ _ _ q _ _ _ hl hp)
    case bipush n =>
      have hdg : decode mt.2.1 pc = .ok (.bipush n, 2) := hdg
      have hnp : np = pc + 2 := hnp
      subst hnp
      exact lv_bipush hx hb hdg (decide_eq_true_eq.mp hck) (go _ _ _ _ q _ _ _ hl hp)
    case sipush n =>
      have hdg : decode mt.2.1 pc = .ok (.sipush n, 3) := hdg
      have hnp : np = pc + 3 := hnp
      subst hnp
      exact lv_sipush hx hb hdg (decide_eq_true_eq.mp hck) (go _ _ _ _ q _ _ _ hl hp)
    case lconst n =>
      have hdg : decode mt.2.1 pc = .ok (.lconst n, 1) := hdg
      have hnp : np = pc + 1 := hnp
      subst hnp
      exact lv_lconst hx hb hdg rfl (go _ _ _ _ q _ _ _ hl hp)
    case ldc n =>
      have hdg : decode mt.2.1 pc = .ok (.ldc n, 2) := hdg
      have hnp : np = pc + 2 := hnp
      subst hnp
      simp only [jv_ex] at q
      dsimp only at hck
      split at q
      · next eb =>
        rw [if_pos eb] at hck
        obtain ⟨e1, e2⟩ := decide_eq_true_eq.mp hck
        subst e2
        rw [e1] at hown
        exact va_ldcS hx hb hown hFz.2.2.2.2.2.2.2.2.2.2 hdg (go _ _ _ _ q _ _ _ hl hp)
      · next eb =>
        rw [if_neg eb] at hck
        exact lv_ldc hx hb hown (hts _ (jv_inTg (decide_eq_true_eq.mp hck) rfl)) hdg (go _ _ _ _ q _ _ _ hl hp)
    case ldc_w n =>
      have hdg : decode mt.2.1 pc = .ok (.ldc_w n, 3) := hdg
      have hnp : np = pc + 3 := hnp
      subst hnp
      exact lv_ldcw hx hb hown (hts _ (jv_inTg (decide_eq_true_eq.mp hck) rfl)) hdg (go _ _ _ _ q _ _ _ hl hp)
    case ldc2_w n =>
      have hdg : decode mt.2.1 pc = .ok (.ldc2_w n, 3) := hdg
      have hnp : np = pc + 3 := hnp
      subst hnp
      exact lv_ldc2 hx hb hown (hts _ (jv_inTg (decide_eq_true_eq.mp hck) rfl)) hdg (go _ _ _ _ q _ _ _ hl hp)
    case iload_n i =>
      have hdg : decode mt.2.1 pc = .ok (.iload_n i, 1) := hdg
      have hnp : np = pc + 1 := hnp
      subst hnp
      simp only [jv_ex, jk_li] at q
      split at q
      · next x hx0 => exact lv_iload_n hx hb hdg rfl (hl2 _ _ hx0) (go _ _ _ _ q _ _ _ hl hp)
      · exact q.elim
    case iload i =>
      have hdg : decode mt.2.1 pc = .ok (.iload i, 2) := hdg
      have hnp : np = pc + 2 := hnp
      subst hnp
      simp only [jv_ex, jk_li] at q
      split at q
      · next x hx0 => exact lv_iload hx hb hdg (hl2 _ _ hx0) (go _ _ _ _ q _ _ _ hl hp)
      · exact q.elim
    case lload_n i =>
      have hdg : decode mt.2.1 pc = .ok (.lload_n i, 1) := hdg
      have hnp : np = pc + 1 := hnp
      subst hnp
      simp only [jv_ex, jk_ll'] at q
      split at q
      · next x hx0 => exact lv_lload_n hx hb hdg rfl (hl2 _ _ hx0) (go _ _ _ _ q _ _ _ hl hp)
      · exact q.elim
    case lload i =>
      have hdg : decode mt.2.1 pc = .ok (.lload i, 2) := hdg
      have hnp : np = pc + 2 := hnp
      subst hnp
      simp only [jv_ex, jk_ll'] at q
      split at q
      · next x hx0 => exact lv_lload hx hb hdg (hl2 _ _ hx0) (go _ _ _ _ q _ _ _ hl hp)
      · exact q.elim
    case aload_n i =>
      have hdg : decode mt.2.1 pc = .ok (.aload_n i, 1) := hdg
      have hnp : np = pc + 1 := hnp
      subst hnp
      simp only [jv_ex, jk_lr] at q
      split at q
      · next x hx0 => exact lv_aload_n hx hb hdg rfl (hl2 _ _ hx0) (go _ _ _ _ q _ _ _ hl hp)
      · exact q.elim
    case istore_n i =>
      have hdg : decode mt.2.1 pc = .ok (.istore_n i, 1) := hdg
      have hnp : np = pc + 1 := hnp
      subst hnp
      simp only [jv_ex, jk_i] at q
      split at q
      · next x r =>
        obtain ⟨hi, q⟩ := jk_st_to q
        rw [hl.1] at hi
        exact lv_istore_n hx hb hdg rfl (jv_loc_has hl) hi rfl (fun ls' h' => go _ _ _ _ q _ _ _ (jv_loc_st hl hi h') hp)
      · exact q.elim
    case istore i =>
      have hdg : decode mt.2.1 pc = .ok (.istore i, 2) := hdg
      have hnp : np = pc + 2 := hnp
      subst hnp
      simp only [jv_ex, jk_i] at q
      split at q
      · next x r =>
        obtain ⟨hi, q⟩ := jk_st_to q
        rw [hl.1] at hi
        exact lv_istore hx hb hdg (jv_loc_has hl) hi rfl (fun ls' h' => go _ _ _ _ q _ _ _ (jv_loc_st hl hi h') hp)
      · exact q.elim
    case lstore_n i =>
      have hdg : decode mt.2.1 pc = .ok (.lstore_n i, 1) := hdg
      have hnp : np = pc + 1 := hnp
      subst hnp
      simp only [jv_ex, jk_l] at q
      split at q
      · next x r =>
        obtain ⟨hi, q⟩ := jk_st2_to q
        rw [hl.1] at hi
        exact lv_lstore_n hx hb hdg rfl (jv_loc_has hl) hi rfl (fun ls' h' => go _ _ _ _ q _ _ _ (jv_loc_st2 hl hi h') hp)
      · exact q.elim
    case iinc i n =>
      have hdg : decode mt.2.1 pc = .ok (.iinc i n, 3) := hdg
      have hnp : np = pc + 3 := hnp
      subst hnp
      simp only [jv_ex, jk_li] at q
      split at q
      · next x hx0 =>
        obtain ⟨hi, q⟩ := jk_st_to q
        rw [hl.1] at hi
        obtain ⟨k, hk⟩ := List.getElem?_of_mem (jv_al_in (ad := ad) hx0)
        exact lv_iinc hx hb hdg (jv_loc_has hl) hk rfl hi rfl (fun ls' h' => go _ _ _ _ q _ _ _ (jv_loc_st hl hi h') hp)
      · exact q.elim
    case iadd =>
      have hdg : decode mt.2.1 pc = .ok (.iadd, 1) := hdg
      have hnp : np = pc + 1 := hnp
      subst hnp
      simp only [jv_ex, jk_ii] at q
      split at q
      · exact lv_iadd hx hb hdg (go _ _ _ _ q _ _ _ hl hp)
      · exact q.elim
    case isub =>
      have hdg : decode mt.2.1 pc = .ok (.isub, 1) := hdg
      have hnp : np = pc + 1 := hnp
      subst hnp
      simp only [jv_ex, jk_ii] at q
      split at q
      · exact lv_isub hx hb hdg (go _ _ _ _ q _ _ _ hl hp)
      · exact q.elim
    case imul =>
      have hdg : decode mt.2.1 pc = .ok (.imul, 1) := hdg
      have hnp : np = pc + 1 := hnp
      subst hnp
      simp only [jv_ex, jk_ii] at q
      split at q
      · exact lv_imul hx hb hdg (go _ _ _ _ q _ _ _ hl hp)
      · exact q.elim
    case iand =>
      have hdg : decode mt.2.1 pc = .ok (.iand, 1) := hdg
      have hnp : np = pc + 1 := hnp
      subst hnp
      simp only [jv_ex, jk_ii] at q
      split at q
      · exact lv_iand hx hb hdg (go _ _ _ _ q _ _ _ hl hp)
      · exact q.elim
    case ior =>
      have hdg : decode mt.2.1 pc = .ok (.ior, 1) := hdg
      have hnp : np = pc + 1 := hnp
      subst hnp
      simp only [jv_ex, jk_ii] at q
      split at q
      · exact lv_ior hx hb hdg (go _ _ _ _ q _ _ _ hl hp)
      · exact q.elim
    case ixor =>
      have hdg : decode mt.2.1 pc = .ok (.ixor, 1) := hdg
      have hnp : np = pc + 1 := hnp
      subst hnp
      simp only [jv_ex, jk_ii] at q
      split at q
      · exact lv_ixor hx hb hdg (go _ _ _ _ q _ _ _ hl hp)
      · exact q.elim
    case ishl =>
      have hdg : decode mt.2.1 pc = .ok (.ishl, 1) := hdg
      have hnp : np = pc + 1 := hnp
      subst hnp
      simp only [jv_ex, jk_ii] at q
      split at q
      · exact lv_ishl hx hb hdg (go _ _ _ _ q _ _ _ hl hp)
      · exact q.elim
    case ishr =>
      have hdg : decode mt.2.1 pc = .ok (.ishr, 1) := hdg
      have hnp : np = pc + 1 := hnp
      subst hnp
      simp only [jv_ex, jk_ii] at q
      split at q
      · exact lv_ishr hx hb hdg (go _ _ _ _ q _ _ _ hl hp)
      · exact q.elim
    case iushr =>
      have hdg : decode mt.2.1 pc = .ok (.iushr, 1) := hdg
      have hnp : np = pc + 1 := hnp
      subst hnp
      simp only [jv_ex, jk_ii] at q
      split at q
      · exact lv_iushr hx hb hdg rfl (go _ _ _ _ q _ _ _ hl hp)
      · exact q.elim
    case idiv =>
      have hdg : decode mt.2.1 pc = .ok (.idiv, 1) := hdg
      have hnp : np = pc + 1 := hnp
      subst hnp
      simp only [jv_ex, jk_ii] at q
      split at q
      · exact lv_idiv hx hb hdg q.1 (go _ _ _ _ q.2 _ _ _ hl hp)
      · exact q.elim
    case irem =>
      have hdg : decode mt.2.1 pc = .ok (.irem, 1) := hdg
      have hnp : np = pc + 1 := hnp
      subst hnp
      simp only [jv_ex, jk_ii] at q
      split at q
      · exact lv_irem hx hb hdg q.1 (go _ _ _ _ q.2 _ _ _ hl hp)
      · exact q.elim
    case ladd =>
      have hdg : decode mt.2.1 pc = .ok (.ladd, 1) := hdg
      have hnp : np = pc + 1 := hnp
      subst hnp
      simp only [jv_ex, jk_ll] at q
      split at q
      · exact lv_ladd hx hb hdg (go _ _ _ _ q _ _ _ hl hp)
      · exact q.elim
    case lmul =>
      have hdg : decode mt.2.1 pc = .ok (.lmul, 1) := hdg
      have hnp : np = pc + 1 := hnp
      subst hnp
      simp only [jv_ex, jk_ll] at q
      split at q
      · exact lv_lmul hx hb hdg (go _ _ _ _ q _ _ _ hl hp)
      · exact q.elim
    case land =>
      have hdg : decode mt.2.1 pc = .ok (.land, 1) := hdg
      have hnp : np = pc + 1 := hnp
      subst hnp
      simp only [jv_ex, jk_ll] at q
      split at q
      · exact lv_land hx hb hdg (go _ _ _ _ q _ _ _ hl hp)
      · exact q.elim
    case lcmp =>
      have hdg : decode mt.2.1 pc = .ok (.lcmp, 1) := hdg
      have hnp : np = pc + 1 := hnp
      subst hnp
      simp only [jv_ex, jk_ll] at q
      split at q
      · exact W.lcmp hx hb hdg (go _ _ _ _ q _ _ _ hl hp)
      · exact q.elim
    case i2l =>
      have hdg : decode mt.2.1 pc = .ok (.i2l, 1) := hdg
      have hnp : np = pc + 1 := hnp
      subst hnp
      simp only [jv_ex, jk_i] at q
      split at q
      · exact lv_i2l hx hb hdg rfl (go _ _ _ _ q _ _ _ hl hp)
      · exact q.elim
    case l2i =>
      have hdg : decode mt.2.1 pc = .ok (.l2i, 1) := hdg
      have hnp : np = pc + 1 := hnp
      subst hnp
      simp only [jv_ex, jk_l] at q
      split at q
      · exact lv_l2i hx hb hdg rfl (go _ _ _ _ q _ _ _ hl hp)
      · exact q.elim
    case i2c =>
      have hdg : decode mt.2.1 pc = .ok (.i2c, 1) := hdg
      have hnp : np = pc + 1 := hnp
      subst hnp
      simp only [jv_ex, jk_i] at q
      split at q
      · exact lv_i2c hx hb hdg rfl (go _ _ _ _ q _ _ _ hl hp)
      · exact q.elim
    case i2b =>
      have hdg : decode mt.2.1 pc = .ok (.i2b, 1) := hdg
      have hnp : np = pc + 1 := hnp
      subst hnp
      simp only [jv_ex, jk_i] at q
      split at q
      · exact lv_i2b hx hb hdg rfl (go _ _ _ _ q _ _ _ hl hp)
      · exact q.elim
    case dup =>
      have hdg : decode mt.2.1 pc = .ok (.dup, 1) := hdg
      have hnp : np = pc + 1 := hnp
      subst hnp
      simp only [jv_ex] at q
      split at q
      · exact lv_dup hx hb hdg rfl (go _ _ _ _ q _ _ _ hl hp)
      · exact lv_dup hx hb hdg rfl (go _ _ _ _ q _ _ _ hl hp)
      · exact q.elim
    case pop =>
      have hdg : decode mt.2.1 pc = .ok (.pop, 1) := hdg
      have hnp : np = pc + 1 := hnp
      subst hnp
      simp only [jv_ex, jk_i] at q
      split at q
      · exact lv_pop hx hb hdg rfl (go _ _ _ _ q _ _ _ hl hp)
      · exact q.elim
    case goto o =>
      have hdg : decode mt.2.1 pc = .ok (.goto o, 3) := hdg
      have hnp : np = pc + 3 := hnp
      subst hnp
      exact lv_goto hx hb hdg (decide_eq_true_eq.mp hck) (go _ _ _ _ q _ _ _ hl hp)
    case ifCond cd o =>
      have hdg : decode mt.2.1 pc = .ok (.ifCond cd o, 3) := hdg
      have hnp : np = pc + 3 := hnp
      subst hnp
      have hck2 : (pc : Int) + o = (a : Int) := decide_eq_true_eq.mp hck
      cases cd
      case eq =>
        simp only [jv_ex, jk_i] at q
        split at q
        · exact lv_if_eq hx hb hdg hck2 (fun h => go _ _ _ _ (q.1 h) _ _ _ hl hp) (fun h => go _ _ _ _ (q.2 h) _ _ _ hl hp)
        · exact q.elim
      case ne =>
        simp only [jv_ex, jk_i] at q
        split at q
        · exact lv_if_ne hx hb hdg hck2 (fun h => go _ _ _ _ (q.1 h) _ _ _ hl hp) (fun h => go _ _ _ _ (q.2 h) _ _ _ hl hp)
        · exact q.elim
      case lt =>
        simp only [jv_ex, jk_i] at q
        split at q
        · exact lv_if_lt hx hb hdg hck2 (fun h => go _ _ _ _ (q.1 h) _ _ _ hl hp) (fun h => go _ _ _ _ (q.2 h) _ _ _ hl hp)
        · exact q.elim
      case ge =>
        simp only [jv_ex, jk_i] at q
        split at q
        · exact lv_if_ge hx hb hdg hck2 (fun h => go _ _ _ _ (q.1 h) _ _ _ hl hp) (fun h => go _ _ _ _ (q.2 h) _ _ _ hl hp)
        · exact q.elim
      case gt =>
        simp only [jv_ex, jk_i] at q
        split at q
        · exact lv_if_gt hx hb hdg hck2 (fun h => go _ _ _ _ (q.1 h) _ _ _ hl hp) (fun h => go _ _ _ _ (q.2 h) _ _ _ hl hp)
        · exact q.elim
      case le =>
        simp only [jv_ex, jk_i] at q
        split at q
        · exact lv_if_le hx hb hdg hck2 (fun h => go _ _ _ _ (q.1 h) _ _ _ hl hp) (fun h => go _ _ _ _ (q.2 h) _ _ _ hl hp)
        · exact q.elim
    case if_icmp cd o =>
      have hdg : decode mt.2.1 pc = .ok (.if_icmp cd o, 3) := hdg
      have hnp : np = pc + 3 := hnp
      subst hnp
      have hck2 : (pc : Int) + o = (a : Int) := decide_eq_true_eq.mp hck
      cases cd
      case eq =>
        simp only [jv_ex, jk_ii] at q
        split at q
        · exact lv_icmp_eq hx hb hdg hck2 (fun h => go _ _ _ _ (q.1 h) _ _ _ hl hp) (fun h => go _ _ _ _ (q.2 h) _ _ _ hl hp)
        · exact q.elim
      case ne =>
        simp only [jv_ex, jk_ii] at q
        split at q
        · exact lv_icmp_ne hx hb hdg hck2 (fun h => go _ _ _ _ (q.1 h) _ _ _ hl hp) (fun h => go _ _ _ _ (q.2 h) _ _ _ hl hp)
        · exact q.elim
      case lt =>
        simp only [jv_ex, jk_ii] at q
        split at q
        · exact lv_icmp_lt hx hb hdg hck2 (fun h => go _ _ _ _ (q.1 h) _ _ _ hl hp) (fun h => go _ _ _ _ (q.2 h) _ _ _ hl hp)
        · exact q.elim
      case ge =>
        simp only [jv_ex, jk_ii] at q
        split at q
        · exact lv_icmp_ge hx hb hdg hck2 (fun h => go _ _ _ _ (q.1 h) _ _ _ hl hp) (fun h => go _ _ _ _ (q.2 h) _ _ _ hl hp)
        · exact q.elim
      case gt =>
        simp only [jv_ex, jk_ii] at q
        split at q
        · exact lv_icmp_gt hx hb hdg hck2 (fun h => go _ _ _ _ (q.1 h) _ _ _ hl hp) (fun h => go _ _ _ _ (q.2 h) _ _ _ hl hp)
        · exact q.elim
      case le =>
        simp only [jv_ex, jk_ii] at q
        split at q
        · exact lv_icmp_le hx hb hdg hck2 (fun h => go _ _ _ _ (q.1 h) _ _ _ hl hp) (fun h => go _ _ _ _ (q.2 h) _ _ _ hl hp)
        · exact q.elim
    case tableswitch dd lo hi offs =>
      simp only [jv_ex, jk_i] at q
      split at q
      · next x r =>
        simp only [Bool.and_eq_true, decide_eq_true_eq] at hck
        obtain ⟨⟨⟨c1, c2⟩, c3⟩, c4⟩ := hck
        rcases jv_sw_tb _ _ _ q with ⟨j, off, h1, h2, h3⟩ | ⟨h1, h2⟩
        · have hj : j < offs.size := by have := (List.getElem?_eq_some_iff.mp h1).1; simpa using this
          have ex : x.toInt = lo + j := by
            rw [h2]
            exact Int32.toInt_ofInt_of_le (by simp; omega) (by simp; omega)
          have hn0 : 0 ≤ (pc : Int) + off := decide_eq_true_eq.mp (List.all_eq_true.mp c4 off (List.mem_of_getElem? h1))
          refine lv_tableIn (off := off) (tgt := ((pc : Int) + off).toNat) hx hb hdg (by omega) (by omega) ?_ (by omega) (go _ _ _ _ h3 _ _ _ hl hp)
          rw [ex, show (lo + (j : Int) - lo).toNat = j by omega]
          simpa using h1
        · refine lv_tableOut (tgt := ((pc : Int) + dd).toNat) hx hb hdg ?_ (by omega) (go _ _ _ _ h2 _ _ _ hl hp)
          rcases Int.lt_or_le x.toInt lo with g | g
          · exact Or.inl g
          · rcases Int.lt_or_le hi x.toInt with g2 | g2
            · exact Or.inr g2
            · exfalso
              refine h1 (x.toInt - lo).toNat (by simp; omega) ?_
              rw [show lo + (((x.toInt - lo).toNat : Nat) : Int) = x.toInt by omega]
              exact (Int32.ofInt_toInt x).symm
      · exact q.elim
    case lookupswitch dd ps =>
      simp only [jv_ex, jk_i] at q
      split at q
      · next x r =>
        simp only [Bool.and_eq_true, decide_eq_true_eq] at hck
        obtain ⟨⟨c1, c3⟩, c4⟩ := hck
        obtain ⟨off, h1, h2, h3⟩ := jv_sw_lk _ _ (fun k hk => (decide_eq_true_eq.mp (List.all_eq_true.mp c4 k hk)).2) q
        have hn0 : 0 ≤ (pc : Int) + off := by
          rcases h3 with rfl | ⟨k, hk⟩
          · exact c3
          · exact (decide_eq_true_eq.mp (List.all_eq_true.mp c4 _ hk)).1
        exact lv_lookup (off := off) (tgt := ((pc : Int) + off).toNat) hx hb hdg c1 h1 (by omega) (go _ _ _ _ h2 _ _ _ hl hp)
      · exact q.elim
    case getfield n =>
      have hdg : decode mt.2.1 pc = .ok (.getfield n, 3) := hdg
      have hnp : np = pc + 3 := hnp
      subst hnp
      simp only [jv_ex, jk_r] at q
      split at q
      · next cc r =>
        simp only [jv_gf] at q
        dsimp only [jv_fl] at hck
        split at q
        · next cj fs hs =>
          split at q
          · next ec =>
            subst ec
            split at hck
            · next C T N hc =>
              simp only [Bool.and_eq_true, decide_eq_true_eq] at hck
              obtain ⟨g1, g2⟩ := hck
              obtain ⟨i1, ty, i2, i3⟩ := jv_cls_f hc
              have hlk := hts _ (jv_inTg g2 rfl)
              have key : ∀ (fd : Nat), fs[b]? = some fd → jv_X l d post (mi, pc + 3, ls, (match fd with
                  | 0 => Value.int (σ.1 cc b)
                  | 1 => .long σ.2.1
                  | n + 2 => .ref n) :: r, σ) → W p l e R s m args below meth c H locs cells slots Q (F0 m pc lsA ((Value.ref cc :: r).map (jv_c ad))) := by
                intro fd hfd hX
                have hv : (fs.mapIdx (fun k fd => jv_fv ad σ cc k fd))[b]? = some (jv_fv ad σ cc b fd) := by simp [List.getElem?_mapIdx, hfd]
                refine va_get (T := T) (C := C) (N := N) hx hb hts i1 hown hK hP cc (jv_W_at hs) hc b g1 hlk (fun _ h => h) hv hdg ?_
                have := go _ _ _ _ hX _ _ _ hl hp
                revert this
                match fd with
                | 0 => exact fun h => h
                | 1 => exact fun h => h
                | n + 2 => exact fun h => h
              split at q
              · next h0 => exact key 0 h0 q
              · next h0 => exact key 1 h0 q
              · next n h0 => exact key (n + 2) h0 q
              · exact q.elim
            · next hc =>
              exfalso
              simp only [Bool.and_eq_true, decide_eq_true_eq] at hck
              have e1 := hck.1
              subst e1
              have : jv_shp.all (fun q => match q with
                | .inl _ => true
                | .inr (ci, _) => decide (ci ≠ 7)) = true := by decide +kernel
              have := List.all_eq_true.mp this _ (List.mem_of_getElem? hs)
              simp at this
          · exact q.elim
        · exact q.elim
        · split at q
          · next ec =>
            obtain ⟨e1, e2⟩ := ec
            subst e1 e2
            have hck : (decide ((7 : Nat) = 7) && decide (lw_tbl[pl]? = some (.fieldLink mt.1.cls n "java/lang/String" (if b = 0 then "value" else "coder") (if b = 0 then "[B" else "B")))) = true := hck
            simp only [Bool.and_eq_true, decide_eq_true_eq] at hck
            have hlk := hts _ (jv_inTg hck.2 rfl)
            split at q
            · next eb =>
              subst eb
              exact vk_getf hx hb hFz.2.2.2.2.2.2.2.2.1 hS hown hlk (fun _ h => h) hdg (go _ _ _ _ q _ _ _ hl hp)
            · next eb =>
              split at q
              · next eb1 =>
                subst eb1
                exact vk_getf hx hb hFz.2.2.2.2.2.2.2.1 hS hown hlk (fun _ h => h) hdg (go _ _ _ _ q _ _ _ hl hp)
              · exact q.elim
          · exact q.elim
      · exact q.elim
    case putfield n =>
      have hdg : decode mt.2.1 pc = .ok (.putfield n, 3) := hdg
      have hnp : np = pc + 3 := hnp
      subst hnp
      simp only [jv_ex] at q
      split at q
      · next v cc r =>
        simp only [jv_pf] at q
        dsimp only [jv_fl] at hck
        split at q
        · next cj fs hs =>
          split at q
          · next ec =>
            subst ec
            split at hck
            · next C T N hc =>
              simp only [Bool.and_eq_true, decide_eq_true_eq] at hck
              obtain ⟨g1, g2⟩ := hck
              obtain ⟨i1, ty, i2, i3⟩ := jv_cls_f hc
              have hlk := hts _ (jv_inTg g2 rfl)
              split at q
              · next x h0 =>
                have hk := jv_kinds hs h0 hc
                have hlen : b < (fs.mapIdx (fun k fd => jv_fv ad σ cc k fd)).length := by
                  have := (List.getElem?_eq_some_iff.mp h0).1
                  simpa using this
                refine va_put (T := T) (C := C) (N := N) (v := .int x) (ty := .int) hx hb hts i1 ty i2 i3 hown hK hP hD hS cc (jv_W_at hs) hc b g1 hlk (fun _ h => h) hk.1 hk.2 rfl rfl hlen hdg (fun H1 locs1 h1 h2 h3 => ?_)
                rw [jv_W_fld hs h0] at h1 h2
                exact go _ _ _ _ q _ _ _ hl ⟨h1, h2, h3, hL⟩
              · next x h0 =>
                have hk := jv_kindl hs h0 hc
                have hlen : b < (fs.mapIdx (fun k fd => jv_fv ad σ cc k fd)).length := by
                  have := (List.getElem?_eq_some_iff.mp h0).1
                  simpa using this
                refine va_put (T := T) (C := C) (N := N) (v := .long x) (ty := .long) hx hb hts i1 ty i2 i3 hown hK hP hD hS cc (jv_W_at hs) hc b g1 hlk (fun _ h => h) hk.1 hk.2 rfl rfl hlen hdg (fun H1 locs1 h1 h2 h3 => ?_)
                rw [jv_W_long hs h0] at h1 h2
                exact go _ _ _ _ q _ _ _ hl ⟨h1, h2, h3, hL⟩
              · exact q.elim
            · next hc =>
              exfalso
              simp only [Bool.and_eq_true, decide_eq_true_eq] at hck
              have e1 := hck.1
              subst e1
              have : jv_shp.all (fun q => match q with
                | .inl _ => true
                | .inr (ci, _) => decide (ci ≠ 7)) = true := by decide +kernel
              have := List.all_eq_true.mp this _ (List.mem_of_getElem? hs)
              simp at this
          · exact q.elim
        · exact q.elim
      · exact q.elim
    case getstatic n =>
      have hdg : decode mt.2.1 pc = .ok (.getstatic n, 3) := hdg
      have hnp : np = pc + 3 := hnp
      subst hnp
      simp only [jv_ex] at q
      dsimp only at hck
      split at q
      · next ea =>
        rw [if_pos ea] at hck
        exact va_gets hx hb hFz.2.2.2.1 hS hown (hts _ (jv_inTg (decide_eq_true_eq.mp hck) rfl)) (fun _ h => h) hdg (go _ _ _ _ q _ _ _ hl hp)
      · next ea =>
        rw [if_neg ea] at hck
        exact va_gets hx hb hFz.2.2.2.2.2.1 hS hown (hts _ (jv_inTg (decide_eq_true_eq.mp hck) rfl)) (fun _ h => h) hdg (go _ _ _ _ q _ _ _ hl hp)
    case iaload =>
      have hdg : decode mt.2.1 pc = .ok (.iaload, 1) := hdg
      have hnp : np = pc + 1 := hnp
      subst hnp
      simp only [jv_ex, jk_ir] at q
      split at q
      · next i cc r =>
        simp only [jv_ald] at q
        split at q
        · next n hs => exact va_iald hx hb hK hP cc cc (jv_W_at hs) (jv_tys_at hs) q.1 hdg (go _ _ _ _ q.2 _ _ _ hl hp)
        · exact q.elim
        · split at q
          · next e1 =>
            subst e1
            rw [hL] at q
            exact va_sld hx hb hFz.1 hFz.2.1 hFz.2.2.1 hS q.1 hdg (go _ _ _ _ q.2 _ _ _ hl hp)
          · split at q
            · next e1 =>
              subst e1
              exact va_ti hx hb hFz.2.2.2.2.1 hS q.1 rfl hdg (go _ _ _ _ q.2 _ _ _ hl hp)
            · exact q.elim
      · exact q.elim
    case iastore =>
      have hdg : decode mt.2.1 pc = .ok (.iastore, 1) := hdg
      have hnp : np = pc + 1 := hnp
      subst hnp
      simp only [jv_ex, jk_iir] at q
      split at q
      · next x i cc r =>
        simp only [jv_ast] at q
        split at q
        · next n hs =>
          refine va_iast hx hb hK hP hD hS cc cc (jv_W_at hs) (jv_tys_at hs) q.1 hdg (fun H1 locs1 h1 h2 h3 => ?_)
          rw [jv_W_arr hs] at h1 h2
          exact go _ _ _ _ q.2 _ _ _ hl ⟨h1, h2, h3, hL⟩
        · exact q.elim
      · exact q.elim
    case baload =>
      have hdg : decode mt.2.1 pc = .ok (.baload, 1) := hdg
      have hnp : np = pc + 1 := hnp
      subst hnp
      simp only [jv_ex, jk_ir] at q
      split at q
      · next i cc r =>
        simp only [jv_bld] at q
        split at q
        · next n hs => exact va_zald hx hb hK hP cc cc (jv_W_at hs) (jv_tys_at hs) q.1 hdg (go _ _ _ _ q.2 _ _ _ hl hp)
        · exact q.elim
        · split at q
          · next e1 =>
            subst e1
            exact va_tb hx hb hFz.2.2.2.2.2.2.2.2.2.1 hS q.1 rfl hdg (go _ _ _ _ q.2 _ _ _ hl hp)
          · exact q.elim
      · exact q.elim
    case bastore =>
      have hdg : decode mt.2.1 pc = .ok (.bastore, 1) := hdg
      have hnp : np = pc + 1 := hnp
      subst hnp
      simp only [jv_ex, jk_iir] at q
      split at q
      · next x i cc r =>
        simp only [jv_bst] at q
        split at q
        · next n hs =>
          refine va_zast hx hb hK hP hD hS cc cc (jv_W_at hs) (jv_tys_at hs) q.1 hdg (fun H1 locs1 h1 h2 h3 => ?_)
          have en : vp_nar .boolean x = x := by
            rcases q.2.1 with rfl | rfl
            · decide +kernel
            · decide +kernel
          rw [en, jv_W_arr hs] at h1 h2
          exact go _ _ _ _ q.2.2 _ _ _ hl ⟨h1, h2, h3, hL⟩
        · exact q.elim
      · exact q.elim
    case arraylength =>
      have hdg : decode mt.2.1 pc = .ok (.arraylength, 1) := hdg
      have hnp : np = pc + 1 := hnp
      subst hnp
      simp only [jv_ex, jk_r] at q
      split at q
      · next cc r =>
        simp only [jv_aln] at q
        split at q
        · next n ty hs => exact va_alen hx hb hK hP cc cc (jv_W_at hs) (jv_tys_at hs) rfl hdg (go _ _ _ _ q _ _ _ hl hp)
        · exact q.elim
        · split at q
          · next e1 =>
            subst e1
            rw [hL] at q
            exact va_slen hx hb hFz.1 hFz.2.1 hFz.2.2.1 hS hdg (go _ _ _ _ q _ _ _ hl hp)
          · split at q
            · next e1 =>
              subst e1
              exact va_tlen hx hb hFz.2.2.2.2.1 hS rfl hdg (go _ _ _ _ q _ _ _ hl hp)
            · split at q
              · next e1 =>
                subst e1
                exact va_tlen hx hb hFz.2.2.2.2.2.2.2.2.2.1 hS rfl hdg (go _ _ _ _ q _ _ _ hl hp)
              · exact q.elim
      · exact q.elim
    case ireturn =>
      have hdg : decode mt.2.1 pc = .ok (.ireturn, 1) := hdg
      have hnp : np = pc + 1 := hnp
      subst hnp
      simp only [jv_ex, jv_ret] at q
      split at q
      · next h0 => rw [hm] at h0; cases h0; exact hret _ _ _ _ _ _ q (Or.inl ⟨_, _, rfl, hdg, rfl, rfl⟩) hp
      · next x h0 =>
        rw [hm] at h0; cases h0
        refine hret _ _ _ _ _ _ q.2 (Or.inl ⟨_, _, rfl, hdg, rfl, ?_⟩) hp
        rcases q.1 with rfl | rfl
        · decide +kernel
        · decide +kernel
      · next x h0 =>
        rw [hm] at h0; cases h0
        refine hret _ _ _ _ _ _ q.2 (Or.inl ⟨_, _, rfl, hdg, rfl, ?_⟩) hp
        rw [q.1]; decide +kernel
      · exact q.elim
    case lreturn =>
      have hdg : decode mt.2.1 pc = .ok (.lreturn, 1) := hdg
      have hnp : np = pc + 1 := hnp
      subst hnp
      simp only [jv_ex] at q
      split at q
      · next h0 => rw [hm] at h0; cases h0; exact hret _ _ _ _ _ _ q (Or.inr (Or.inl ⟨_, rfl, hdg, rfl⟩)) hp
      · exact q.elim
    case return_ =>
      have hdg : decode mt.2.1 pc = .ok (.return_, 1) := hdg
      have hnp : np = pc + 1 := hnp
      subst hnp
      simp only [jv_ex] at q
      split at q
      · next h0 => rw [hm] at h0; cases h0; exact hret _ _ _ _ _ _ q (Or.inr (Or.inr ⟨rfl, hdg, rfl⟩)) hp
      · exact q.elim
    case invokevirtual n =>
      have hdg : decode mt.2.1 pc = .ok (.invokevirtual n, 3) := hdg
      have hnp : np = pc + 3 := hnp
      subst hnp
      simp only [jv_ex] at q
      exact jv_invv C0 hl hp hdg hck go q
    case invokestatic n =>
      have hdg : decode mt.2.1 pc = .ok (.invokestatic n, 3) := hdg
      have hnp : np = pc + 3 := hnp
      subst hnp
      simp only [jv_ex] at q
      dsimp only [jv_ml] at hck
      split at q
      · next ea =>
        rw [if_pos ea] at hck
        simp only [jk_ii] at q
        split at q
        · next y x r =>
          exact va_mmax hx hb (by rw [hml]; exact hl.2.1.symm) hown (hts _ (jv_inTg (decide_eq_true_eq.mp hck) rfl)) (hts _ jv_wMxs) (hts _ jv_wMat) (hts _ jv_wMxc) (by omega) (by have := q.1; rw [jv_c_sum]; omega) hce hsl hdg (go _ _ _ _ q.2 _ _ _ hl hp)
        · exact q.elim
      · next ea =>
        rw [if_neg ea] at hck
        split at q
        · next ea =>
          rw [if_pos ea] at hck
          simp only [jk_ii] at q
          split at q
          · next y x r =>
            exact va_mmin hx hb (by rw [hml]; exact hl.2.1.symm) hown (hts _ (jv_inTg (decide_eq_true_eq.mp hck) rfl)) (hts _ jv_wMns) (hts _ jv_wMat) (hts _ jv_wMnc) (by omega) (by have := q.1; rw [jv_c_sum]; omega) hce hsl hdg (go _ _ _ _ q.2 _ _ _ hl hp)
          · exact q.elim
        · next ea =>
          rw [if_neg ea] at hck
          split at q
          · next ea =>
            rw [if_pos ea] at hck
            simp only [jv_cpy] at q
            split at q
            · next n dp cb sp ca r =>
              split at q
              · next n0 n1 hs0 hs1 =>
                obtain ⟨⟨u1, u2, u3, u4, u5, u6⟩, q⟩ := q
                refine va_copyi (ty := .int) hx hb (by rw [hml]; exact hl.2.1.symm) hown (hts _ (jv_inTg (decide_eq_true_eq.mp hck) rfl)) (hts _ jv_wNat) (hts _ jv_wAcs) (hts _ jv_wSys) hK hP hD hS ca cb ca cb (jv_W_at hs0) (jv_W_at hs1) (jv_tys_at hs0) (jv_tys_at hs1) rfl u1 u2 u3 u4 u5 (fun _ _ => rfl) (by omega) (by rw [jv_c_sum, jv_nwd]; omega) hdg (fun H1 locs1 h1 h2 h3 => ?_)
                rw [jv_W_arr hs1] at h1 h2
                exact go _ _ _ _ q _ _ _ hl ⟨h1, h2, h3, hL⟩
              · exact q.elim
            · exact q.elim
          · next ea =>
            rw [if_neg ea] at hck
            exact jv_invs C0 hl hp hdg hck go q
    all_goals exact q.elim
  next => exact q.elim
/-- THE LITTLE MACHINE IS SOUND -/
theorem jv_sound (l : Launch) {d : Nat} {post : jPo} {fr : jFr} (h : jv_wp d post fr) : jv_X l d post fr := h (jv_X l) (jv_step l)
