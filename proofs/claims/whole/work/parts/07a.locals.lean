/-! locals, frozen cells, the machine's context of a frame -/
def jv_loc (ad : Nat → Nat) (lsA : Array Slot) (n : Nat) (ls : List (Option Value)) : Prop := ls.length = n ∧ lsA.size = n ∧ lv_wf lsA ∧ ∀ (i : Nat) (v : Value), ls[i]? = some (some v) → lsA[i]? = some (.val (jv_c ad v))
def jv_al (ad : Nat → Nat) (ls : List (Option Value)) : List (Nat × Value) := (List.range ls.length).filterMap (fun i => match ls[i]? with
  | some (some v) => some (i, jv_c ad v)
  | _ => none)
theorem jv_al_in {ad : Nat → Nat} {ls : List (Option Value)} {i : Nat} {v : Value} (h : ls[i]? = some (some v)) : (i, jv_c ad v) ∈ jv_al ad ls := by
  refine List.mem_filterMap.mpr ⟨i, List.mem_range.mpr (List.getElem?_eq_some_iff.mp h).1, ?_⟩
  rw [h]
theorem jv_loc_has {ad : Nat → Nat} {lsA : Array Slot} {n : Nat} {ls : List (Option Value)} (h : jv_loc ad lsA n ls) : lv_has lsA n (jv_al ad ls) := by
  refine ⟨h.2.1, h.2.2.1, fun q hq => ?_⟩
  obtain ⟨i, -, hi⟩ := List.mem_filterMap.mp hq
  split at hi
  · next v hv => cases hi; exact h.2.2.2 i v hv
  · cases hi
theorem jv_cut_at {ls : List (Option Value)} {i j : Nat} {v : Value} (h : (jv_cut ls i)[j]? = some (some v)) : ls[j]? = some (some v) ∧ ¬ (j + 1 = i ∧ v.category = 2) := by
  unfold jv_cut at h
  split at h
  · exact ⟨h, fun e => by omega⟩
  · next k =>
    split at h
    · next x hx =>
      rw [List.getElem?_set] at h
      split at h
      · split at h <;> cases h
      · next hk => exact ⟨h, fun e => hk (by omega)⟩
    · next x hx =>
      rw [List.getElem?_set] at h
      split at h
      · split at h <;> cases h
      · next hk => exact ⟨h, fun e => hk (by omega)⟩
    · next h1 h2 =>
      refine ⟨h, fun e => ?_⟩
      have e1 : j = k := by omega
      subst e1
      cases v <;> simp [Value.category] at e
      · exact h1 _ h
      · exact h2 _ h
theorem jv_cut_len {ls : List (Option Value)} {i : Nat} : (jv_cut ls i).length = ls.length := by
  unfold jv_cut
  split
  · rfl
  · split <;> simp
theorem jv_cut_cons {x : Option Value} {r : List (Option Value)} {i : Nat} : jv_cut (x :: r) (i + 2) = x :: jv_cut r (i + 1) := by
  unfold jv_cut
  simp only [List.getElem?_cons_succ]
  split
  · rfl
  · rfl
  · rfl
theorem jk_st_to {v : Value} : ∀ {ls : List (Option Value)} {i : Nat} {k : List (Option Value) → Prop}, jk_st ls i v k → i < ls.length ∧ k ((jv_cut ls i).set i (some v))
  | [], _, _, q => q.elim
  | [_], 0, _, q => ⟨by simp, q⟩
  | _ :: _ :: _, 0, _, q => ⟨by simp, q⟩
  | [_], 1, _, q => q.elim
  | x :: y :: r, 1, k, q => by
    refine ⟨by simp, ?_⟩
    match x, q with
    | none, q => exact q
    | some (.long _), q => exact q
    | some (.double _), q => exact q
    | some (.int _), q => exact q
    | some (.float _), q => exact q
    | some .null, q => exact q
    | some (.ref _), q => exact q
    | some (.retAddr _), q => exact q
  | [x], i + 2, k, q => (show False from q).elim
  | x :: y :: r, i + 2, k, q => by
    obtain ⟨h1, h2⟩ := jk_st_to (ls := y :: r) (i := i + 1) (k := fun r => k (x :: r)) q
    refine ⟨by simp at h1 ⊢; omega, ?_⟩
    rw [jv_cut_cons]; exact h2
theorem jk_st2_to {v : Value} : ∀ {ls : List (Option Value)} {i : Nat} {k : List (Option Value) → Prop}, jk_st2 ls i v k → i + 1 < ls.length ∧ k (((jv_cut ls i).set i (some v)).set (i + 1) none)
  | [], 0, _, q => q.elim
  | [], 1, _, q => q.elim
  | [], _ + 2, _, q => q.elim
  | [_], 0, _, q => q.elim
  | [_, _], 0, _, q => ⟨by simp, q⟩
  | _ :: _ :: _ :: _, 0, _, q => ⟨by simp, q⟩
  | [_], 1, _, q => q.elim
  | [_, _], 1, _, q => q.elim
  | x :: y :: z :: r, 1, k, q => by
    refine ⟨by simp, ?_⟩
    match x, q with
    | none, q => exact q
    | some (.long _), q => exact q
    | some (.double _), q => exact q
    | some (.int _), q => exact q
    | some (.float _), q => exact q
    | some .null, q => exact q
    | some (.ref _), q => exact q
    | some (.retAddr _), q => exact q
  | [x], 2, k, q => (show False from q).elim
  | [x], i + 3, k, q => (show False from q).elim
  | [x, y], i + 2, k, q => by
    obtain ⟨h1, h2⟩ := jk_st2_to (ls := [y]) (i := i + 1) (k := fun r => k (x :: r)) q
    exact absurd h1 (by simp)
  | x :: y :: z :: r, i + 2, k, q => by
    obtain ⟨h1, h2⟩ := jk_st2_to (ls := y :: z :: r) (i := i + 1) (k := fun r => k (x :: r)) q
    refine ⟨by simp at h1 ⊢; omega, ?_⟩
    rw [jv_cut_cons]; exact h2
theorem jv_loc_st {ad : Nat → Nat} {lsA ls' : Array Slot} {n i : Nat} {ls : List (Option Value)} {v : Value} (h : jv_loc ad lsA n ls) (hi : i < n)
    (h' : lv_has ls' n ((i, jv_c ad v) :: (jv_al ad ls).filter (fun q => !(q.1 == i) && !(q.1 + 1 == i && q.2.category == 2)))) : jv_loc ad ls' n ((jv_cut ls i).set i (some v)) := by
  refine ⟨by rw [List.length_set, jv_cut_len]; exact h.1, h'.1, h'.2.1, fun j w hj => ?_⟩
  rw [List.getElem?_set] at hj
  by_cases e : i = j
  · subst e
    rw [if_pos rfl, jv_cut_len, h.1, if_pos hi] at hj
    cases hj
    exact h'.2.2 (i, jv_c ad v) List.mem_cons_self
  · rw [if_neg e] at hj
    obtain ⟨a1, a2⟩ := jv_cut_at hj
    refine h'.2.2 (j, jv_c ad w) (List.mem_cons_of_mem _ (List.mem_filter.mpr ⟨jv_al_in a1, ?_⟩))
    have e' : (j == i) = false := by simpa using fun h => e h.symm
    simp only [e', Bool.not_false, Bool.true_and, jv_c_cat]
    by_cases q1 : j + 1 = i
    · have : ¬ w.category = 2 := fun h => a2 ⟨q1, h⟩
      simp [this]
    · simp [q1]
theorem jv_loc_st2 {ad : Nat → Nat} {lsA ls' : Array Slot} {n i : Nat} {ls : List (Option Value)} {v : Value} (h : jv_loc ad lsA n ls) (hi : i + 1 < n)
    (h' : lv_has ls' n ((i, jv_c ad v) :: (jv_al ad ls).filter (fun q => !(q.1 == i) && (!(q.1 == i + 1) && !(q.1 + 1 == i && q.2.category == 2))))) : jv_loc ad ls' n (((jv_cut ls i).set i (some v)).set (i + 1) none) := by
  refine ⟨by rw [List.length_set, List.length_set, jv_cut_len]; exact h.1, h'.1, h'.2.1, fun j w hj => ?_⟩
  rw [List.getElem?_set] at hj
  by_cases e0 : i + 1 = j
  · rw [if_pos e0] at hj
    split at hj <;> cases hj
  · rw [if_neg e0, List.getElem?_set] at hj
    by_cases e : i = j
    · subst e
      rw [if_pos rfl, jv_cut_len, h.1, if_pos (by omega)] at hj
      cases hj
      exact h'.2.2 (i, jv_c ad v) List.mem_cons_self
    · rw [if_neg e] at hj
      obtain ⟨a1, a2⟩ := jv_cut_at hj
      refine h'.2.2 (j, jv_c ad w) (List.mem_cons_of_mem _ (List.mem_filter.mpr ⟨jv_al_in a1, ?_⟩))
      have e' : (j == i) = false := by simpa using fun h => e h.symm
      have e1' : (j == i + 1) = false := by simpa using fun h => e0 h.symm
      simp only [e', e1', Bool.not_false, Bool.true_and, jv_c_cat]
      by_cases q1 : j + 1 = i
      · have : ¬ w.category = 2 := fun h => a2 ⟨q1, h⟩
        simp [this]
      · simp [q1]
theorem jv_slots_in (ad : Nat → Nat) : ∀ (as : List Value) (k i : Nat) (v : Value), (jv_slots as)[i]? = some (some v) → (k + i, jv_c ad v) ∈ lv_args k (as.map (jv_c ad))
  | [], k, i, v, h => by simp [jv_slots] at h
  | w :: r, k, i, v, h => by
    have two : ∀ (w : Value), w.category = 2 → (some w :: none :: jv_slots r)[i]? = some (some v) → (k + i, jv_c ad v) ∈ lv_args k ((w :: r).map (jv_c ad)) := by
      intro w hw h
      simp only [List.map_cons, lv_args, jv_c_cat, hw, if_true]
      match i, h with
      | 0, h => simp at h; subst h; exact List.mem_cons_self
      | 1, h => simp at h
      | i + 2, h =>
        refine List.mem_cons_of_mem _ ?_
        have := jv_slots_in ad r (k + 2) i v (by simpa using h)
        rwa [show k + 2 + i = k + (i + 2) by omega] at this
    have one : ∀ (w : Value), ¬ w.category = 2 → (some w :: jv_slots r)[i]? = some (some v) → (k + i, jv_c ad v) ∈ lv_args k ((w :: r).map (jv_c ad)) := by
      intro w hw h
      simp only [List.map_cons, lv_args, jv_c_cat, if_neg hw]
      match i, h with
      | 0, h => simp at h; subst h; exact List.mem_cons_self
      | i + 1, h =>
        refine List.mem_cons_of_mem _ ?_
        have := jv_slots_in ad r (k + 1) i v (by simpa using h)
        rwa [show k + 1 + i = k + (i + 1) by omega] at this
    cases w with
    | long x => exact two _ rfl h
    | double x => exact two _ rfl h
    | int x => exact one _ (by simp [Value.category]) h
    | float x => exact one _ (by simp [Value.category]) h
    | null => exact one _ (by simp [Value.category]) h
    | ref x => exact one _ (by simp [Value.category]) h
    | retAddr x => exact one _ (by simp [Value.category]) h
theorem jv_slots_len (ad : Nat → Nat) : ∀ (as : List Value), (lg_sl (as.map (jv_c ad))).length = (jv_slots as).length
  | [] => rfl
  | w :: r => by
    have ih := jv_slots_len ad r
    unfold lg_sl at ih ⊢
    simp only [List.map_cons, List.flatMap_cons, List.length_append, ih, jv_c_cat]
    cases w <;> simp [Value.category, jv_slots] <;> omega
theorem jv_loc_en {ad : Nat → Nat} {as : List Value} {n : Nat} (h : (jv_slots as).length ≤ n) : jv_loc ad ((lg_sl (as.map (jv_c ad)) ++ List.replicate (n - (lg_sl (as.map (jv_c ad))).length) Slot.unset).toArray) n (jv_pad n (jv_slots as)) := by
  have hl := lv_entry (as.map (jv_c ad)) (n := n) (by rw [jv_slots_len]; exact h)
  refine ⟨by simp [jv_pad]; omega, hl.1, hl.2.1, fun i v hi => ?_⟩
  refine hl.2.2 (i, jv_c ad v) ?_
  unfold jv_pad at hi
  rw [List.getElem?_append] at hi
  split at hi
  · have := jv_slots_in ad as 0 i v hi
    rwa [Nat.zero_add] at this
  · rw [List.getElem?_replicate] at hi
    split at hi <;> cases hi
/-- what is read and never written: the script, MONTHS, the letters of kinds -/
def jv_Fz (A : Nat → Prop) (ad : Nat → Nat) (L : Nat) (xs : Nat → Int32) (U : State) (H : Heap) : Prop :=
  va_X (ad 56) L xs U H ∧ ad 56 < H.size ∧ ¬ A (ad 56) ∧ va_Z "OddBank$Calendar" "MONTHS" "[I" (.ref (ad 57)) A U H ∧ va_T .int (ad 57) 12 (fun j => .int (jv_mon j)) A U H ∧
  va_Z "java/lang/String" "COMPACT_STRINGS" "Z" (.int 1) A U H ∧ va_O "java/lang/String" (ad 58) A U H ∧ va_OF "java/lang/String" "coder" "B" (.int 0) (ad 58) A U H ∧ va_OF "java/lang/String" "value" "[B" (.ref (ad 59)) (ad 58) A U H ∧
  va_T .byte (ad 59) 5 (fun j => .int (jv_byt j)) A U H ∧ vk_R "OddBank$Page" 64 "pmtdf" (ad 58) U
theorem jv_Fz.mv {A B : Nat → Prop} {ad : Nat → Nat} {L : Nat} {xs : Nat → Int32} {s U : State} {H : Heap} {locs : List Loc} (h : jv_Fz A ad L xs s s.heap) (hW : s.WarmedH U.vm) (hU : U.heap = H) (hS : va_S A s.heap H locs) (hB : ∀ q, B q → A q) : jv_Fz B ad L xs U U.heap := by
  obtain ⟨h1, h2, h3, h4, h5, h6, h7, h8, h9, h10, h11⟩ := h
  subst hU
  have hk : ∀ a : Nat, a < s.heap.size → ¬ A a → U.heap[a]? = s.heap[a]? := hS.2.1
  have hv := hW.alike
  exact ⟨(h1.kept (hk _ h2 h3)).moved hv, Nat.lt_of_lt_of_le h2 hS.1, fun q => h3 (hB _ q), ((h4.kept hk).moved hv).narrow hB, ((h5.kept hk).moved hv).narrow hB, ((h6.kept hk).moved hv).narrow hB, ((h7.kept hk).moved hv).narrow hB, ((h8.kept hk).moved hv).narrow hB, ((h9.kept hk).moved hv).narrow hB, ((h10.kept hk).moved hv).narrow hB, vk_R.warm hW h11⟩
theorem jv_Fz.calling {A : Nat → Prop} {ad : Nat → Nat} {L : Nat} {xs : Nat → Int32} {U : State} (g : JFrame) (mk : MethodId) (a : Array Value) (h : jv_Fz A ad L xs U U.heap) : jv_Fz A ad L xs (U.calling g mk a) (U.calling g mk a).heap := by
  obtain ⟨h1, h2, h3, h4, h5, h6, h7, h8, h9, h10, h11⟩ := h
  have hv : U.vm.Alike (U.calling g mk a).vm := Vm.Alike.refl U.vm
  exact ⟨h1.moved hv, h2, h3, h4.moved hv, h5.moved hv, h6.moved hv, h7.moved hv, h8.moved hv, h9.moved hv, h10.moved hv, vk_R.same (u := U) rfl h11⟩
