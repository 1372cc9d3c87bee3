/-! facts of the tables, put together; the worlds of stores -/
section JF
theorem jv_alls {α : Type} {l : List α} {f : α → Bool} {a n : Nat} (h1 : ((l.drop a).take n).all f = true) (h2 : (l.drop (a + n)).all f = true) : (l.drop a).all f = true := by
  rw [← List.take_append_drop n (l.drop a), List.all_append, h1, List.drop_drop, h2]; rfl
theorem jv_allz : (jv_mt.zip jv_pt).all (fun q => jv_ckt q.1 0 q.2) = true := by
  have h : ((jv_mt.zip jv_pt).drop 0).all (fun q => jv_ckt q.1 0 q.2) = true :=
    jv_alls (a := 0) (n := 1) jk_t0 (jv_alls jk_t1 (jv_alls jk_t14 (jv_alls jk_t27 (jv_alls jk_t40 (jv_alls jk_t53 (jv_alls jk_t66 (jv_alls jk_t79 (jv_alls jk_t92 (jv_alls jk_t105 (jv_alls jk_t118 (jv_alls jk_t131 (jv_alls jk_t144 (by decide +kernel)))))))))))))
  exact h
theorem jv_allm : (jv_mt.drop 1).all jv_ckm = true :=
    jv_alls jv_cm1 (jv_alls jv_cm14 (jv_alls jv_cm27 (jv_alls jv_cm40 (jv_alls jv_cm53 (jv_alls jv_cm66 (jv_alls jv_cm79 (jv_alls jv_cm92 (jv_alls jv_cm105 (jv_alls jv_cm118 (jv_alls jv_cm131 (jv_alls jv_cm144 (by decide +kernel))))))))))))
theorem jv_ckt_at {m : jM} {e : jE} : ∀ (t : List (Option jE)) (k i : Nat), jv_ckt m k t = true → t[i]? = some (some e) → jv_chk m (k + i) e = true
  | [], k, i, _, h => by simp at h
  | none :: t, k, 0, _, h => by simp at h
  | none :: t, k, i + 1, h, h2 => by
    have := jv_ckt_at t (k + 1) i h (by simpa using h2)
    rwa [show k + 1 + i = k + (i + 1) by omega] at this
  | some e' :: t, k, 0, h, h2 => by
    simp only [jv_ckt, Bool.and_eq_true] at h
    simp at h2; subst h2; exact h.1
  | some e' :: t, k, i + 1, h, h2 => by
    simp only [jv_ckt, Bool.and_eq_true] at h
    have := jv_ckt_at t (k + 1) i h.2 (by simpa using h2)
    rwa [show k + 1 + i = k + (i + 1) by omega] at this
theorem jv_lens : jv_mt.length = 152 ∧ jv_pt.length = 152 := by decide +kernel
theorem jv_prog_chk {mi pc : Nat} {e : jE} (h : jv_prog mi pc = some e) : ∃ m, jv_mt[mi]? = some m ∧ jv_chk m pc e = true := by
  unfold jv_prog at h
  split at h
  · next t ht =>
    split at h
    · next e' he =>
      subst h
      have hl : mi < 152 := by rw [← jv_lens.2]; exact (List.getElem?_eq_some_iff.mp ht).1
      obtain ⟨m, hm⟩ : ∃ m, jv_mt[mi]? = some m := ⟨_, List.getElem?_eq_getElem (by rw [jv_lens.1]; exact hl)⟩
      refine ⟨m, hm, ?_⟩
      have hz : (jv_mt.zip jv_pt)[mi]? = some (m, t) := by rw [List.getElem?_zip_eq_some]; exact ⟨hm, ht⟩
      have := List.all_eq_true.mp jv_allz _ (List.mem_of_getElem? hz)
      have := jv_ckt_at t 0 pc this he
      rwa [Nat.zero_add] at this
    · cases h
  · cases h
theorem jv_mt_ok {a : Nat} {m : jM} (h : jv_mt[a]? = some m) (ha : a ≠ 0) : jv_ckm m = true := by
  refine List.all_eq_true.mp jv_allm _ (List.mem_of_getElem? (i := a - 1) ?_)
  rw [List.getElem?_drop, show 1 + (a - 1) = a by omega]; exact h
theorem jv_mt_f {a : Nat} {m : jM} (h : jv_mt[a]? = some m) (ha : a ≠ 0) :
    Cond.code m.1 m.2.1 m.2.2.1 m.2.2.2.1 ∈ jv_Tg ∧
    ((m.2.2.2.2.2.1 = 0 ∧ Cond.static m.1 ∈ jv_Tg) ∨ (m.2.2.2.2.2.1 = 1 ∧ Cond.instanceMethod m.1 ∈ jv_Tg ∧ Cond.selects m.1.cls m.1 m.1 ∈ jv_Tg ∧
      ((∃ q, jv_cls[m.2.2.2.2.2.2.1]? = some q ∧ q.1 = m.1.cls) ∨ (jv_cls[m.2.2.2.2.2.2.1]? = none ∧ m.2.2.2.2.2.2.1 = 7 ∧ m.1.cls = "java/lang/String")))) ∧
    Cond.initialized m.1.cls ∈ jv_Tg ∧
    (m.1.cls ≠ "java/lang/invoke/MethodHandle" ∧ m.1.cls ≠ "java/lang/invoke/VarHandle" ∧ (parseMethodDescriptor m.1.desc).map (fun d => d.parameters.length) = some (m.2.2.2.2.1 - m.2.2.2.2.2.1)) ∧
    plainFor m.1 = true ∧ m.2.2.1 ≤ 20 ∧ m.2.2.2.2.2.1 ≤ m.2.2.2.2.1 := by
  have hc := jv_mt_ok h ha
  unfold jv_ckm at hc
  simp only [Bool.and_eq_true, decide_eq_true_eq] at hc
  obtain ⟨⟨⟨⟨⟨⟨⟨h1, h2⟩, h3⟩, h4⟩, h5⟩, h6⟩, h7⟩, -⟩ := hc
  refine ⟨jv_inTg h1 rfl, ?_, jv_inTg h3 rfl, h4, h5, h6, h7⟩
  split at h2
  · next e => exact Or.inl ⟨e, jv_inTg (decide_eq_true_eq.mp h2) rfl⟩
  · simp only [Bool.and_eq_true, decide_eq_true_eq] at h2
    obtain ⟨⟨⟨a1, a2⟩, a3⟩, a4⟩ := h2
    refine Or.inr ⟨a1, jv_inTg a2 rfl, jv_inTg a3 rfl, ?_⟩
    split at a4
    · next q hq => exact Or.inl ⟨q, hq, decide_eq_true_eq.mp a4⟩
    · next hq =>
      simp only [Bool.and_eq_true, decide_eq_true_eq] at a4
      exact Or.inr ⟨hq, a4.1, a4.2⟩
theorem jv_lay {ws : List Cond} {ps : List Nat} (h : ws = ps.filterMap (fun i => lw_tbl[i]?)) (hg : ws.all goodWord = true) : ∀ w ∈ ws, w ∈ jv_Tg := by
  intro w hw
  have hg := List.all_eq_true.mp hg w hw
  rw [h] at hw
  obtain ⟨i, -, hi⟩ := List.mem_filterMap.mp hw
  exact jv_inTg hi hg
theorem jv_cls_f {ci N : Nat} {C : String} {T : u_T} (h : jv_cls[ci]? = some (C, T, N)) : (∀ w ∈ u_ws C T N, w ∈ jv_Tg) ∧ ∃ ty : Nat → FieldType, (∀ k, k < N → parseFieldDescriptor (T k).2.2.1 = some (ty k)) ∧ (∀ a, a < N → ∀ b, b < N → a ≠ b → (T a).2.1 ≠ (T b).2.1) := by
  match ci, h with
  | 0, h => cases h; exact ⟨jv_lay jv_layX8 (by decide +kernel), tyX8, tyX8_ok, nmX8⟩
  | 1, h => cases h; exact ⟨jv_lay jv_layX3 (by decide +kernel), tyX3, tyX3_ok, nmX3⟩
  | 2, h => cases h; exact ⟨jv_lay jv_layX7 (by decide +kernel), tyX7, tyX7_ok, nmX7⟩
  | 3, h => cases h; exact ⟨jv_lay jv_layX5 (by decide +kernel), tyX5, tyX5_ok, nmX5⟩
  | 4, h => cases h; exact ⟨jv_lay jv_layX4 (by decide +kernel), tyX4, tyX4_ok, nmX4⟩
  | 5, h => cases h; exact ⟨jv_lay jv_layX1 (by decide +kernel), tyX1, tyX1_ok, nmX1⟩
  | 6, h => cases h; exact ⟨jv_lay jv_layX9 (by decide +kernel), tyX9, tyX9_ok, nmX9⟩
  | n + 7, h => simp [jv_cls] at h
end JF
def jv_c (ad : Nat → Nat) : Value → Value
  | .ref k => .ref (ad k)
  | v => v
theorem jv_c_cat (ad : Nat → Nat) (v : Value) : (jv_c ad v).category = v.category := by cases v <;> rfl
theorem jv_c_sum (ad : Nat → Nat) (l : List Value) : ((l.map (jv_c ad)).map fun v => v.category).sum = (l.map fun v => v.category).sum := by
  rw [List.map_map]; congr 1; exact List.map_congr_left (fun v _ => jv_c_cat ad v)
def jv_fv (ad : Nat → Nat) (σ : jSt) (c k fd : Nat) : Value := match fd with
  | 0 => .int (σ.1 c k)
  | 1 => .long σ.2.1
  | n + 2 => .ref (ad n)
def jv_cell (ad : Nat → Nat) (cA : Nat → ClassId) (σ : jSt) (c : Nat) (sh : jSh) : va_E := match sh with
  | .inl (n, _) => .inl (cA c, n, .inl (σ.1 c))
  | .inr (ci, fs) => .inr (ci, fs.mapIdx (fun k fd => jv_fv ad σ c k fd))
def jv_W (ad : Nat → Nat) (cA : Nat → ClassId) (σ : jSt) : va_W := jv_shp.mapIdx (fun c sh => (ad c, jv_cell ad cA σ c sh))
def jv_ty (sh : jSh) : FieldType := match sh with
  | .inl (_, ty) => ty
  | .inr _ => .int
def jv_tys (cA : Nat → ClassId) : List (ClassId × FieldType) := jv_shp.mapIdx (fun c sh => (cA c, jv_ty sh))
section JW
variable {ad : Nat → Nat} {cA : Nat → ClassId} {σ σ' : jSt} {c k ci n : Nat} {sh : jSh} {ty : FieldType}
theorem jv_W_at (h : jv_shp[c]? = some sh) : (jv_W ad cA σ)[c]? = some (ad c, jv_cell ad cA σ c sh) := by
  simp [jv_W, List.getElem?_mapIdx, h]
theorem jv_W_ix {j : Nat} {q : Nat × va_E} (h : (jv_W ad cA σ)[j]? = some q) : ∃ sh, jv_shp[j]? = some sh ∧ q = (ad j, jv_cell ad cA σ j sh) := by
  simp only [jv_W, List.getElem?_mapIdx] at h
  cases hs : jv_shp[j]? with
  | none => rw [hs] at h; cases h
  | some sh => rw [hs] at h; exact ⟨sh, rfl, (Option.some.inj h).symm⟩
theorem jv_tys_at (h : jv_shp[c]? = some sh) : (jv_tys cA)[c]? = some (cA c, jv_ty sh) := by
  simp [jv_tys, List.getElem?_mapIdx, h]
theorem jv_cell_g (h1 : σ.1 c = σ'.1 c) (h2 : σ.2.1 = σ'.2.1) : jv_cell ad cA σ c sh = jv_cell ad cA σ' c sh := by
  unfold jv_cell
  split
  · rw [h1]
  · congr 2
    congr 1
    funext k fd
    unfold jv_fv
    split
    · rw [h1]
    · rw [h2]
    · rfl
theorem jv_W_set {e : va_E} (h : jv_shp[c]? = some sh) (hc : jv_cell ad cA σ' c sh = e) (ho : ∀ j sh', j ≠ c → jv_shp[j]? = some sh' → jv_cell ad cA σ' j sh' = jv_cell ad cA σ j sh') : (jv_W ad cA σ).set c (ad c, e) = jv_W ad cA σ' := by
  apply List.ext_getElem?
  intro j
  rw [List.getElem?_set]
  by_cases hj : c = j
  · subst hj
    have hl : c < (jv_W ad cA σ).length := (List.getElem?_eq_some_iff.mp (jv_W_at (ad := ad) (cA := cA) (σ := σ) h)).1
    rw [if_pos rfl, if_pos hl, jv_W_at h, hc]
  · rw [if_neg hj]
    simp only [jv_W, List.getElem?_mapIdx]
    cases hs : jv_shp[j]? with
    | none => rfl
    | some sh' => simp only [Option.map_some]; rw [ho j sh' (fun e => hj e.symm) hs]
theorem jv_a_ne {f : Nat → Int32} {j : Nat} (h : j ≠ c) : (jv_a σ c f).1 j = σ.1 j := if_neg h
theorem jv_a_eq {f : Nat → Int32} : (jv_a σ c f).1 c = f := if_pos rfl
theorem jv_W_arr {f : Nat → Int32} (h : jv_shp[c]? = some (.inl (n, ty))) : (jv_W ad cA σ).set c (ad c, .inl (cA c, n, .inl f)) = jv_W ad cA (jv_a σ c f) :=
  jv_W_set h (by simp [jv_cell, jv_a_eq]) (fun j sh' hj _ => jv_cell_g (jv_a_ne hj) rfl)
theorem jv_W_fld {x : Int32} {fs : List Nat} (h : jv_shp[c]? = some (.inr (ci, fs))) (hk : fs[k]? = some 0) : (jv_W ad cA σ).set c (ad c, .inr (ci, (fs.mapIdx (fun k fd => jv_fv ad σ c k fd)).set k (.int x))) = jv_W ad cA (jv_u σ c k x) := by
  refine jv_W_set h ?_ (fun j sh' hj _ => jv_cell_g (jv_a_ne hj) rfl)
  show (Sum.inr (ci, List.mapIdx (fun k_1 fd => jv_fv ad (jv_u σ c k x) c k_1 fd) fs) : va_E) = _
  congr 2
  apply List.ext_getElem?
  intro j
  rw [List.getElem?_set]
  by_cases hj : k = j
  · subst hj
    have hl : k < fs.length := (List.getElem?_eq_some_iff.mp hk).1
    rw [if_pos rfl, if_pos (by simpa using hl)]
    simp [List.getElem?_mapIdx, hk, jv_fv, jv_u, jv_a, upd]
  · rw [if_neg hj]
    simp only [List.getElem?_mapIdx]
    cases fs[j]? with
    | none => rfl
    | some fd =>
      simp only [Option.map_some, jv_fv]
      have : (jv_u σ c k x).1 c j = σ.1 c j := by
        simp only [jv_u, jv_a, if_true, upd]; rw [if_neg (fun e => hj e.symm)]
      split
      · rw [this]
      · rfl
      · rfl
theorem jv_one : jv_shp.zipIdx.all (fun q => match q.1 with
    | .inl _ => true
    | .inr (_, fs) => fs.zipIdx.all (fun f => decide (f.1 = 1 → q.2 = 34 ∧ f.2 = 38))) = true := by decide +kernel
theorem jv_one' {fs : List Nat} (h : jv_shp[c]? = some (.inr (ci, fs))) (hk : fs[k]? = some 1) : c = 34 ∧ k = 38 := by
  have h1 := List.all_eq_true.mp jv_one (.inr (ci, fs), c) (List.mem_of_getElem? (i := c) (by simp [List.getElem?_zipIdx, h]))
  have h2 := List.all_eq_true.mp h1 (1, k) (List.mem_of_getElem? (i := k) (by simp [List.getElem?_zipIdx, hk]))
  simpa using h2
theorem jv_W_long {x : Int64} {fs : List Nat} (h : jv_shp[c]? = some (.inr (ci, fs))) (hk : fs[k]? = some 1) : (jv_W ad cA σ).set c (ad c, .inr (ci, (fs.mapIdx (fun k fd => jv_fv ad σ c k fd)).set k (.long x))) = jv_W ad cA (jv_h σ x) := by
  refine jv_W_set h ?_ (fun j sh' hj hs => ?_)
  · show (Sum.inr (ci, List.mapIdx (fun k_1 fd => jv_fv ad (jv_h σ x) c k_1 fd) fs) : va_E) = _
    congr 2
    apply List.ext_getElem?
    intro j
    rw [List.getElem?_set]
    by_cases hj : k = j
    · subst hj
      have hl : k < fs.length := (List.getElem?_eq_some_iff.mp hk).1
      rw [if_pos rfl, if_pos (by simpa using hl)]
      simp [List.getElem?_mapIdx, hk, jv_fv, jv_h]
    · rw [if_neg hj]
      simp only [List.getElem?_mapIdx]
      cases hf : fs[j]? with
      | none => rfl
      | some fd =>
        simp only [Option.map_some, jv_fv]
        split
        · rfl
        · exact absurd ((jv_one' h hk).2.trans (jv_one' h hf).2.symm) hj
        · rfl
  · unfold jv_cell
    split
    · rfl
    · next ci' fs' =>
      congr 2
      apply List.ext_getElem?
      intro i
      simp only [List.getElem?_mapIdx]
      cases hf : fs'[i]? with
      | none => rfl
      | some fd =>
        simp only [Option.map_some, jv_fv]
        split
        · rfl
        · exact absurd ((jv_one' hs hf).1.trans (jv_one' h hk).1.symm) hj
        · rfl
end JW
