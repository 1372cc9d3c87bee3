/-! where it begins: the store that the constructors lay, what stands frozen -/
def st0 (c k : Nat) : Int32 := if c = 34 then (if k = 27 then -1 else 0) else 0
def sg0 (L : Nat) (xs : Nat → Int32) : jSt := (st0, 0, L, xs)
theorem z0 : (0 : Int32) = iI ((0 : Nat) : Int) := by decide +kernel
theorem st0_0 (L : Nat) (xs : Nat → Int32) (c k : Nat) (h : ¬ (c = 34 ∧ k = 27)) : (sg0 L xs).1 c k = iI ((0 : Nat) : Int) := by
  show st0 c k = _
  unfold st0
  by_cases e : c = 34
  · rw [if_pos e, if_neg (fun q => h ⟨e, q⟩)]; exact z0
  · rw [if_neg e]; exact z0
theorem rel0 (L : Nat) (xs : Nat → Int32) : rel 0 (sg0 L xs) := by
  have z := st0_0 L xs
  have no : ∀ p : Nat, ¬ p < 0 := fun p => Nat.not_lt_zero p
  refine ⟨fun _ _ => 0, fun _ => 0, 0, 0, 0, ⟨by decide, by decide, by decide, by decide, fun p hp => absurd hp (no p), fun p hp => absurd hp (no p), fun p hp => absurd hp (no p), Iff.rfl⟩, ⟨z 3 8 (by omega), z 3 9 (by omega), z 3 10 (by omega), z 3 11 (by omega), z 11 3 (by omega), fun p hp => absurd hp (no p), fun p hp => absurd hp (no p), fun p hp => absurd hp (no p)⟩, ⟨z 34 3 (by omega), z 34 4 (by omega), z 34 5 (by omega), z 34 24 (by omega), fun p hp => absurd hp (no p), fun p hp => absurd hp (no p), fun p hp => absurd hp (no p)⟩, ⟨by decide, fun p hp => absurd hp (no p)⟩, ⟨z 1 1 (by omega), fun p hp => absurd hp (no p)⟩, ⟨z 34 1 (by omega), fun p hp => absurd hp (no p)⟩, (z 3 12 (by omega)).trans (z 34 6 (by omega)).symm, z 0 5 (by omega), z 34 7 (by omega), by omega, by omega, z 0 6 (by omega), z 34 22 (by omega), fun j hj => Or.inl ((z 14 j (by omega)).trans z0.symm), Or.inl ⟨z 15 8 (by omega), -1, by omega, by omega, ?_⟩⟩
  show st0 34 27 = iI (-1)
  decide +kernel
def mpi {α β : Type} (f : Nat → α → β) : Nat → List α → List β
  | _, [] => []
  | n, a :: l => f n a :: mpi f (n + 1) l
theorem mp_ix {α β : Type} (f : Nat → α → β) : ∀ (l : List α) (n : Nat), List.mapIdx (fun i => f (i + n)) l = mpi f n l
  | [], n => by rw [List.mapIdx_nil]; rfl
  | a :: l, n => by
    rw [List.mapIdx_cons, mpi, ← mp_ix f l (n + 1), Nat.zero_add]
    congr 2
    funext i
    rw [Nat.add_assoc, Nat.add_comm 1 n]
theorem jv_cell_o {ad : Nat → Nat} {cA : Nat → ClassId} {σ : jSt} {c ci : Nat} {fs : List Nat} : jv_cell ad cA σ c (.inr (ci, fs)) = .inr (ci, mpi (fun k fd => jv_fv ad σ c k fd) 0 fs) := by
  rw [← mp_ix]; rfl
def adF (a8 a9 : Nat → Nat) (b tM tS tB : Nat) (c : Nat) : Nat := if c < 34 then a8 c else if c < 56 then a9 (c - 34) else if c = 56 then b else if c = 57 then tM else if c = 58 then tS else tB
def cAF (e8 e9 : Nat → ClassId) (c : Nat) : ClassId := if c < 34 then e8 c else e9 (c - 34)
section St
variable {a8 a9 : Nat → Nat} {e8 e9 : Nat → ClassId} {b tM tS tB L : Nat} {xs : Nat → Int32}
set_option maxRecDepth 100000 in
theorem st_k1 : ∀ (k : Nat) (sh : jSh), jv_shp[k]? = some sh → (wdX8 (a8, e8) ++ wdX9 (a9, e9))[k]? = some (adF a8 a9 b tM tS tB k, jv_cell (adF a8 a9 b tM tS tB) (cAF e8 e9) (sg0 L xs) k sh) := fun k sh h => match k, h with
  | 0, h => by cases h; rfl
  | 1, h => by cases h; rfl
  | 2, h => by cases h; rfl
  | 3, h => by cases h; rfl
  | 4, h => by cases h; rfl
  | 5, h => by cases h; rfl
  | 6, h => by cases h; rfl
  | 7, h => by cases h; rfl
  | 8, h => by cases h; rfl
  | 9, h => by cases h; rfl
  | 10, h => by cases h; rfl
  | 11, h => by cases h; rfl
  | 12, h => by cases h; rfl
  | 13, h => by cases h; rfl
  | 14, h => by cases h; rfl
  | 15, h => by cases h; rfl
  | 16, h => by cases h; rfl
  | 17, h => by cases h; rfl
  | 18, h => by cases h; rfl
  | 19, h => by cases h; rfl
  | 20, h => by cases h; rfl
  | 21, h => by cases h; rfl
  | 22, h => by cases h; rfl
  | 23, h => by cases h; rfl
  | 24, h => by cases h; rfl
  | 25, h => by cases h; rfl
  | 26, h => by cases h; rfl
  | 27, h => by cases h; rfl
  | 28, h => by cases h; rfl
  | 29, h => by cases h; rfl
  | 30, h => by cases h; rfl
  | 31, h => by cases h; rfl
  | 32, h => by cases h; rfl
  | 33, h => by cases h; rfl
  | 34, h => by cases h; rw [jv_cell_o]; rfl
  | 35, h => by cases h; rfl
  | 36, h => by cases h; rfl
  | 37, h => by cases h; rfl
  | 38, h => by cases h; rfl
  | 39, h => by cases h; rfl
  | 40, h => by cases h; rfl
  | 41, h => by cases h; rfl
  | 42, h => by cases h; rfl
  | 43, h => by cases h; rfl
  | 44, h => by cases h; rfl
  | 45, h => by cases h; rfl
  | 46, h => by cases h; rfl
  | 47, h => by cases h; rfl
  | 48, h => by cases h; rfl
  | 49, h => by cases h; rfl
  | 50, h => by cases h; rfl
  | 51, h => by cases h; rfl
  | 52, h => by cases h; rfl
  | 53, h => by cases h; rfl
  | 54, h => by cases h; rfl
  | 55, h => by cases h; rfl
  | n + 56, h => by simp [jv_shp] at h
set_option maxRecDepth 100000 in
theorem st_k2 : ∀ (k : Nat) (sh : jSh), jv_shp[k]? = some sh → (tlX8 (a8, e8) ++ tlX9 (a9, e9))[k]? = some (cAF e8 e9 k, jv_ty sh) := fun k sh h => match k, h with
  | 0, h => by cases h; rfl
  | 1, h => by cases h; rfl
  | 2, h => by cases h; rfl
  | 3, h => by cases h; rfl
  | 4, h => by cases h; rfl
  | 5, h => by cases h; rfl
  | 6, h => by cases h; rfl
  | 7, h => by cases h; rfl
  | 8, h => by cases h; rfl
  | 9, h => by cases h; rfl
  | 10, h => by cases h; rfl
  | 11, h => by cases h; rfl
  | 12, h => by cases h; rfl
  | 13, h => by cases h; rfl
  | 14, h => by cases h; rfl
  | 15, h => by cases h; rfl
  | 16, h => by cases h; rfl
  | 17, h => by cases h; rfl
  | 18, h => by cases h; rfl
  | 19, h => by cases h; rfl
  | 20, h => by cases h; rfl
  | 21, h => by cases h; rfl
  | 22, h => by cases h; rfl
  | 23, h => by cases h; rfl
  | 24, h => by cases h; rfl
  | 25, h => by cases h; rfl
  | 26, h => by cases h; rfl
  | 27, h => by cases h; rfl
  | 28, h => by cases h; rfl
  | 29, h => by cases h; rfl
  | 30, h => by cases h; rfl
  | 31, h => by cases h; rfl
  | 32, h => by cases h; rfl
  | 33, h => by cases h; rfl
  | 34, h => by cases h; rfl
  | 35, h => by cases h; rfl
  | 36, h => by cases h; rfl
  | 37, h => by cases h; rfl
  | 38, h => by cases h; rfl
  | 39, h => by cases h; rfl
  | 40, h => by cases h; rfl
  | 41, h => by cases h; rfl
  | 42, h => by cases h; rfl
  | 43, h => by cases h; rfl
  | 44, h => by cases h; rfl
  | 45, h => by cases h; rfl
  | 46, h => by cases h; rfl
  | 47, h => by cases h; rfl
  | 48, h => by cases h; rfl
  | 49, h => by cases h; rfl
  | 50, h => by cases h; rfl
  | 51, h => by cases h; rfl
  | 52, h => by cases h; rfl
  | 53, h => by cases h; rfl
  | 54, h => by cases h; rfl
  | 55, h => by cases h; rfl
  | n + 56, h => by simp [jv_shp] at h
theorem st_W {k : Nat} {q : Nat × va_E} (h : (jv_W (adF a8 a9 b tM tS tB) (cAF e8 e9) (sg0 L xs))[k]? = some q) : (wdX8 (a8, e8) ++ wdX9 (a9, e9))[k]? = some q := by
  obtain ⟨sh, h1, h2⟩ := jv_W_ix h
  rw [h2]; exact st_k1 k sh h1
theorem st_P {D : va_G} {H : Heap} (h : va_P D jv_cls (wdX8 (a8, e8) ++ wdX9 (a9, e9)) H) : va_P D jv_cls (jv_W (adF a8 a9 b tM tS tB) (cAF e8 e9) (sg0 L xs)) H := fun k q hk => h k q (st_W hk)
theorem st_D {A : Nat → Prop} (h : va_D A (wdX8 (a8, e8) ++ wdX9 (a9, e9))) : va_D A (jv_W (adF a8 a9 b tM tS tB) (cAF e8 e9) (sg0 L xs)) := ⟨fun i j p q hi hj e => h.1 i j p q (st_W hi) (st_W hj) e, fun k q hk => h.2 k q (st_W hk)⟩
theorem st_K {D : va_G} {s : State} (h : va_K D jv_cls (tlX8 (a8, e8) ++ tlX9 (a9, e9)) s) : va_K D jv_cls (jv_tys (cAF e8 e9)) s := by
  refine ⟨h.1, fun k q hk => h.2 k q ?_⟩
  simp only [jv_tys, List.getElem?_mapIdx] at hk
  cases hs : jv_shp[k]? with
  | none => rw [hs] at hk; cases hk
  | some sh =>
    rw [hs] at hk
    rw [← Option.some.inj hk]; exact st_k2 k sh hs
end St
theorem gL_X8 : GoodIn jv_Tg (kw yX8_init cX8_init) := fun w hw => by
  have h : w ∈ jv_Tg := by
    rcases List.mem_cons.mp hw with e | e
    · rw [e]; exact jv_wc (p := 68) (by decide +kernel)
    · exact e
  exact ⟨h, good_of_word (List.mem_filter.mp h).2⟩
theorem gL_X9 : GoodIn jv_Tg (kw yX9_init cX9_init) := fun w hw => by
  have h : w ∈ jv_Tg := by
    rcases List.mem_cons.mp hw with e | e
    · rw [e]; exact jv_wc (p := 700) (by decide +kernel)
    · exact e
  exact ⟨h, good_of_word (List.mem_filter.mp h).2⟩
/-- what stands frozen at the start -/
theorem st_F {p : Program} {s : State} {m : MethodId} {meth : Method} {c : Code} {b L : Nat} {xs : Nat → Int32} (C0 : lw_At p s m meth c b L xs) : ∃ tM tS tB : Nat, ∀ ad : Nat → Nat, ad 56 = b → ad 57 = tM → ad 58 = tS → ad 59 = tB → jv_Fz (fun q => s.heap.size ≤ q) ad L xs s s.heap := by
  obtain ⟨hx, hb, hr, hml, hown, hts, hX, hbl, hlocks, hgv⟩ := C0
  have hs := flat_of_before _ hgv
  have hA : ∀ a : Nat, a < s.heap.size → ¬ (fun q => s.heap.size ≤ q) a := fun a h => Nat.not_le.mpr h
  have hM : ∀ j : Nat, j < 12 → (Term.elem (.static "OddBank$Calendar" "MONTHS" "[I") (.int (Int32.ofNat j))).eval #[Value.ref b] s none [] s = some (.int (jv_mon j)) := fun j hj => match j, hj with
    | 0, _ => va_eqt (hs _ (by decide +kernel))
    | 1, _ => va_eqt (hs _ (by decide +kernel))
    | 2, _ => va_eqt (hs _ (by decide +kernel))
    | 3, _ => va_eqt (hs _ (by decide +kernel))
    | 4, _ => va_eqt (hs _ (by decide +kernel))
    | 5, _ => va_eqt (hs _ (by decide +kernel))
    | 6, _ => va_eqt (hs _ (by decide +kernel))
    | 7, _ => va_eqt (hs _ (by decide +kernel))
    | 8, _ => va_eqt (hs _ (by decide +kernel))
    | 9, _ => va_eqt (hs _ (by decide +kernel))
    | 10, _ => va_eqt (hs _ (by decide +kernel))
    | 11, _ => va_eqt (hs _ (by decide +kernel))
    | n + 12, h => absurd h (by omega)
  have hB : ∀ j : Nat, j < 5 → (Term.elem (.field (.string "OddBank$Page" 64) "java/lang/String" "value" "[B") (.int (Int32.ofNat j))).eval #[Value.ref b] s none [] s = some (.int (jv_byt j)) := fun j hj => match j, hj with
    | 0, _ => va_eqt (hs _ (by decide +kernel))
    | 1, _ => va_eqt (hs _ (by decide +kernel))
    | 2, _ => va_eqt (hs _ (by decide +kernel))
    | 3, _ => va_eqt (hs _ (by decide +kernel))
    | 4, _ => va_eqt (hs _ (by decide +kernel))
    | n + 5, h => absurd h (by omega)
  obtain ⟨tM, hMv, hMt⟩ := va_Tof (args := #[Value.ref b]) (ty := .int) (N := 12) (f := fun j => .int (jv_mon j)) (A := fun q => s.heap.size ≤ q) (by decide) (hs (.arrayOf (.static "OddBank$Calendar" "MONTHS" "[I") .int) (by decide +kernel)) (va_eqt (hs (.eq (.length (.static "OddBank$Calendar" "MONTHS" "[I")) (.int (Int32.ofNat 12))) (by decide +kernel))) hM hA
  obtain ⟨tB, hBv, hBt⟩ := va_Tof (args := #[Value.ref b]) (ty := .byte) (N := 5) (f := fun j => .int (jv_byt j)) (A := fun q => s.heap.size ≤ q) (by decide) (hs (.arrayOf (.field (.string "OddBank$Page" 64) "java/lang/String" "value" "[B") .byte) (by decide +kernel)) (va_eqt (hs (.eq (.length (.field (.string "OddBank$Page" 64) "java/lang/String" "value" "[B")) (.int (Int32.ofNat 5))) (by decide +kernel))) hB hA
  have hex : (Cond.exactly (.string "OddBank$Page" 64) "java/lang/String").before #[Value.ref b] s = true := hs _ (by decide +kernel)
  obtain ⟨tS, c2, cA2, kA2, q1, q2, q3, q4, q5, q6, -⟩ := Cond.exactly_spec (args := #[Value.ref b]) (first := s) (o := none) (s := s) (idx := []) (t := .string "OddBank$Page" 64) (cls := "java/lang/String") hex
  have hco := va_eqt (hs (.eq (.field (.string "OddBank$Page" 64) "java/lang/String" "coder" "B") (.int 0)) (by decide +kernel))
  have hcs := va_eqt (hs (.eq (.static "java/lang/String" "COMPACT_STRINGS" "Z") (.int 1)) (by decide +kernel))
  refine ⟨tM, tS, tB, fun ad e1 e2 e3 e4 => ?_⟩
  unfold jv_Fz
  rw [e1, e2, e3, e4]
  refine ⟨hX, hbl, hA b hbl, va_Zof (hts (.laysStatic "OddBank$Calendar" "MONTHS" "[I") (List.mem_of_getElem? (i := 433) (by decide +kernel))) (hts (.initialized "OddBank$Calendar") (List.mem_of_getElem? (i := 59) (by decide +kernel))) hMv hA, hMt, va_Zof (hts (.laysStatic "java/lang/String" "COMPACT_STRINGS" "Z") (List.mem_of_getElem? (i := 306) (by decide +kernel))) (hts (.initialized "java/lang/String") (List.mem_of_getElem? (i := 53) (by decide +kernel))) hcs hA, va_Oof hex q1 hA, vk_OFof q1 hco hA, vk_OFof q1 hBv hA, hBt, vk_R.of (hts (.stringRef "OddBank$Page" 64 "pmtdf") (List.mem_of_getElem? (i := 292) (by decide +kernel))) q1⟩
