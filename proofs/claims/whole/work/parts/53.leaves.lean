/-! constructors that make rows alone -/
theorem dX3_init_0 : decode cX3_init 0 = .ok (.aload_n 0, 1) := by decide +kernel
theorem dX3_init_1 : decode cX3_init 1 = .ok (.invokespecial 1, 3) := by decide +kernel
theorem dX3_init_4 : decode cX3_init 4 = .ok (.aload_n 0, 1) := by decide +kernel
theorem dX3_init_5 : decode cX3_init 5 = .ok (.bipush 44, 2) := by decide +kernel
theorem dX3_init_7 : decode cX3_init 7 = .ok (.newarray .int, 2) := by decide +kernel
theorem dX3_init_9 : decode cX3_init 9 = .ok (.putfield 9, 3) := by decide +kernel
theorem dX3_init_12 : decode cX3_init 12 = .ok (.return_, 1) := by decide +kernel
def wdX3 (u : jU) : va_W := [(u.1 0, .inr (1, [.ref (u.1 1), .int 0])), (u.1 1, .inl (u.2 1, 44, .inl (fun _ => 0)))]
def tlX3 (u : jU) : List (ClassId × FieldType) := [(u.2 0, .int), (u.2 1, .int)]
set_option maxHeartbeats 4000000 in
set_option maxRecDepth 100000 in
theorem k_X3 (l : Launch) (D : va_G) (h0 sz : Nat) : Met l yX3_init (kw yX3_init cX3_init) ({ frames := 1, cells := 1, slots := 44, locals := 12 }) (va_Pc [.ref h0] (fun U => U.heap.size = sz ∧ va_P D jv_cls [(h0, .inr (1, [.null, .int 0]))] U.heap ∧ va_K D jv_cls [] U ∧ va_D (fun _ => True) [(h0, .inr (1, [.null, .int 0]))] ∧ True)) (va_Qv (fun u : jU => u.1 0 = h0) (jiB D wdX3 tlX3 (va_A [(h0, .inr (1, [.null, .int 0]))] sz)) (va_A [(h0, .inr (1, [.null, .int 0]))] sz)) 1 44 (va_A [(h0, .inr (1, [.null, .int 0]))] sz) := by
  refine Met.ofW (cc := cX3_init) (maxL := 1) (ret := none) (by decide) rfl ?_
  intro p e s m args below meth c s₁ B hml hv
  obtain ⟨rfl, hsz, hP, hK, hD0, -⟩ := hv
  have hx := B.exec
  have hb := B.bytes
  have hr := B.returns
  have hts := atoms_spec (ws := kw yX3_init cX3_init) B.pre
  have hown : s.vm.findClass RX3 = some m.cls := findClass_of_methodNamed B.named
  have hlocks := B.notSynchronized
  have hin : meth.name = "<init>" := (name_of_methodNamed B.named B.method).1
  subst hsz
  have hD := hD0.self (sz := s.heap.size)
  generalize hAe : va_A [(h0, .inr (1, [.null, .int 0]))] s.heap.size = A at hD ⊢
  have hA : ∀ q : Nat, s.heap.size ≤ q → A q := fun q h => by rw [← hAe]; exact Or.inr h
  have hS : va_S A s.heap s.heap [] := va_S.rf
  have hP : va_P D jv_cls [(h0, .inr (1, [.null, .int 0]))] s.heap := hP
  have hl := lv_entry ([.ref h0]) (n := 1) (Nat.le_of_ble_eq_true rfl)
  rw [lg_entry_eq]
  generalize (lg_sl ([.ref h0]) ++ List.replicate (1 - (lg_sl ([.ref h0])).length) Slot.unset).toArray = ls at hl ⊢
  have hl : lv_has ls 1 [(0, .ref h0)] := hl
  refine lv_aload_n hx hb dX3_init_0 rfl (lv_at hl 0 rfl) ?_
  refine W.objInit hx hb hown (hts _ (List.mem_cons_of_mem _ jw_77)) (hts _ (List.mem_cons_of_mem _ jw_70)) (hts _ (List.mem_cons_of_mem _ jw_71)) rfl (by rw [hml]; exact hl.1) rfl dX3_init_1 (Nat.le_of_ble_eq_true rfl) (Nat.le_of_ble_eq_true rfl) ?_
  refine W.eq (g2 := F0 m 4 ls []) rfl ?_
  refine lv_aload_n hx hb dX3_init_4 rfl (lv_at hl 0 rfl) ?_
  refine lv_bipush (v := 44) hx hb dX3_init_5 (by decide +kernel) ?_
  refine va_newa (atype := .int) (a0 := (44, .inl (fun _ => 0))) hx hb (hts _ (List.mem_cons_of_mem _ jw_87)) rfl hK hP hD hS hA (fun _ => rfl) (by decide +kernel) (by decide +kernel) (Nat.le_of_ble_eq_true rfl) (Nat.le_of_ble_eq_true rfl) (Nat.le_of_ble_eq_true rfl) dX3_init_7 (fun q1 c1 H hK hP hD hS => ?_)
  have hP : va_P D jv_cls [(h0, .inr (1, [.null, .int 0])), (q1, .inl (c1, 44, .inl (fun _ => 0)))] H := hP
  have hD : va_D A [(h0, .inr (1, [.null, .int 0])), (q1, .inl (c1, 44, .inl (fun _ => 0)))] := hD
  have hK : va_K D jv_cls [(c1, .int)] s := hK
  refine W.widen (k := 1) (n := 44) (by omega) (by omega) ?_
  refine va_putF (D := D) (ci := 1) (v := .ref q1) (ty := .array .int) (C := RX3) (T := TX3) (N := 2) hx hb hts jl_X3 tyX3 tyX3_ok nmX3 hown hK hP hD hS 0 rfl rfl 0 (by decide) (hts _ (List.mem_cons_of_mem _ jw_78)) (fun _ h9 => h9) rfl hin rfl (by decide +kernel) rfl rfl (Nat.le_of_ble_eq_true rfl) dX3_init_9 (fun H locs hP hD hS => ?_)
  have hP : va_P D jv_cls [(h0, .inr (1, [.ref q1, .int 0])), (q1, .inl (c1, 44, .inl (fun _ => 0)))] H := hP
  have hD : va_D A [(h0, .inr (1, [.ref q1, .int 0])), (q1, .inl (c1, 44, .inl (fun _ => 0)))] := hD
  have hK := hK.sub (tys' := [(c1, .int), (c1, .int)]) [0, 0] rfl
  exact W.vret hx hb hr (fun t ht hW => ⟨⟨(fun k => ([h0, q1] : List Nat).getD k 0, fun k => ([c1, c1] : List ClassId).getD k 0), rfl, rfl, by rw [ht]; exact hP, va_K.moved hW.alike hK, hD⟩, hS.F ht⟩) hS.2.2 dX3_init_12
theorem dX5_init_0 : decode cX5_init 0 = .ok (.aload_n 0, 1) := by decide +kernel
theorem dX5_init_1 : decode cX5_init 1 = .ok (.invokespecial 1, 3) := by decide +kernel
theorem dX5_init_4 : decode cX5_init 4 = .ok (.aload_n 0, 1) := by decide +kernel
theorem dX5_init_5 : decode cX5_init 5 = .ok (.bipush 6, 2) := by decide +kernel
theorem dX5_init_7 : decode cX5_init 7 = .ok (.newarray .int, 2) := by decide +kernel
theorem dX5_init_9 : decode cX5_init 9 = .ok (.putfield 9, 3) := by decide +kernel
theorem dX5_init_12 : decode cX5_init 12 = .ok (.aload_n 0, 1) := by decide +kernel
theorem dX5_init_13 : decode cX5_init 13 = .ok (.bipush 6, 2) := by decide +kernel
theorem dX5_init_15 : decode cX5_init 15 = .ok (.newarray .int, 2) := by decide +kernel
theorem dX5_init_17 : decode cX5_init 17 = .ok (.putfield 13, 3) := by decide +kernel
theorem dX5_init_20 : decode cX5_init 20 = .ok (.aload_n 0, 1) := by decide +kernel
theorem dX5_init_21 : decode cX5_init 21 = .ok (.bipush 6, 2) := by decide +kernel
theorem dX5_init_23 : decode cX5_init 23 = .ok (.newarray .boolean, 2) := by decide +kernel
theorem dX5_init_25 : decode cX5_init 25 = .ok (.putfield 16, 3) := by decide +kernel
theorem dX5_init_28 : decode cX5_init 28 = .ok (.return_, 1) := by decide +kernel
def wdX5 (u : jU) : va_W := [(u.1 0, .inr (3, [.ref (u.1 1), .ref (u.1 2), .ref (u.1 3), .int 0])), (u.1 1, .inl (u.2 1, 6, .inl (fun _ => 0))), (u.1 2, .inl (u.2 2, 6, .inl (fun _ => 0))), (u.1 3, .inl (u.2 3, 6, .inl (fun _ => 0)))]
def tlX5 (u : jU) : List (ClassId × FieldType) := [(u.2 0, .int), (u.2 1, .int), (u.2 2, .int), (u.2 3, .boolean)]
set_option maxHeartbeats 4000000 in
set_option maxRecDepth 100000 in
theorem k_X5 (l : Launch) (D : va_G) (h0 sz : Nat) : Met l yX5_init (kw yX5_init cX5_init) ({ frames := 1, cells := 3, slots := 18, locals := 12 }) (va_Pc [.ref h0] (fun U => U.heap.size = sz ∧ va_P D jv_cls [(h0, .inr (3, [.null, .null, .null, .int 0]))] U.heap ∧ va_K D jv_cls [] U ∧ va_D (fun _ => True) [(h0, .inr (3, [.null, .null, .null, .int 0]))] ∧ True)) (va_Qv (fun u : jU => u.1 0 = h0) (jiB D wdX5 tlX5 (va_A [(h0, .inr (3, [.null, .null, .null, .int 0]))] sz)) (va_A [(h0, .inr (3, [.null, .null, .null, .int 0]))] sz)) 3 18 (va_A [(h0, .inr (3, [.null, .null, .null, .int 0]))] sz) := by
  refine Met.ofW (cc := cX5_init) (maxL := 1) (ret := none) (by decide) rfl ?_
  intro p e s m args below meth c s₁ B hml hv
  obtain ⟨rfl, hsz, hP, hK, hD0, -⟩ := hv
  have hx := B.exec
  have hb := B.bytes
  have hr := B.returns
  have hts := atoms_spec (ws := kw yX5_init cX5_init) B.pre
  have hown : s.vm.findClass RX5 = some m.cls := findClass_of_methodNamed B.named
  have hlocks := B.notSynchronized
  have hin : meth.name = "<init>" := (name_of_methodNamed B.named B.method).1
  subst hsz
  have hD := hD0.self (sz := s.heap.size)
  generalize hAe : va_A [(h0, .inr (3, [.null, .null, .null, .int 0]))] s.heap.size = A at hD ⊢
  have hA : ∀ q : Nat, s.heap.size ≤ q → A q := fun q h => by rw [← hAe]; exact Or.inr h
  have hS : va_S A s.heap s.heap [] := va_S.rf
  have hP : va_P D jv_cls [(h0, .inr (3, [.null, .null, .null, .int 0]))] s.heap := hP
  have hl := lv_entry ([.ref h0]) (n := 1) (Nat.le_of_ble_eq_true rfl)
  rw [lg_entry_eq]
  generalize (lg_sl ([.ref h0]) ++ List.replicate (1 - (lg_sl ([.ref h0])).length) Slot.unset).toArray = ls at hl ⊢
  have hl : lv_has ls 1 [(0, .ref h0)] := hl
  refine lv_aload_n hx hb dX5_init_0 rfl (lv_at hl 0 rfl) ?_
  refine W.objInit hx hb hown (hts _ (List.mem_cons_of_mem _ jw_99)) (hts _ (List.mem_cons_of_mem _ jw_70)) (hts _ (List.mem_cons_of_mem _ jw_71)) rfl (by rw [hml]; exact hl.1) rfl dX5_init_1 (Nat.le_of_ble_eq_true rfl) (Nat.le_of_ble_eq_true rfl) ?_
  refine W.eq (g2 := F0 m 4 ls []) rfl ?_
  refine lv_aload_n hx hb dX5_init_4 rfl (lv_at hl 0 rfl) ?_
  refine lv_bipush (v := 6) hx hb dX5_init_5 (by decide +kernel) ?_
  refine va_newa (atype := .int) (a0 := (6, .inl (fun _ => 0))) hx hb (hts _ (List.mem_cons_of_mem _ jw_87)) rfl hK hP hD hS hA (fun _ => rfl) (by decide +kernel) (by decide +kernel) (Nat.le_of_ble_eq_true rfl) (Nat.le_of_ble_eq_true rfl) (Nat.le_of_ble_eq_true rfl) dX5_init_7 (fun q1 c1 H hK hP hD hS => ?_)
  have hP : va_P D jv_cls [(h0, .inr (3, [.null, .null, .null, .int 0])), (q1, .inl (c1, 6, .inl (fun _ => 0)))] H := hP
  have hD : va_D A [(h0, .inr (3, [.null, .null, .null, .int 0])), (q1, .inl (c1, 6, .inl (fun _ => 0)))] := hD
  have hK : va_K D jv_cls [(c1, .int)] s := hK
  refine W.widen (k := 1) (n := 6) (by omega) (by omega) ?_
  refine va_putF (D := D) (ci := 3) (v := .ref q1) (ty := .array .int) (C := RX5) (T := TX5) (N := 4) hx hb hts jl_X5 tyX5 tyX5_ok nmX5 hown hK hP hD hS 0 rfl rfl 0 (by decide) (hts _ (List.mem_cons_of_mem _ jw_100)) (fun _ h9 => h9) rfl hin rfl (by decide +kernel) rfl rfl (Nat.le_of_ble_eq_true rfl) dX5_init_9 (fun H locs hP hD hS => ?_)
  have hP : va_P D jv_cls [(h0, .inr (3, [.ref q1, .null, .null, .int 0])), (q1, .inl (c1, 6, .inl (fun _ => 0)))] H := hP
  have hD : va_D A [(h0, .inr (3, [.ref q1, .null, .null, .int 0])), (q1, .inl (c1, 6, .inl (fun _ => 0)))] := hD
  refine lv_aload_n hx hb dX5_init_12 rfl (lv_at hl 0 rfl) ?_
  refine lv_bipush (v := 6) hx hb dX5_init_13 (by decide +kernel) ?_
  refine va_newa (atype := .int) (a0 := (6, .inl (fun _ => 0))) hx hb (hts _ (List.mem_cons_of_mem _ jw_87)) rfl hK hP hD hS hA (fun _ => rfl) (by decide +kernel) (by decide +kernel) (Nat.le_of_ble_eq_true rfl) (Nat.le_of_ble_eq_true rfl) (Nat.le_of_ble_eq_true rfl) dX5_init_15 (fun q2 c2 H hK hP hD hS => ?_)
  have hP : va_P D jv_cls [(h0, .inr (3, [.ref q1, .null, .null, .int 0])), (q1, .inl (c1, 6, .inl (fun _ => 0))), (q2, .inl (c2, 6, .inl (fun _ => 0)))] H := hP
  have hD : va_D A [(h0, .inr (3, [.ref q1, .null, .null, .int 0])), (q1, .inl (c1, 6, .inl (fun _ => 0))), (q2, .inl (c2, 6, .inl (fun _ => 0)))] := hD
  have hK : va_K D jv_cls [(c1, .int), (c2, .int)] s := hK
  refine W.widen (k := 2) (n := 12) (by omega) (by omega) ?_
  refine va_putF (D := D) (ci := 3) (v := .ref q2) (ty := .array .int) (C := RX5) (T := TX5) (N := 4) hx hb hts jl_X5 tyX5 tyX5_ok nmX5 hown hK hP hD hS 0 rfl rfl 1 (by decide) (hts _ (List.mem_cons_of_mem _ jw_101)) (fun _ h9 => h9) rfl hin rfl (by decide +kernel) rfl rfl (Nat.le_of_ble_eq_true rfl) dX5_init_17 (fun H locs hP hD hS => ?_)
  have hP : va_P D jv_cls [(h0, .inr (3, [.ref q1, .ref q2, .null, .int 0])), (q1, .inl (c1, 6, .inl (fun _ => 0))), (q2, .inl (c2, 6, .inl (fun _ => 0)))] H := hP
  have hD : va_D A [(h0, .inr (3, [.ref q1, .ref q2, .null, .int 0])), (q1, .inl (c1, 6, .inl (fun _ => 0))), (q2, .inl (c2, 6, .inl (fun _ => 0)))] := hD
  refine lv_aload_n hx hb dX5_init_20 rfl (lv_at hl 0 rfl) ?_
  refine lv_bipush (v := 6) hx hb dX5_init_21 (by decide +kernel) ?_
  refine va_newa (atype := .boolean) (a0 := (6, .inl (fun _ => 0))) hx hb (hts _ (List.mem_cons_of_mem _ jw_115)) rfl hK hP hD hS hA (fun _ => rfl) (by decide +kernel) (by decide +kernel) (Nat.le_of_ble_eq_true rfl) (Nat.le_of_ble_eq_true rfl) (Nat.le_of_ble_eq_true rfl) dX5_init_23 (fun q3 c3 H hK hP hD hS => ?_)
  have hP : va_P D jv_cls [(h0, .inr (3, [.ref q1, .ref q2, .null, .int 0])), (q1, .inl (c1, 6, .inl (fun _ => 0))), (q2, .inl (c2, 6, .inl (fun _ => 0))), (q3, .inl (c3, 6, .inl (fun _ => 0)))] H := hP
  have hD : va_D A [(h0, .inr (3, [.ref q1, .ref q2, .null, .int 0])), (q1, .inl (c1, 6, .inl (fun _ => 0))), (q2, .inl (c2, 6, .inl (fun _ => 0))), (q3, .inl (c3, 6, .inl (fun _ => 0)))] := hD
  have hK : va_K D jv_cls [(c1, .int), (c2, .int), (c3, .boolean)] s := hK
  refine W.widen (k := 3) (n := 18) (by omega) (by omega) ?_
  refine va_putF (D := D) (ci := 3) (v := .ref q3) (ty := .array .boolean) (C := RX5) (T := TX5) (N := 4) hx hb hts jl_X5 tyX5 tyX5_ok nmX5 hown hK hP hD hS 0 rfl rfl 2 (by decide) (hts _ (List.mem_cons_of_mem _ jw_102)) (fun _ h9 => h9) rfl hin rfl (by decide +kernel) rfl rfl (Nat.le_of_ble_eq_true rfl) dX5_init_25 (fun H locs hP hD hS => ?_)
  have hP : va_P D jv_cls [(h0, .inr (3, [.ref q1, .ref q2, .ref q3, .int 0])), (q1, .inl (c1, 6, .inl (fun _ => 0))), (q2, .inl (c2, 6, .inl (fun _ => 0))), (q3, .inl (c3, 6, .inl (fun _ => 0)))] H := hP
  have hD : va_D A [(h0, .inr (3, [.ref q1, .ref q2, .ref q3, .int 0])), (q1, .inl (c1, 6, .inl (fun _ => 0))), (q2, .inl (c2, 6, .inl (fun _ => 0))), (q3, .inl (c3, 6, .inl (fun _ => 0)))] := hD
  have hK := hK.sub (tys' := [(c1, .int), (c1, .int), (c2, .int), (c3, .boolean)]) [0, 0, 1, 2] rfl
  exact W.vret hx hb hr (fun t ht hW => ⟨⟨(fun k => ([h0, q1, q2, q3] : List Nat).getD k 0, fun k => ([c1, c1, c2, c3] : List ClassId).getD k 0), rfl, rfl, by rw [ht]; exact hP, va_K.moved hW.alike hK, hD⟩, hS.F ht⟩) hS.2.2 dX5_init_28
theorem dX4_init_0 : decode cX4_init 0 = .ok (.aload_n 0, 1) := by decide +kernel
theorem dX4_init_1 : decode cX4_init 1 = .ok (.invokespecial 3, 3) := by decide +kernel
theorem dX4_init_4 : decode cX4_init 4 = .ok (.aload_n 0, 1) := by decide +kernel
theorem dX4_init_5 : decode cX4_init 5 = .ok (.iconst 5, 1) := by decide +kernel
theorem dX4_init_6 : decode cX4_init 6 = .ok (.newarray .int, 2) := by decide +kernel
theorem dX4_init_8 : decode cX4_init 8 = .ok (.putfield 11, 3) := by decide +kernel
theorem dX4_init_11 : decode cX4_init 11 = .ok (.aload_n 0, 1) := by decide +kernel
theorem dX4_init_12 : decode cX4_init 12 = .ok (.iconst 5, 1) := by decide +kernel
theorem dX4_init_13 : decode cX4_init 13 = .ok (.newarray .int, 2) := by decide +kernel
theorem dX4_init_15 : decode cX4_init 15 = .ok (.putfield 15, 3) := by decide +kernel
theorem dX4_init_18 : decode cX4_init 18 = .ok (.aload_n 0, 1) := by decide +kernel
theorem dX4_init_19 : decode cX4_init 19 = .ok (.iconst 5, 1) := by decide +kernel
theorem dX4_init_20 : decode cX4_init 20 = .ok (.newarray .int, 2) := by decide +kernel
theorem dX4_init_22 : decode cX4_init 22 = .ok (.putfield 18, 3) := by decide +kernel
theorem dX4_init_25 : decode cX4_init 25 = .ok (.aload_n 0, 1) := by decide +kernel
theorem dX4_init_26 : decode cX4_init 26 = .ok (.iconst 5, 1) := by decide +kernel
theorem dX4_init_27 : decode cX4_init 27 = .ok (.newarray .int, 2) := by decide +kernel
theorem dX4_init_29 : decode cX4_init 29 = .ok (.putfield 23, 3) := by decide +kernel
theorem dX4_init_32 : decode cX4_init 32 = .ok (.return_, 1) := by decide +kernel
def wdX4 (u : jU) : va_W := [(u.1 0, .inr (4, [.ref (u.1 1), .ref (u.1 2), .ref (u.1 3), .ref (u.1 4), .int 0, .int 0, .int 0, .int 0])), (u.1 1, .inl (u.2 1, 5, .inl (fun _ => 0))), (u.1 2, .inl (u.2 2, 5, .inl (fun _ => 0))), (u.1 3, .inl (u.2 3, 5, .inl (fun _ => 0))), (u.1 4, .inl (u.2 4, 5, .inl (fun _ => 0)))]
def tlX4 (u : jU) : List (ClassId × FieldType) := [(u.2 0, .int), (u.2 1, .int), (u.2 2, .int), (u.2 3, .int), (u.2 4, .int)]
set_option maxHeartbeats 4000000 in
set_option maxRecDepth 100000 in
theorem k_X4 (l : Launch) (D : va_G) (h0 sz : Nat) : Met l yX4_init (kw yX4_init cX4_init) ({ frames := 1, cells := 4, slots := 20, locals := 12 }) (va_Pc [.ref h0] (fun U => U.heap.size = sz ∧ va_P D jv_cls [(h0, .inr (4, [.null, .null, .null, .null, .int 0, .int 0, .int 0, .int 0]))] U.heap ∧ va_K D jv_cls [] U ∧ va_D (fun _ => True) [(h0, .inr (4, [.null, .null, .null, .null, .int 0, .int 0, .int 0, .int 0]))] ∧ True)) (va_Qv (fun u : jU => u.1 0 = h0) (jiB D wdX4 tlX4 (va_A [(h0, .inr (4, [.null, .null, .null, .null, .int 0, .int 0, .int 0, .int 0]))] sz)) (va_A [(h0, .inr (4, [.null, .null, .null, .null, .int 0, .int 0, .int 0, .int 0]))] sz)) 4 20 (va_A [(h0, .inr (4, [.null, .null, .null, .null, .int 0, .int 0, .int 0, .int 0]))] sz) := by
  refine Met.ofW (cc := cX4_init) (maxL := 1) (ret := none) (by decide) rfl ?_
  intro p e s m args below meth c s₁ B hml hv
  obtain ⟨rfl, hsz, hP, hK, hD0, -⟩ := hv
  have hx := B.exec
  have hb := B.bytes
  have hr := B.returns
  have hts := atoms_spec (ws := kw yX4_init cX4_init) B.pre
  have hown : s.vm.findClass RX4 = some m.cls := findClass_of_methodNamed B.named
  have hlocks := B.notSynchronized
  have hin : meth.name = "<init>" := (name_of_methodNamed B.named B.method).1
  subst hsz
  have hD := hD0.self (sz := s.heap.size)
  generalize hAe : va_A [(h0, .inr (4, [.null, .null, .null, .null, .int 0, .int 0, .int 0, .int 0]))] s.heap.size = A at hD ⊢
  have hA : ∀ q : Nat, s.heap.size ≤ q → A q := fun q h => by rw [← hAe]; exact Or.inr h
  have hS : va_S A s.heap s.heap [] := va_S.rf
  have hP : va_P D jv_cls [(h0, .inr (4, [.null, .null, .null, .null, .int 0, .int 0, .int 0, .int 0]))] s.heap := hP
  have hl := lv_entry ([.ref h0]) (n := 1) (Nat.le_of_ble_eq_true rfl)
  rw [lg_entry_eq]
  generalize (lg_sl ([.ref h0]) ++ List.replicate (1 - (lg_sl ([.ref h0])).length) Slot.unset).toArray = ls at hl ⊢
  have hl : lv_has ls 1 [(0, .ref h0)] := hl
  refine lv_aload_n hx hb dX4_init_0 rfl (lv_at hl 0 rfl) ?_
  refine W.objInit hx hb hown (hts _ (List.mem_cons_of_mem _ jw_193)) (hts _ (List.mem_cons_of_mem _ jw_70)) (hts _ (List.mem_cons_of_mem _ jw_71)) rfl (by rw [hml]; exact hl.1) rfl dX4_init_1 (Nat.le_of_ble_eq_true rfl) (Nat.le_of_ble_eq_true rfl) ?_
  refine W.eq (g2 := F0 m 4 ls []) rfl ?_
  refine lv_aload_n hx hb dX4_init_4 rfl (lv_at hl 0 rfl) ?_
  refine lv_iconst (v := 5) hx hb dX4_init_5 (by decide +kernel) ?_
  refine va_newa (atype := .int) (a0 := (5, .inl (fun _ => 0))) hx hb (hts _ (List.mem_cons_of_mem _ jw_87)) rfl hK hP hD hS hA (fun _ => rfl) (by decide +kernel) (by decide +kernel) (Nat.le_of_ble_eq_true rfl) (Nat.le_of_ble_eq_true rfl) (Nat.le_of_ble_eq_true rfl) dX4_init_6 (fun q1 c1 H hK hP hD hS => ?_)
  have hP : va_P D jv_cls [(h0, .inr (4, [.null, .null, .null, .null, .int 0, .int 0, .int 0, .int 0])), (q1, .inl (c1, 5, .inl (fun _ => 0)))] H := hP
  have hD : va_D A [(h0, .inr (4, [.null, .null, .null, .null, .int 0, .int 0, .int 0, .int 0])), (q1, .inl (c1, 5, .inl (fun _ => 0)))] := hD
  have hK : va_K D jv_cls [(c1, .int)] s := hK
  refine W.widen (k := 1) (n := 5) (by omega) (by omega) ?_
  refine va_putF (D := D) (ci := 4) (v := .ref q1) (ty := .array .int) (C := RX4) (T := TX4) (N := 8) hx hb hts jl_X4 tyX4 tyX4_ok nmX4 hown hK hP hD hS 0 rfl rfl 0 (by decide) (hts _ (List.mem_cons_of_mem _ jw_194)) (fun _ h9 => h9) rfl hin rfl (by decide +kernel) rfl rfl (Nat.le_of_ble_eq_true rfl) dX4_init_8 (fun H locs hP hD hS => ?_)
  have hP : va_P D jv_cls [(h0, .inr (4, [.ref q1, .null, .null, .null, .int 0, .int 0, .int 0, .int 0])), (q1, .inl (c1, 5, .inl (fun _ => 0)))] H := hP
  have hD : va_D A [(h0, .inr (4, [.ref q1, .null, .null, .null, .int 0, .int 0, .int 0, .int 0])), (q1, .inl (c1, 5, .inl (fun _ => 0)))] := hD
  refine lv_aload_n hx hb dX4_init_11 rfl (lv_at hl 0 rfl) ?_
  refine lv_iconst (v := 5) hx hb dX4_init_12 (by decide +kernel) ?_
  refine va_newa (atype := .int) (a0 := (5, .inl (fun _ => 0))) hx hb (hts _ (List.mem_cons_of_mem _ jw_87)) rfl hK hP hD hS hA (fun _ => rfl) (by decide +kernel) (by decide +kernel) (Nat.le_of_ble_eq_true rfl) (Nat.le_of_ble_eq_true rfl) (Nat.le_of_ble_eq_true rfl) dX4_init_13 (fun q2 c2 H hK hP hD hS => ?_)
  have hP : va_P D jv_cls [(h0, .inr (4, [.ref q1, .null, .null, .null, .int 0, .int 0, .int 0, .int 0])), (q1, .inl (c1, 5, .inl (fun _ => 0))), (q2, .inl (c2, 5, .inl (fun _ => 0)))] H := hP
  have hD : va_D A [(h0, .inr (4, [.ref q1, .null, .null, .null, .int 0, .int 0, .int 0, .int 0])), (q1, .inl (c1, 5, .inl (fun _ => 0))), (q2, .inl (c2, 5, .inl (fun _ => 0)))] := hD
  have hK : va_K D jv_cls [(c1, .int), (c2, .int)] s := hK
  refine W.widen (k := 2) (n := 10) (by omega) (by omega) ?_
  refine va_putF (D := D) (ci := 4) (v := .ref q2) (ty := .array .int) (C := RX4) (T := TX4) (N := 8) hx hb hts jl_X4 tyX4 tyX4_ok nmX4 hown hK hP hD hS 0 rfl rfl 1 (by decide) (hts _ (List.mem_cons_of_mem _ jw_195)) (fun _ h9 => h9) rfl hin rfl (by decide +kernel) rfl rfl (Nat.le_of_ble_eq_true rfl) dX4_init_15 (fun H locs hP hD hS => ?_)
  have hP : va_P D jv_cls [(h0, .inr (4, [.ref q1, .ref q2, .null, .null, .int 0, .int 0, .int 0, .int 0])), (q1, .inl (c1, 5, .inl (fun _ => 0))), (q2, .inl (c2, 5, .inl (fun _ => 0)))] H := hP
  have hD : va_D A [(h0, .inr (4, [.ref q1, .ref q2, .null, .null, .int 0, .int 0, .int 0, .int 0])), (q1, .inl (c1, 5, .inl (fun _ => 0))), (q2, .inl (c2, 5, .inl (fun _ => 0)))] := hD
  refine lv_aload_n hx hb dX4_init_18 rfl (lv_at hl 0 rfl) ?_
  refine lv_iconst (v := 5) hx hb dX4_init_19 (by decide +kernel) ?_
  refine va_newa (atype := .int) (a0 := (5, .inl (fun _ => 0))) hx hb (hts _ (List.mem_cons_of_mem _ jw_87)) rfl hK hP hD hS hA (fun _ => rfl) (by decide +kernel) (by decide +kernel) (Nat.le_of_ble_eq_true rfl) (Nat.le_of_ble_eq_true rfl) (Nat.le_of_ble_eq_true rfl) dX4_init_20 (fun q3 c3 H hK hP hD hS => ?_)
  have hP : va_P D jv_cls [(h0, .inr (4, [.ref q1, .ref q2, .null, .null, .int 0, .int 0, .int 0, .int 0])), (q1, .inl (c1, 5, .inl (fun _ => 0))), (q2, .inl (c2, 5, .inl (fun _ => 0))), (q3, .inl (c3, 5, .inl (fun _ => 0)))] H := hP
  have hD : va_D A [(h0, .inr (4, [.ref q1, .ref q2, .null, .null, .int 0, .int 0, .int 0, .int 0])), (q1, .inl (c1, 5, .inl (fun _ => 0))), (q2, .inl (c2, 5, .inl (fun _ => 0))), (q3, .inl (c3, 5, .inl (fun _ => 0)))] := hD
  have hK : va_K D jv_cls [(c1, .int), (c2, .int), (c3, .int)] s := hK
  refine W.widen (k := 3) (n := 15) (by omega) (by omega) ?_
  refine va_putF (D := D) (ci := 4) (v := .ref q3) (ty := .array .int) (C := RX4) (T := TX4) (N := 8) hx hb hts jl_X4 tyX4 tyX4_ok nmX4 hown hK hP hD hS 0 rfl rfl 2 (by decide) (hts _ (List.mem_cons_of_mem _ jw_196)) (fun _ h9 => h9) rfl hin rfl (by decide +kernel) rfl rfl (Nat.le_of_ble_eq_true rfl) dX4_init_22 (fun H locs hP hD hS => ?_)
  have hP : va_P D jv_cls [(h0, .inr (4, [.ref q1, .ref q2, .ref q3, .null, .int 0, .int 0, .int 0, .int 0])), (q1, .inl (c1, 5, .inl (fun _ => 0))), (q2, .inl (c2, 5, .inl (fun _ => 0))), (q3, .inl (c3, 5, .inl (fun _ => 0)))] H := hP
  have hD : va_D A [(h0, .inr (4, [.ref q1, .ref q2, .ref q3, .null, .int 0, .int 0, .int 0, .int 0])), (q1, .inl (c1, 5, .inl (fun _ => 0))), (q2, .inl (c2, 5, .inl (fun _ => 0))), (q3, .inl (c3, 5, .inl (fun _ => 0)))] := hD
  refine lv_aload_n hx hb dX4_init_25 rfl (lv_at hl 0 rfl) ?_
  refine lv_iconst (v := 5) hx hb dX4_init_26 (by decide +kernel) ?_
  refine va_newa (atype := .int) (a0 := (5, .inl (fun _ => 0))) hx hb (hts _ (List.mem_cons_of_mem _ jw_87)) rfl hK hP hD hS hA (fun _ => rfl) (by decide +kernel) (by decide +kernel) (Nat.le_of_ble_eq_true rfl) (Nat.le_of_ble_eq_true rfl) (Nat.le_of_ble_eq_true rfl) dX4_init_27 (fun q4 c4 H hK hP hD hS => ?_)
  have hP : va_P D jv_cls [(h0, .inr (4, [.ref q1, .ref q2, .ref q3, .null, .int 0, .int 0, .int 0, .int 0])), (q1, .inl (c1, 5, .inl (fun _ => 0))), (q2, .inl (c2, 5, .inl (fun _ => 0))), (q3, .inl (c3, 5, .inl (fun _ => 0))), (q4, .inl (c4, 5, .inl (fun _ => 0)))] H := hP
  have hD : va_D A [(h0, .inr (4, [.ref q1, .ref q2, .ref q3, .null, .int 0, .int 0, .int 0, .int 0])), (q1, .inl (c1, 5, .inl (fun _ => 0))), (q2, .inl (c2, 5, .inl (fun _ => 0))), (q3, .inl (c3, 5, .inl (fun _ => 0))), (q4, .inl (c4, 5, .inl (fun _ => 0)))] := hD
  have hK : va_K D jv_cls [(c1, .int), (c2, .int), (c3, .int), (c4, .int)] s := hK
  refine W.widen (k := 4) (n := 20) (by omega) (by omega) ?_
  refine va_putF (D := D) (ci := 4) (v := .ref q4) (ty := .array .int) (C := RX4) (T := TX4) (N := 8) hx hb hts jl_X4 tyX4 tyX4_ok nmX4 hown hK hP hD hS 0 rfl rfl 3 (by decide) (hts _ (List.mem_cons_of_mem _ jw_197)) (fun _ h9 => h9) rfl hin rfl (by decide +kernel) rfl rfl (Nat.le_of_ble_eq_true rfl) dX4_init_29 (fun H locs hP hD hS => ?_)
  have hP : va_P D jv_cls [(h0, .inr (4, [.ref q1, .ref q2, .ref q3, .ref q4, .int 0, .int 0, .int 0, .int 0])), (q1, .inl (c1, 5, .inl (fun _ => 0))), (q2, .inl (c2, 5, .inl (fun _ => 0))), (q3, .inl (c3, 5, .inl (fun _ => 0))), (q4, .inl (c4, 5, .inl (fun _ => 0)))] H := hP
  have hD : va_D A [(h0, .inr (4, [.ref q1, .ref q2, .ref q3, .ref q4, .int 0, .int 0, .int 0, .int 0])), (q1, .inl (c1, 5, .inl (fun _ => 0))), (q2, .inl (c2, 5, .inl (fun _ => 0))), (q3, .inl (c3, 5, .inl (fun _ => 0))), (q4, .inl (c4, 5, .inl (fun _ => 0)))] := hD
  have hK := hK.sub (tys' := [(c1, .int), (c1, .int), (c2, .int), (c3, .int), (c4, .int)]) [0, 0, 1, 2, 3] rfl
  exact W.vret hx hb hr (fun t ht hW => ⟨⟨(fun k => ([h0, q1, q2, q3, q4] : List Nat).getD k 0, fun k => ([c1, c1, c2, c3, c4] : List ClassId).getD k 0), rfl, rfl, by rw [ht]; exact hP, va_K.moved hW.alike hK, hD⟩, hS.F ht⟩) hS.2.2 dX4_init_32
theorem dX1_init_0 : decode cX1_init 0 = .ok (.aload_n 0, 1) := by decide +kernel
theorem dX1_init_1 : decode cX1_init 1 = .ok (.invokespecial 1, 3) := by decide +kernel
theorem dX1_init_4 : decode cX1_init 4 = .ok (.aload_n 0, 1) := by decide +kernel
theorem dX1_init_5 : decode cX1_init 5 = .ok (.iconst 5, 1) := by decide +kernel
theorem dX1_init_6 : decode cX1_init 6 = .ok (.newarray .int, 2) := by decide +kernel
theorem dX1_init_8 : decode cX1_init 8 = .ok (.putfield 9, 3) := by decide +kernel
theorem dX1_init_11 : decode cX1_init 11 = .ok (.return_, 1) := by decide +kernel
def wdX1 (u : jU) : va_W := [(u.1 0, .inr (5, [.ref (u.1 1), .int 0, .int 0, .int 0])), (u.1 1, .inl (u.2 1, 5, .inl (fun _ => 0)))]
def tlX1 (u : jU) : List (ClassId × FieldType) := [(u.2 0, .int), (u.2 1, .int)]
set_option maxHeartbeats 4000000 in
set_option maxRecDepth 100000 in
theorem k_X1 (l : Launch) (D : va_G) (h0 sz : Nat) : Met l yX1_init (kw yX1_init cX1_init) ({ frames := 1, cells := 1, slots := 5, locals := 12 }) (va_Pc [.ref h0] (fun U => U.heap.size = sz ∧ va_P D jv_cls [(h0, .inr (5, [.null, .int 0, .int 0, .int 0]))] U.heap ∧ va_K D jv_cls [] U ∧ va_D (fun _ => True) [(h0, .inr (5, [.null, .int 0, .int 0, .int 0]))] ∧ True)) (va_Qv (fun u : jU => u.1 0 = h0) (jiB D wdX1 tlX1 (va_A [(h0, .inr (5, [.null, .int 0, .int 0, .int 0]))] sz)) (va_A [(h0, .inr (5, [.null, .int 0, .int 0, .int 0]))] sz)) 1 5 (va_A [(h0, .inr (5, [.null, .int 0, .int 0, .int 0]))] sz) := by
  refine Met.ofW (cc := cX1_init) (maxL := 1) (ret := none) (by decide) rfl ?_
  intro p e s m args below meth c s₁ B hml hv
  obtain ⟨rfl, hsz, hP, hK, hD0, -⟩ := hv
  have hx := B.exec
  have hb := B.bytes
  have hr := B.returns
  have hts := atoms_spec (ws := kw yX1_init cX1_init) B.pre
  have hown : s.vm.findClass RX1 = some m.cls := findClass_of_methodNamed B.named
  have hlocks := B.notSynchronized
  have hin : meth.name = "<init>" := (name_of_methodNamed B.named B.method).1
  subst hsz
  have hD := hD0.self (sz := s.heap.size)
  generalize hAe : va_A [(h0, .inr (5, [.null, .int 0, .int 0, .int 0]))] s.heap.size = A at hD ⊢
  have hA : ∀ q : Nat, s.heap.size ≤ q → A q := fun q h => by rw [← hAe]; exact Or.inr h
  have hS : va_S A s.heap s.heap [] := va_S.rf
  have hP : va_P D jv_cls [(h0, .inr (5, [.null, .int 0, .int 0, .int 0]))] s.heap := hP
  have hl := lv_entry ([.ref h0]) (n := 1) (Nat.le_of_ble_eq_true rfl)
  rw [lg_entry_eq]
  generalize (lg_sl ([.ref h0]) ++ List.replicate (1 - (lg_sl ([.ref h0])).length) Slot.unset).toArray = ls at hl ⊢
  have hl : lv_has ls 1 [(0, .ref h0)] := hl
  refine lv_aload_n hx hb dX1_init_0 rfl (lv_at hl 0 rfl) ?_
  refine W.objInit hx hb hown (hts _ (List.mem_cons_of_mem _ jw_226)) (hts _ (List.mem_cons_of_mem _ jw_70)) (hts _ (List.mem_cons_of_mem _ jw_71)) rfl (by rw [hml]; exact hl.1) rfl dX1_init_1 (Nat.le_of_ble_eq_true rfl) (Nat.le_of_ble_eq_true rfl) ?_
  refine W.eq (g2 := F0 m 4 ls []) rfl ?_
  refine lv_aload_n hx hb dX1_init_4 rfl (lv_at hl 0 rfl) ?_
  refine lv_iconst (v := 5) hx hb dX1_init_5 (by decide +kernel) ?_
  refine va_newa (atype := .int) (a0 := (5, .inl (fun _ => 0))) hx hb (hts _ (List.mem_cons_of_mem _ jw_87)) rfl hK hP hD hS hA (fun _ => rfl) (by decide +kernel) (by decide +kernel) (Nat.le_of_ble_eq_true rfl) (Nat.le_of_ble_eq_true rfl) (Nat.le_of_ble_eq_true rfl) dX1_init_6 (fun q1 c1 H hK hP hD hS => ?_)
  have hP : va_P D jv_cls [(h0, .inr (5, [.null, .int 0, .int 0, .int 0])), (q1, .inl (c1, 5, .inl (fun _ => 0)))] H := hP
  have hD : va_D A [(h0, .inr (5, [.null, .int 0, .int 0, .int 0])), (q1, .inl (c1, 5, .inl (fun _ => 0)))] := hD
  have hK : va_K D jv_cls [(c1, .int)] s := hK
  refine W.widen (k := 1) (n := 5) (by omega) (by omega) ?_
  refine va_putF (D := D) (ci := 5) (v := .ref q1) (ty := .array .int) (C := RX1) (T := TX1) (N := 4) hx hb hts jl_X1 tyX1 tyX1_ok nmX1 hown hK hP hD hS 0 rfl rfl 0 (by decide) (hts _ (List.mem_cons_of_mem _ jw_227)) (fun _ h9 => h9) rfl hin rfl (by decide +kernel) rfl rfl (Nat.le_of_ble_eq_true rfl) dX1_init_8 (fun H locs hP hD hS => ?_)
  have hP : va_P D jv_cls [(h0, .inr (5, [.ref q1, .int 0, .int 0, .int 0])), (q1, .inl (c1, 5, .inl (fun _ => 0)))] H := hP
  have hD : va_D A [(h0, .inr (5, [.ref q1, .int 0, .int 0, .int 0])), (q1, .inl (c1, 5, .inl (fun _ => 0)))] := hD
  have hK := hK.sub (tys' := [(c1, .int), (c1, .int)]) [0, 0] rfl
  exact W.vret hx hb hr (fun t ht hW => ⟨⟨(fun k => ([h0, q1] : List Nat).getD k 0, fun k => ([c1, c1] : List ClassId).getD k 0), rfl, rfl, by rw [ht]; exact hP, va_K.moved hW.alike hK, hD⟩, hS.F ht⟩) hS.2.2 dX1_init_11
