/-! the law's own walk: both constructors, then the little machine -/
theorem dw_0 : decode code 0 = .ok (.new 7, 3) := by decide +kernel
theorem dw_3 : decode code 3 = .ok (.dup, 1) := by decide +kernel
theorem dw_4 : decode code 4 = .ok (.invokespecial 9, 3) := by decide +kernel
theorem dw_7 : decode code 7 = .ok (.astore_n 1, 1) := by decide +kernel
theorem dw_8 : decode code 8 = .ok (.new 10, 3) := by decide +kernel
theorem dw_11 : decode code 11 = .ok (.dup, 1) := by decide +kernel
theorem dw_12 : decode code 12 = .ok (.invokespecial 12, 3) := by decide +kernel
theorem dw_15 : decode code 15 = .ok (.astore_n 2, 1) := by decide +kernel
set_option maxHeartbeats 4000000 in
set_option maxRecDepth 100000 in
theorem whole_start {p : Program} {e : Env} {s : State} {m : MethodId} {below : List Frame} {meth : Method} {c : Code} (l : Launch) (hflags : l.flags = flags0) {b L : Nat} {xs : Nat → Int32} (hL : L ≤ 2560) (C0 : lw_At p s m meth c b L xs) : W p l e room_1 s m #[Value.ref b] below meth c s.heap [] 0 0 (lw_Z below #[Value.ref b] s) (entryFrame m ([Value.ref b] : List Value).toArray 4) := by
  obtain ⟨tM, tS, tB, hFz⟩ := st_F C0
  obtain ⟨hx, hb, hr, hml, hown, hts, hX, hbl, hlocks, hgv⟩ := id C0
  have hA : ∀ q : Nat, s.heap.size ≤ q → (fun q : Nat => s.heap.size ≤ q) q := fun _ h => h
  have htg : ∀ w ∈ jv_Tg, w.before #[Value.ref b] s = true := fun w hw => hts w (List.mem_filter.mp hw).1
  obtain ⟨D, hKc⟩ : ∃ D : va_G, ∀ (k : Nat) (q : vw_C), jv_cls[k]? = some q → u_Kn s q.1 q.2.1 q.2.2 (D.1 k) (D.2 k) := by
    obtain ⟨c0, i0, h0⟩ := u_known (C := RX8) (T := TX8) (N := 7) (n := 7) htg jl0_X8 (htg (.instantiable RX8 7) (jv_wc (p := 65) (by decide +kernel)))
    obtain ⟨c1, i1, h1⟩ := u_known (C := RX3) (T := TX3) (N := 2) (n := 2) htg jl0_X3 (htg (.instantiable RX3 2) (jv_wc (p := 73) (by decide +kernel)))
    obtain ⟨c2, i2, h2⟩ := u_known (C := RX7) (T := TX7) (N := 13) (n := 13) htg jl0_X7 (htg (.instantiable RX7 13) (jv_wc (p := 89) (by decide +kernel)))
    obtain ⟨c3, i3, h3⟩ := u_known (C := RX5) (T := TX5) (N := 4) (n := 4) htg jl0_X5 (htg (.instantiable RX5 4) (jv_wc (p := 95) (by decide +kernel)))
    obtain ⟨c4, i4, h4⟩ := u_known (C := RX4) (T := TX4) (N := 8) (n := 8) htg jl0_X4 (htg (.instantiable RX4 8) (jv_wc (p := 189) (by decide +kernel)))
    obtain ⟨c5, i5, h5⟩ := u_known (C := RX1) (T := TX1) (N := 4) (n := 4) htg jl0_X1 (htg (.instantiable RX1 4) (jv_wc (p := 222) (by decide +kernel)))
    obtain ⟨c6, i6, h6⟩ := u_known (C := RX9) (T := TX9) (N := 39) (n := 39) htg jl0_X9 (htg (.instantiable RX9 39) (jv_wc (p := 697) (by decide +kernel)))
    refine ⟨(fun k => ([c0, c1, c2, c3, c4, c5, c6] : List ClassId).getD k 0, fun k => ([i0, i1, i2, i3, i4, i5, i6] : List (Nat → Nat)).getD k (fun _ => 0)), fun k q hq => ?_⟩
    match k, hq with
    | 0, hq => cases hq; exact h0
    | 1, hq => cases hq; exact h1
    | 2, hq => cases hq; exact h2
    | 3, hq => cases hq; exact h3
    | 4, hq => cases hq; exact h4
    | 5, hq => cases hq; exact h5
    | 6, hq => cases hq; exact h6
    | n + 7, hq => simp [jv_cls] at hq
  have hzX3 : va_Nw (.methodLinkNest RX8 9 yX3_init RX8) s := va_Nw.of rfl (hts _ (List.mem_of_getElem? (i := 74) (by decide +kernel)))
  have hzX7 : va_Nw (.methodLinkNest RX8 18 yX7_init RX8) s := va_Nw.of rfl (hts _ (List.mem_of_getElem? (i := 90) (by decide +kernel)))
  have hzX4 : va_Nw (.methodLinkNest RX8 28 yX4_init RX8) s := va_Nw.of rfl (hts _ (List.mem_of_getElem? (i := 190) (by decide +kernel)))
  have hzX1 : va_Nw (.methodLinkNest RX8 35 yX1_init RX8) s := va_Nw.of rfl (hts _ (List.mem_of_getElem? (i := 223) (by decide +kernel)))
  have hzX5 : va_Nw (.methodLinkNest RX7 35 yX5_init RX8) s := va_Nw.of rfl (hts _ (List.mem_of_getElem? (i := 96) (by decide +kernel)))
  have hS : va_S (fun q : Nat => s.heap.size ≤ q) s.heap s.heap [] := va_S.rf
  have hK : va_K D jv_cls [] s := ⟨hKc, fun k q h => by simp at h⟩
  have hP : va_P D jv_cls [] s.heap := fun k q h => by simp at h
  have hD : va_D (fun q : Nat => s.heap.size ≤ q) [] := ⟨fun i j p q h => by simp at h, fun k q h => by simp at h⟩
  have hl := lv_entry ([.ref b]) (n := 4) (Nat.le_of_ble_eq_true rfl)
  rw [lg_entry_eq]
  generalize (lg_sl ([.ref b]) ++ List.replicate (4 - (lg_sl ([.ref b])).length) Slot.unset).toArray = ls at hl ⊢
  have hl : lv_has ls 4 [(0, .ref b)] := hl
  refine va_new (ci := 0) (fs := [.null, .null, .null, .null, .null, .int 0, .int 0]) (C := RX8) (T := TX8) (N := 7) hx hb htg jl0_X8 tyX8 tyX8_ok hown (htg (.classLink R_law 7 RX8) (jv_wc (p := 64) (by decide +kernel))) (htg (.instantiable RX8 7) (jv_wc (p := 65) (by decide +kernel))) (htg (.initialized RX8) (jv_wc (p := 46) (by decide +kernel))) hK hP hD hS hA rfl fzX8 (Nat.le_of_ble_eq_true rfl) (Nat.le_of_ble_eq_true rfl) dw_0 (fun q0 H hP hD hS => ?_)
  have hP : va_P D jv_cls [(q0, .inr (0, [.null, .null, .null, .null, .null, .int 0, .int 0]))] H := hP
  have hD : va_D (fun q : Nat => s.heap.size ≤ q) [(q0, .inr (0, [.null, .null, .null, .null, .null, .int 0, .int 0]))] := hD
  refine W.widen (k := 1) (n := 7) (by omega) (by omega) ?_
  refine lv_dup hx hb dw_3 rfl ?_
  have hFc := va_free (wc := [(q0, .inr (0, [.null, .null, .null, .null, .null, .int 0, .int 0]))]) hD hS hA [0] rfl
  refine va_callv (va_runI (As := []) (rest := [.ref q0]) ⟨hx, hb, hml, hown, htg⟩ (k_X8 l D q0 H.size) (cwI 0 htg gL_X8 rfl rfl rfl (htg (.initialized RX8) (jv_wc (p := 46) (by decide +kernel))) (htg (.methodLink R_law 9 yX8_init) (jv_wc (p := 66) (by decide +kernel))) (htg (.instanceMethod yX8_init) (jv_wc (p := 67) (by decide +kernel))) rfl (by decide +kernel) ⟨Nat.le_of_ble_eq_true rfl, Nat.le_of_ble_eq_true rfl⟩) ⟨fun a U g mk q => by obtain ⟨q0, q1, qP, qK, qD, w1, w2, w3, w4, w5⟩ := q; exact ⟨q0, q1, qP, va_K.moved (u := U) (U := U.calling g mk a) (Vm.Alike.refl U.vm) qK, qD, va_Nw.same rfl (u := U) rfl w1, va_Nw.same rfl (u := U) rfl w2, va_Nw.same rfl (u := U) rfl w3, va_Nw.same rfl (u := U) rfl w4, va_Nw.same rfl (u := U) rfl w5⟩, fun U hU hW => ⟨rfl, by rw [hU], by rw [hU]; exact hP, va_K.moved hW.alike hK, hD.weaken (fun _ _ _ _ => trivial), va_Nw.warmM hW hzX3, va_Nw.warmM hW hzX7, va_Nw.warmM hW hzX4, va_Nw.warmM hW hzX1, va_Nw.warmM hW hzX5⟩⟩ rfl rfl hl.1 rfl (lv_room (Nat.le_of_ble_eq_true rfl)) dw_4 ⟨Nat.le_of_ble_eq_true rfl, Nat.le_of_ble_eq_true rfl⟩) hS (fun q _ h => hFc q h) hFc (fun u t H1 locs ht hvm hw hB hz1 hk1 hS => ?_)
  obtain ⟨a8, e8⟩ := u
  obtain ⟨hP1, hK1, hD1⟩ := hB
  rw [ht] at hP1
  have hK1 := va_K.moved hvm.symm hK1
  dsimp only at hw
  subst hw
  obtain ⟨hP, hD⟩ := va_join (wr := []) (w1 := wdX8 (a8, e8)) hP hD [0] [] rfl rfl (by decide) (by decide) hk1 hFc hP1 hD1
  generalize H1 = H at hP hS ⊢
  have hP : va_P D jv_cls (wdX8 (a8, e8)) H := hP
  have hD : va_D (fun q : Nat => s.heap.size ≤ q) (wdX8 (a8, e8)) := hD
  have hK : va_K D jv_cls (tlX8 (a8, e8)) s := hK1
  refine W.widen (k := 34) (n := 236) (by omega) (by omega) ?_
  refine lv_astore_n (lv' := [(1, .ref (a8 0)), (0, .ref b)]) hx hb dw_7 rfl hl (by decide) rfl (fun ls hl => ?_)
  refine va_new (ci := 6) (fs := [.null, .int 0, .int 0, .int 0, .int 0, .int 0, .int 0, .int 0, .null, .null, .null, .null, .null, .null, .null, .null, .null, .int 0, .int 0, .int 0, .null, .null, .int 0, .null, .int 0, .null, .int 0, .int 0, .int 0, .int 0, .int 0, .null, .null, .null, .null, .null, .null, .null, .long 0]) (C := RX9) (T := TX9) (N := 39) hx hb htg jl0_X9 tyX9 tyX9_ok hown (htg (.classLink R_law 10 RX9) (jv_wc (p := 696) (by decide +kernel))) (htg (.instantiable RX9 39) (jv_wc (p := 697) (by decide +kernel))) (htg (.initialized RX9) (jv_wc (p := 52) (by decide +kernel))) hK hP hD hS hA rfl fzX9 (Nat.le_of_ble_eq_true rfl) (Nat.le_of_ble_eq_true rfl) dw_8 (fun q1 H hP hD hS => ?_)
  refine W.widen (k := 35) (n := 275) (by omega) (by omega) ?_
  refine lv_dup hx hb dw_11 rfl ?_
  have hPc := hP.sub (ws' := [(q1, .inr (6, [.null, .int 0, .int 0, .int 0, .int 0, .int 0, .int 0, .int 0, .null, .null, .null, .null, .null, .null, .null, .null, .null, .int 0, .int 0, .int 0, .null, .null, .int 0, .null, .int 0, .null, .int 0, .int 0, .int 0, .int 0, .int 0, .null, .null, .null, .null, .null, .null, .null, .long 0]))]) [34] rfl
  have hDc := hD.sub (ws' := [(q1, .inr (6, [.null, .int 0, .int 0, .int 0, .int 0, .int 0, .int 0, .int 0, .null, .null, .null, .null, .null, .null, .null, .null, .null, .int 0, .int 0, .int 0, .null, .null, .int 0, .null, .int 0, .null, .int 0, .int 0, .int 0, .int 0, .int 0, .null, .null, .null, .null, .null, .null, .null, .long 0]))]) [34] (by decide) rfl
  have hKe := hK.sub (tys' := []) [] rfl
  have hFc := va_free (wc := [(q1, .inr (6, [.null, .int 0, .int 0, .int 0, .int 0, .int 0, .int 0, .int 0, .null, .null, .null, .null, .null, .null, .null, .null, .null, .int 0, .int 0, .int 0, .null, .null, .int 0, .null, .int 0, .null, .int 0, .int 0, .int 0, .int 0, .int 0, .null, .null, .null, .null, .null, .null, .null, .long 0]))]) hD hS hA [34] rfl
  refine va_callv (va_runI (As := []) (rest := [.ref q1]) ⟨hx, hb, hml, hown, htg⟩ (k_X9 l D q1 H.size) (cwI 0 htg gL_X9 rfl rfl rfl (htg (.initialized RX9) (jv_wc (p := 52) (by decide +kernel))) (htg (.methodLink R_law 12 yX9_init) (jv_wc (p := 698) (by decide +kernel))) (htg (.instanceMethod yX9_init) (jv_wc (p := 699) (by decide +kernel))) rfl (by decide +kernel) ⟨Nat.le_of_ble_eq_true rfl, Nat.le_of_ble_eq_true rfl⟩) ⟨fun a U g mk q => by obtain ⟨q0, q1, qP, qK, qD, -⟩ := q; exact ⟨q0, q1, qP, va_K.moved (u := U) (U := U.calling g mk a) (Vm.Alike.refl U.vm) qK, qD, trivial⟩, fun U hU hW => ⟨rfl, by rw [hU], by rw [hU]; exact hPc, va_K.moved hW.alike hKe, hDc.weaken (fun _ _ _ _ => trivial), trivial⟩⟩ rfl rfl hl.1 rfl (lv_room (Nat.le_of_ble_eq_true rfl)) dw_12 ⟨Nat.le_of_ble_eq_true rfl, Nat.le_of_ble_eq_true rfl⟩) hS (fun q _ h => hFc q h) hFc (fun u t H1 locs ht hvm hw hB hz1 hk1 hS => ?_)
  obtain ⟨a9, e9⟩ := u
  obtain ⟨hP1, hK1, hD1⟩ := hB
  rw [ht] at hP1
  have hK1 := va_K.moved hvm.symm hK1
  dsimp only at hw
  subst hw
  obtain ⟨hP, hD⟩ := va_join (wr := wdX8 (a8, e8)) (w1 := wdX9 (a9, e9)) hP hD [34] [0, 1, 2, 3, 4, 5, 6, 7, 8, 9, 10, 11, 12, 13, 14, 15, 16, 17, 18, 19, 20, 21, 22, 23, 24, 25, 26, 27, 28, 29, 30, 31, 32, 33] rfl rfl (by decide) (by decide) hk1 hFc hP1 hD1
  have hK := hK.app hK1
  generalize H1 = H at hP hS ⊢
  refine W.widen (k := 56) (n := 453) (by omega) (by omega) ?_
  refine lv_astore_n (lv' := [(2, .ref (a9 0)), (1, .ref (a8 0)), (0, .ref b)]) hx hb dw_15 rfl hl (by decide) rfl (fun ls hl => ?_)
  have go := jv_sound l (q_law (d := 0) (L := L) (xs := xs) (post := fun r _ => r = some (.int (iI 1))) hL (fun _ _ => rfl) (rel0 L xs) rfl)
  refine go p e room_1 s m #[Value.ref b] below meth c D (adF a8 a9 b tM tS tB) (cAF e8 e9) (fun q => s.heap.size ≤ q) (yL_law, cL_law, 4, (some .boolean), 1, 0, 0, []) 56 453 (lw_Z below #[Value.ref b] s) L xs H locs ls rfl ⟨hx, hb, hml, hown, htg, st_K hK, hFz _ rfl rfl rfl rfl, hA, Nat.le_of_ble_eq_true rfl, Nat.le_of_ble_eq_true rfl, Nat.le_of_ble_eq_true rfl, Nat.le_of_ble_eq_true rfl, ?_⟩ ⟨rfl, hl.1, hl.2.1, ?_⟩ ⟨st_P hP, st_D hD, hS, rfl⟩
  · intro r σ' H' locs' ls' pc' hpost hir hHp
    obtain ⟨-, -, gS, -⟩ := hHp
    subst hpost
    rcases hir with ⟨x, ty, h1, h2, h3, h4⟩ | ⟨x, h1, -, -⟩ | ⟨h1, -, -⟩
    · refine va_forget (fun q hq => gS.2.2 q hq) ?_
      refine W.widen (k := 600000) (n := 7302250) (Nat.le_of_ble_eq_true rfl) (Nat.le_of_ble_eq_true rfl) ?_
      show W p l e room_1 s m #[Value.ref b] below meth c H' [] 600000 7302250 (lw_Z below #[Value.ref b] s) (F0 m pc' ls' [.int (iI 1)])
      rw [← iI_1]
      exact lw_ret hx hb hr hlocks h2
    · cases h1
    · cases h1
  · intro i v h
    match i, h with
    | 0, h => cases h; exact lv_at hl 2 rfl
    | 1, h => cases h; exact lv_at hl 1 rfl
    | 2, h => cases h; exact lv_at hl 0 rfl
    | 3, h => cases h
    | n + 4, h => simp at h
