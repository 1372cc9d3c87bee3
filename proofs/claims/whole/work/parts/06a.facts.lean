/-! what the tables say of methods, classes and the few words of the JDK -/
def jv_Tg : List Cond := lw_tbl.filter goodWord
theorem jv_inTg {p : Nat} {w : Cond} (h : lw_tbl[p]? = some w) (hg : goodWord w = true) : w ∈ jv_Tg := List.mem_filter.mpr ⟨List.mem_of_getElem? h, hg⟩
theorem jv_good {ws : List Cond} (h : ∀ w ∈ ws, w ∈ jv_Tg) : GoodIn jv_Tg ws := fun w hw => ⟨(h w hw), good_of_word (List.mem_filter.mp (h w hw)).2⟩
def jv_ws (m : jM) : List Cond := .code m.1 m.2.1 m.2.2.1 m.2.2.2.1 :: jv_Tg
def jv_ckm (m : jM) : Bool :=
  decide (lw_tbl[m.2.2.2.2.2.2.2.getD 0 0]? = some (.code m.1 m.2.1 m.2.2.1 m.2.2.2.1)) &&
  (if m.2.2.2.2.2.1 = 0 then decide (lw_tbl[m.2.2.2.2.2.2.2.getD 1 0]? = some (.static m.1)) else
    decide (m.2.2.2.2.2.1 = 1) && decide (lw_tbl[m.2.2.2.2.2.2.2.getD 1 0]? = some (.instanceMethod m.1)) && decide (lw_tbl[m.2.2.2.2.2.2.2.getD 2 0]? = some (.selects m.1.cls m.1 m.1)) &&
    (match jv_cls[m.2.2.2.2.2.2.1]? with
    | some q => decide (q.1 = m.1.cls)
    | none => decide (m.2.2.2.2.2.2.1 = 7) && decide (m.1.cls = "java/lang/String"))) &&
  decide (lw_tbl[m.2.2.2.2.2.2.2.getD 3 0]? = some (.initialized m.1.cls)) &&
  decide (m.1.cls ≠ "java/lang/invoke/MethodHandle" ∧ m.1.cls ≠ "java/lang/invoke/VarHandle" ∧ (parseMethodDescriptor m.1.desc).map (fun d => d.parameters.length) = some (m.2.2.2.2.1 - m.2.2.2.2.2.1)) &&
  plainFor m.1 && decide (m.2.2.1 ≤ 20) && decide (m.2.2.2.2.2.1 ≤ m.2.2.2.2.1) && (match m.2.2.2.1 with
    | none => true
    | some .int => true
    | some .long => true
    | some .boolean => true
    | some .byte => true
    | _ => false)
theorem jv_cm1 : ((jv_mt.drop 1).take 13).all jv_ckm = true := by decide +kernel
theorem jv_cm14 : ((jv_mt.drop 14).take 13).all jv_ckm = true := by decide +kernel
theorem jv_cm27 : ((jv_mt.drop 27).take 13).all jv_ckm = true := by decide +kernel
theorem jv_cm40 : ((jv_mt.drop 40).take 13).all jv_ckm = true := by decide +kernel
theorem jv_cm53 : ((jv_mt.drop 53).take 13).all jv_ckm = true := by decide +kernel
theorem jv_cm66 : ((jv_mt.drop 66).take 13).all jv_ckm = true := by decide +kernel
theorem jv_cm79 : ((jv_mt.drop 79).take 13).all jv_ckm = true := by decide +kernel
theorem jv_cm92 : ((jv_mt.drop 92).take 13).all jv_ckm = true := by decide +kernel
theorem jv_cm105 : ((jv_mt.drop 105).take 13).all jv_ckm = true := by decide +kernel
theorem jv_cm118 : ((jv_mt.drop 118).take 13).all jv_ckm = true := by decide +kernel
theorem jv_cm131 : ((jv_mt.drop 131).take 13).all jv_ckm = true := by decide +kernel
theorem jv_cm144 : ((jv_mt.drop 144).take 8).all jv_ckm = true := by decide +kernel
theorem jv_wc {p : Nat} {w : Cond} (h : (decide (lw_tbl[p]? = some w) && goodWord w) = true) : w ∈ jv_Tg := by
  rw [Bool.and_eq_true, decide_eq_true_eq] at h
  exact jv_inTg h.1 h.2
