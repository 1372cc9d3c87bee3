/-! constructors: words of the tables (printed by wip/whole/gen2.py) -/
abbrev jU : Type := (Nat → Nat) × (Nat → ClassId)
def kw (y : MethodName) (c : ByteArray) : List Cond := .code y c 1 none :: jv_Tg
def jiB (D : va_G) (w : jU → va_W) (t : jU → List (ClassId × FieldType)) (A : Nat → Prop) (u : jU) (t' : State) : Prop := va_P D jv_cls (w u) t'.heap ∧ va_K D jv_cls (t u) t' ∧ va_D A (w u)
theorem jl0_X8 : ∀ w ∈ u_ws RX8 TX8 7, w ∈ jv_Tg := (jv_cls_f (ci := 0) rfl).1
theorem jl_X8 {a : Cond} : ∀ w ∈ u_ws RX8 TX8 7, w ∈ a :: jv_Tg := fun w h => List.mem_cons_of_mem _ (jl0_X8 w h)
theorem jl0_X3 : ∀ w ∈ u_ws RX3 TX3 2, w ∈ jv_Tg := (jv_cls_f (ci := 1) rfl).1
theorem jl_X3 {a : Cond} : ∀ w ∈ u_ws RX3 TX3 2, w ∈ a :: jv_Tg := fun w h => List.mem_cons_of_mem _ (jl0_X3 w h)
theorem jl0_X7 : ∀ w ∈ u_ws RX7 TX7 13, w ∈ jv_Tg := (jv_cls_f (ci := 2) rfl).1
theorem jl_X7 {a : Cond} : ∀ w ∈ u_ws RX7 TX7 13, w ∈ a :: jv_Tg := fun w h => List.mem_cons_of_mem _ (jl0_X7 w h)
theorem jl0_X5 : ∀ w ∈ u_ws RX5 TX5 4, w ∈ jv_Tg := (jv_cls_f (ci := 3) rfl).1
theorem jl_X5 {a : Cond} : ∀ w ∈ u_ws RX5 TX5 4, w ∈ a :: jv_Tg := fun w h => List.mem_cons_of_mem _ (jl0_X5 w h)
theorem jl0_X4 : ∀ w ∈ u_ws RX4 TX4 8, w ∈ jv_Tg := (jv_cls_f (ci := 4) rfl).1
theorem jl_X4 {a : Cond} : ∀ w ∈ u_ws RX4 TX4 8, w ∈ a :: jv_Tg := fun w h => List.mem_cons_of_mem _ (jl0_X4 w h)
theorem jl0_X1 : ∀ w ∈ u_ws RX1 TX1 4, w ∈ jv_Tg := (jv_cls_f (ci := 5) rfl).1
theorem jl_X1 {a : Cond} : ∀ w ∈ u_ws RX1 TX1 4, w ∈ a :: jv_Tg := fun w h => List.mem_cons_of_mem _ (jl0_X1 w h)
theorem jl0_X9 : ∀ w ∈ u_ws RX9 TX9 39, w ∈ jv_Tg := (jv_cls_f (ci := 6) rfl).1
theorem jl_X9 {a : Cond} : ∀ w ∈ u_ws RX9 TX9 39, w ∈ a :: jv_Tg := fun w h => List.mem_cons_of_mem _ (jl0_X9 w h)
theorem fzX8 : ∀ j, j < 7 → defaultValue (tyX8 j) = vp_V [.null, .null, .null, .null, .null, .int 0, .int 0] j := fun j hj => match j, hj with
  | 0, _ => rfl
  | 1, _ => rfl
  | 2, _ => rfl
  | 3, _ => rfl
  | 4, _ => rfl
  | 5, _ => rfl
  | 6, _ => rfl
  | n + 7, h => absurd h (by omega)
theorem fzX3 : ∀ j, j < 2 → defaultValue (tyX3 j) = vp_V [.null, .int 0] j := fun j hj => match j, hj with
  | 0, _ => rfl
  | 1, _ => rfl
  | n + 2, h => absurd h (by omega)
theorem fzX7 : ∀ j, j < 13 → defaultValue (tyX7 j) = vp_V [.null, .null, .null, .null, .null, .null, .null, .null, .int 0, .int 0, .int 0, .int 0, .int 0] j := fun j hj => match j, hj with
  | 0, _ => rfl
  | 1, _ => rfl
  | 2, _ => rfl
  | 3, _ => rfl
  | 4, _ => rfl
  | 5, _ => rfl
  | 6, _ => rfl
  | 7, _ => rfl
  | 8, _ => rfl
  | 9, _ => rfl
  | 10, _ => rfl
  | 11, _ => rfl
  | 12, _ => rfl
  | n + 13, h => absurd h (by omega)
theorem fzX5 : ∀ j, j < 4 → defaultValue (tyX5 j) = vp_V [.null, .null, .null, .int 0] j := fun j hj => match j, hj with
  | 0, _ => rfl
  | 1, _ => rfl
  | 2, _ => rfl
  | 3, _ => rfl
  | n + 4, h => absurd h (by omega)
theorem fzX4 : ∀ j, j < 8 → defaultValue (tyX4 j) = vp_V [.null, .null, .null, .null, .int 0, .int 0, .int 0, .int 0] j := fun j hj => match j, hj with
  | 0, _ => rfl
  | 1, _ => rfl
  | 2, _ => rfl
  | 3, _ => rfl
  | 4, _ => rfl
  | 5, _ => rfl
  | 6, _ => rfl
  | 7, _ => rfl
  | n + 8, h => absurd h (by omega)
theorem fzX1 : ∀ j, j < 4 → defaultValue (tyX1 j) = vp_V [.null, .int 0, .int 0, .int 0] j := fun j hj => match j, hj with
  | 0, _ => rfl
  | 1, _ => rfl
  | 2, _ => rfl
  | 3, _ => rfl
  | n + 4, h => absurd h (by omega)
theorem fzX9 : ∀ j, j < 39 → defaultValue (tyX9 j) = vp_V [.null, .int 0, .int 0, .int 0, .int 0, .int 0, .int 0, .int 0, .null, .null, .null, .null, .null, .null, .null, .null, .null, .int 0, .int 0, .int 0, .null, .null, .int 0, .null, .int 0, .null, .int 0, .int 0, .int 0, .int 0, .int 0, .null, .null, .null, .null, .null, .null, .null, .long 0] j := fun j hj => match j, hj with
  | 0, _ => rfl
  | 1, _ => rfl
  | 2, _ => rfl
  | 3, _ => rfl
  | 4, _ => rfl
  | 5, _ => rfl
  | 6, _ => rfl
  | 7, _ => rfl
  | 8, _ => rfl
  | 9, _ => rfl
  | 10, _ => rfl
  | 11, _ => rfl
  | 12, _ => rfl
  | 13, _ => rfl
  | 14, _ => rfl
  | 15, _ => rfl
  | 16, _ => rfl
  | 17, _ => rfl
  | 18, _ => rfl
  | 19, _ => rfl
  | 20, _ => rfl
  | 21, _ => rfl
  | 22, _ => rfl
  | 23, _ => rfl
  | 24, _ => rfl
  | 25, _ => rfl
  | 26, _ => rfl
  | 27, _ => rfl
  | 28, _ => rfl
  | 29, _ => rfl
  | 30, _ => rfl
  | 31, _ => rfl
  | 32, _ => rfl
  | 33, _ => rfl
  | 34, _ => rfl
  | 35, _ => rfl
  | 36, _ => rfl
  | 37, _ => rfl
  | 38, _ => rfl
  | n + 39, h => absurd h (by omega)
theorem jw_77 : Cond.methodLink RX3 1 objectInit ∈ jv_Tg := jv_wc (p := 77) (by decide +kernel)
theorem jw_70 : Cond.instanceMethod objectInit ∈ jv_Tg := jv_wc (p := 70) (by decide +kernel)
theorem jw_71 : Cond.code objectInit ⟨#[0xb1]⟩ 1 none ∈ jv_Tg := jv_wc (p := 71) (by decide +kernel)
theorem jw_87 : Cond.arrayClass .int ∈ jv_Tg := jv_wc (p := 87) (by decide +kernel)
theorem jw_78 : Cond.fieldLink RX3 9 "OddBank$Page" "letters" "[I" ∈ jv_Tg := jv_wc (p := 78) (by decide +kernel)
theorem jw_99 : Cond.methodLink RX5 1 objectInit ∈ jv_Tg := jv_wc (p := 99) (by decide +kernel)
theorem jw_100 : Cond.fieldLink RX5 9 "OddBank$Sightings" "who" "[I" ∈ jv_Tg := jv_wc (p := 100) (by decide +kernel)
theorem jw_101 : Cond.fieldLink RX5 13 "OddBank$Sightings" "days" "[I" ∈ jv_Tg := jv_wc (p := 101) (by decide +kernel)
theorem jw_115 : Cond.arrayClass .boolean ∈ jv_Tg := jv_wc (p := 115) (by decide +kernel)
theorem jw_102 : Cond.fieldLink RX5 16 "OddBank$Sightings" "spoke" "[Z" ∈ jv_Tg := jv_wc (p := 102) (by decide +kernel)
theorem jw_193 : Cond.methodLink RX4 3 objectInit ∈ jv_Tg := jv_wc (p := 193) (by decide +kernel)
theorem jw_194 : Cond.fieldLink RX4 11 "OddBank$Plan" "speakers" "[I" ∈ jv_Tg := jv_wc (p := 194) (by decide +kernel)
theorem jw_195 : Cond.fieldLink RX4 15 "OddBank$Plan" "tried" "[I" ∈ jv_Tg := jv_wc (p := 195) (by decide +kernel)
theorem jw_196 : Cond.fieldLink RX4 18 "OddBank$Plan" "chosen" "[I" ∈ jv_Tg := jv_wc (p := 196) (by decide +kernel)
theorem jw_197 : Cond.fieldLink RX4 23 "OddBank$Plan" "asked" "[I" ∈ jv_Tg := jv_wc (p := 197) (by decide +kernel)
theorem jw_226 : Cond.methodLink RX1 1 objectInit ∈ jv_Tg := jv_wc (p := 226) (by decide +kernel)
theorem jw_227 : Cond.fieldLink RX1 9 "OddBank$Course" "asked" "[I" ∈ jv_Tg := jv_wc (p := 227) (by decide +kernel)
theorem jw_93 : Cond.methodLink RX7 3 objectInit ∈ jv_Tg := jv_wc (p := 93) (by decide +kernel)
theorem jw_116 : Cond.fieldLink RX7 11 "OddBank$World" "kind" "[I" ∈ jv_Tg := jv_wc (p := 116) (by decide +kernel)
theorem jw_118 : Cond.fieldLink RX7 15 "OddBank$World" "born" "[I" ∈ jv_Tg := jv_wc (p := 118) (by decide +kernel)
theorem jw_120 : Cond.fieldLink RX7 18 "OddBank$World" "memory" "[I" ∈ jv_Tg := jv_wc (p := 120) (by decide +kernel)
theorem jw_122 : Cond.fieldLink RX7 21 "OddBank$World" "asks" "[I" ∈ jv_Tg := jv_wc (p := 122) (by decide +kernel)
theorem jw_126 : Cond.fieldLink RX7 24 "OddBank$World" "answers" "[I" ∈ jv_Tg := jv_wc (p := 126) (by decide +kernel)
theorem jw_130 : Cond.fieldLink RX7 27 "OddBank$World" "worth" "[I" ∈ jv_Tg := jv_wc (p := 130) (by decide +kernel)
theorem jw_133 : Cond.fieldLink RX7 30 "OddBank$World" "asked" "[I" ∈ jv_Tg := jv_wc (p := 133) (by decide +kernel)
theorem jw_94 : Cond.classLink RX7 33 RX5 ∈ jv_Tg := jv_wc (p := 94) (by decide +kernel)
theorem jw_95 : Cond.instantiable RX5 4 ∈ jv_Tg := jv_wc (p := 95) (by decide +kernel)
theorem jw_49 : Cond.initialized RX5 ∈ jv_Tg := jv_wc (p := 49) (by decide +kernel)
theorem jw_97 : Cond.instanceMethod yX5_init ∈ jv_Tg := jv_wc (p := 97) (by decide +kernel)
theorem jw_139 : Cond.fieldLink RX7 36 "OddBank$World" "seen" "LOddBank$Sightings;" ∈ jv_Tg := jv_wc (p := 139) (by decide +kernel)
theorem jw_69 : Cond.methodLink RX8 1 objectInit ∈ jv_Tg := jv_wc (p := 69) (by decide +kernel)
theorem jw_72 : Cond.classLink RX8 7 RX3 ∈ jv_Tg := jv_wc (p := 72) (by decide +kernel)
theorem jw_73 : Cond.instantiable RX3 2 ∈ jv_Tg := jv_wc (p := 73) (by decide +kernel)
theorem jw_47 : Cond.initialized RX3 ∈ jv_Tg := jv_wc (p := 47) (by decide +kernel)
theorem jw_75 : Cond.instanceMethod yX3_init ∈ jv_Tg := jv_wc (p := 75) (by decide +kernel)
theorem jw_243 : Cond.fieldLink RX8 10 "OddBank" "page" "LOddBank$Page;" ∈ jv_Tg := jv_wc (p := 243) (by decide +kernel)
theorem jw_88 : Cond.classLink RX8 16 RX7 ∈ jv_Tg := jv_wc (p := 88) (by decide +kernel)
theorem jw_89 : Cond.instantiable RX7 13 ∈ jv_Tg := jv_wc (p := 89) (by decide +kernel)
theorem jw_48 : Cond.initialized RX7 ∈ jv_Tg := jv_wc (p := 48) (by decide +kernel)
theorem jw_91 : Cond.instanceMethod yX7_init ∈ jv_Tg := jv_wc (p := 91) (by decide +kernel)
theorem jw_244 : Cond.fieldLink RX8 19 "OddBank" "world" "LOddBank$World;" ∈ jv_Tg := jv_wc (p := 244) (by decide +kernel)
theorem jw_245 : Cond.fieldLink RX8 23 "OddBank" "kept" "LOddBank$World;" ∈ jv_Tg := jv_wc (p := 245) (by decide +kernel)
theorem jw_188 : Cond.classLink RX8 26 RX4 ∈ jv_Tg := jv_wc (p := 188) (by decide +kernel)
theorem jw_189 : Cond.instantiable RX4 8 ∈ jv_Tg := jv_wc (p := 189) (by decide +kernel)
theorem jw_50 : Cond.initialized RX4 ∈ jv_Tg := jv_wc (p := 50) (by decide +kernel)
theorem jw_191 : Cond.instanceMethod yX4_init ∈ jv_Tg := jv_wc (p := 191) (by decide +kernel)
theorem jw_246 : Cond.fieldLink RX8 29 "OddBank" "plan" "LOddBank$Plan;" ∈ jv_Tg := jv_wc (p := 246) (by decide +kernel)
theorem jw_221 : Cond.classLink RX8 33 RX1 ∈ jv_Tg := jv_wc (p := 221) (by decide +kernel)
theorem jw_222 : Cond.instantiable RX1 4 ∈ jv_Tg := jv_wc (p := 222) (by decide +kernel)
theorem jw_51 : Cond.initialized RX1 ∈ jv_Tg := jv_wc (p := 51) (by decide +kernel)
theorem jw_224 : Cond.instanceMethod yX1_init ∈ jv_Tg := jv_wc (p := 224) (by decide +kernel)
theorem jw_247 : Cond.fieldLink RX8 36 "OddBank" "course" "LOddBank$Course;" ∈ jv_Tg := jv_wc (p := 247) (by decide +kernel)
theorem jw_701 : Cond.methodLink RX9 1 objectInit ∈ jv_Tg := jv_wc (p := 701) (by decide +kernel)
theorem jw_702 : Cond.fieldLink RX9 7 "OddBankModel" "page" "[I" ∈ jv_Tg := jv_wc (p := 702) (by decide +kernel)
theorem jw_710 : Cond.fieldLink RX9 13 "OddBankModel" "kinds" "[I" ∈ jv_Tg := jv_wc (p := 710) (by decide +kernel)
theorem jw_711 : Cond.fieldLink RX9 16 "OddBankModel" "born" "[I" ∈ jv_Tg := jv_wc (p := 711) (by decide +kernel)
theorem jw_712 : Cond.fieldLink RX9 19 "OddBankModel" "bank" "[I" ∈ jv_Tg := jv_wc (p := 712) (by decide +kernel)
theorem jw_713 : Cond.fieldLink RX9 22 "OddBankModel" "memory" "[I" ∈ jv_Tg := jv_wc (p := 713) (by decide +kernel)
theorem jw_714 : Cond.fieldLink RX9 25 "OddBankModel" "askers" "[I" ∈ jv_Tg := jv_wc (p := 714) (by decide +kernel)
theorem jw_715 : Cond.fieldLink RX9 28 "OddBankModel" "answerers" "[I" ∈ jv_Tg := jv_wc (p := 715) (by decide +kernel)
theorem jw_716 : Cond.fieldLink RX9 31 "OddBankModel" "worths" "[I" ∈ jv_Tg := jv_wc (p := 716) (by decide +kernel)
theorem jw_717 : Cond.fieldLink RX9 34 "OddBankModel" "stands" "[I" ∈ jv_Tg := jv_wc (p := 717) (by decide +kernel)
theorem jw_718 : Cond.fieldLink RX9 37 "OddBankModel" "askedOn" "[I" ∈ jv_Tg := jv_wc (p := 718) (by decide +kernel)
theorem jw_722 : Cond.fieldLink RX9 40 "OddBankModel" "standsThen" "[I" ∈ jv_Tg := jv_wc (p := 722) (by decide +kernel)
theorem jw_723 : Cond.fieldLink RX9 43 "OddBankModel" "askedThen" "[I" ∈ jv_Tg := jv_wc (p := 723) (by decide +kernel)
theorem jw_725 : Cond.fieldLink RX9 46 "OddBankModel" "bankNow" "[I" ∈ jv_Tg := jv_wc (p := 725) (by decide +kernel)
theorem jw_727 : Cond.fieldLink RX9 49 "OddBankModel" "sights" "[I" ∈ jv_Tg := jv_wc (p := 727) (by decide +kernel)
theorem jw_733 : Cond.fieldLink RX9 52 "OddBankModel" "keptKinds" "[I" ∈ jv_Tg := jv_wc (p := 733) (by decide +kernel)
theorem jw_734 : Cond.fieldLink RX9 55 "OddBankModel" "keptBank" "[I" ∈ jv_Tg := jv_wc (p := 734) (by decide +kernel)
theorem jw_735 : Cond.fieldLink RX9 58 "OddBankModel" "keptMemory" "[I" ∈ jv_Tg := jv_wc (p := 735) (by decide +kernel)
theorem jw_736 : Cond.fieldLink RX9 61 "OddBankModel" "keptWorths" "[I" ∈ jv_Tg := jv_wc (p := 736) (by decide +kernel)
theorem jw_737 : Cond.fieldLink RX9 64 "OddBankModel" "keptStands" "[I" ∈ jv_Tg := jv_wc (p := 737) (by decide +kernel)
theorem jw_738 : Cond.fieldLink RX9 67 "OddBankModel" "keptAsked" "[I" ∈ jv_Tg := jv_wc (p := 738) (by decide +kernel)
theorem jw_739 : Cond.fieldLink RX9 70 "OddBankModel" "keptSights" "[I" ∈ jv_Tg := jv_wc (p := 739) (by decide +kernel)
theorem jw_729 : Cond.fieldLink RX9 73 "OddBankModel" "keptRiver" "I" ∈ jv_Tg := jv_wc (p := 729) (by decide +kernel)
theorem jw_76 : Cond.code yX3_init cX3_init 1 none ∈ jv_Tg := jv_wc (p := 76) (by decide +kernel)
theorem jw_98 : Cond.code yX5_init cX5_init 1 none ∈ jv_Tg := jv_wc (p := 98) (by decide +kernel)
theorem jw_192 : Cond.code yX4_init cX4_init 1 none ∈ jv_Tg := jv_wc (p := 192) (by decide +kernel)
theorem jw_225 : Cond.code yX1_init cX1_init 1 none ∈ jv_Tg := jv_wc (p := 225) (by decide +kernel)
theorem jw_92 : Cond.code yX7_init cX7_init 1 none ∈ jv_Tg := jv_wc (p := 92) (by decide +kernel)
theorem jw_68 : Cond.code yX8_init cX8_init 1 none ∈ jv_Tg := jv_wc (p := 68) (by decide +kernel)
theorem jw_700 : Cond.code yX9_init cX9_init 1 none ∈ jv_Tg := jv_wc (p := 700) (by decide +kernel)
theorem g_X3 {a : Cond} : GoodIn (a :: jv_Tg) (kw yX3_init cX3_init) := fun w hw => by
  have h : w ∈ jv_Tg := by
    rcases List.mem_cons.mp hw with e | e
    · rw [e]; exact jw_76
    · exact e
  exact ⟨List.mem_cons_of_mem _ h, good_of_word (List.mem_filter.mp h).2⟩
theorem g_X5 {a : Cond} : GoodIn (a :: jv_Tg) (kw yX5_init cX5_init) := fun w hw => by
  have h : w ∈ jv_Tg := by
    rcases List.mem_cons.mp hw with e | e
    · rw [e]; exact jw_98
    · exact e
  exact ⟨List.mem_cons_of_mem _ h, good_of_word (List.mem_filter.mp h).2⟩
theorem g_X4 {a : Cond} : GoodIn (a :: jv_Tg) (kw yX4_init cX4_init) := fun w hw => by
  have h : w ∈ jv_Tg := by
    rcases List.mem_cons.mp hw with e | e
    · rw [e]; exact jw_192
    · exact e
  exact ⟨List.mem_cons_of_mem _ h, good_of_word (List.mem_filter.mp h).2⟩
theorem g_X1 {a : Cond} : GoodIn (a :: jv_Tg) (kw yX1_init cX1_init) := fun w hw => by
  have h : w ∈ jv_Tg := by
    rcases List.mem_cons.mp hw with e | e
    · rw [e]; exact jw_225
    · exact e
  exact ⟨List.mem_cons_of_mem _ h, good_of_word (List.mem_filter.mp h).2⟩
theorem g_X7 {a : Cond} : GoodIn (a :: jv_Tg) (kw yX7_init cX7_init) := fun w hw => by
  have h : w ∈ jv_Tg := by
    rcases List.mem_cons.mp hw with e | e
    · rw [e]; exact jw_92
    · exact e
  exact ⟨List.mem_cons_of_mem _ h, good_of_word (List.mem_filter.mp h).2⟩
theorem g_X8 {a : Cond} : GoodIn (a :: jv_Tg) (kw yX8_init cX8_init) := fun w hw => by
  have h : w ∈ jv_Tg := by
    rcases List.mem_cons.mp hw with e | e
    · rw [e]; exact jw_68
    · exact e
  exact ⟨List.mem_cons_of_mem _ h, good_of_word (List.mem_filter.mp h).2⟩
theorem g_X9 {a : Cond} : GoodIn (a :: jv_Tg) (kw yX9_init cX9_init) := fun w hw => by
  have h : w ∈ jv_Tg := by
    rcases List.mem_cons.mp hw with e | e
    · rw [e]; exact jw_700
    · exact e
  exact ⟨List.mem_cons_of_mem _ h, good_of_word (List.mem_filter.mp h).2⟩
