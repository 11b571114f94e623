/-- the good words of the tables: every method's contract asks them all -/
def gT : List Cond := lw_tbl.filter goodWord
theorem gT_good : ∀ w ∈ gT, goodWord w = true := fun w h => (List.mem_filter.mp h).2
theorem gT_tab {w : Cond} {i : Nat} (h : tables_1[i]? = some w) (g : goodWord w = true) : w ∈ gT := List.mem_filter.mpr ⟨List.mem_append_right _ (List.mem_of_getElem? h), g⟩
theorem gT_prv {q : MethodName × Nat} {i : Nat} (h : lw_privs[i]? = some q) (g : goodWord (Cond.selects q.1.cls q.1 q.1) = true) : Cond.selects q.1.cls q.1 q.1 ∈ gT := List.mem_filter.mpr ⟨List.mem_append_left _ (List.mem_map.mpr ⟨q, List.mem_of_getElem? h, rfl⟩), g⟩
theorem gT_list (ws : List Cond) (is : List Nat) (h : is.map (fun i => tables_1[i]?) = ws.map some) (g : ws.all goodWord = true) : ∀ w ∈ ws, w ∈ gT := by
  intro w hw
  obtain ⟨k, hk⟩ := List.getElem?_of_mem hw
  have h1 : (is.map (fun i => tables_1[i]?))[k]? = some (some w) := by rw [h, List.getElem?_map, hk]; rfl
  rw [List.getElem?_map] at h1
  obtain ⟨i, -, hi⟩ := Option.map_eq_some_iff.mp h1
  exact gT_tab hi (List.all_eq_true.mp g w hw)
theorem gT_t1 {w : Cond} {i : Nat} (h : tables_1_1[i]? = some w) (g : goodWord w = true) : w ∈ gT := List.mem_filter.mpr ⟨List.mem_append_right _ (List.mem_append_left _ (List.mem_of_getElem? h)), g⟩
theorem gT_t2 {w : Cond} {i : Nat} (h : tables_1_2[i]? = some w) (g : goodWord w = true) : w ∈ gT := List.mem_filter.mpr ⟨List.mem_append_right _ (List.mem_append_right _ (List.mem_append_left _ (List.mem_of_getElem? h))), g⟩
theorem gT_t3 {w : Cond} {i : Nat} (h : tables_1_3[i]? = some w) (g : goodWord w = true) : w ∈ gT := List.mem_filter.mpr ⟨List.mem_append_right _ (List.mem_append_right _ (List.mem_append_right _ (List.mem_append_left _ (List.mem_of_getElem? h)))), g⟩
theorem gT_t4 {w : Cond} {i : Nat} (h : tables_1_4[i]? = some w) (g : goodWord w = true) : w ∈ gT := List.mem_filter.mpr ⟨List.mem_append_right _ (List.mem_append_right _ (List.mem_append_right _ (List.mem_append_right _ (List.mem_append_left _ (List.mem_of_getElem? h))))), g⟩
theorem gT_t5 {w : Cond} {i : Nat} (h : tables_1_5[i]? = some w) (g : goodWord w = true) : w ∈ gT := List.mem_filter.mpr ⟨List.mem_append_right _ (List.mem_append_right _ (List.mem_append_right _ (List.mem_append_right _ (List.mem_append_right _ (List.mem_append_left _ (List.mem_of_getElem? h)))))), g⟩
theorem gT_t6 {w : Cond} {i : Nat} (h : tables_1_6[i]? = some w) (g : goodWord w = true) : w ∈ gT := List.mem_filter.mpr ⟨List.mem_append_right _ (List.mem_append_right _ (List.mem_append_right _ (List.mem_append_right _ (List.mem_append_right _ (List.mem_append_right _ (List.mem_append_left _ (List.mem_of_getElem? h))))))), g⟩
theorem gT_t7 {w : Cond} {i : Nat} (h : tables_1_7[i]? = some w) (g : goodWord w = true) : w ∈ gT := List.mem_filter.mpr ⟨List.mem_append_right _ (List.mem_append_right _ (List.mem_append_right _ (List.mem_append_right _ (List.mem_append_right _ (List.mem_append_right _ (List.mem_append_right _ (List.mem_append_left _ (List.mem_of_getElem? h)))))))), g⟩
theorem gT_t8 {w : Cond} {i : Nat} (h : tables_1_8[i]? = some w) (g : goodWord w = true) : w ∈ gT := List.mem_filter.mpr ⟨List.mem_append_right _ (List.mem_append_right _ (List.mem_append_right _ (List.mem_append_right _ (List.mem_append_right _ (List.mem_append_right _ (List.mem_append_right _ (List.mem_append_right _ (List.mem_append_left _ (List.mem_of_getElem? h))))))))), g⟩
theorem gT_t9 {w : Cond} {i : Nat} (h : tables_1_9[i]? = some w) (g : goodWord w = true) : w ∈ gT := List.mem_filter.mpr ⟨List.mem_append_right _ (List.mem_append_right _ (List.mem_append_right _ (List.mem_append_right _ (List.mem_append_right _ (List.mem_append_right _ (List.mem_append_right _ (List.mem_append_right _ (List.mem_append_right _ (List.mem_of_getElem? h))))))))), g⟩
theorem k_in_L : Cond.initialized "DelayLineStoreLaw" ∈ gT := gT_t1 (i := 0) (by decide +kernel) (by decide +kernel)
theorem k_in_X6 : Cond.initialized "DelayLineStore" ∈ gT := gT_t1 (i := 1) (by decide +kernel) (by decide +kernel)
theorem k_in_X2 : Cond.initialized "DelayLineStore$Computer" ∈ gT := gT_t1 (i := 2) (by decide +kernel) (by decide +kernel)
theorem k_in_X5 : Cond.initialized "DelayLineStore$Store" ∈ gT := gT_t1 (i := 3) (by decide +kernel) (by decide +kernel)
theorem k_in_X1 : Cond.initialized "DelayLineStore$Climate" ∈ gT := gT_t1 (i := 4) (by decide +kernel) (by decide +kernel)
theorem k_in_X4 : Cond.initialized "DelayLineStore$NumberQueue" ∈ gT := gT_t1 (i := 5) (by decide +kernel) (by decide +kernel)
theorem k_in_X0 : Cond.initialized "DelayLineStore$Assembler" ∈ gT := gT_t1 (i := 6) (by decide +kernel) (by decide +kernel)
theorem k_in_J5 : Cond.initialized "java/lang/AbstractStringBuilder" ∈ gT := gT_t1 (i := 7) (by decide +kernel) (by decide +kernel)
theorem k_in_J4 : Cond.initialized "java/lang/StringBuilder" ∈ gT := gT_t1 (i := 8) (by decide +kernel) (by decide +kernel)
theorem k_in_J0 : Cond.initialized "java/lang/String" ∈ gT := gT_t1 (i := 9) (by decide +kernel) (by decide +kernel)
theorem k_in_J2 : Cond.initialized "java/lang/StringUTF16" ∈ gT := gT_t1 (i := 10) (by decide +kernel) (by decide +kernel)
theorem k_in_X7 : Cond.initialized "DelayLineStoreModel" ∈ gT := gT_t1 (i := 11) (by decide +kernel) (by decide +kernel)
theorem k_in_java_lang_Throwable : Cond.initialized "java/lang/Throwable" ∈ gT := gT_t1 (i := 12) (by decide +kernel) (by decide +kernel)
theorem k_in_java_lang_Exception : Cond.initialized "java/lang/Exception" ∈ gT := gT_t1 (i := 13) (by decide +kernel) (by decide +kernel)
theorem k_in_java_lang_RuntimeException : Cond.initialized "java/lang/RuntimeException" ∈ gT := gT_t1 (i := 14) (by decide +kernel) (by decide +kernel)
theorem k_in_java_lang_IllegalStateException : Cond.initialized "java/lang/IllegalStateException" ∈ gT := gT_t1 (i := 15) (by decide +kernel) (by decide +kernel)
theorem k_in_java_lang_IndexOutOfBoundsException : Cond.initialized "java/lang/IndexOutOfBoundsException" ∈ gT := gT_t1 (i := 16) (by decide +kernel) (by decide +kernel)
theorem k_in_J9 : Cond.initialized "java/lang/Math" ∈ gT := gT_t1 (i := 17) (by decide +kernel) (by decide +kernel)
theorem k_in_X3 : Cond.initialized "DelayLineStore$Instruction" ∈ gT := gT_t1 (i := 18) (by decide +kernel) (by decide +kernel)
theorem k_in_J1 : Cond.initialized "java/lang/StringLatin1" ∈ gT := gT_t1 (i := 19) (by decide +kernel) (by decide +kernel)
theorem k_in_J3 : Cond.initialized "jdk/internal/util/Preconditions" ∈ gT := gT_t1 (i := 20) (by decide +kernel) (by decide +kernel)
theorem k_in_java_lang_IllegalArgumentException : Cond.initialized "java/lang/IllegalArgumentException" ∈ gT := gT_t1 (i := 21) (by decide +kernel) (by decide +kernel)
theorem k_in_Jxd2413 : Cond.initialized "java/lang/Number" ∈ gT := gT_t1 (i := 22) (by decide +kernel) (by decide +kernel)
theorem k_in_J6 : Cond.initialized "java/lang/Integer" ∈ gT := gT_t1 (i := 23) (by decide +kernel) (by decide +kernel)
theorem k_in_J10 : Cond.initialized "java/lang/System" ∈ gT := gT_t1 (i := 24) (by decide +kernel) (by decide +kernel)
theorem k_in_java_util_NoSuchElementException : Cond.initialized "java/util/NoSuchElementException" ∈ gT := gT_t1 (i := 25) (by decide +kernel) (by decide +kernel)
theorem k_in_Jx7c733 : Cond.initialized "java/lang/StringIndexOutOfBoundsException" ∈ gT := gT_t1 (i := 26) (by decide +kernel) (by decide +kernel)
theorem k_in_J8 : Cond.initialized "jdk/internal/util/ArraysSupport" ∈ gT := gT_t1 (i := 27) (by decide +kernel) (by decide +kernel)
theorem k_in_J7 : Cond.initialized "java/util/Arrays" ∈ gT := gT_t1 (i := 28) (by decide +kernel) (by decide +kernel)
theorem k_in_Jx00060 : Cond.initialized "java/lang/ArrayIndexOutOfBoundsException" ∈ gT := gT_t1 (i := 29) (by decide +kernel) (by decide +kernel)
theorem k_cl_L_8 : Cond.classLink RL 8 "DelayLineStore" ∈ gT := gT_t1 (i := 30) (by decide +kernel) (by decide +kernel)
theorem k_is_X6 : Cond.instantiable "DelayLineStore" 8 ∈ gT := gT_t1 (i := 31) (by decide +kernel) (by decide +kernel)
theorem k_ml_L_114 : Cond.methodLink RL 114 yX6_init ∈ gT := gT_t1 (i := 32) (by decide +kernel) (by decide +kernel)
theorem k_im_X6_init : Cond.instanceMethod yX6_init ∈ gT := gT_t1 (i := 33) (by decide +kernel) (by decide +kernel)
set_option maxRecDepth 10000 in
theorem k_cd_X6_init : Cond.code yX6_init cX6_init 1 none ∈ gT := gT_t1 (i := 34) rfl (by decide +kernel)
theorem k_ml_X6_3 : Cond.methodLink RX6 3 ⟨"java/lang/Object", "<init>", "()V"⟩ ∈ gT := gT_t1 (i := 35) (by decide +kernel) (by decide +kernel)
theorem k_cl_X6_9 : Cond.classLink RX6 9 "DelayLineStore$Computer" ∈ gT := gT_t1 (i := 38) (by decide +kernel) (by decide +kernel)
theorem k_is_X2 : Cond.instantiable "DelayLineStore$Computer" 12 ∈ gT := gT_t1 (i := 39) (by decide +kernel) (by decide +kernel)
theorem k_im_X2_init : Cond.instanceMethod yX2_init ∈ gT := gT_t1 (i := 41) (by decide +kernel) (by decide +kernel)
set_option maxRecDepth 10000 in
theorem k_cd_X2_init : Cond.code yX2_init cX2_init 1 none ∈ gT := gT_t1 (i := 42) rfl (by decide +kernel)
theorem k_ml_X2_3 : Cond.methodLink RX2 3 ⟨"java/lang/Object", "<init>", "()V"⟩ ∈ gT := gT_t1 (i := 43) (by decide +kernel) (by decide +kernel)
theorem k_cl_X2_9 : Cond.classLink RX2 9 "DelayLineStore$Store" ∈ gT := gT_t1 (i := 44) (by decide +kernel) (by decide +kernel)
theorem k_is_X5 : Cond.instantiable "DelayLineStore$Store" 4 ∈ gT := gT_t1 (i := 45) (by decide +kernel) (by decide +kernel)
theorem k_im_X5_init : Cond.instanceMethod yX5_init ∈ gT := gT_t1 (i := 47) (by decide +kernel) (by decide +kernel)
set_option maxRecDepth 10000 in
theorem k_cd_X5_init : Cond.code yX5_init cX5_init 1 none ∈ gT := gT_t1 (i := 48) rfl (by decide +kernel)
theorem k_ml_X5_3 : Cond.methodLink RX5 3 ⟨"java/lang/Object", "<init>", "()V"⟩ ∈ gT := gT_t1 (i := 49) (by decide +kernel) (by decide +kernel)
theorem k_fl_X5_9 : Cond.fieldLink RX5 9 RX5 (TX5 0).2.1 (TX5 0).2.2.1 ∈ gT := gT_t1 (i := 50) (by decide +kernel) (by decide +kernel)
theorem k_fl_X5_15 : Cond.fieldLink RX5 15 RX5 (TX5 1).2.1 (TX5 1).2.2.1 ∈ gT := gT_t1 (i := 51) (by decide +kernel) (by decide +kernel)
theorem k_fl_X5_18 : Cond.fieldLink RX5 18 RX5 (TX5 2).2.1 (TX5 2).2.2.1 ∈ gT := gT_t1 (i := 52) (by decide +kernel) (by decide +kernel)
theorem k_fl_X5_57 : Cond.fieldLink RX5 57 RX5 (TX5 3).2.1 (TX5 3).2.2.1 ∈ gT := gT_t1 (i := 53) (by decide +kernel) (by decide +kernel)
theorem k_fl_X6_136 : Cond.fieldLink RX6 136 RX5 (TX5 3).2.1 (TX5 3).2.2.1 ∈ gT := gT_t1 (i := 54) (by decide +kernel) (by decide +kernel)
theorem k_ac_int : Cond.arrayClass .int ∈ gT := gT_t1 (i := 64) (by decide +kernel) (by decide +kernel)
theorem k_cl_X2_18 : Cond.classLink RX2 18 "DelayLineStore$Climate" ∈ gT := gT_t1 (i := 65) (by decide +kernel) (by decide +kernel)
theorem k_is_X1 : Cond.instantiable "DelayLineStore$Climate" 5 ∈ gT := gT_t1 (i := 66) (by decide +kernel) (by decide +kernel)
theorem k_ml_X2_20 : Cond.methodLink RX2 20 yX1_init ∈ gT := gT_t1 (i := 67) (by decide +kernel) (by decide +kernel)
theorem k_im_X1_init : Cond.instanceMethod yX1_init ∈ gT := gT_t1 (i := 68) (by decide +kernel) (by decide +kernel)
set_option maxRecDepth 10000 in
theorem k_cd_X1_init : Cond.code yX1_init cX1_init 2 none ∈ gT := gT_t1 (i := 69) rfl (by decide +kernel)
theorem k_ml_X1_3 : Cond.methodLink RX1 3 ⟨"java/lang/Object", "<init>", "()V"⟩ ∈ gT := gT_t1 (i := 70) (by decide +kernel) (by decide +kernel)
theorem k_co_X1_22 : Cond.constant RX1 22 (1000000) ∈ gT := gT_t1 (i := 71) (by decide +kernel) (by decide +kernel)
theorem k_fl_X1_9 : Cond.fieldLink RX1 9 RX1 (TX1 0).2.1 (TX1 0).2.2.1 ∈ gT := gT_t1 (i := 72) (by decide +kernel) (by decide +kernel)
theorem k_fl_X1_15 : Cond.fieldLink RX1 15 RX1 (TX1 1).2.1 (TX1 1).2.2.1 ∈ gT := gT_t1 (i := 73) (by decide +kernel) (by decide +kernel)
theorem k_fl_X6_151 : Cond.fieldLink RX6 151 RX1 (TX1 1).2.1 (TX1 1).2.2.1 ∈ gT := gT_t1 (i := 74) (by decide +kernel) (by decide +kernel)
theorem k_fl_X1_19 : Cond.fieldLink RX1 19 RX1 (TX1 2).2.1 (TX1 2).2.2.1 ∈ gT := gT_t1 (i := 75) (by decide +kernel) (by decide +kernel)
theorem k_fl_X6_148 : Cond.fieldLink RX6 148 RX1 (TX1 2).2.1 (TX1 2).2.2.1 ∈ gT := gT_t1 (i := 76) (by decide +kernel) (by decide +kernel)
theorem k_fl_X1_23 : Cond.fieldLink RX1 23 RX1 (TX1 3).2.1 (TX1 3).2.2.1 ∈ gT := gT_t1 (i := 77) (by decide +kernel) (by decide +kernel)
theorem k_fl_X6_162 : Cond.fieldLink RX6 162 RX1 (TX1 3).2.1 (TX1 3).2.2.1 ∈ gT := gT_t1 (i := 78) (by decide +kernel) (by decide +kernel)
theorem k_fl_X1_34 : Cond.fieldLink RX1 34 RX1 (TX1 4).2.1 (TX1 4).2.2.1 ∈ gT := gT_t1 (i := 79) (by decide +kernel) (by decide +kernel)
theorem k_fl_X6_154 : Cond.fieldLink RX6 154 RX1 (TX1 4).2.1 (TX1 4).2.2.1 ∈ gT := gT_t1 (i := 80) (by decide +kernel) (by decide +kernel)
theorem k_cl_X2_25 : Cond.classLink RX2 25 "DelayLineStore$NumberQueue" ∈ gT := gT_t1 (i := 92) (by decide +kernel) (by decide +kernel)
theorem k_is_X4 : Cond.instantiable "DelayLineStore$NumberQueue" 3 ∈ gT := gT_t1 (i := 93) (by decide +kernel) (by decide +kernel)
theorem k_im_X4_init : Cond.instanceMethod yX4_init ∈ gT := gT_t1 (i := 95) (by decide +kernel) (by decide +kernel)
set_option maxRecDepth 10000 in
theorem k_cd_X4_init : Cond.code yX4_init cX4_init 1 none ∈ gT := gT_t1 (i := 96) rfl (by decide +kernel)
theorem k_ml_X4_3 : Cond.methodLink RX4 3 ⟨"java/lang/Object", "<init>", "()V"⟩ ∈ gT := gT_t1 (i := 97) (by decide +kernel) (by decide +kernel)
theorem k_fl_X4_9 : Cond.fieldLink RX4 9 RX4 (TX4 0).2.1 (TX4 0).2.2.1 ∈ gT := gT_t1 (i := 98) (by decide +kernel) (by decide +kernel)
theorem k_fl_X4_19 : Cond.fieldLink RX4 19 RX4 (TX4 1).2.1 (TX4 1).2.2.1 ∈ gT := gT_t1 (i := 99) (by decide +kernel) (by decide +kernel)
theorem k_fl_X4_15 : Cond.fieldLink RX4 15 RX4 (TX4 2).2.1 (TX4 2).2.2.1 ∈ gT := gT_t1 (i := 100) (by decide +kernel) (by decide +kernel)
theorem k_fl_X2_68 : Cond.fieldLink RX2 68 RX4 (TX4 2).2.1 (TX4 2).2.2.1 ∈ gT := gT_t1 (i := 101) (by decide +kernel) (by decide +kernel)
theorem k_fl_X6_227 : Cond.fieldLink RX6 227 RX4 (TX4 2).2.1 (TX4 2).2.2.1 ∈ gT := gT_t1 (i := 102) (by decide +kernel) (by decide +kernel)
theorem k_fl_X2_12 : Cond.fieldLink RX2 12 RX2 (TX2 0).2.1 (TX2 0).2.2.1 ∈ gT := gT_t1 (i := 110) (by decide +kernel) (by decide +kernel)
theorem k_fl_X6_72 : Cond.fieldLink RX6 72 RX2 (TX2 0).2.1 (TX2 0).2.2.1 ∈ gT := gT_t1 (i := 111) (by decide +kernel) (by decide +kernel)
theorem k_fl_X2_21 : Cond.fieldLink RX2 21 RX2 (TX2 1).2.1 (TX2 1).2.2.1 ∈ gT := gT_t1 (i := 112) (by decide +kernel) (by decide +kernel)
theorem k_fl_X6_126 : Cond.fieldLink RX6 126 RX2 (TX2 1).2.1 (TX2 1).2.2.1 ∈ gT := gT_t1 (i := 113) (by decide +kernel) (by decide +kernel)
theorem k_fl_X2_28 : Cond.fieldLink RX2 28 RX2 (TX2 2).2.1 (TX2 2).2.2.1 ∈ gT := gT_t1 (i := 114) (by decide +kernel) (by decide +kernel)
theorem k_fl_X6_213 : Cond.fieldLink RX6 213 RX2 (TX2 2).2.1 (TX2 2).2.2.1 ∈ gT := gT_t1 (i := 115) (by decide +kernel) (by decide +kernel)
theorem k_fl_X2_32 : Cond.fieldLink RX2 32 RX2 (TX2 3).2.1 (TX2 3).2.2.1 ∈ gT := gT_t1 (i := 116) (by decide +kernel) (by decide +kernel)
theorem k_fl_X6_228 : Cond.fieldLink RX6 228 RX2 (TX2 3).2.1 (TX2 3).2.2.1 ∈ gT := gT_t1 (i := 117) (by decide +kernel) (by decide +kernel)
theorem k_fl_X2_35 : Cond.fieldLink RX2 35 RX2 (TX2 4).2.1 (TX2 4).2.2.1 ∈ gT := gT_t1 (i := 118) (by decide +kernel) (by decide +kernel)
theorem k_fl_X2_46 : Cond.fieldLink RX2 46 RX2 (TX2 5).2.1 (TX2 5).2.2.1 ∈ gT := gT_t1 (i := 119) (by decide +kernel) (by decide +kernel)
theorem k_fl_X6_239 : Cond.fieldLink RX6 239 RX2 (TX2 5).2.1 (TX2 5).2.2.1 ∈ gT := gT_t1 (i := 120) (by decide +kernel) (by decide +kernel)
theorem k_fl_X2_133 : Cond.fieldLink RX2 133 RX2 (TX2 6).2.1 (TX2 6).2.2.1 ∈ gT := gT_t1 (i := 121) (by decide +kernel) (by decide +kernel)
theorem k_fl_X6_245 : Cond.fieldLink RX6 245 RX2 (TX2 6).2.1 (TX2 6).2.2.1 ∈ gT := gT_t1 (i := 122) (by decide +kernel) (by decide +kernel)
theorem k_fl_X2_126 : Cond.fieldLink RX2 126 RX2 (TX2 7).2.1 (TX2 7).2.2.1 ∈ gT := gT_t1 (i := 123) (by decide +kernel) (by decide +kernel)
theorem k_fl_X6_198 : Cond.fieldLink RX6 198 RX2 (TX2 7).2.1 (TX2 7).2.2.1 ∈ gT := gT_t1 (i := 124) (by decide +kernel) (by decide +kernel)
theorem k_fl_X2_39 : Cond.fieldLink RX2 39 RX2 (TX2 8).2.1 (TX2 8).2.2.1 ∈ gT := gT_t1 (i := 125) (by decide +kernel) (by decide +kernel)
theorem k_fl_X6_201 : Cond.fieldLink RX6 201 RX2 (TX2 8).2.1 (TX2 8).2.2.1 ∈ gT := gT_t1 (i := 126) (by decide +kernel) (by decide +kernel)
theorem k_fl_X2_43 : Cond.fieldLink RX2 43 RX2 (TX2 9).2.1 (TX2 9).2.2.1 ∈ gT := gT_t1 (i := 127) (by decide +kernel) (by decide +kernel)
theorem k_fl_X6_210 : Cond.fieldLink RX6 210 RX2 (TX2 9).2.1 (TX2 9).2.2.1 ∈ gT := gT_t1 (i := 128) (by decide +kernel) (by decide +kernel)
theorem k_fl_X2_89 : Cond.fieldLink RX2 89 RX2 (TX2 10).2.1 (TX2 10).2.2.1 ∈ gT := gT_t1 (i := 129) (by decide +kernel) (by decide +kernel)
theorem k_fl_X6_204 : Cond.fieldLink RX6 204 RX2 (TX2 10).2.1 (TX2 10).2.2.1 ∈ gT := gT_t1 (i := 130) (by decide +kernel) (by decide +kernel)
theorem k_fl_X2_101 : Cond.fieldLink RX2 101 RX2 (TX2 11).2.1 (TX2 11).2.2.1 ∈ gT := gT_t1 (i := 131) (by decide +kernel) (by decide +kernel)
theorem k_fl_X6_207 : Cond.fieldLink RX6 207 RX2 (TX2 11).2.1 (TX2 11).2.2.1 ∈ gT := gT_t1 (i := 132) (by decide +kernel) (by decide +kernel)
theorem k_cl_X6_25 : Cond.classLink RX6 25 "DelayLineStore$Assembler" ∈ gT := gT_t1 (i := 158) (by decide +kernel) (by decide +kernel)
theorem k_is_X0 : Cond.instantiable "DelayLineStore$Assembler" 13 ∈ gT := gT_t1 (i := 159) (by decide +kernel) (by decide +kernel)
theorem k_im_X0_init : Cond.instanceMethod yX0_init ∈ gT := gT_t1 (i := 161) (by decide +kernel) (by decide +kernel)
set_option maxRecDepth 10000 in
theorem k_cd_X0_init : Cond.code yX0_init cX0_init 1 none ∈ gT := gT_t1 (i := 162) rfl (by decide +kernel)
theorem k_ml_X0_3 : Cond.methodLink RX0 3 ⟨"java/lang/Object", "<init>", "()V"⟩ ∈ gT := gT_t1 (i := 163) (by decide +kernel) (by decide +kernel)
theorem k_fl_X0_9 : Cond.fieldLink RX0 9 RX0 (TX0 0).2.1 (TX0 0).2.2.1 ∈ gT := gT_t1 (i := 164) (by decide +kernel) (by decide +kernel)
theorem k_fl_X6_39 : Cond.fieldLink RX6 39 RX0 (TX0 1).2.1 (TX0 1).2.2.1 ∈ gT := gT_t1 (i := 165) (by decide +kernel) (by decide +kernel)
theorem k_fl_X0_29 : Cond.fieldLink RX0 29 RX0 (TX0 1).2.1 (TX0 1).2.2.1 ∈ gT := gT_t1 (i := 166) (by decide +kernel) (by decide +kernel)
theorem k_fl_X6_95 : Cond.fieldLink RX6 95 RX0 (TX0 2).2.1 (TX0 2).2.2.1 ∈ gT := gT_t1 (i := 167) (by decide +kernel) (by decide +kernel)
theorem k_fl_X0_41 : Cond.fieldLink RX0 41 RX0 (TX0 2).2.1 (TX0 2).2.2.1 ∈ gT := gT_t1 (i := 168) (by decide +kernel) (by decide +kernel)
theorem k_fl_X0_15 : Cond.fieldLink RX0 15 RX0 (TX0 3).2.1 (TX0 3).2.2.1 ∈ gT := gT_t1 (i := 169) (by decide +kernel) (by decide +kernel)
theorem k_fl_X6_98 : Cond.fieldLink RX6 98 RX0 (TX0 3).2.1 (TX0 3).2.2.1 ∈ gT := gT_t1 (i := 170) (by decide +kernel) (by decide +kernel)
theorem k_fl_X0_19 : Cond.fieldLink RX0 19 RX0 (TX0 4).2.1 (TX0 4).2.2.1 ∈ gT := gT_t1 (i := 171) (by decide +kernel) (by decide +kernel)
theorem k_fl_X0_22 : Cond.fieldLink RX0 22 RX0 (TX0 5).2.1 (TX0 5).2.2.1 ∈ gT := gT_t1 (i := 172) (by decide +kernel) (by decide +kernel)
theorem k_fl_X6_92 : Cond.fieldLink RX6 92 RX0 (TX0 6).2.1 (TX0 6).2.2.1 ∈ gT := gT_t1 (i := 173) (by decide +kernel) (by decide +kernel)
theorem k_fl_X0_77 : Cond.fieldLink RX0 77 RX0 (TX0 6).2.1 (TX0 6).2.2.1 ∈ gT := gT_t1 (i := 174) (by decide +kernel) (by decide +kernel)
theorem k_fl_X0_26 : Cond.fieldLink RX0 26 RX0 (TX0 7).2.1 (TX0 7).2.2.1 ∈ gT := gT_t1 (i := 175) (by decide +kernel) (by decide +kernel)
theorem k_fl_X6_86 : Cond.fieldLink RX6 86 RX0 (TX0 7).2.1 (TX0 7).2.2.1 ∈ gT := gT_t1 (i := 176) (by decide +kernel) (by decide +kernel)
theorem k_fl_X0_57 : Cond.fieldLink RX0 57 RX0 (TX0 8).2.1 (TX0 8).2.2.1 ∈ gT := gT_t1 (i := 177) (by decide +kernel) (by decide +kernel)
theorem k_fl_X0_38 : Cond.fieldLink RX0 38 RX0 (TX0 9).2.1 (TX0 9).2.2.1 ∈ gT := gT_t1 (i := 178) (by decide +kernel) (by decide +kernel)
theorem k_fl_X0_123 : Cond.fieldLink RX0 123 RX0 (TX0 10).2.1 (TX0 10).2.2.1 ∈ gT := gT_t1 (i := 179) (by decide +kernel) (by decide +kernel)
theorem k_fl_X0_80 : Cond.fieldLink RX0 80 RX0 (TX0 11).2.1 (TX0 11).2.2.1 ∈ gT := gT_t1 (i := 180) (by decide +kernel) (by decide +kernel)
theorem k_fl_X0_113 : Cond.fieldLink RX0 113 RX0 (TX0 12).2.1 (TX0 12).2.2.1 ∈ gT := gT_t1 (i := 181) (by decide +kernel) (by decide +kernel)
theorem k_ac_boolean : Cond.arrayClass .boolean ∈ gT := gT_t1 (i := 209) (by decide +kernel) (by decide +kernel)
theorem k_cl_X6_32 : Cond.classLink RX6 32 "java/lang/StringBuilder" ∈ gT := gT_t1 (i := 210) (by decide +kernel) (by decide +kernel)
theorem k_is_J4 : Cond.instantiable "java/lang/StringBuilder" 4 ∈ gT := gT_t1 (i := 211) (by decide +kernel) (by decide +kernel)
theorem k_ml_X6_34 : Cond.methodLink RX6 34 yJ4_init_da8c8 ∈ gT := gT_t1 (i := 212) (by decide +kernel) (by decide +kernel)
theorem k_im_J4_init_da8c8 : Cond.instanceMethod yJ4_init_da8c8 ∈ gT := gT_t1 (i := 213) (by decide +kernel) (by decide +kernel)
set_option maxRecDepth 10000 in
theorem k_cd_J4_init_da8c8 : Cond.code yJ4_init_da8c8 cJ4_init_da8c8 1 none ∈ gT := gT_t1 (i := 214) rfl (by decide +kernel)
theorem k_ml_J4_1 : Cond.methodLink RJ4 1 yJ5_init_d00df ∈ gT := gT_t1 (i := 215) (by decide +kernel) (by decide +kernel)
theorem k_im_J5_init_d00df : Cond.instanceMethod yJ5_init_d00df ∈ gT := gT_t1 (i := 216) (by decide +kernel) (by decide +kernel)
set_option maxRecDepth 10000 in
theorem k_cd_J5_init_d00df : Cond.code yJ5_init_d00df cJ5_init_d00df 2 none ∈ gT := gT_t1 (i := 217) rfl (by decide +kernel)
theorem k_ml_J5_3 : Cond.methodLink RJ5 3 ⟨"java/lang/Object", "<init>", "()V"⟩ ∈ gT := gT_t1 (i := 218) (by decide +kernel) (by decide +kernel)
theorem k_fl_J5_18 : Cond.fieldLink RJ5 18 "java/lang/String" "COMPACT_STRINGS" "Z" ∈ gT := gT_t1 (i := 219) (by decide +kernel) (by decide +kernel)
theorem k_ml_J5_26 : Cond.methodLink RJ5 26 yJ2_newBytesFor_77867 ∈ gT := gT_t1 (i := 221) (by decide +kernel) (by decide +kernel)
theorem k_st_J2_newBytesFor_77867 : Cond.static yJ2_newBytesFor_77867 ∈ gT := gT_t1 (i := 222) (by decide +kernel) (by decide +kernel)
set_option maxRecDepth 10000 in
theorem k_cd_J2_newBytesFor_77867 : Cond.code yJ2_newBytesFor_77867 cJ2_newBytesFor_77867 1 (some (.array .byte)) ∈ gT := gT_t1 (i := 223) rfl (by decide +kernel)
theorem k_ml_J2_11 : Cond.methodLink RJ2 11 yJ2_newBytesLength_0f7a4 ∈ gT := gT_t1 (i := 224) (by decide +kernel) (by decide +kernel)
theorem k_st_J2_newBytesLength_0f7a4 : Cond.static yJ2_newBytesLength_0f7a4 ∈ gT := gT_t1 (i := 225) (by decide +kernel) (by decide +kernel)
set_option maxRecDepth 10000 in
theorem k_cd_J2_newBytesLength_0f7a4 : Cond.code yJ2_newBytesLength_0f7a4 cJ2_newBytesLength_0f7a4 1 (some .int) ∈ gT := gT_t1 (i := 226) rfl (by decide +kernel)
theorem k_co_J2_20 : Cond.constant RJ2 20 (1073741823) ∈ gT := gT_t1 (i := 227) (by decide +kernel) (by decide +kernel)
theorem k_fl_J5_15 : Cond.fieldLink RJ5 15 "java/lang/AbstractStringBuilder" "value" "[B" ∈ gT := gT_t1 (i := 228) (by decide +kernel) (by decide +kernel)
theorem k_fl_J5_22 : Cond.fieldLink RJ5 22 "java/lang/AbstractStringBuilder" "coder" "B" ∈ gT := gT_t1 (i := 229) (by decide +kernel) (by decide +kernel)
theorem k_fl_J5_73 : Cond.fieldLink RJ5 73 "java/lang/AbstractStringBuilder" "maybeLatin1" "Z" ∈ gT := gT_t1 (i := 230) (by decide +kernel) (by decide +kernel)
theorem k_fl_J0_1048 : Cond.fieldLink RJ0 1048 "java/lang/AbstractStringBuilder" "maybeLatin1" "Z" ∈ gT := gT_t1 (i := 231) (by decide +kernel) (by decide +kernel)
theorem k_fl_J5_79 : Cond.fieldLink RJ5 79 "java/lang/AbstractStringBuilder" "count" "I" ∈ gT := gT_t1 (i := 232) (by decide +kernel) (by decide +kernel)
theorem k_ac_byte : Cond.arrayClass .byte ∈ gT := gT_t2 (i := 2) (by decide +kernel) (by decide +kernel)
theorem k_fl_X6_12 : Cond.fieldLink RX6 12 RX6 (TX6 0).2.1 (TX6 0).2.2.1 ∈ gT := gT_t2 (i := 3) (by decide +kernel) (by decide +kernel)
theorem k_fl_X6_16 : Cond.fieldLink RX6 16 RX6 (TX6 1).2.1 (TX6 1).2.2.1 ∈ gT := gT_t2 (i := 4) (by decide +kernel) (by decide +kernel)
theorem k_fl_X6_19 : Cond.fieldLink RX6 19 RX6 (TX6 2).2.1 (TX6 2).2.2.1 ∈ gT := gT_t2 (i := 5) (by decide +kernel) (by decide +kernel)
theorem k_fl_X6_22 : Cond.fieldLink RX6 22 RX6 (TX6 3).2.1 (TX6 3).2.2.1 ∈ gT := gT_t2 (i := 6) (by decide +kernel) (by decide +kernel)
theorem k_fl_X6_318 : Cond.fieldLink RX6 318 RX6 (TX6 4).2.1 (TX6 4).2.2.1 ∈ gT := gT_t2 (i := 7) (by decide +kernel) (by decide +kernel)
theorem k_fl_X6_321 : Cond.fieldLink RX6 321 RX6 (TX6 5).2.1 (TX6 5).2.2.1 ∈ gT := gT_t2 (i := 8) (by decide +kernel) (by decide +kernel)
theorem k_fl_X6_28 : Cond.fieldLink RX6 28 RX6 (TX6 6).2.1 (TX6 6).2.2.1 ∈ gT := gT_t2 (i := 9) (by decide +kernel) (by decide +kernel)
theorem k_fl_X6_35 : Cond.fieldLink RX6 35 RX6 (TX6 7).2.1 (TX6 7).2.2.1 ∈ gT := gT_t2 (i := 10) (by decide +kernel) (by decide +kernel)
theorem k_ml_L_135 : Cond.methodLink RL 135 yX6_errorCode ∈ gT := gT_t2 (i := 28) (by decide +kernel) (by decide +kernel)
theorem k_im_X6_errorCode : Cond.instanceMethod yX6_errorCode ∈ gT := gT_t2 (i := 29) (by decide +kernel) (by decide +kernel)
theorem k_se_X6_errorCode : Cond.selects RX6 yX6_errorCode yX6_errorCode ∈ gT := gT_t2 (i := 30) (by decide +kernel) (by decide +kernel)
set_option maxRecDepth 10000 in
theorem k_cd_X6_errorCode : Cond.code yX6_errorCode cX6_errorCode 1 (some .int) ∈ gT := gT_t2 (i := 31) rfl (by decide +kernel)
theorem k_ml_L_139 : Cond.methodLink RL 139 yX6_errorPosition ∈ gT := gT_t2 (i := 32) (by decide +kernel) (by decide +kernel)
theorem k_im_X6_errorPosition : Cond.instanceMethod yX6_errorPosition ∈ gT := gT_t2 (i := 33) (by decide +kernel) (by decide +kernel)
theorem k_se_X6_errorPosition : Cond.selects RX6 yX6_errorPosition yX6_errorPosition ∈ gT := gT_t2 (i := 34) (by decide +kernel) (by decide +kernel)
set_option maxRecDepth 10000 in
theorem k_cd_X6_errorPosition : Cond.code yX6_errorPosition cX6_errorPosition 1 (some .int) ∈ gT := gT_t2 (i := 35) rfl (by decide +kernel)
theorem k_ml_L_164 : Cond.methodLink RL 164 yX6_dropouts ∈ gT := gT_t2 (i := 36) (by decide +kernel) (by decide +kernel)
theorem k_im_X6_dropouts : Cond.instanceMethod yX6_dropouts ∈ gT := gT_t2 (i := 37) (by decide +kernel) (by decide +kernel)
theorem k_se_X6_dropouts : Cond.selects RX6 yX6_dropouts yX6_dropouts ∈ gT := gT_t2 (i := 38) (by decide +kernel) (by decide +kernel)
set_option maxRecDepth 10000 in
theorem k_cd_X6_dropouts : Cond.code yX6_dropouts cX6_dropouts 1 (some .int) ∈ gT := gT_t2 (i := 39) rfl (by decide +kernel)
theorem k_ml_L_180 : Cond.methodLink RL 180 yX6_setPilot ∈ gT := gT_t2 (i := 40) (by decide +kernel) (by decide +kernel)
theorem k_im_X6_setPilot : Cond.instanceMethod yX6_setPilot ∈ gT := gT_t2 (i := 41) (by decide +kernel) (by decide +kernel)
theorem k_se_X6_setPilot : Cond.selects RX6 yX6_setPilot yX6_setPilot ∈ gT := gT_t2 (i := 42) (by decide +kernel) (by decide +kernel)
set_option maxRecDepth 10000 in
theorem k_cd_X6_setPilot : Cond.code yX6_setPilot cX6_setPilot 3 (some .boolean) ∈ gT := gT_t2 (i := 43) rfl (by decide +kernel)
theorem k_ml_L_188 : Cond.methodLink RL 188 yX6_period ∈ gT := gT_t2 (i := 44) (by decide +kernel) (by decide +kernel)
theorem k_im_X6_period : Cond.instanceMethod yX6_period ∈ gT := gT_t2 (i := 45) (by decide +kernel) (by decide +kernel)
theorem k_se_X6_period : Cond.selects RX6 yX6_period yX6_period ∈ gT := gT_t2 (i := 46) (by decide +kernel) (by decide +kernel)
set_option maxRecDepth 10000 in
theorem k_cd_X6_period : Cond.code yX6_period cX6_period 1 (some .int) ∈ gT := gT_t2 (i := 47) rfl (by decide +kernel)
theorem k_ml_X6_165 : Cond.methodLink RX6 165 yX1_clockPeriod ∈ gT := gT_t2 (i := 48) (by decide +kernel) (by decide +kernel)
theorem k_im_X1_clockPeriod : Cond.instanceMethod yX1_clockPeriod ∈ gT := gT_t2 (i := 49) (by decide +kernel) (by decide +kernel)
theorem k_se_X1_clockPeriod : Cond.selects RX1 yX1_clockPeriod yX1_clockPeriod ∈ gT := gT_t2 (i := 50) (by decide +kernel) (by decide +kernel)
set_option maxRecDepth 10000 in
theorem k_cd_X1_clockPeriod : Cond.code yX1_clockPeriod cX1_clockPeriod 1 (some .int) ∈ gT := gT_t2 (i := 51) rfl (by decide +kernel)
theorem k_st_X6_delayOf : Cond.static yX6_delayOf ∈ gT := gT_t2 (i := 53) (by decide +kernel) (by decide +kernel)
set_option maxRecDepth 10000 in
theorem k_cd_X6_delayOf : Cond.code yX6_delayOf cX6_delayOf 1 (some .int) ∈ gT := gT_t2 (i := 54) rfl (by decide +kernel)
theorem k_co_X6_342 : Cond.constant RX6 342 (640000000) ∈ gT := gT_t2 (i := 55) (by decide +kernel) (by decide +kernel)
theorem k_ml_L_195 : Cond.methodLink RL 195 yX6_leastSafeTemperature ∈ gT := gT_t2 (i := 56) (by decide +kernel) (by decide +kernel)
theorem k_im_X6_leastSafeTemperature : Cond.instanceMethod yX6_leastSafeTemperature ∈ gT := gT_t2 (i := 57) (by decide +kernel) (by decide +kernel)
theorem k_se_X6_leastSafeTemperature : Cond.selects RX6 yX6_leastSafeTemperature yX6_leastSafeTemperature ∈ gT := gT_t2 (i := 58) (by decide +kernel) (by decide +kernel)
set_option maxRecDepth 10000 in
theorem k_cd_X6_leastSafeTemperature : Cond.code yX6_leastSafeTemperature cX6_leastSafeTemperature 3 (some .int) ∈ gT := gT_t2 (i := 59) rfl (by decide +kernel)
theorem k_ml_X6_172 : Cond.methodLink RX6 172 yX6_isSafe ∈ gT := gT_t2 (i := 60) (by decide +kernel) (by decide +kernel)
theorem k_st_X6_isSafe : Cond.static yX6_isSafe ∈ gT := gT_t2 (i := 61) (by decide +kernel) (by decide +kernel)
set_option maxRecDepth 10000 in
theorem k_cd_X6_isSafe : Cond.code yX6_isSafe cX6_isSafe 2 (some .boolean) ∈ gT := gT_t2 (i := 62) rfl (by decide +kernel)
theorem k_ml_X6_169 : Cond.methodLink RX6 169 yX6_mismatchOf ∈ gT := gT_t2 (i := 63) (by decide +kernel) (by decide +kernel)
theorem k_st_X6_mismatchOf : Cond.static yX6_mismatchOf ∈ gT := gT_t2 (i := 64) (by decide +kernel) (by decide +kernel)
set_option maxRecDepth 10000 in
theorem k_cd_X6_mismatchOf : Cond.code yX6_mismatchOf cX6_mismatchOf 2 (some .int) ∈ gT := gT_t2 (i := 65) rfl (by decide +kernel)
theorem k_ml_X6_343 : Cond.methodLink RX6 343 yX6_delayOf ∈ gT := gT_t2 (i := 66) (by decide +kernel) (by decide +kernel)
theorem k_ml_X6_346 : Cond.methodLink RX6 346 yJ9_abs_0f7a4 ∈ gT := gT_t2 (i := 67) (by decide +kernel) (by decide +kernel)
theorem k_st_J9_abs_0f7a4 : Cond.static yJ9_abs_0f7a4 ∈ gT := gT_t2 (i := 68) (by decide +kernel) (by decide +kernel)
set_option maxRecDepth 10000 in
theorem k_cd_J9_abs_0f7a4 : Cond.code yJ9_abs_0f7a4 cJ9_abs_0f7a4 1 (some .int) ∈ gT := gT_t2 (i := 69) rfl (by decide +kernel)
theorem k_ml_L_199 : Cond.methodLink RL 199 yX6_greatestSafeTemperature ∈ gT := gT_t2 (i := 70) (by decide +kernel) (by decide +kernel)
theorem k_im_X6_greatestSafeTemperature : Cond.instanceMethod yX6_greatestSafeTemperature ∈ gT := gT_t2 (i := 71) (by decide +kernel) (by decide +kernel)
theorem k_se_X6_greatestSafeTemperature : Cond.selects RX6 yX6_greatestSafeTemperature yX6_greatestSafeTemperature ∈ gT := gT_t2 (i := 72) (by decide +kernel) (by decide +kernel)
set_option maxRecDepth 10000 in
theorem k_cd_X6_greatestSafeTemperature : Cond.code yX6_greatestSafeTemperature cX6_greatestSafeTemperature 3 (some .int) ∈ gT := gT_t2 (i := 73) rfl (by decide +kernel)
theorem k_ml_L_203 : Cond.methodLink RL 203 yX6_unsafeAfter ∈ gT := gT_t2 (i := 74) (by decide +kernel) (by decide +kernel)
theorem k_im_X6_unsafeAfter : Cond.instanceMethod yX6_unsafeAfter ∈ gT := gT_t2 (i := 75) (by decide +kernel) (by decide +kernel)
theorem k_se_X6_unsafeAfter : Cond.selects RX6 yX6_unsafeAfter yX6_unsafeAfter ∈ gT := gT_t2 (i := 76) (by decide +kernel) (by decide +kernel)
set_option maxRecDepth 10000 in
theorem k_cd_X6_unsafeAfter : Cond.code yX6_unsafeAfter cX6_unsafeAfter 3 (some .int) ∈ gT := gT_t2 (i := 77) rfl (by decide +kernel)
theorem k_ml_X6_176 : Cond.methodLink RX6 176 yX1_copyFrom ∈ gT := gT_t2 (i := 78) (by decide +kernel) (by decide +kernel)
theorem k_im_X1_copyFrom : Cond.instanceMethod yX1_copyFrom ∈ gT := gT_t2 (i := 79) (by decide +kernel) (by decide +kernel)
theorem k_se_X1_copyFrom : Cond.selects RX1 yX1_copyFrom yX1_copyFrom ∈ gT := gT_t2 (i := 80) (by decide +kernel) (by decide +kernel)
set_option maxRecDepth 10000 in
theorem k_cd_X1_copyFrom : Cond.code yX1_copyFrom cX1_copyFrom 2 none ∈ gT := gT_t2 (i := 81) rfl (by decide +kernel)
theorem k_st_X6_copyRow : Cond.static yX6_copyRow ∈ gT := gT_t2 (i := 83) (by decide +kernel) (by decide +kernel)
set_option maxRecDepth 10000 in
theorem k_cd_X6_copyRow : Cond.code yX6_copyRow cX6_copyRow 2 none ∈ gT := gT_t2 (i := 84) rfl (by decide +kernel)
theorem k_ml_X6_351 : Cond.methodLink RX6 351 yJ9_min_7cf53 ∈ gT := gT_t2 (i := 85) (by decide +kernel) (by decide +kernel)
theorem k_st_J9_min_7cf53 : Cond.static yJ9_min_7cf53 ∈ gT := gT_t2 (i := 86) (by decide +kernel) (by decide +kernel)
set_option maxRecDepth 10000 in
theorem k_cd_J9_min_7cf53 : Cond.code yJ9_min_7cf53 cJ9_min_7cf53 2 (some .int) ∈ gT := gT_t2 (i := 87) rfl (by decide +kernel)
theorem k_ml_X6_354 : Cond.methodLink RX6 354 ⟨"java/lang/System", "arraycopy", "(Ljava/lang/Object;ILjava/lang/Object;II)V"⟩ ∈ gT := gT_t2 (i := 88) (by decide +kernel) (by decide +kernel)
theorem k_ml_X6_180 : Cond.methodLink RX6 180 yX1_allTanksSafe ∈ gT := gT_t2 (i := 91) (by decide +kernel) (by decide +kernel)
theorem k_im_X1_allTanksSafe : Cond.instanceMethod yX1_allTanksSafe ∈ gT := gT_t2 (i := 92) (by decide +kernel) (by decide +kernel)
theorem k_se_X1_allTanksSafe : Cond.selects RX1 yX1_allTanksSafe yX1_allTanksSafe ∈ gT := gT_t2 (i := 93) (by decide +kernel) (by decide +kernel)
set_option maxRecDepth 10000 in
theorem k_cd_X1_allTanksSafe : Cond.code yX1_allTanksSafe cX1_allTanksSafe 3 (some .boolean) ∈ gT := gT_t2 (i := 94) rfl (by decide +kernel)
theorem k_ml_X1_41 : Cond.methodLink RX1 41 yX1_clockPeriod ∈ gT := gT_t2 (i := 95) (by decide +kernel) (by decide +kernel)
theorem k_ml_X1_26 : Cond.methodLink RX1 26 yX1_temperatureOf ∈ gT := gT_t2 (i := 96) (by decide +kernel) (by decide +kernel)
theorem k_im_X1_temperatureOf : Cond.instanceMethod yX1_temperatureOf ∈ gT := gT_t2 (i := 97) (by decide +kernel) (by decide +kernel)
theorem k_se_X1_temperatureOf : Cond.selects RX1 yX1_temperatureOf yX1_temperatureOf ∈ gT := gT_t2 (i := 98) (by decide +kernel) (by decide +kernel)
set_option maxRecDepth 10000 in
theorem k_cd_X1_temperatureOf : Cond.code yX1_temperatureOf cX1_temperatureOf 2 (some .int) ∈ gT := gT_t2 (i := 99) rfl (by decide +kernel)
theorem k_ml_X6_183 : Cond.methodLink RX6 183 yX1_drift ∈ gT := gT_t2 (i := 101) (by decide +kernel) (by decide +kernel)
theorem k_im_X1_drift : Cond.instanceMethod yX1_drift ∈ gT := gT_t2 (i := 102) (by decide +kernel) (by decide +kernel)
theorem k_se_X1_drift : Cond.selects RX1 yX1_drift yX1_drift ∈ gT := gT_t2 (i := 103) (by decide +kernel) (by decide +kernel)
set_option maxRecDepth 10000 in
theorem k_cd_X1_drift : Cond.code yX1_drift cX1_drift 3 none ∈ gT := gT_t2 (i := 104) rfl (by decide +kernel)
theorem k_ml_X1_30 : Cond.methodLink RX1 30 yX1_putTemperature ∈ gT := gT_t2 (i := 105) (by decide +kernel) (by decide +kernel)
theorem k_im_X1_putTemperature : Cond.instanceMethod yX1_putTemperature ∈ gT := gT_t2 (i := 106) (by decide +kernel) (by decide +kernel)
theorem k_se_X1_putTemperature : Cond.selects RX1 yX1_putTemperature yX1_putTemperature ∈ gT := gT_t2 (i := 107) (by decide +kernel) (by decide +kernel)
set_option maxRecDepth 10000 in
theorem k_cd_X1_putTemperature : Cond.code yX1_putTemperature cX1_putTemperature 3 none ∈ gT := gT_t2 (i := 108) rfl (by decide +kernel)
theorem k_ml_L_216 : Cond.methodLink RL 216 yX6_time ∈ gT := gT_t2 (i := 109) (by decide +kernel) (by decide +kernel)
theorem k_im_X6_time : Cond.instanceMethod yX6_time ∈ gT := gT_t2 (i := 110) (by decide +kernel) (by decide +kernel)
theorem k_se_X6_time : Cond.selects RX6 yX6_time yX6_time ∈ gT := gT_t2 (i := 111) (by decide +kernel) (by decide +kernel)
set_option maxRecDepth 10000 in
theorem k_cd_X6_time : Cond.code yX6_time cX6_time 1 (some .int) ∈ gT := gT_t2 (i := 112) rfl (by decide +kernel)
theorem k_ml_L_220 : Cond.methodLink RL 220 yX6_state ∈ gT := gT_t2 (i := 113) (by decide +kernel) (by decide +kernel)
theorem k_im_X6_state : Cond.instanceMethod yX6_state ∈ gT := gT_t2 (i := 114) (by decide +kernel) (by decide +kernel)
theorem k_se_X6_state : Cond.selects RX6 yX6_state yX6_state ∈ gT := gT_t2 (i := 115) (by decide +kernel) (by decide +kernel)
set_option maxRecDepth 10000 in
theorem k_cd_X6_state : Cond.code yX6_state cX6_state 1 (some .int) ∈ gT := gT_t2 (i := 116) rfl (by decide +kernel)
theorem k_ml_L_224 : Cond.methodLink RL 224 yX6_accumulator ∈ gT := gT_t2 (i := 117) (by decide +kernel) (by decide +kernel)
theorem k_im_X6_accumulator : Cond.instanceMethod yX6_accumulator ∈ gT := gT_t2 (i := 118) (by decide +kernel) (by decide +kernel)
theorem k_se_X6_accumulator : Cond.selects RX6 yX6_accumulator yX6_accumulator ∈ gT := gT_t2 (i := 119) (by decide +kernel) (by decide +kernel)
set_option maxRecDepth 10000 in
theorem k_cd_X6_accumulator : Cond.code yX6_accumulator cX6_accumulator 1 (some .int) ∈ gT := gT_t2 (i := 120) rfl (by decide +kernel)
theorem k_ml_L_228 : Cond.methodLink RL 228 yX6_hasOverflow ∈ gT := gT_t2 (i := 121) (by decide +kernel) (by decide +kernel)
theorem k_im_X6_hasOverflow : Cond.instanceMethod yX6_hasOverflow ∈ gT := gT_t2 (i := 122) (by decide +kernel) (by decide +kernel)
theorem k_se_X6_hasOverflow : Cond.selects RX6 yX6_hasOverflow yX6_hasOverflow ∈ gT := gT_t2 (i := 123) (by decide +kernel) (by decide +kernel)
set_option maxRecDepth 10000 in
theorem k_cd_X6_hasOverflow : Cond.code yX6_hasOverflow cX6_hasOverflow 1 (some .boolean) ∈ gT := gT_t2 (i := 124) rfl (by decide +kernel)
theorem k_ml_L_233 : Cond.methodLink RL 233 yX6_location ∈ gT := gT_t2 (i := 125) (by decide +kernel) (by decide +kernel)
theorem k_im_X6_location : Cond.instanceMethod yX6_location ∈ gT := gT_t2 (i := 126) (by decide +kernel) (by decide +kernel)
theorem k_se_X6_location : Cond.selects RX6 yX6_location yX6_location ∈ gT := gT_t2 (i := 127) (by decide +kernel) (by decide +kernel)
set_option maxRecDepth 10000 in
theorem k_cd_X6_location : Cond.code yX6_location cX6_location 1 (some .int) ∈ gT := gT_t2 (i := 128) rfl (by decide +kernel)
theorem k_ml_L_243 : Cond.methodLink RL 243 yX6_outputLength ∈ gT := gT_t2 (i := 129) (by decide +kernel) (by decide +kernel)
theorem k_im_X6_outputLength : Cond.instanceMethod yX6_outputLength ∈ gT := gT_t2 (i := 130) (by decide +kernel) (by decide +kernel)
theorem k_se_X6_outputLength : Cond.selects RX6 yX6_outputLength yX6_outputLength ∈ gT := gT_t2 (i := 131) (by decide +kernel) (by decide +kernel)
set_option maxRecDepth 10000 in
theorem k_cd_X6_outputLength : Cond.code yX6_outputLength cX6_outputLength 1 (some .int) ∈ gT := gT_t2 (i := 132) rfl (by decide +kernel)
theorem k_ml_L_247 : Cond.methodLink RL 247 yX6_executed ∈ gT := gT_t2 (i := 133) (by decide +kernel) (by decide +kernel)
theorem k_im_X6_executed : Cond.instanceMethod yX6_executed ∈ gT := gT_t2 (i := 134) (by decide +kernel) (by decide +kernel)
theorem k_se_X6_executed : Cond.selects RX6 yX6_executed yX6_executed ∈ gT := gT_t2 (i := 135) (by decide +kernel) (by decide +kernel)
set_option maxRecDepth 10000 in
theorem k_cd_X6_executed : Cond.code yX6_executed cX6_executed 1 (some .int) ∈ gT := gT_t2 (i := 136) rfl (by decide +kernel)
theorem k_ml_L_254 : Cond.methodLink RL 254 yX6_waited ∈ gT := gT_t2 (i := 137) (by decide +kernel) (by decide +kernel)
theorem k_im_X6_waited : Cond.instanceMethod yX6_waited ∈ gT := gT_t2 (i := 138) (by decide +kernel) (by decide +kernel)
theorem k_se_X6_waited : Cond.selects RX6 yX6_waited yX6_waited ∈ gT := gT_t2 (i := 139) (by decide +kernel) (by decide +kernel)
set_option maxRecDepth 10000 in
theorem k_cd_X6_waited : Cond.code yX6_waited cX6_waited 1 (some .int) ∈ gT := gT_t2 (i := 140) rfl (by decide +kernel)
theorem k_ml_L_118 : Cond.methodLink RL 118 yL_append ∈ gT := gT_t2 (i := 141) (by decide +kernel) (by decide +kernel)
theorem k_st_L_append : Cond.static yL_append ∈ gT := gT_t2 (i := 142) (by decide +kernel) (by decide +kernel)
set_option maxRecDepth 10000 in
theorem k_cd_L_append : Cond.codeWith yL_append cL_append 8 (some .int) [(0, 16, 19, 13)] ∈ gT := gT_t2 (i := 143) rfl (by decide +kernel)
theorem k_cl_L_13 : Cond.classLink RL 13 "java/lang/IllegalStateException" ∈ gT := gT_t2 (i := 144) (by decide +kernel) (by decide +kernel)
theorem k_ml_L_7 : Cond.methodLink RL 7 yX6_append ∈ gT := gT_t2 (i := 145) (by decide +kernel) (by decide +kernel)
theorem k_im_X6_append : Cond.instanceMethod yX6_append ∈ gT := gT_t2 (i := 146) (by decide +kernel) (by decide +kernel)
theorem k_se_X6_append : Cond.selects RX6 yX6_append yX6_append ∈ gT := gT_t2 (i := 147) (by decide +kernel) (by decide +kernel)
set_option maxRecDepth 10000 in
theorem k_cd_X6_append : Cond.code yX6_append cX6_append 6 (some .int) ∈ gT := gT_t2 (i := 148) rfl (by decide +kernel)
theorem k_cl_X6_43 : Cond.classLink RX6 43 "java/lang/IllegalStateException" ∈ gT := gT_t2 (i := 149) (by decide +kernel) (by decide +kernel)
theorem k_is_java_lang_IllegalStateException : Cond.instantiable "java/lang/IllegalStateException" 6 ∈ gT := gT_t2 (i := 150) (by decide +kernel) (by decide +kernel)
theorem k_is_java_lang_Throwable : Cond.instantiable "java/lang/Throwable" 6 ∈ gT := gT_t2 (i := 191) (by decide +kernel) (by decide +kernel)
theorem k_ml_X6_47 : Cond.methodLink RX6 47 ⟨"java/lang/IllegalStateException", "<init>", "(Ljava/lang/String;)V"⟩ ∈ gT := gT_t2 (i := 194) (by decide +kernel) (by decide +kernel)
theorem k_ml_X6_50 : Cond.methodLink RX6 50 yX0_addFourBytes ∈ gT := gT_t2 (i := 219) (by decide +kernel) (by decide +kernel)
theorem k_im_X0_addFourBytes : Cond.instanceMethod yX0_addFourBytes ∈ gT := gT_t2 (i := 220) (by decide +kernel) (by decide +kernel)
theorem k_se_X0_addFourBytes : Cond.selects RX0 yX0_addFourBytes yX0_addFourBytes ∈ gT := gT_t2 (i := 221) (by decide +kernel) (by decide +kernel)
set_option maxRecDepth 10000 in
theorem k_cd_X0_addFourBytes : Cond.code yX0_addFourBytes cX0_addFourBytes 3 none ∈ gT := gT_t2 (i := 222) rfl (by decide +kernel)
theorem k_ml_L_127 : Cond.methodLink RL 127 yL_truncate ∈ gT := gT_t2 (i := 223) (by decide +kernel) (by decide +kernel)
theorem k_st_L_truncate : Cond.static yL_truncate ∈ gT := gT_t2 (i := 224) (by decide +kernel) (by decide +kernel)
set_option maxRecDepth 10000 in
theorem k_cd_L_truncate : Cond.codeWith yL_truncate cL_truncate 4 (some .int) [(0, 9, 12, 19)] ∈ gT := gT_t2 (i := 225) rfl (by decide +kernel)
theorem k_cl_L_19 : Cond.classLink RL 19 "java/lang/IndexOutOfBoundsException" ∈ gT := gT_t2 (i := 226) (by decide +kernel) (by decide +kernel)
theorem k_ml_L_15 : Cond.methodLink RL 15 yX6_truncate ∈ gT := gT_t2 (i := 227) (by decide +kernel) (by decide +kernel)
theorem k_im_X6_truncate : Cond.instanceMethod yX6_truncate ∈ gT := gT_t2 (i := 228) (by decide +kernel) (by decide +kernel)
theorem k_se_X6_truncate : Cond.selects RX6 yX6_truncate yX6_truncate ∈ gT := gT_t2 (i := 229) (by decide +kernel) (by decide +kernel)
set_option maxRecDepth 10000 in
theorem k_cd_X6_truncate : Cond.code yX6_truncate cX6_truncate 2 (some .int) ∈ gT := gT_t2 (i := 230) rfl (by decide +kernel)
theorem k_cl_X6_54 : Cond.classLink RX6 54 "java/lang/IndexOutOfBoundsException" ∈ gT := gT_t2 (i := 231) (by decide +kernel) (by decide +kernel)
theorem k_is_java_lang_IndexOutOfBoundsException : Cond.instantiable "java/lang/IndexOutOfBoundsException" 6 ∈ gT := gT_t2 (i := 232) (by decide +kernel) (by decide +kernel)
theorem k_ml_X6_58 : Cond.methodLink RX6 58 ⟨"java/lang/IndexOutOfBoundsException", "<init>", "(Ljava/lang/String;)V"⟩ ∈ gT := gT_t3 (i := 1) (by decide +kernel) (by decide +kernel)
theorem k_ml_L_131 : Cond.methodLink RL 131 yL_assemble ∈ gT := gT_t3 (i := 7) (by decide +kernel) (by decide +kernel)
theorem k_st_L_assemble : Cond.static yL_assemble ∈ gT := gT_t3 (i := 8) (by decide +kernel) (by decide +kernel)
set_option maxRecDepth 10000 in
theorem k_cd_L_assemble : Cond.codeWith yL_assemble cL_assemble 3 (some .int) [(0, 8, 11, 25)] ∈ gT := gT_t3 (i := 9) rfl (by decide +kernel)
theorem k_cl_L_25 : Cond.classLink RL 25 "java/lang/IllegalArgumentException" ∈ gT := gT_t3 (i := 10) (by decide +kernel) (by decide +kernel)
theorem k_ml_L_21 : Cond.methodLink RL 21 yX6_assemble ∈ gT := gT_t3 (i := 11) (by decide +kernel) (by decide +kernel)
theorem k_im_X6_assemble : Cond.instanceMethod yX6_assemble ∈ gT := gT_t3 (i := 12) (by decide +kernel) (by decide +kernel)
theorem k_se_X6_assemble : Cond.selects RX6 yX6_assemble yX6_assemble ∈ gT := gT_t3 (i := 13) (by decide +kernel) (by decide +kernel)
set_option maxRecDepth 10000 in
theorem k_cd_X6_assemble : Cond.code yX6_assemble cX6_assemble 3 (some .int) ∈ gT := gT_t3 (i := 14) rfl (by decide +kernel)
theorem k_ml_X6_59 : Cond.methodLink RX6 59 yX0_translate ∈ gT := gT_t3 (i := 15) (by decide +kernel) (by decide +kernel)
theorem k_im_X0_translate : Cond.instanceMethod yX0_translate ∈ gT := gT_t3 (i := 16) (by decide +kernel) (by decide +kernel)
theorem k_se_X0_translate : Cond.selects RX0 yX0_translate yX0_translate ∈ gT := gT_t3 (i := 17) (by decide +kernel) (by decide +kernel)
set_option maxRecDepth 10000 in
theorem k_cd_X0_translate : Cond.code yX0_translate cX0_translate 3 (some .boolean) ∈ gT := gT_t3 (i := 18) rfl (by decide +kernel)
theorem k_ml_X0_32 : Cond.methodLink RX0 32 yX0_beginText ∈ gT := gT_t3 (i := 19) (by decide +kernel) (by decide +kernel)
theorem k_im_X0_beginText : Cond.instanceMethod yX0_beginText ∈ gT := gT_t3 (i := 21) (by decide +kernel) (by decide +kernel)
set_option maxRecDepth 10000 in
theorem k_cd_X0_beginText : Cond.code yX0_beginText cX0_beginText 2 none ∈ gT := gT_t3 (i := 22) rfl (by decide +kernel)
theorem k_ml_X0_35 : Cond.methodLink RX0 35 yX0_readToken ∈ gT := gT_t3 (i := 23) (by decide +kernel) (by decide +kernel)
theorem k_im_X0_readToken : Cond.instanceMethod yX0_readToken ∈ gT := gT_t3 (i := 25) (by decide +kernel) (by decide +kernel)
set_option maxRecDepth 10000 in
theorem k_cd_X0_readToken : Cond.code yX0_readToken cX0_readToken 2 none ∈ gT := gT_t3 (i := 26) rfl (by decide +kernel)
theorem k_ml_X0_134 : Cond.methodLink RX0 134 yX0_byteAt ∈ gT := gT_t3 (i := 27) (by decide +kernel) (by decide +kernel)
theorem k_im_X0_byteAt : Cond.instanceMethod yX0_byteAt ∈ gT := gT_t3 (i := 29) (by decide +kernel) (by decide +kernel)
set_option maxRecDepth 10000 in
theorem k_cd_X0_byteAt : Cond.code yX0_byteAt cX0_byteAt 2 (some .int) ∈ gT := gT_t3 (i := 30) rfl (by decide +kernel)
theorem k_ml_X0_141 : Cond.methodLink RX0 141 yX0_isBlank ∈ gT := gT_t3 (i := 31) (by decide +kernel) (by decide +kernel)
theorem k_st_X0_isBlank : Cond.static yX0_isBlank ∈ gT := gT_t3 (i := 32) (by decide +kernel) (by decide +kernel)
set_option maxRecDepth 10000 in
theorem k_cd_X0_isBlank : Cond.code yX0_isBlank cX0_isBlank 1 (some .boolean) ∈ gT := gT_t3 (i := 33) rfl (by decide +kernel)
theorem k_ml_X0_144 : Cond.methodLink RX0 144 yJ9_min_7cf53 ∈ gT := gT_t3 (i := 34) (by decide +kernel) (by decide +kernel)
theorem k_ml_X0_149 : Cond.methodLink RX0 149 yX0_isLetter ∈ gT := gT_t3 (i := 35) (by decide +kernel) (by decide +kernel)
theorem k_st_X0_isLetter : Cond.static yX0_isLetter ∈ gT := gT_t3 (i := 36) (by decide +kernel) (by decide +kernel)
set_option maxRecDepth 10000 in
theorem k_cd_X0_isLetter : Cond.code yX0_isLetter cX0_isLetter 1 (some .boolean) ∈ gT := gT_t3 (i := 37) rfl (by decide +kernel)
theorem k_ml_X0_152 : Cond.methodLink RX0 152 yX0_readLetters ∈ gT := gT_t3 (i := 38) (by decide +kernel) (by decide +kernel)
theorem k_im_X0_readLetters : Cond.instanceMethod yX0_readLetters ∈ gT := gT_t3 (i := 40) (by decide +kernel) (by decide +kernel)
set_option maxRecDepth 10000 in
theorem k_cd_X0_readLetters : Cond.code yX0_readLetters cX0_readLetters 1 none ∈ gT := gT_t3 (i := 41) rfl (by decide +kernel)
theorem k_ml_X0_155 : Cond.methodLink RX0 155 yX0_isDigit ∈ gT := gT_t3 (i := 42) (by decide +kernel) (by decide +kernel)
theorem k_st_X0_isDigit : Cond.static yX0_isDigit ∈ gT := gT_t3 (i := 43) (by decide +kernel) (by decide +kernel)
set_option maxRecDepth 10000 in
theorem k_cd_X0_isDigit : Cond.code yX0_isDigit cX0_isDigit 1 (some .boolean) ∈ gT := gT_t3 (i := 44) rfl (by decide +kernel)
theorem k_ml_X0_158 : Cond.methodLink RX0 158 yX0_readDigits ∈ gT := gT_t3 (i := 45) (by decide +kernel) (by decide +kernel)
theorem k_im_X0_readDigits : Cond.instanceMethod yX0_readDigits ∈ gT := gT_t3 (i := 47) (by decide +kernel) (by decide +kernel)
set_option maxRecDepth 10000 in
theorem k_cd_X0_readDigits : Cond.code yX0_readDigits cX0_readDigits 1 none ∈ gT := gT_t3 (i := 48) rfl (by decide +kernel)
theorem k_ml_X0_44 : Cond.methodLink RX0 44 yX0_opcodeOfToken ∈ gT := gT_t3 (i := 49) (by decide +kernel) (by decide +kernel)
theorem k_im_X0_opcodeOfToken : Cond.instanceMethod yX0_opcodeOfToken ∈ gT := gT_t3 (i := 51) (by decide +kernel) (by decide +kernel)
set_option maxRecDepth 10000 in
theorem k_cd_X0_opcodeOfToken : Cond.code yX0_opcodeOfToken cX0_opcodeOfToken 2 (some .int) ∈ gT := gT_t3 (i := 52) rfl (by decide +kernel)
theorem k_ml_X0_126 : Cond.methodLink RX0 126 yX3_mnemonic ∈ gT := gT_t3 (i := 53) (by decide +kernel) (by decide +kernel)
theorem k_st_X3_mnemonic : Cond.static yX3_mnemonic ∈ gT := gT_t3 (i := 54) (by decide +kernel) (by decide +kernel)
set_option maxRecDepth 10000 in
theorem k_cd_X3_mnemonic : Cond.code yX3_mnemonic cX3_mnemonic 1 (some (.object "java/lang/String")) ∈ gT := gT_t3 (i := 55) rfl (by decide +kernel)
theorem k_ml_X0_50 : Cond.methodLink RX0 50 yX0_tokenIs ∈ gT := gT_t3 (i := 72) (by decide +kernel) (by decide +kernel)
theorem k_im_X0_tokenIs : Cond.instanceMethod yX0_tokenIs ∈ gT := gT_t3 (i := 74) (by decide +kernel) (by decide +kernel)
set_option maxRecDepth 10000 in
theorem k_cd_X0_tokenIs : Cond.code yX0_tokenIs cX0_tokenIs 3 (some .boolean) ∈ gT := gT_t3 (i := 75) rfl (by decide +kernel)
theorem k_ml_X0_130 : Cond.methodLink RX0 130 yJ0_length_8abf5 ∈ gT := gT_t3 (i := 76) (by decide +kernel) (by decide +kernel)
theorem k_im_J0_length_8abf5 : Cond.instanceMethod yJ0_length_8abf5 ∈ gT := gT_t3 (i := 77) (by decide +kernel) (by decide +kernel)
theorem k_se_J0_length_8abf5 : Cond.selects RJ0 yJ0_length_8abf5 yJ0_length_8abf5 ∈ gT := gT_t3 (i := 78) (by decide +kernel) (by decide +kernel)
set_option maxRecDepth 10000 in
theorem k_cd_J0_length_8abf5 : Cond.code yJ0_length_8abf5 cJ0_length_8abf5 1 (some .int) ∈ gT := gT_t3 (i := 79) rfl (by decide +kernel)
theorem k_ml_J0_335 : Cond.methodLink RJ0 335 yJ0_coder_7d493 ∈ gT := gT_t3 (i := 80) (by decide +kernel) (by decide +kernel)
theorem k_im_J0_coder_7d493 : Cond.instanceMethod yJ0_coder_7d493 ∈ gT := gT_t3 (i := 81) (by decide +kernel) (by decide +kernel)
theorem k_se_J0_coder_7d493 : Cond.selects RJ0 yJ0_coder_7d493 yJ0_coder_7d493 ∈ gT := gT_t3 (i := 82) (by decide +kernel) (by decide +kernel)
set_option maxRecDepth 10000 in
theorem k_cd_J0_coder_7d493 : Cond.code yJ0_coder_7d493 cJ0_coder_7d493 1 (some .byte) ∈ gT := gT_t3 (i := 83) rfl (by decide +kernel)
theorem k_fl_J0_38 : Cond.fieldLink RJ0 38 "java/lang/String" "COMPACT_STRINGS" "Z" ∈ gT := gT_t3 (i := 84) (by decide +kernel) (by decide +kernel)
theorem k_ml_X0_137 : Cond.methodLink RX0 137 yJ0_charAt_5068e ∈ gT := gT_t3 (i := 85) (by decide +kernel) (by decide +kernel)
theorem k_im_J0_charAt_5068e : Cond.instanceMethod yJ0_charAt_5068e ∈ gT := gT_t3 (i := 86) (by decide +kernel) (by decide +kernel)
theorem k_se_J0_charAt_5068e : Cond.selects RJ0 yJ0_charAt_5068e yJ0_charAt_5068e ∈ gT := gT_t3 (i := 87) (by decide +kernel) (by decide +kernel)
set_option maxRecDepth 10000 in
theorem k_cd_J0_charAt_5068e : Cond.code yJ0_charAt_5068e cJ0_charAt_5068e 2 (some .char) ∈ gT := gT_t3 (i := 88) rfl (by decide +kernel)
theorem k_ml_J0_492 : Cond.methodLink RJ0 492 yJ0_isLatin1_aae02 ∈ gT := gT_t3 (i := 89) (by decide +kernel) (by decide +kernel)
theorem k_im_J0_isLatin1_aae02 : Cond.instanceMethod yJ0_isLatin1_aae02 ∈ gT := gT_t3 (i := 90) (by decide +kernel) (by decide +kernel)
theorem k_se_J0_isLatin1_aae02 : Cond.selects RJ0 yJ0_isLatin1_aae02 yJ0_isLatin1_aae02 ∈ gT := gT_t3 (i := 91) (by decide +kernel) (by decide +kernel)
set_option maxRecDepth 10000 in
theorem k_cd_J0_isLatin1_aae02 : Cond.code yJ0_isLatin1_aae02 cJ0_isLatin1_aae02 1 (some .boolean) ∈ gT := gT_t3 (i := 92) rfl (by decide +kernel)
theorem k_ml_J0_495 : Cond.methodLink RJ0 495 yJ1_charAt_3b067 ∈ gT := gT_t3 (i := 93) (by decide +kernel) (by decide +kernel)
theorem k_st_J1_charAt_3b067 : Cond.static yJ1_charAt_3b067 ∈ gT := gT_t3 (i := 94) (by decide +kernel) (by decide +kernel)
set_option maxRecDepth 10000 in
theorem k_cd_J1_charAt_3b067 : Cond.code yJ1_charAt_3b067 cJ1_charAt_3b067 2 (some .char) ∈ gT := gT_t3 (i := 95) rfl (by decide +kernel)
theorem k_ml_J1_9 : Cond.methodLink RJ1 9 yJ0_checkIndex_df160 ∈ gT := gT_t3 (i := 96) (by decide +kernel) (by decide +kernel)
theorem k_st_J0_checkIndex_df160 : Cond.static yJ0_checkIndex_df160 ∈ gT := gT_t3 (i := 97) (by decide +kernel) (by decide +kernel)
set_option maxRecDepth 10000 in
theorem k_cd_J0_checkIndex_df160 : Cond.code yJ0_checkIndex_df160 cJ0_checkIndex_df160 2 none ∈ gT := gT_t3 (i := 98) rfl (by decide +kernel)
theorem k_fl_J0_1053 : Cond.fieldLink RJ0 1053 "jdk/internal/util/Preconditions" "SIOOBE_FORMATTER" "Ljava/util/function/BiFunction;" ∈ gT := gT_t3 (i := 99) (by decide +kernel) (by decide +kernel)
theorem k_ml_J0_1059 : Cond.methodLink RJ0 1059 yJ3_checkIndex_8e157 ∈ gT := gT_t3 (i := 101) (by decide +kernel) (by decide +kernel)
theorem k_st_J3_checkIndex_8e157 : Cond.static yJ3_checkIndex_8e157 ∈ gT := gT_t3 (i := 102) (by decide +kernel) (by decide +kernel)
set_option maxRecDepth 10000 in
theorem k_cd_J3_checkIndex_8e157 : Cond.code yJ3_checkIndex_8e157 cJ3_checkIndex_8e157 3 (some .int) ∈ gT := gT_t3 (i := 103) rfl (by decide +kernel)
theorem k_ml_J0_498 : Cond.methodLink RJ0 498 yJ2_charAt_3b067 ∈ gT := gT_t3 (i := 104) (by decide +kernel) (by decide +kernel)
theorem k_st_J2_charAt_3b067 : Cond.static yJ2_charAt_3b067 ∈ gT := gT_t3 (i := 105) (by decide +kernel) (by decide +kernel)
set_option maxRecDepth 10000 in
theorem k_cd_J2_charAt_3b067 : Cond.code yJ2_charAt_3b067 cJ2_charAt_3b067 2 (some .char) ∈ gT := gT_t3 (i := 106) rfl (by decide +kernel)
theorem k_ml_J2_67 : Cond.methodLink RJ2 67 yJ2_checkIndex_2214a ∈ gT := gT_t3 (i := 107) (by decide +kernel) (by decide +kernel)
theorem k_st_J2_checkIndex_2214a : Cond.static yJ2_checkIndex_2214a ∈ gT := gT_t3 (i := 108) (by decide +kernel) (by decide +kernel)
set_option maxRecDepth 10000 in
theorem k_cd_J2_checkIndex_2214a : Cond.code yJ2_checkIndex_2214a cJ2_checkIndex_2214a 2 none ∈ gT := gT_t3 (i := 109) rfl (by decide +kernel)
theorem k_ml_J2_48 : Cond.methodLink RJ2 48 yJ2_length_9d52b ∈ gT := gT_t3 (i := 110) (by decide +kernel) (by decide +kernel)
theorem k_st_J2_length_9d52b : Cond.static yJ2_length_9d52b ∈ gT := gT_t3 (i := 111) (by decide +kernel) (by decide +kernel)
set_option maxRecDepth 10000 in
theorem k_cd_J2_length_9d52b : Cond.code yJ2_length_9d52b cJ2_length_9d52b 1 (some .int) ∈ gT := gT_t3 (i := 112) rfl (by decide +kernel)
theorem k_ml_J2_414 : Cond.methodLink RJ2 414 yJ0_checkIndex_df160 ∈ gT := gT_t3 (i := 113) (by decide +kernel) (by decide +kernel)
theorem k_ml_J2_71 : Cond.methodLink RJ2 71 yJ2_getChar_3b067 ∈ gT := gT_t3 (i := 114) (by decide +kernel) (by decide +kernel)
theorem k_st_J2_getChar_3b067 : Cond.static yJ2_getChar_3b067 ∈ gT := gT_t3 (i := 115) (by decide +kernel) (by decide +kernel)
set_option maxRecDepth 10000 in
theorem k_cd_J2_getChar_3b067 : Cond.code yJ2_getChar_3b067 cJ2_getChar_3b067 2 (some .char) ∈ gT := gT_t3 (i := 116) rfl (by decide +kernel)
theorem k_fl_J2_44 : Cond.fieldLink RJ2 44 "java/lang/StringUTF16" "$assertionsDisabled" "Z" ∈ gT := gT_t3 (i := 117) (by decide +kernel) (by decide +kernel)
theorem k_fl_J2_59 : Cond.fieldLink RJ2 59 "java/lang/StringUTF16" "HI_BYTE_SHIFT" "I" ∈ gT := gT_t3 (i := 119) (by decide +kernel) (by decide +kernel)
theorem k_fl_J2_63 : Cond.fieldLink RJ2 63 "java/lang/StringUTF16" "LO_BYTE_SHIFT" "I" ∈ gT := gT_t3 (i := 121) (by decide +kernel) (by decide +kernel)
theorem k_ml_X0_54 : Cond.methodLink RX0 54 yX0_readLocation ∈ gT := gT_t3 (i := 124) (by decide +kernel) (by decide +kernel)
theorem k_im_X0_readLocation : Cond.instanceMethod yX0_readLocation ∈ gT := gT_t3 (i := 126) (by decide +kernel) (by decide +kernel)
set_option maxRecDepth 10000 in
theorem k_cd_X0_readLocation : Cond.code yX0_readLocation cX0_readLocation 3 (some .int) ∈ gT := gT_t3 (i := 127) rfl (by decide +kernel)
theorem k_ml_X0_88 : Cond.methodLink RX0 88 yX0_readNumber ∈ gT := gT_t3 (i := 128) (by decide +kernel) (by decide +kernel)
theorem k_im_X0_readNumber : Cond.instanceMethod yX0_readNumber ∈ gT := gT_t3 (i := 130) (by decide +kernel) (by decide +kernel)
set_option maxRecDepth 10000 in
theorem k_cd_X0_readNumber : Cond.code yX0_readNumber cX0_readNumber 3 (some .int) ∈ gT := gT_t3 (i := 131) rfl (by decide +kernel)
theorem k_ml_X0_71 : Cond.methodLink RX0 71 yX0_fail ∈ gT := gT_t3 (i := 132) (by decide +kernel) (by decide +kernel)
theorem k_im_X0_fail : Cond.instanceMethod yX0_fail ∈ gT := gT_t3 (i := 134) (by decide +kernel) (by decide +kernel)
set_option maxRecDepth 10000 in
theorem k_cd_X0_fail : Cond.code yX0_fail cX0_fail 2 none ∈ gT := gT_t3 (i := 135) rfl (by decide +kernel)
theorem k_ml_X0_74 : Cond.methodLink RX0 74 yX0_readSymbol ∈ gT := gT_t3 (i := 136) (by decide +kernel) (by decide +kernel)
theorem k_im_X0_readSymbol : Cond.instanceMethod yX0_readSymbol ∈ gT := gT_t3 (i := 138) (by decide +kernel) (by decide +kernel)
set_option maxRecDepth 10000 in
theorem k_cd_X0_readSymbol : Cond.code yX0_readSymbol cX0_readSymbol 2 none ∈ gT := gT_t3 (i := 139) rfl (by decide +kernel)
theorem k_st_X6_locationOf : Cond.static yX6_locationOf ∈ gT := gT_t3 (i := 141) (by decide +kernel) (by decide +kernel)
set_option maxRecDepth 10000 in
theorem k_cd_X6_locationOf : Cond.code yX6_locationOf cX6_locationOf 2 (some .int) ∈ gT := gT_t3 (i := 142) rfl (by decide +kernel)
theorem k_ml_X0_64 : Cond.methodLink RX0 64 yX0_readWordStatement ∈ gT := gT_t3 (i := 145) (by decide +kernel) (by decide +kernel)
theorem k_im_X0_readWordStatement : Cond.instanceMethod yX0_readWordStatement ∈ gT := gT_t3 (i := 147) (by decide +kernel) (by decide +kernel)
set_option maxRecDepth 10000 in
theorem k_cd_X0_readWordStatement : Cond.code yX0_readWordStatement cX0_readWordStatement 3 none ∈ gT := gT_t3 (i := 148) rfl (by decide +kernel)
theorem k_ml_X0_83 : Cond.methodLink RX0 83 yX0_refuseWrittenPlace ∈ gT := gT_t3 (i := 149) (by decide +kernel) (by decide +kernel)
theorem k_im_X0_refuseWrittenPlace : Cond.instanceMethod yX0_refuseWrittenPlace ∈ gT := gT_t3 (i := 151) (by decide +kernel) (by decide +kernel)
set_option maxRecDepth 10000 in
theorem k_cd_X0_refuseWrittenPlace : Cond.code yX0_refuseWrittenPlace cX0_refuseWrittenPlace 1 none ∈ gT := gT_t3 (i := 152) rfl (by decide +kernel)
theorem k_ml_X0_116 : Cond.methodLink RX0 116 yX0_isWritten ∈ gT := gT_t3 (i := 153) (by decide +kernel) (by decide +kernel)
theorem k_im_X0_isWritten : Cond.instanceMethod yX0_isWritten ∈ gT := gT_t3 (i := 154) (by decide +kernel) (by decide +kernel)
theorem k_se_X0_isWritten : Cond.selects RX0 yX0_isWritten yX0_isWritten ∈ gT := gT_t3 (i := 155) (by decide +kernel) (by decide +kernel)
set_option maxRecDepth 10000 in
theorem k_cd_X0_isWritten : Cond.code yX0_isWritten cX0_isWritten 2 (some .boolean) ∈ gT := gT_t3 (i := 156) rfl (by decide +kernel)
theorem k_co_X0_86 : Cond.constant RX0 86 (524288) ∈ gT := gT_t3 (i := 157) (by decide +kernel) (by decide +kernel)
theorem k_co_X0_87 : Cond.constant RX0 87 (524287) ∈ gT := gT_t3 (i := 158) (by decide +kernel) (by decide +kernel)
theorem k_ml_X0_92 : Cond.methodLink RX0 92 yX0_write ∈ gT := gT_t3 (i := 159) (by decide +kernel) (by decide +kernel)
theorem k_im_X0_write : Cond.instanceMethod yX0_write ∈ gT := gT_t3 (i := 161) (by decide +kernel) (by decide +kernel)
set_option maxRecDepth 10000 in
theorem k_cd_X0_write : Cond.code yX0_write cX0_write 2 none ∈ gT := gT_t3 (i := 162) rfl (by decide +kernel)
theorem k_ml_X0_100 : Cond.methodLink RX0 100 yX0_placeAfter ∈ gT := gT_t3 (i := 163) (by decide +kernel) (by decide +kernel)
theorem k_im_X0_placeAfter : Cond.instanceMethod yX0_placeAfter ∈ gT := gT_t3 (i := 165) (by decide +kernel) (by decide +kernel)
set_option maxRecDepth 10000 in
theorem k_cd_X0_placeAfter : Cond.code yX0_placeAfter cX0_placeAfter 1 (some .int) ∈ gT := gT_t3 (i := 166) rfl (by decide +kernel)
theorem k_st_X6_cycleOf : Cond.static yX6_cycleOf ∈ gT := gT_t3 (i := 168) (by decide +kernel) (by decide +kernel)
set_option maxRecDepth 10000 in
theorem k_cd_X6_cycleOf : Cond.code yX6_cycleOf cX6_cycleOf 1 (some .int) ∈ gT := gT_t3 (i := 169) rfl (by decide +kernel)
theorem k_ml_X0_67 : Cond.methodLink RX0 67 yX0_readInstruction ∈ gT := gT_t3 (i := 170) (by decide +kernel) (by decide +kernel)
theorem k_im_X0_readInstruction : Cond.instanceMethod yX0_readInstruction ∈ gT := gT_t3 (i := 172) (by decide +kernel) (by decide +kernel)
set_option maxRecDepth 10000 in
theorem k_cd_X0_readInstruction : Cond.code yX0_readInstruction cX0_readInstruction 5 none ∈ gT := gT_t3 (i := 173) rfl (by decide +kernel)
theorem k_ml_X0_95 : Cond.methodLink RX0 95 yX3_operandForm ∈ gT := gT_t3 (i := 174) (by decide +kernel) (by decide +kernel)
theorem k_st_X3_operandForm : Cond.static yX3_operandForm ∈ gT := gT_t3 (i := 175) (by decide +kernel) (by decide +kernel)
set_option maxRecDepth 10000 in
theorem k_cd_X3_operandForm : Cond.code yX3_operandForm cX3_operandForm 1 (some .int) ∈ gT := gT_t3 (i := 176) rfl (by decide +kernel)
theorem k_ml_X0_105 : Cond.methodLink RX0 105 yX3_encode ∈ gT := gT_t3 (i := 178) (by decide +kernel) (by decide +kernel)
theorem k_st_X3_encode : Cond.static yX3_encode ∈ gT := gT_t3 (i := 179) (by decide +kernel) (by decide +kernel)
set_option maxRecDepth 10000 in
theorem k_cd_X3_encode : Cond.code yX3_encode cX3_encode 4 (some .int) ∈ gT := gT_t3 (i := 180) rfl (by decide +kernel)
theorem k_ml_X3_17 : Cond.methodLink RX3 17 yX3_withNext ∈ gT := gT_t3 (i := 182) (by decide +kernel) (by decide +kernel)
theorem k_st_X3_withNext : Cond.static yX3_withNext ∈ gT := gT_t3 (i := 183) (by decide +kernel) (by decide +kernel)
set_option maxRecDepth 10000 in
theorem k_cd_X3_withNext : Cond.code yX3_withNext cX3_withNext 3 (some .int) ∈ gT := gT_t3 (i := 184) rfl (by decide +kernel)
theorem k_st_X6_wrap : Cond.static yX6_wrap ∈ gT := gT_t3 (i := 186) (by decide +kernel) (by decide +kernel)
set_option maxRecDepth 10000 in
theorem k_cd_X6_wrap : Cond.code yX6_wrap cX6_wrap 3 (some .int) ∈ gT := gT_t3 (i := 187) rfl (by decide +kernel)
theorem k_cl_X6_63 : Cond.classLink RX6 63 "java/lang/IllegalArgumentException" ∈ gT := gT_t3 (i := 188) (by decide +kernel) (by decide +kernel)
theorem k_is_java_lang_IllegalArgumentException : Cond.instantiable "java/lang/IllegalArgumentException" 6 ∈ gT := gT_t3 (i := 189) (by decide +kernel) (by decide +kernel)
theorem k_ml_X6_67 : Cond.methodLink RX6 67 ⟨"java/lang/IllegalArgumentException", "<init>", "(Ljava/lang/String;)V"⟩ ∈ gT := gT_t3 (i := 198) (by decide +kernel) (by decide +kernel)
theorem k_ml_X6_68 : Cond.methodLink RX6 68 yX0_isWritten ∈ gT := gT_t3 (i := 204) (by decide +kernel) (by decide +kernel)
theorem k_ml_X6_76 : Cond.methodLink RX6 76 yX0_wordFor ∈ gT := gT_t3 (i := 205) (by decide +kernel) (by decide +kernel)
theorem k_im_X0_wordFor : Cond.instanceMethod yX0_wordFor ∈ gT := gT_t3 (i := 206) (by decide +kernel) (by decide +kernel)
theorem k_se_X0_wordFor : Cond.selects RX0 yX0_wordFor yX0_wordFor ∈ gT := gT_t3 (i := 207) (by decide +kernel) (by decide +kernel)
set_option maxRecDepth 10000 in
theorem k_cd_X0_wordFor : Cond.code yX0_wordFor cX0_wordFor 2 (some .int) ∈ gT := gT_t3 (i := 208) rfl (by decide +kernel)
theorem k_ml_X6_80 : Cond.methodLink RX6 80 yX5_putWord ∈ gT := gT_t3 (i := 209) (by decide +kernel) (by decide +kernel)
theorem k_im_X5_putWord : Cond.instanceMethod yX5_putWord ∈ gT := gT_t3 (i := 210) (by decide +kernel) (by decide +kernel)
theorem k_se_X5_putWord : Cond.selects RX5 yX5_putWord yX5_putWord ∈ gT := gT_t3 (i := 211) (by decide +kernel) (by decide +kernel)
set_option maxRecDepth 10000 in
theorem k_cd_X5_putWord : Cond.code yX5_putWord cX5_putWord 3 none ∈ gT := gT_t3 (i := 212) rfl (by decide +kernel)
theorem k_co_X5_25 : Cond.constant RX5 25 (1048575) ∈ gT := gT_t3 (i := 213) (by decide +kernel) (by decide +kernel)
theorem k_ml_X6_89 : Cond.methodLink RX6 89 yX2_makeReadyAt ∈ gT := gT_t3 (i := 214) (by decide +kernel) (by decide +kernel)
theorem k_im_X2_makeReadyAt : Cond.instanceMethod yX2_makeReadyAt ∈ gT := gT_t3 (i := 215) (by decide +kernel) (by decide +kernel)
theorem k_se_X2_makeReadyAt : Cond.selects RX2 yX2_makeReadyAt yX2_makeReadyAt ∈ gT := gT_t3 (i := 216) (by decide +kernel) (by decide +kernel)
set_option maxRecDepth 10000 in
theorem k_cd_X2_makeReadyAt : Cond.code yX2_makeReadyAt cX2_makeReadyAt 2 none ∈ gT := gT_t3 (i := 217) rfl (by decide +kernel)
theorem k_ml_L_143 : Cond.methodLink RL 143 yL_readWord ∈ gT := gT_t3 (i := 218) (by decide +kernel) (by decide +kernel)
theorem k_st_L_readWord : Cond.static yL_readWord ∈ gT := gT_t3 (i := 219) (by decide +kernel) (by decide +kernel)
set_option maxRecDepth 10000 in
theorem k_cd_L_readWord : Cond.codeWith yL_readWord cL_readWord 5 (some .int) [(0, 10, 13, 19)] ∈ gT := gT_t3 (i := 220) rfl (by decide +kernel)
theorem k_ml_L_27 : Cond.methodLink RL 27 yX6_readWord ∈ gT := gT_t3 (i := 221) (by decide +kernel) (by decide +kernel)
theorem k_im_X6_readWord : Cond.instanceMethod yX6_readWord ∈ gT := gT_t3 (i := 222) (by decide +kernel) (by decide +kernel)
theorem k_se_X6_readWord : Cond.selects RX6 yX6_readWord yX6_readWord ∈ gT := gT_t3 (i := 223) (by decide +kernel) (by decide +kernel)
set_option maxRecDepth 10000 in
theorem k_cd_X6_readWord : Cond.code yX6_readWord cX6_readWord 3 (some .int) ∈ gT := gT_t3 (i := 224) rfl (by decide +kernel)
theorem k_ml_X6_101 : Cond.methodLink RX6 101 yX6_requireLocation ∈ gT := gT_t3 (i := 225) (by decide +kernel) (by decide +kernel)
theorem k_st_X6_requireLocation : Cond.static yX6_requireLocation ∈ gT := gT_t3 (i := 226) (by decide +kernel) (by decide +kernel)
set_option maxRecDepth 10000 in
theorem k_cd_X6_requireLocation : Cond.code yX6_requireLocation cX6_requireLocation 2 none ∈ gT := gT_t3 (i := 227) rfl (by decide +kernel)
theorem k_ml_X6_104 : Cond.methodLink RX6 104 yX6_locationOf ∈ gT := gT_t3 (i := 229) (by decide +kernel) (by decide +kernel)
theorem k_ml_X6_108 : Cond.methodLink RX6 108 yX5_wordAt ∈ gT := gT_t3 (i := 230) (by decide +kernel) (by decide +kernel)
theorem k_im_X5_wordAt : Cond.instanceMethod yX5_wordAt ∈ gT := gT_t3 (i := 231) (by decide +kernel) (by decide +kernel)
theorem k_se_X5_wordAt : Cond.selects RX5 yX5_wordAt yX5_wordAt ∈ gT := gT_t3 (i := 232) (by decide +kernel) (by decide +kernel)
set_option maxRecDepth 10000 in
theorem k_cd_X5_wordAt : Cond.code yX5_wordAt cX5_wordAt 2 (some .int) ∈ gT := gT_t3 (i := 233) rfl (by decide +kernel)
theorem k_ml_L_147 : Cond.methodLink RL 147 yL_writeWord ∈ gT := gT_t3 (i := 235) (by decide +kernel) (by decide +kernel)
theorem k_st_L_writeWord : Cond.static yL_writeWord ∈ gT := gT_t3 (i := 236) (by decide +kernel) (by decide +kernel)
set_option maxRecDepth 10000 in
theorem k_cd_L_writeWord : Cond.codeWith yL_writeWord cL_writeWord 6 (some .int) [(0, 12, 15, 19), (0, 12, 19, 25)] ∈ gT := gT_t3 (i := 237) rfl (by decide +kernel)
theorem k_ml_L_31 : Cond.methodLink RL 31 yX6_writeWord ∈ gT := gT_t3 (i := 238) (by decide +kernel) (by decide +kernel)
theorem k_im_X6_writeWord : Cond.instanceMethod yX6_writeWord ∈ gT := gT_t3 (i := 239) (by decide +kernel) (by decide +kernel)
theorem k_se_X6_writeWord : Cond.selects RX6 yX6_writeWord yX6_writeWord ∈ gT := gT_t4 (i := 0) (by decide +kernel) (by decide +kernel)
set_option maxRecDepth 10000 in
theorem k_cd_X6_writeWord : Cond.code yX6_writeWord cX6_writeWord 6 (some .int) ∈ gT := gT_t4 (i := 1) rfl (by decide +kernel)
theorem k_ml_X6_111 : Cond.methodLink RX6 111 yX6_requireWord ∈ gT := gT_t4 (i := 2) (by decide +kernel) (by decide +kernel)
theorem k_st_X6_requireWord : Cond.static yX6_requireWord ∈ gT := gT_t4 (i := 3) (by decide +kernel) (by decide +kernel)
set_option maxRecDepth 10000 in
theorem k_cd_X6_requireWord : Cond.code yX6_requireWord cX6_requireWord 1 none ∈ gT := gT_t4 (i := 4) rfl (by decide +kernel)
theorem k_co_X6_330 : Cond.constant RX6 330 (-524288) ∈ gT := gT_t4 (i := 5) (by decide +kernel) (by decide +kernel)
theorem k_co_X6_331 : Cond.constant RX6 331 (524287) ∈ gT := gT_t4 (i := 6) (by decide +kernel) (by decide +kernel)
theorem k_ml_L_151 : Cond.methodLink RL 151 yL_clearTank ∈ gT := gT_t4 (i := 8) (by decide +kernel) (by decide +kernel)
theorem k_st_L_clearTank : Cond.static yL_clearTank ∈ gT := gT_t4 (i := 9) (by decide +kernel) (by decide +kernel)
set_option maxRecDepth 10000 in
theorem k_cd_L_clearTank : Cond.codeWith yL_clearTank cL_clearTank 4 (some .int) [(0, 9, 12, 19)] ∈ gT := gT_t4 (i := 10) rfl (by decide +kernel)
theorem k_ml_L_35 : Cond.methodLink RL 35 yX6_clearTank ∈ gT := gT_t4 (i := 11) (by decide +kernel) (by decide +kernel)
theorem k_im_X6_clearTank : Cond.instanceMethod yX6_clearTank ∈ gT := gT_t4 (i := 12) (by decide +kernel) (by decide +kernel)
theorem k_se_X6_clearTank : Cond.selects RX6 yX6_clearTank yX6_clearTank ∈ gT := gT_t4 (i := 13) (by decide +kernel) (by decide +kernel)
set_option maxRecDepth 10000 in
theorem k_cd_X6_clearTank : Cond.code yX6_clearTank cX6_clearTank 3 (some .int) ∈ gT := gT_t4 (i := 14) rfl (by decide +kernel)
theorem k_ml_X6_114 : Cond.methodLink RX6 114 yX6_requireTank ∈ gT := gT_t4 (i := 15) (by decide +kernel) (by decide +kernel)
theorem k_st_X6_requireTank : Cond.static yX6_requireTank ∈ gT := gT_t4 (i := 16) (by decide +kernel) (by decide +kernel)
set_option maxRecDepth 10000 in
theorem k_cd_X6_requireTank : Cond.code yX6_requireTank cX6_requireTank 1 none ∈ gT := gT_t4 (i := 17) rfl (by decide +kernel)
theorem k_ml_X6_117 : Cond.methodLink RX6 117 yX5_countOnes ∈ gT := gT_t4 (i := 19) (by decide +kernel) (by decide +kernel)
theorem k_im_X5_countOnes : Cond.instanceMethod yX5_countOnes ∈ gT := gT_t4 (i := 20) (by decide +kernel) (by decide +kernel)
theorem k_se_X5_countOnes : Cond.selects RX5 yX5_countOnes yX5_countOnes ∈ gT := gT_t4 (i := 21) (by decide +kernel) (by decide +kernel)
set_option maxRecDepth 10000 in
theorem k_cd_X5_countOnes : Cond.code yX5_countOnes cX5_countOnes 4 (some .int) ∈ gT := gT_t4 (i := 22) rfl (by decide +kernel)
theorem k_ml_X5_30 : Cond.methodLink RX5 30 yJ6_bitCount_0f7a4 ∈ gT := gT_t4 (i := 24) (by decide +kernel) (by decide +kernel)
theorem k_st_J6_bitCount_0f7a4 : Cond.static yJ6_bitCount_0f7a4 ∈ gT := gT_t4 (i := 25) (by decide +kernel) (by decide +kernel)
set_option maxRecDepth 10000 in
theorem k_cd_J6_bitCount_0f7a4 : Cond.code yJ6_bitCount_0f7a4 cJ6_bitCount_0f7a4 1 (some .int) ∈ gT := gT_t4 (i := 26) rfl (by decide +kernel)
theorem k_co_J6_265 : Cond.constant RJ6 265 (1431655765) ∈ gT := gT_t4 (i := 27) (by decide +kernel) (by decide +kernel)
theorem k_co_J6_266 : Cond.constant RJ6 266 (858993459) ∈ gT := gT_t4 (i := 28) (by decide +kernel) (by decide +kernel)
theorem k_co_J6_267 : Cond.constant RJ6 267 (252645135) ∈ gT := gT_t4 (i := 29) (by decide +kernel) (by decide +kernel)
theorem k_ml_X6_120 : Cond.methodLink RX6 120 yX5_clearBits ∈ gT := gT_t4 (i := 30) (by decide +kernel) (by decide +kernel)
theorem k_im_X5_clearBits : Cond.instanceMethod yX5_clearBits ∈ gT := gT_t4 (i := 31) (by decide +kernel) (by decide +kernel)
theorem k_se_X5_clearBits : Cond.selects RX5 yX5_clearBits yX5_clearBits ∈ gT := gT_t4 (i := 32) (by decide +kernel) (by decide +kernel)
set_option maxRecDepth 10000 in
theorem k_cd_X5_clearBits : Cond.code yX5_clearBits cX5_clearBits 3 none ∈ gT := gT_t4 (i := 33) rfl (by decide +kernel)
theorem k_ml_X5_36 : Cond.methodLink RX5 36 yX5_putWord ∈ gT := gT_t4 (i := 34) (by decide +kernel) (by decide +kernel)
theorem k_ml_L_154 : Cond.methodLink RL 154 yL_swapTanks ∈ gT := gT_t4 (i := 35) (by decide +kernel) (by decide +kernel)
theorem k_st_L_swapTanks : Cond.static yL_swapTanks ∈ gT := gT_t4 (i := 36) (by decide +kernel) (by decide +kernel)
set_option maxRecDepth 10000 in
theorem k_cd_L_swapTanks : Cond.codeWith yL_swapTanks cL_swapTanks 4 (some .int) [(0, 6, 9, 19)] ∈ gT := gT_t4 (i := 37) rfl (by decide +kernel)
theorem k_ml_L_38 : Cond.methodLink RL 38 yX6_swapTanks ∈ gT := gT_t4 (i := 38) (by decide +kernel) (by decide +kernel)
theorem k_im_X6_swapTanks : Cond.instanceMethod yX6_swapTanks ∈ gT := gT_t4 (i := 39) (by decide +kernel) (by decide +kernel)
theorem k_se_X6_swapTanks : Cond.selects RX6 yX6_swapTanks yX6_swapTanks ∈ gT := gT_t4 (i := 40) (by decide +kernel) (by decide +kernel)
set_option maxRecDepth 10000 in
theorem k_cd_X6_swapTanks : Cond.code yX6_swapTanks cX6_swapTanks 3 none ∈ gT := gT_t4 (i := 41) rfl (by decide +kernel)
theorem k_ml_X6_123 : Cond.methodLink RX6 123 yX5_exchange ∈ gT := gT_t4 (i := 42) (by decide +kernel) (by decide +kernel)
theorem k_im_X5_exchange : Cond.instanceMethod yX5_exchange ∈ gT := gT_t4 (i := 43) (by decide +kernel) (by decide +kernel)
theorem k_se_X5_exchange : Cond.selects RX5 yX5_exchange yX5_exchange ∈ gT := gT_t4 (i := 44) (by decide +kernel) (by decide +kernel)
set_option maxRecDepth 10000 in
theorem k_cd_X5_exchange : Cond.code yX5_exchange cX5_exchange 5 none ∈ gT := gT_t4 (i := 45) rfl (by decide +kernel)
theorem k_ml_X5_40 : Cond.methodLink RX5 40 yX5_wordAt ∈ gT := gT_t4 (i := 46) (by decide +kernel) (by decide +kernel)
theorem k_ml_X5_43 : Cond.methodLink RX5 43 yX5_slipCountOf ∈ gT := gT_t4 (i := 47) (by decide +kernel) (by decide +kernel)
theorem k_im_X5_slipCountOf : Cond.instanceMethod yX5_slipCountOf ∈ gT := gT_t4 (i := 48) (by decide +kernel) (by decide +kernel)
theorem k_se_X5_slipCountOf : Cond.selects RX5 yX5_slipCountOf yX5_slipCountOf ∈ gT := gT_t4 (i := 49) (by decide +kernel) (by decide +kernel)
set_option maxRecDepth 10000 in
theorem k_cd_X5_slipCountOf : Cond.code yX5_slipCountOf cX5_slipCountOf 2 (some .int) ∈ gT := gT_t4 (i := 50) rfl (by decide +kernel)
theorem k_ml_X6_130 : Cond.methodLink RX6 130 yX1_exchange ∈ gT := gT_t4 (i := 51) (by decide +kernel) (by decide +kernel)
theorem k_im_X1_exchange : Cond.instanceMethod yX1_exchange ∈ gT := gT_t4 (i := 52) (by decide +kernel) (by decide +kernel)
theorem k_se_X1_exchange : Cond.selects RX1 yX1_exchange yX1_exchange ∈ gT := gT_t4 (i := 53) (by decide +kernel) (by decide +kernel)
set_option maxRecDepth 10000 in
theorem k_cd_X1_exchange : Cond.code yX1_exchange cX1_exchange 4 none ∈ gT := gT_t4 (i := 54) rfl (by decide +kernel)
theorem k_ml_L_158 : Cond.methodLink RL 158 yL_bitCount ∈ gT := gT_t4 (i := 55) (by decide +kernel) (by decide +kernel)
theorem k_st_L_bitCount : Cond.static yL_bitCount ∈ gT := gT_t4 (i := 56) (by decide +kernel) (by decide +kernel)
set_option maxRecDepth 10000 in
theorem k_cd_L_bitCount : Cond.codeWith yL_bitCount cL_bitCount 4 (some .int) [(0, 9, 12, 19)] ∈ gT := gT_t4 (i := 57) rfl (by decide +kernel)
theorem k_ml_L_42 : Cond.methodLink RL 42 yX6_bitCount ∈ gT := gT_t4 (i := 58) (by decide +kernel) (by decide +kernel)
theorem k_im_X6_bitCount : Cond.instanceMethod yX6_bitCount ∈ gT := gT_t4 (i := 59) (by decide +kernel) (by decide +kernel)
theorem k_se_X6_bitCount : Cond.selects RX6 yX6_bitCount yX6_bitCount ∈ gT := gT_t4 (i := 60) (by decide +kernel) (by decide +kernel)
set_option maxRecDepth 10000 in
theorem k_cd_X6_bitCount : Cond.code yX6_bitCount cX6_bitCount 2 (some .int) ∈ gT := gT_t4 (i := 61) rfl (by decide +kernel)
theorem k_ml_L_161 : Cond.methodLink RL 161 yL_slips ∈ gT := gT_t4 (i := 62) (by decide +kernel) (by decide +kernel)
theorem k_st_L_slips : Cond.static yL_slips ∈ gT := gT_t4 (i := 63) (by decide +kernel) (by decide +kernel)
set_option maxRecDepth 10000 in
theorem k_cd_L_slips : Cond.codeWith yL_slips cL_slips 4 (some .int) [(0, 9, 12, 19)] ∈ gT := gT_t4 (i := 64) rfl (by decide +kernel)
theorem k_ml_L_45 : Cond.methodLink RL 45 yX6_slips ∈ gT := gT_t4 (i := 65) (by decide +kernel) (by decide +kernel)
theorem k_im_X6_slips : Cond.instanceMethod yX6_slips ∈ gT := gT_t4 (i := 66) (by decide +kernel) (by decide +kernel)
theorem k_se_X6_slips : Cond.selects RX6 yX6_slips yX6_slips ∈ gT := gT_t4 (i := 67) (by decide +kernel) (by decide +kernel)
set_option maxRecDepth 10000 in
theorem k_cd_X6_slips : Cond.code yX6_slips cX6_slips 2 (some .int) ∈ gT := gT_t4 (i := 68) rfl (by decide +kernel)
theorem k_ml_X6_133 : Cond.methodLink RX6 133 yX5_slipCountOf ∈ gT := gT_t4 (i := 69) (by decide +kernel) (by decide +kernel)
theorem k_ml_L_168 : Cond.methodLink RL 168 yL_setTemperature ∈ gT := gT_t4 (i := 70) (by decide +kernel) (by decide +kernel)
theorem k_st_L_setTemperature : Cond.static yL_setTemperature ∈ gT := gT_t4 (i := 71) (by decide +kernel) (by decide +kernel)
set_option maxRecDepth 10000 in
theorem k_cd_L_setTemperature : Cond.codeWith yL_setTemperature cL_setTemperature 5 (some .int) [(0, 10, 13, 19), (0, 10, 17, 25)] ∈ gT := gT_t4 (i := 72) rfl (by decide +kernel)
theorem k_ml_L_48 : Cond.methodLink RL 48 yX6_setTemperature ∈ gT := gT_t4 (i := 73) (by decide +kernel) (by decide +kernel)
theorem k_im_X6_setTemperature : Cond.instanceMethod yX6_setTemperature ∈ gT := gT_t4 (i := 74) (by decide +kernel) (by decide +kernel)
theorem k_se_X6_setTemperature : Cond.selects RX6 yX6_setTemperature yX6_setTemperature ∈ gT := gT_t4 (i := 75) (by decide +kernel) (by decide +kernel)
set_option maxRecDepth 10000 in
theorem k_cd_X6_setTemperature : Cond.code yX6_setTemperature cX6_setTemperature 4 (some .int) ∈ gT := gT_t4 (i := 76) rfl (by decide +kernel)
theorem k_ml_X6_139 : Cond.methodLink RX6 139 yX6_requireTemperature ∈ gT := gT_t4 (i := 77) (by decide +kernel) (by decide +kernel)
theorem k_st_X6_requireTemperature : Cond.static yX6_requireTemperature ∈ gT := gT_t4 (i := 78) (by decide +kernel) (by decide +kernel)
set_option maxRecDepth 10000 in
theorem k_cd_X6_requireTemperature : Cond.code yX6_requireTemperature cX6_requireTemperature 1 none ∈ gT := gT_t4 (i := 79) rfl (by decide +kernel)
theorem k_ml_X6_142 : Cond.methodLink RX6 142 yX1_temperatureOf ∈ gT := gT_t4 (i := 81) (by decide +kernel) (by decide +kernel)
theorem k_ml_X6_145 : Cond.methodLink RX6 145 yX1_putTemperature ∈ gT := gT_t4 (i := 82) (by decide +kernel) (by decide +kernel)
theorem k_ml_L_171 : Cond.methodLink RL 171 yL_temperature ∈ gT := gT_t4 (i := 83) (by decide +kernel) (by decide +kernel)
theorem k_st_L_temperature : Cond.static yL_temperature ∈ gT := gT_t4 (i := 84) (by decide +kernel) (by decide +kernel)
set_option maxRecDepth 10000 in
theorem k_cd_L_temperature : Cond.codeWith yL_temperature cL_temperature 4 (some .int) [(0, 9, 12, 19)] ∈ gT := gT_t4 (i := 85) rfl (by decide +kernel)
theorem k_ml_L_51 : Cond.methodLink RL 51 yX6_temperature ∈ gT := gT_t4 (i := 86) (by decide +kernel) (by decide +kernel)
theorem k_im_X6_temperature : Cond.instanceMethod yX6_temperature ∈ gT := gT_t4 (i := 87) (by decide +kernel) (by decide +kernel)
theorem k_se_X6_temperature : Cond.selects RX6 yX6_temperature yX6_temperature ∈ gT := gT_t4 (i := 88) (by decide +kernel) (by decide +kernel)
set_option maxRecDepth 10000 in
theorem k_cd_X6_temperature : Cond.code yX6_temperature cX6_temperature 2 (some .int) ∈ gT := gT_t4 (i := 89) rfl (by decide +kernel)
theorem k_ml_L_174 : Cond.methodLink RL 174 yL_setOven ∈ gT := gT_t4 (i := 90) (by decide +kernel) (by decide +kernel)
theorem k_st_L_setOven : Cond.static yL_setOven ∈ gT := gT_t4 (i := 91) (by decide +kernel) (by decide +kernel)
set_option maxRecDepth 10000 in
theorem k_cd_L_setOven : Cond.codeWith yL_setOven cL_setOven 4 (some .int) [(0, 9, 12, 25)] ∈ gT := gT_t4 (i := 92) rfl (by decide +kernel)
theorem k_ml_L_54 : Cond.methodLink RL 54 yX6_setOven ∈ gT := gT_t4 (i := 93) (by decide +kernel) (by decide +kernel)
theorem k_im_X6_setOven : Cond.instanceMethod yX6_setOven ∈ gT := gT_t4 (i := 94) (by decide +kernel) (by decide +kernel)
theorem k_se_X6_setOven : Cond.selects RX6 yX6_setOven yX6_setOven ∈ gT := gT_t4 (i := 95) (by decide +kernel) (by decide +kernel)
set_option maxRecDepth 10000 in
theorem k_cd_X6_setOven : Cond.code yX6_setOven cX6_setOven 3 (some .int) ∈ gT := gT_t4 (i := 96) rfl (by decide +kernel)
theorem k_ml_L_177 : Cond.methodLink RL 177 yL_setPilotTemperature ∈ gT := gT_t4 (i := 97) (by decide +kernel) (by decide +kernel)
theorem k_st_L_setPilotTemperature : Cond.static yL_setPilotTemperature ∈ gT := gT_t4 (i := 98) (by decide +kernel) (by decide +kernel)
set_option maxRecDepth 10000 in
theorem k_cd_L_setPilotTemperature : Cond.codeWith yL_setPilotTemperature cL_setPilotTemperature 4 (some .int) [(0, 9, 12, 25)] ∈ gT := gT_t4 (i := 99) rfl (by decide +kernel)
theorem k_ml_L_57 : Cond.methodLink RL 57 yX6_setPilotTemperature ∈ gT := gT_t4 (i := 100) (by decide +kernel) (by decide +kernel)
theorem k_im_X6_setPilotTemperature : Cond.instanceMethod yX6_setPilotTemperature ∈ gT := gT_t4 (i := 101) (by decide +kernel) (by decide +kernel)
theorem k_se_X6_setPilotTemperature : Cond.selects RX6 yX6_setPilotTemperature yX6_setPilotTemperature ∈ gT := gT_t4 (i := 102) (by decide +kernel) (by decide +kernel)
set_option maxRecDepth 10000 in
theorem k_cd_X6_setPilotTemperature : Cond.code yX6_setPilotTemperature cX6_setPilotTemperature 3 (some .int) ∈ gT := gT_t4 (i := 103) rfl (by decide +kernel)
theorem k_ml_L_185 : Cond.methodLink RL 185 yL_setFixedPeriod ∈ gT := gT_t4 (i := 104) (by decide +kernel) (by decide +kernel)
theorem k_st_L_setFixedPeriod : Cond.static yL_setFixedPeriod ∈ gT := gT_t4 (i := 105) (by decide +kernel) (by decide +kernel)
set_option maxRecDepth 10000 in
theorem k_cd_L_setFixedPeriod : Cond.codeWith yL_setFixedPeriod cL_setFixedPeriod 4 (some .int) [(0, 9, 12, 25)] ∈ gT := gT_t4 (i := 106) rfl (by decide +kernel)
theorem k_ml_L_60 : Cond.methodLink RL 60 yX6_setFixedPeriod ∈ gT := gT_t4 (i := 107) (by decide +kernel) (by decide +kernel)
theorem k_im_X6_setFixedPeriod : Cond.instanceMethod yX6_setFixedPeriod ∈ gT := gT_t4 (i := 108) (by decide +kernel) (by decide +kernel)
theorem k_se_X6_setFixedPeriod : Cond.selects RX6 yX6_setFixedPeriod yX6_setFixedPeriod ∈ gT := gT_t4 (i := 109) (by decide +kernel) (by decide +kernel)
set_option maxRecDepth 10000 in
theorem k_cd_X6_setFixedPeriod : Cond.code yX6_setFixedPeriod cX6_setFixedPeriod 3 (some .int) ∈ gT := gT_t4 (i := 110) rfl (by decide +kernel)
theorem k_co_X6_158 : Cond.constant RX6 158 (900000) ∈ gT := gT_t4 (i := 111) (by decide +kernel) (by decide +kernel)
theorem k_co_X6_159 : Cond.constant RX6 159 (1100000) ∈ gT := gT_t4 (i := 112) (by decide +kernel) (by decide +kernel)
theorem k_ml_L_192 : Cond.methodLink RL 192 yL_mismatch ∈ gT := gT_t4 (i := 114) (by decide +kernel) (by decide +kernel)
theorem k_st_L_mismatch : Cond.static yL_mismatch ∈ gT := gT_t4 (i := 115) (by decide +kernel) (by decide +kernel)
set_option maxRecDepth 10000 in
theorem k_cd_L_mismatch : Cond.codeWith yL_mismatch cL_mismatch 4 (some .int) [(0, 9, 12, 19)] ∈ gT := gT_t4 (i := 116) rfl (by decide +kernel)
theorem k_ml_L_63 : Cond.methodLink RL 63 yX6_mismatch ∈ gT := gT_t4 (i := 117) (by decide +kernel) (by decide +kernel)
theorem k_im_X6_mismatch : Cond.instanceMethod yX6_mismatch ∈ gT := gT_t4 (i := 118) (by decide +kernel) (by decide +kernel)
theorem k_se_X6_mismatch : Cond.selects RX6 yX6_mismatch yX6_mismatch ∈ gT := gT_t4 (i := 119) (by decide +kernel) (by decide +kernel)
set_option maxRecDepth 10000 in
theorem k_cd_X6_mismatch : Cond.code yX6_mismatch cX6_mismatch 3 (some .int) ∈ gT := gT_t4 (i := 120) rfl (by decide +kernel)
theorem k_ml_L_207 : Cond.methodLink RL 207 yL_start ∈ gT := gT_t4 (i := 121) (by decide +kernel) (by decide +kernel)
theorem k_st_L_start : Cond.static yL_start ∈ gT := gT_t4 (i := 122) (by decide +kernel) (by decide +kernel)
set_option maxRecDepth 10000 in
theorem k_cd_L_start : Cond.codeWith yL_start cL_start 4 (some .int) [(0, 6, 9, 19)] ∈ gT := gT_t4 (i := 123) rfl (by decide +kernel)
theorem k_ml_L_66 : Cond.methodLink RL 66 yX6_start ∈ gT := gT_t4 (i := 124) (by decide +kernel) (by decide +kernel)
theorem k_im_X6_start : Cond.instanceMethod yX6_start ∈ gT := gT_t4 (i := 125) (by decide +kernel) (by decide +kernel)
theorem k_se_X6_start : Cond.selects RX6 yX6_start yX6_start ∈ gT := gT_t4 (i := 126) (by decide +kernel) (by decide +kernel)
set_option maxRecDepth 10000 in
theorem k_cd_X6_start : Cond.code yX6_start cX6_start 3 none ∈ gT := gT_t4 (i := 127) rfl (by decide +kernel)
theorem k_ml_L_210 : Cond.methodLink RL 210 yL_run ∈ gT := gT_t4 (i := 128) (by decide +kernel) (by decide +kernel)
theorem k_st_L_run : Cond.static yL_run ∈ gT := gT_t4 (i := 129) (by decide +kernel) (by decide +kernel)
set_option maxRecDepth 10000 in
theorem k_cd_L_run : Cond.codeWith yL_run cL_run 4 (some .int) [(0, 9, 12, 25), (0, 9, 15, 13)] ∈ gT := gT_t4 (i := 130) rfl (by decide +kernel)
theorem k_ml_L_69 : Cond.methodLink RL 69 yX6_run ∈ gT := gT_t4 (i := 131) (by decide +kernel) (by decide +kernel)
theorem k_im_X6_run : Cond.instanceMethod yX6_run ∈ gT := gT_t4 (i := 132) (by decide +kernel) (by decide +kernel)
theorem k_se_X6_run : Cond.selects RX6 yX6_run yX6_run ∈ gT := gT_t4 (i := 133) (by decide +kernel) (by decide +kernel)
set_option maxRecDepth 10000 in
theorem k_cd_X6_run : Cond.code yX6_run cX6_run 2 (some .int) ∈ gT := gT_t4 (i := 134) rfl (by decide +kernel)
theorem k_ml_X6_186 : Cond.methodLink RX6 186 yX6_requireCount ∈ gT := gT_t4 (i := 135) (by decide +kernel) (by decide +kernel)
theorem k_st_X6_requireCount : Cond.static yX6_requireCount ∈ gT := gT_t4 (i := 136) (by decide +kernel) (by decide +kernel)
set_option maxRecDepth 10000 in
theorem k_cd_X6_requireCount : Cond.code yX6_requireCount cX6_requireCount 2 none ∈ gT := gT_t4 (i := 137) rfl (by decide +kernel)
theorem k_ml_X6_189 : Cond.methodLink RX6 189 yX6_requireReady ∈ gT := gT_t4 (i := 139) (by decide +kernel) (by decide +kernel)
theorem k_im_X6_requireReady : Cond.instanceMethod yX6_requireReady ∈ gT := gT_t4 (i := 141) (by decide +kernel) (by decide +kernel)
set_option maxRecDepth 10000 in
theorem k_cd_X6_requireReady : Cond.code yX6_requireReady cX6_requireReady 1 none ∈ gT := gT_t4 (i := 142) rfl (by decide +kernel)
theorem k_ml_X6_192 : Cond.methodLink RX6 192 yX2_executeUpTo ∈ gT := gT_t4 (i := 144) (by decide +kernel) (by decide +kernel)
theorem k_im_X2_executeUpTo : Cond.instanceMethod yX2_executeUpTo ∈ gT := gT_t4 (i := 145) (by decide +kernel) (by decide +kernel)
theorem k_se_X2_executeUpTo : Cond.selects RX2 yX2_executeUpTo yX2_executeUpTo ∈ gT := gT_t4 (i := 146) (by decide +kernel) (by decide +kernel)
set_option maxRecDepth 10000 in
theorem k_cd_X2_executeUpTo : Cond.code yX2_executeUpTo cX2_executeUpTo 4 (some .int) ∈ gT := gT_t4 (i := 147) rfl (by decide +kernel)
theorem k_ml_X2_49 : Cond.methodLink RX2 49 yX2_executeNext ∈ gT := gT_t4 (i := 148) (by decide +kernel) (by decide +kernel)
theorem k_im_X2_executeNext : Cond.instanceMethod yX2_executeNext ∈ gT := gT_t4 (i := 150) (by decide +kernel) (by decide +kernel)
set_option maxRecDepth 10000 in
theorem k_cd_X2_executeNext : Cond.code yX2_executeNext cX2_executeNext 5 none ∈ gT := gT_t4 (i := 151) rfl (by decide +kernel)
theorem k_ml_X2_52 : Cond.methodLink RX2 52 yX2_awaitCycle ∈ gT := gT_t4 (i := 152) (by decide +kernel) (by decide +kernel)
theorem k_im_X2_awaitCycle : Cond.instanceMethod yX2_awaitCycle ∈ gT := gT_t4 (i := 154) (by decide +kernel) (by decide +kernel)
set_option maxRecDepth 10000 in
theorem k_cd_X2_awaitCycle : Cond.code yX2_awaitCycle cX2_awaitCycle 3 none ∈ gT := gT_t4 (i := 155) rfl (by decide +kernel)
theorem k_st_X6_waitingUntil : Cond.static yX6_waitingUntil ∈ gT := gT_t4 (i := 157) (by decide +kernel) (by decide +kernel)
set_option maxRecDepth 10000 in
theorem k_cd_X6_waitingUntil : Cond.code yX6_waitingUntil cX6_waitingUntil 2 (some .int) ∈ gT := gT_t4 (i := 158) rfl (by decide +kernel)
theorem k_ml_X2_60 : Cond.methodLink RX2 60 yX2_pass ∈ gT := gT_t4 (i := 159) (by decide +kernel) (by decide +kernel)
theorem k_im_X2_pass : Cond.instanceMethod yX2_pass ∈ gT := gT_t4 (i := 160) (by decide +kernel) (by decide +kernel)
theorem k_se_X2_pass : Cond.selects RX2 yX2_pass yX2_pass ∈ gT := gT_t4 (i := 161) (by decide +kernel) (by decide +kernel)
set_option maxRecDepth 10000 in
theorem k_cd_X2_pass : Cond.code yX2_pass cX2_pass 4 none ∈ gT := gT_t4 (i := 162) rfl (by decide +kernel)
theorem k_ml_X2_136 : Cond.methodLink RX2 136 yX2_endMajorCycle ∈ gT := gT_t4 (i := 163) (by decide +kernel) (by decide +kernel)
theorem k_im_X2_endMajorCycle : Cond.instanceMethod yX2_endMajorCycle ∈ gT := gT_t4 (i := 165) (by decide +kernel) (by decide +kernel)
set_option maxRecDepth 10000 in
theorem k_cd_X2_endMajorCycle : Cond.code yX2_endMajorCycle cX2_endMajorCycle 6 none ∈ gT := gT_t4 (i := 166) rfl (by decide +kernel)
theorem k_ml_X2_139 : Cond.methodLink RX2 139 yX1_clockPeriod ∈ gT := gT_t4 (i := 167) (by decide +kernel) (by decide +kernel)
theorem k_ml_X2_142 : Cond.methodLink RX2 142 yX1_temperatureOf ∈ gT := gT_t4 (i := 168) (by decide +kernel) (by decide +kernel)
theorem k_ml_X2_148 : Cond.methodLink RX2 148 yJ9_floorDiv_7cf53 ∈ gT := gT_t4 (i := 170) (by decide +kernel) (by decide +kernel)
theorem k_st_J9_floorDiv_7cf53 : Cond.static yJ9_floorDiv_7cf53 ∈ gT := gT_t4 (i := 171) (by decide +kernel) (by decide +kernel)
set_option maxRecDepth 10000 in
theorem k_cd_J9_floorDiv_7cf53 : Cond.code yJ9_floorDiv_7cf53 cJ9_floorDiv_7cf53 3 (some .int) ∈ gT := gT_t4 (i := 172) rfl (by decide +kernel)
theorem k_ml_X2_153 : Cond.methodLink RX2 153 yX5_moveBits ∈ gT := gT_t4 (i := 173) (by decide +kernel) (by decide +kernel)
theorem k_im_X5_moveBits : Cond.instanceMethod yX5_moveBits ∈ gT := gT_t4 (i := 174) (by decide +kernel) (by decide +kernel)
theorem k_se_X5_moveBits : Cond.selects RX5 yX5_moveBits yX5_moveBits ∈ gT := gT_t4 (i := 175) (by decide +kernel) (by decide +kernel)
set_option maxRecDepth 10000 in
theorem k_cd_X5_moveBits : Cond.code yX5_moveBits cX5_moveBits 9 none ∈ gT := gT_t4 (i := 176) rfl (by decide +kernel)
theorem k_ml_X5_46 : Cond.methodLink RX5 46 yJ9_floorMod_7cf53 ∈ gT := gT_t4 (i := 177) (by decide +kernel) (by decide +kernel)
theorem k_st_J9_floorMod_7cf53 : Cond.static yJ9_floorMod_7cf53 ∈ gT := gT_t4 (i := 178) (by decide +kernel) (by decide +kernel)
set_option maxRecDepth 10000 in
theorem k_cd_J9_floorMod_7cf53 : Cond.code yJ9_floorMod_7cf53 cJ9_floorMod_7cf53 3 (some .int) ∈ gT := gT_t4 (i := 179) rfl (by decide +kernel)
theorem k_ml_X5_54 : Cond.methodLink RX5 54 yJ9_abs_0f7a4 ∈ gT := gT_t4 (i := 181) (by decide +kernel) (by decide +kernel)
theorem k_ml_X2_156 : Cond.methodLink RX2 156 yJ9_abs_0f7a4 ∈ gT := gT_t4 (i := 182) (by decide +kernel) (by decide +kernel)
theorem k_ml_X2_159 : Cond.methodLink RX2 159 yX5_dropBit ∈ gT := gT_t4 (i := 183) (by decide +kernel) (by decide +kernel)
theorem k_im_X5_dropBit : Cond.instanceMethod yX5_dropBit ∈ gT := gT_t4 (i := 184) (by decide +kernel) (by decide +kernel)
theorem k_se_X5_dropBit : Cond.selects RX5 yX5_dropBit yX5_dropBit ∈ gT := gT_t4 (i := 185) (by decide +kernel) (by decide +kernel)
set_option maxRecDepth 10000 in
theorem k_cd_X5_dropBit : Cond.code yX5_dropBit cX5_dropBit 5 none ∈ gT := gT_t4 (i := 186) rfl (by decide +kernel)
theorem k_ml_X2_162 : Cond.methodLink RX2 162 yX1_drift ∈ gT := gT_t4 (i := 187) (by decide +kernel) (by decide +kernel)
theorem k_ml_X2_56 : Cond.methodLink RX2 56 yX5_wordAt ∈ gT := gT_t4 (i := 188) (by decide +kernel) (by decide +kernel)
theorem k_ml_X2_63 : Cond.methodLink RX2 63 yX3_opcode ∈ gT := gT_t4 (i := 189) (by decide +kernel) (by decide +kernel)
theorem k_st_X3_opcode : Cond.static yX3_opcode ∈ gT := gT_t4 (i := 190) (by decide +kernel) (by decide +kernel)
set_option maxRecDepth 10000 in
theorem k_cd_X3_opcode : Cond.code yX3_opcode cX3_opcode 1 (some .int) ∈ gT := gT_t4 (i := 191) rfl (by decide +kernel)
theorem k_ml_X2_71 : Cond.methodLink RX2 71 yX4_isFull ∈ gT := gT_t4 (i := 192) (by decide +kernel) (by decide +kernel)
theorem k_im_X4_isFull : Cond.instanceMethod yX4_isFull ∈ gT := gT_t4 (i := 193) (by decide +kernel) (by decide +kernel)
theorem k_se_X4_isFull : Cond.selects RX4 yX4_isFull yX4_isFull ∈ gT := gT_t4 (i := 194) (by decide +kernel) (by decide +kernel)
set_option maxRecDepth 10000 in
theorem k_cd_X4_isFull : Cond.code yX4_isFull cX4_isFull 1 (some .boolean) ∈ gT := gT_t4 (i := 195) rfl (by decide +kernel)
theorem k_ml_X2_75 : Cond.methodLink RX2 75 yX3_operand ∈ gT := gT_t4 (i := 196) (by decide +kernel) (by decide +kernel)
theorem k_st_X3_operand : Cond.static yX3_operand ∈ gT := gT_t4 (i := 197) (by decide +kernel) (by decide +kernel)
set_option maxRecDepth 10000 in
theorem k_cd_X3_operand : Cond.code yX3_operand cX3_operand 1 (some .int) ∈ gT := gT_t4 (i := 198) rfl (by decide +kernel)
theorem k_ml_X2_78 : Cond.methodLink RX2 78 yX3_waitsForOperand ∈ gT := gT_t4 (i := 200) (by decide +kernel) (by decide +kernel)
theorem k_st_X3_waitsForOperand : Cond.static yX3_waitsForOperand ∈ gT := gT_t4 (i := 201) (by decide +kernel) (by decide +kernel)
set_option maxRecDepth 10000 in
theorem k_cd_X3_waitsForOperand : Cond.code yX3_waitsForOperand cX3_waitsForOperand 1 (some .boolean) ∈ gT := gT_t4 (i := 202) rfl (by decide +kernel)
theorem k_ml_X3_58 : Cond.methodLink RX3 58 yX3_operandForm ∈ gT := gT_t4 (i := 203) (by decide +kernel) (by decide +kernel)
theorem k_ml_X3_61 : Cond.methodLink RX3 61 yX3_isJump ∈ gT := gT_t4 (i := 204) (by decide +kernel) (by decide +kernel)
theorem k_st_X3_isJump : Cond.static yX3_isJump ∈ gT := gT_t4 (i := 205) (by decide +kernel) (by decide +kernel)
set_option maxRecDepth 10000 in
theorem k_cd_X3_isJump : Cond.code yX3_isJump cX3_isJump 1 (some .boolean) ∈ gT := gT_t4 (i := 206) rfl (by decide +kernel)
theorem k_ml_X2_82 : Cond.methodLink RX2 82 yX2_isJumpTaken ∈ gT := gT_t4 (i := 207) (by decide +kernel) (by decide +kernel)
theorem k_im_X2_isJumpTaken : Cond.instanceMethod yX2_isJumpTaken ∈ gT := gT_t4 (i := 209) (by decide +kernel) (by decide +kernel)
set_option maxRecDepth 10000 in
theorem k_cd_X2_isJumpTaken : Cond.code yX2_isJumpTaken cX2_isJumpTaken 2 (some .boolean) ∈ gT := gT_t4 (i := 210) rfl (by decide +kernel)
theorem k_ml_X2_85 : Cond.methodLink RX2 85 yX2_perform ∈ gT := gT_t4 (i := 211) (by decide +kernel) (by decide +kernel)
theorem k_im_X2_perform : Cond.instanceMethod yX2_perform ∈ gT := gT_t4 (i := 213) (by decide +kernel) (by decide +kernel)
set_option maxRecDepth 10000 in
theorem k_cd_X2_perform : Cond.code yX2_perform cX2_perform 3 none ∈ gT := gT_t4 (i := 214) rfl (by decide +kernel)
theorem k_ml_X2_92 : Cond.methodLink RX2 92 yX5_putWord ∈ gT := gT_t4 (i := 215) (by decide +kernel) (by decide +kernel)
theorem k_ml_X2_112 : Cond.methodLink RX2 112 yX4_removeFirst ∈ gT := gT_t4 (i := 218) (by decide +kernel) (by decide +kernel)
theorem k_im_X4_removeFirst : Cond.instanceMethod yX4_removeFirst ∈ gT := gT_t4 (i := 219) (by decide +kernel) (by decide +kernel)
theorem k_se_X4_removeFirst : Cond.selects RX4 yX4_removeFirst yX4_removeFirst ∈ gT := gT_t4 (i := 220) (by decide +kernel) (by decide +kernel)
set_option maxRecDepth 10000 in
theorem k_cd_X4_removeFirst : Cond.code yX4_removeFirst cX4_removeFirst 2 (some .int) ∈ gT := gT_t4 (i := 221) rfl (by decide +kernel)
theorem k_ml_X2_116 : Cond.methodLink RX2 116 yX4_addLast ∈ gT := gT_t4 (i := 222) (by decide +kernel) (by decide +kernel)
theorem k_im_X4_addLast : Cond.instanceMethod yX4_addLast ∈ gT := gT_t4 (i := 223) (by decide +kernel) (by decide +kernel)
theorem k_se_X4_addLast : Cond.selects RX4 yX4_addLast yX4_addLast ∈ gT := gT_t4 (i := 224) (by decide +kernel) (by decide +kernel)
set_option maxRecDepth 10000 in
theorem k_cd_X4_addLast : Cond.code yX4_addLast cX4_addLast 2 none ∈ gT := gT_t4 (i := 225) rfl (by decide +kernel)
theorem k_ml_X2_119 : Cond.methodLink RX2 119 yX2_combine ∈ gT := gT_t4 (i := 226) (by decide +kernel) (by decide +kernel)
theorem k_im_X2_combine : Cond.instanceMethod yX2_combine ∈ gT := gT_t4 (i := 228) (by decide +kernel) (by decide +kernel)
set_option maxRecDepth 10000 in
theorem k_cd_X2_combine : Cond.code yX2_combine cX2_combine 3 none ∈ gT := gT_t4 (i := 229) rfl (by decide +kernel)
theorem k_ml_X2_122 : Cond.methodLink RX2 122 yX2_putResult ∈ gT := gT_t4 (i := 230) (by decide +kernel) (by decide +kernel)
theorem k_im_X2_putResult : Cond.instanceMethod yX2_putResult ∈ gT := gT_t4 (i := 232) (by decide +kernel) (by decide +kernel)
set_option maxRecDepth 10000 in
theorem k_cd_X2_putResult : Cond.code yX2_putResult cX2_putResult 3 none ∈ gT := gT_t4 (i := 233) rfl (by decide +kernel)
theorem k_ml_X2_95 : Cond.methodLink RX2 95 yX3_ownTime ∈ gT := gT_t4 (i := 234) (by decide +kernel) (by decide +kernel)
theorem k_st_X3_ownTime : Cond.static yX3_ownTime ∈ gT := gT_t4 (i := 235) (by decide +kernel) (by decide +kernel)
set_option maxRecDepth 10000 in
theorem k_cd_X3_ownTime : Cond.code yX3_ownTime cX3_ownTime 1 (some .int) ∈ gT := gT_t4 (i := 236) rfl (by decide +kernel)
theorem k_ml_X3_65 : Cond.methodLink RX3 65 yX3_opcode ∈ gT := gT_t4 (i := 237) (by decide +kernel) (by decide +kernel)
theorem k_ml_X3_68 : Cond.methodLink RX3 68 yX3_operand ∈ gT := gT_t4 (i := 238) (by decide +kernel) (by decide +kernel)
theorem k_ml_X2_98 : Cond.methodLink RX2 98 yX3_next ∈ gT := gT_t4 (i := 239) (by decide +kernel) (by decide +kernel)
theorem k_st_X3_next : Cond.static yX3_next ∈ gT := gT_t5 (i := 0) (by decide +kernel) (by decide +kernel)
set_option maxRecDepth 10000 in
theorem k_cd_X3_next : Cond.code yX3_next cX3_next 1 (some .int) ∈ gT := gT_t5 (i := 1) rfl (by decide +kernel)
theorem k_ml_L_213 : Cond.methodLink RL 213 yL_idle ∈ gT := gT_t5 (i := 2) (by decide +kernel) (by decide +kernel)
theorem k_st_L_idle : Cond.static yL_idle ∈ gT := gT_t5 (i := 3) (by decide +kernel) (by decide +kernel)
set_option maxRecDepth 10000 in
theorem k_cd_L_idle : Cond.codeWith yL_idle cL_idle 4 (some .int) [(0, 9, 12, 25)] ∈ gT := gT_t5 (i := 4) rfl (by decide +kernel)
theorem k_ml_L_72 : Cond.methodLink RL 72 yX6_idle ∈ gT := gT_t5 (i := 5) (by decide +kernel) (by decide +kernel)
theorem k_im_X6_idle : Cond.instanceMethod yX6_idle ∈ gT := gT_t5 (i := 6) (by decide +kernel) (by decide +kernel)
theorem k_se_X6_idle : Cond.selects RX6 yX6_idle yX6_idle ∈ gT := gT_t5 (i := 7) (by decide +kernel) (by decide +kernel)
set_option maxRecDepth 10000 in
theorem k_cd_X6_idle : Cond.code yX6_idle cX6_idle 2 (some .int) ∈ gT := gT_t5 (i := 8) rfl (by decide +kernel)
theorem k_ml_X6_195 : Cond.methodLink RX6 195 yX2_pass ∈ gT := gT_t5 (i := 9) (by decide +kernel) (by decide +kernel)
theorem k_ml_L_237 : Cond.methodLink RL 237 yL_offerInput ∈ gT := gT_t5 (i := 10) (by decide +kernel) (by decide +kernel)
theorem k_st_L_offerInput : Cond.static yL_offerInput ∈ gT := gT_t5 (i := 11) (by decide +kernel) (by decide +kernel)
set_option maxRecDepth 10000 in
theorem k_cd_L_offerInput : Cond.codeWith yL_offerInput cL_offerInput 4 (some .int) [(0, 9, 12, 25), (0, 9, 15, 13)] ∈ gT := gT_t5 (i := 12) rfl (by decide +kernel)
theorem k_ml_L_75 : Cond.methodLink RL 75 yX6_offerInput ∈ gT := gT_t5 (i := 13) (by decide +kernel) (by decide +kernel)
theorem k_im_X6_offerInput : Cond.instanceMethod yX6_offerInput ∈ gT := gT_t5 (i := 14) (by decide +kernel) (by decide +kernel)
theorem k_se_X6_offerInput : Cond.selects RX6 yX6_offerInput yX6_offerInput ∈ gT := gT_t5 (i := 15) (by decide +kernel) (by decide +kernel)
set_option maxRecDepth 10000 in
theorem k_cd_X6_offerInput : Cond.code yX6_offerInput cX6_offerInput 2 (some .int) ∈ gT := gT_t5 (i := 16) rfl (by decide +kernel)
theorem k_ml_X6_217 : Cond.methodLink RX6 217 yX4_isFull ∈ gT := gT_t5 (i := 17) (by decide +kernel) (by decide +kernel)
theorem k_ml_X6_224 : Cond.methodLink RX6 224 yX4_addLast ∈ gT := gT_t5 (i := 19) (by decide +kernel) (by decide +kernel)
theorem k_ml_L_240 : Cond.methodLink RL 240 yL_takeOutput ∈ gT := gT_t5 (i := 20) (by decide +kernel) (by decide +kernel)
theorem k_st_L_takeOutput : Cond.static yL_takeOutput ∈ gT := gT_t5 (i := 21) (by decide +kernel) (by decide +kernel)
set_option maxRecDepth 10000 in
theorem k_cd_L_takeOutput : Cond.codeWith yL_takeOutput cL_takeOutput 3 (some .int) [(0, 8, 11, 81)] ∈ gT := gT_t5 (i := 22) rfl (by decide +kernel)
theorem k_cl_L_81 : Cond.classLink RL 81 "java/util/NoSuchElementException" ∈ gT := gT_t5 (i := 23) (by decide +kernel) (by decide +kernel)
theorem k_ml_L_78 : Cond.methodLink RL 78 yX6_takeOutput ∈ gT := gT_t5 (i := 24) (by decide +kernel) (by decide +kernel)
theorem k_im_X6_takeOutput : Cond.instanceMethod yX6_takeOutput ∈ gT := gT_t5 (i := 25) (by decide +kernel) (by decide +kernel)
theorem k_se_X6_takeOutput : Cond.selects RX6 yX6_takeOutput yX6_takeOutput ∈ gT := gT_t5 (i := 26) (by decide +kernel) (by decide +kernel)
set_option maxRecDepth 10000 in
theorem k_cd_X6_takeOutput : Cond.code yX6_takeOutput cX6_takeOutput 1 (some .int) ∈ gT := gT_t5 (i := 27) rfl (by decide +kernel)
theorem k_cl_X6_231 : Cond.classLink RX6 231 "java/util/NoSuchElementException" ∈ gT := gT_t5 (i := 28) (by decide +kernel) (by decide +kernel)
theorem k_is_java_util_NoSuchElementException : Cond.instantiable "java/util/NoSuchElementException" 6 ∈ gT := gT_t5 (i := 29) (by decide +kernel) (by decide +kernel)
theorem k_ml_X6_235 : Cond.methodLink RX6 235 ⟨"java/util/NoSuchElementException", "<init>", "(Ljava/lang/String;)V"⟩ ∈ gT := gT_t5 (i := 38) (by decide +kernel) (by decide +kernel)
theorem k_ml_X6_236 : Cond.methodLink RX6 236 yX4_removeFirst ∈ gT := gT_t5 (i := 44) (by decide +kernel) (by decide +kernel)
theorem k_ml_L_251 : Cond.methodLink RL 251 yL_executedAt ∈ gT := gT_t5 (i := 45) (by decide +kernel) (by decide +kernel)
theorem k_st_L_executedAt : Cond.static yL_executedAt ∈ gT := gT_t5 (i := 46) (by decide +kernel) (by decide +kernel)
set_option maxRecDepth 10000 in
theorem k_cd_L_executedAt : Cond.codeWith yL_executedAt cL_executedAt 5 (some .int) [(0, 10, 13, 19)] ∈ gT := gT_t5 (i := 47) rfl (by decide +kernel)
theorem k_ml_L_83 : Cond.methodLink RL 83 yX6_executedAt ∈ gT := gT_t5 (i := 48) (by decide +kernel) (by decide +kernel)
theorem k_im_X6_executedAt : Cond.instanceMethod yX6_executedAt ∈ gT := gT_t5 (i := 49) (by decide +kernel) (by decide +kernel)
theorem k_se_X6_executedAt : Cond.selects RX6 yX6_executedAt yX6_executedAt ∈ gT := gT_t5 (i := 50) (by decide +kernel) (by decide +kernel)
set_option maxRecDepth 10000 in
theorem k_cd_X6_executedAt : Cond.code yX6_executedAt cX6_executedAt 3 (some .int) ∈ gT := gT_t5 (i := 51) rfl (by decide +kernel)
theorem k_ml_X6_242 : Cond.methodLink RX6 242 yX2_executedCountAt ∈ gT := gT_t5 (i := 52) (by decide +kernel) (by decide +kernel)
theorem k_im_X2_executedCountAt : Cond.instanceMethod yX2_executedCountAt ∈ gT := gT_t5 (i := 53) (by decide +kernel) (by decide +kernel)
theorem k_se_X2_executedCountAt : Cond.selects RX2 yX2_executedCountAt yX2_executedCountAt ∈ gT := gT_t5 (i := 54) (by decide +kernel) (by decide +kernel)
set_option maxRecDepth 10000 in
theorem k_cd_X2_executedCountAt : Cond.code yX2_executedCountAt cX2_executedCountAt 2 (some .int) ∈ gT := gT_t5 (i := 55) rfl (by decide +kernel)
theorem k_ml_L_258 : Cond.methodLink RL 258 yL_predictTime ∈ gT := gT_t5 (i := 56) (by decide +kernel) (by decide +kernel)
theorem k_st_L_predictTime : Cond.static yL_predictTime ∈ gT := gT_t5 (i := 57) (by decide +kernel) (by decide +kernel)
set_option maxRecDepth 10000 in
theorem k_cd_L_predictTime : Cond.codeWith yL_predictTime cL_predictTime 4 (some .int) [(0, 9, 12, 25), (0, 9, 15, 13)] ∈ gT := gT_t5 (i := 58) rfl (by decide +kernel)
theorem k_ml_L_86 : Cond.methodLink RL 86 yX6_predictTime ∈ gT := gT_t5 (i := 59) (by decide +kernel) (by decide +kernel)
theorem k_im_X6_predictTime : Cond.instanceMethod yX6_predictTime ∈ gT := gT_t5 (i := 60) (by decide +kernel) (by decide +kernel)
theorem k_se_X6_predictTime : Cond.selects RX6 yX6_predictTime yX6_predictTime ∈ gT := gT_t5 (i := 61) (by decide +kernel) (by decide +kernel)
set_option maxRecDepth 10000 in
theorem k_cd_X6_predictTime : Cond.code yX6_predictTime cX6_predictTime 2 (some .int) ∈ gT := gT_t5 (i := 62) rfl (by decide +kernel)
theorem k_ml_X6_248 : Cond.methodLink RX6 248 yX2_copyFrom ∈ gT := gT_t5 (i := 63) (by decide +kernel) (by decide +kernel)
theorem k_im_X2_copyFrom : Cond.instanceMethod yX2_copyFrom ∈ gT := gT_t5 (i := 64) (by decide +kernel) (by decide +kernel)
theorem k_se_X2_copyFrom : Cond.selects RX2 yX2_copyFrom yX2_copyFrom ∈ gT := gT_t5 (i := 65) (by decide +kernel) (by decide +kernel)
set_option maxRecDepth 10000 in
theorem k_cd_X2_copyFrom : Cond.code yX2_copyFrom cX2_copyFrom 2 none ∈ gT := gT_t5 (i := 66) rfl (by decide +kernel)
theorem k_ml_X2_165 : Cond.methodLink RX2 165 yX5_copyFrom ∈ gT := gT_t5 (i := 67) (by decide +kernel) (by decide +kernel)
theorem k_im_X5_copyFrom : Cond.instanceMethod yX5_copyFrom ∈ gT := gT_t5 (i := 68) (by decide +kernel) (by decide +kernel)
theorem k_se_X5_copyFrom : Cond.selects RX5 yX5_copyFrom yX5_copyFrom ∈ gT := gT_t5 (i := 69) (by decide +kernel) (by decide +kernel)
set_option maxRecDepth 10000 in
theorem k_cd_X5_copyFrom : Cond.code yX5_copyFrom cX5_copyFrom 2 none ∈ gT := gT_t5 (i := 70) rfl (by decide +kernel)
theorem k_ml_X2_169 : Cond.methodLink RX2 169 yX1_copyFrom ∈ gT := gT_t5 (i := 72) (by decide +kernel) (by decide +kernel)
theorem k_ml_X2_172 : Cond.methodLink RX2 172 yX4_copyFrom ∈ gT := gT_t5 (i := 73) (by decide +kernel) (by decide +kernel)
theorem k_im_X4_copyFrom : Cond.instanceMethod yX4_copyFrom ∈ gT := gT_t5 (i := 74) (by decide +kernel) (by decide +kernel)
theorem k_se_X4_copyFrom : Cond.selects RX4 yX4_copyFrom yX4_copyFrom ∈ gT := gT_t5 (i := 75) (by decide +kernel) (by decide +kernel)
set_option maxRecDepth 10000 in
theorem k_cd_X4_copyFrom : Cond.code yX4_copyFrom cX4_copyFrom 2 none ∈ gT := gT_t5 (i := 76) rfl (by decide +kernel)
theorem k_ml_L_261 : Cond.methodLink RL 261 yL_idealNextCycle ∈ gT := gT_t5 (i := 79) (by decide +kernel) (by decide +kernel)
theorem k_st_L_idealNextCycle : Cond.static yL_idealNextCycle ∈ gT := gT_t5 (i := 80) (by decide +kernel) (by decide +kernel)
set_option maxRecDepth 10000 in
theorem k_cd_L_idealNextCycle : Cond.codeWith yL_idealNextCycle cL_idealNextCycle 5 (some .int) [(0, 10, 13, 19)] ∈ gT := gT_t5 (i := 81) rfl (by decide +kernel)
theorem k_ml_L_89 : Cond.methodLink RL 89 yX6_idealNextCycle ∈ gT := gT_t5 (i := 82) (by decide +kernel) (by decide +kernel)
theorem k_im_X6_idealNextCycle : Cond.instanceMethod yX6_idealNextCycle ∈ gT := gT_t5 (i := 83) (by decide +kernel) (by decide +kernel)
theorem k_se_X6_idealNextCycle : Cond.selects RX6 yX6_idealNextCycle yX6_idealNextCycle ∈ gT := gT_t5 (i := 84) (by decide +kernel) (by decide +kernel)
set_option maxRecDepth 10000 in
theorem k_cd_X6_idealNextCycle : Cond.code yX6_idealNextCycle cX6_idealNextCycle 3 (some .int) ∈ gT := gT_t5 (i := 85) rfl (by decide +kernel)
theorem k_ml_X6_251 : Cond.methodLink RX6 251 yX6_cycleAfter ∈ gT := gT_t5 (i := 86) (by decide +kernel) (by decide +kernel)
theorem k_im_X6_cycleAfter : Cond.instanceMethod yX6_cycleAfter ∈ gT := gT_t5 (i := 88) (by decide +kernel) (by decide +kernel)
set_option maxRecDepth 10000 in
theorem k_cd_X6_cycleAfter : Cond.code yX6_cycleAfter cX6_cycleAfter 3 (some .int) ∈ gT := gT_t5 (i := 89) rfl (by decide +kernel)
theorem k_ml_X6_254 : Cond.methodLink RX6 254 yX6_cycleOf ∈ gT := gT_t5 (i := 90) (by decide +kernel) (by decide +kernel)
theorem k_ml_X6_257 : Cond.methodLink RX6 257 yX3_duration ∈ gT := gT_t5 (i := 91) (by decide +kernel) (by decide +kernel)
theorem k_st_X3_duration : Cond.static yX3_duration ∈ gT := gT_t5 (i := 92) (by decide +kernel) (by decide +kernel)
set_option maxRecDepth 10000 in
theorem k_cd_X3_duration : Cond.code yX3_duration cX3_duration 3 (some .int) ∈ gT := gT_t5 (i := 93) rfl (by decide +kernel)
theorem k_ml_X3_71 : Cond.methodLink RX3 71 yX3_waitsForOperand ∈ gT := gT_t5 (i := 94) (by decide +kernel) (by decide +kernel)
theorem k_ml_X3_77 : Cond.methodLink RX3 77 yX3_ownTime ∈ gT := gT_t5 (i := 96) (by decide +kernel) (by decide +kernel)
theorem k_ml_L_264 : Cond.methodLink RL 264 yL_pathTime ∈ gT := gT_t5 (i := 97) (by decide +kernel) (by decide +kernel)
theorem k_st_L_pathTime : Cond.static yL_pathTime ∈ gT := gT_t5 (i := 98) (by decide +kernel) (by decide +kernel)
set_option maxRecDepth 10000 in
theorem k_cd_L_pathTime : Cond.codeWith yL_pathTime cL_pathTime 6 (some .int) [(0, 12, 15, 19), (0, 12, 19, 25)] ∈ gT := gT_t5 (i := 99) rfl (by decide +kernel)
theorem k_ml_L_92 : Cond.methodLink RL 92 yX6_pathTime ∈ gT := gT_t5 (i := 100) (by decide +kernel) (by decide +kernel)
theorem k_im_X6_pathTime : Cond.instanceMethod yX6_pathTime ∈ gT := gT_t5 (i := 101) (by decide +kernel) (by decide +kernel)
theorem k_se_X6_pathTime : Cond.selects RX6 yX6_pathTime yX6_pathTime ∈ gT := gT_t5 (i := 102) (by decide +kernel) (by decide +kernel)
set_option maxRecDepth 10000 in
theorem k_cd_X6_pathTime : Cond.code yX6_pathTime cX6_pathTime 9 (some .int) ∈ gT := gT_t5 (i := 103) rfl (by decide +kernel)
theorem k_ml_X6_262 : Cond.methodLink RX6 262 yX3_opcode ∈ gT := gT_t5 (i := 104) (by decide +kernel) (by decide +kernel)
theorem k_ml_X6_265 : Cond.methodLink RX6 265 yX3_next ∈ gT := gT_t5 (i := 105) (by decide +kernel) (by decide +kernel)
theorem k_ml_X6_268 : Cond.methodLink RX6 268 yX6_waitingUntil ∈ gT := gT_t5 (i := 106) (by decide +kernel) (by decide +kernel)
theorem k_ml_L_267 : Cond.methodLink RL 267 yL_bestFreeCycle ∈ gT := gT_t5 (i := 107) (by decide +kernel) (by decide +kernel)
theorem k_st_L_bestFreeCycle : Cond.static yL_bestFreeCycle ∈ gT := gT_t5 (i := 108) (by decide +kernel) (by decide +kernel)
set_option maxRecDepth 10000 in
theorem k_cd_L_bestFreeCycle : Cond.codeWith yL_bestFreeCycle cL_bestFreeCycle 6 (some .int) [(0, 12, 15, 19)] ∈ gT := gT_t5 (i := 109) rfl (by decide +kernel)
theorem k_ml_L_95 : Cond.methodLink RL 95 yX6_bestFreeCycle ∈ gT := gT_t5 (i := 110) (by decide +kernel) (by decide +kernel)
theorem k_im_X6_bestFreeCycle : Cond.instanceMethod yX6_bestFreeCycle ∈ gT := gT_t5 (i := 111) (by decide +kernel) (by decide +kernel)
theorem k_se_X6_bestFreeCycle : Cond.selects RX6 yX6_bestFreeCycle yX6_bestFreeCycle ∈ gT := gT_t5 (i := 112) (by decide +kernel) (by decide +kernel)
set_option maxRecDepth 10000 in
theorem k_cd_X6_bestFreeCycle : Cond.code yX6_bestFreeCycle cX6_bestFreeCycle 4 (some .int) ∈ gT := gT_t5 (i := 113) rfl (by decide +kernel)
theorem k_ml_X6_271 : Cond.methodLink RX6 271 yX6_freeCycleAfter ∈ gT := gT_t5 (i := 114) (by decide +kernel) (by decide +kernel)
theorem k_im_X6_freeCycleAfter : Cond.instanceMethod yX6_freeCycleAfter ∈ gT := gT_t5 (i := 116) (by decide +kernel) (by decide +kernel)
set_option maxRecDepth 10000 in
theorem k_cd_X6_freeCycleAfter : Cond.code yX6_freeCycleAfter cX6_freeCycleAfter 6 (some .int) ∈ gT := gT_t5 (i := 117) rfl (by decide +kernel)
theorem k_ml_L_270 : Cond.methodLink RL 270 yL_moveNext ∈ gT := gT_t5 (i := 118) (by decide +kernel) (by decide +kernel)
theorem k_st_L_moveNext : Cond.static yL_moveNext ∈ gT := gT_t5 (i := 119) (by decide +kernel) (by decide +kernel)
set_option maxRecDepth 10000 in
theorem k_cd_L_moveNext : Cond.codeWith yL_moveNext cL_moveNext 6 (some .int) [(0, 12, 15, 19), (0, 12, 19, 13)] ∈ gT := gT_t5 (i := 120) rfl (by decide +kernel)
theorem k_ml_L_98 : Cond.methodLink RL 98 yX6_moveNext ∈ gT := gT_t5 (i := 121) (by decide +kernel) (by decide +kernel)
theorem k_im_X6_moveNext : Cond.instanceMethod yX6_moveNext ∈ gT := gT_t5 (i := 122) (by decide +kernel) (by decide +kernel)
theorem k_se_X6_moveNext : Cond.selects RX6 yX6_moveNext yX6_moveNext ∈ gT := gT_t5 (i := 123) (by decide +kernel) (by decide +kernel)
set_option maxRecDepth 10000 in
theorem k_cd_X6_moveNext : Cond.code yX6_moveNext cX6_moveNext 10 (some .int) ∈ gT := gT_t5 (i := 124) rfl (by decide +kernel)
theorem k_ml_X6_276 : Cond.methodLink RX6 276 yX3_withNext ∈ gT := gT_t5 (i := 126) (by decide +kernel) (by decide +kernel)
theorem k_ml_L_273 : Cond.methodLink RL 273 yL_format ∈ gT := gT_t5 (i := 127) (by decide +kernel) (by decide +kernel)
theorem k_st_L_format : Cond.static yL_format ∈ gT := gT_t5 (i := 128) (by decide +kernel) (by decide +kernel)
set_option maxRecDepth 10000 in
theorem k_cd_L_format : Cond.codeWith yL_format cL_format 5 (some .int) [(0, 10, 13, 19)] ∈ gT := gT_t5 (i := 129) rfl (by decide +kernel)
theorem k_ml_L_101 : Cond.methodLink RL 101 yX6_format ∈ gT := gT_t5 (i := 130) (by decide +kernel) (by decide +kernel)
theorem k_im_X6_format : Cond.instanceMethod yX6_format ∈ gT := gT_t5 (i := 131) (by decide +kernel) (by decide +kernel)
theorem k_se_X6_format : Cond.selects RX6 yX6_format yX6_format ∈ gT := gT_t5 (i := 132) (by decide +kernel) (by decide +kernel)
set_option maxRecDepth 10000 in
theorem k_cd_X6_format : Cond.code yX6_format cX6_format 5 (some .int) ∈ gT := gT_t5 (i := 133) rfl (by decide +kernel)
theorem k_ml_X6_279 : Cond.methodLink RX6 279 yX3_operandForm ∈ gT := gT_t5 (i := 134) (by decide +kernel) (by decide +kernel)
theorem k_ml_X6_282 : Cond.methodLink RX6 282 yJ4_setLength_d00df ∈ gT := gT_t5 (i := 135) (by decide +kernel) (by decide +kernel)
theorem k_im_J4_setLength_d00df : Cond.instanceMethod yJ4_setLength_d00df ∈ gT := gT_t5 (i := 136) (by decide +kernel) (by decide +kernel)
theorem k_se_J4_setLength_d00df : Cond.selects RJ4 yJ4_setLength_d00df yJ4_setLength_d00df ∈ gT := gT_t5 (i := 137) (by decide +kernel) (by decide +kernel)
set_option maxRecDepth 10000 in
theorem k_cd_J4_setLength_d00df : Cond.code yJ4_setLength_d00df cJ4_setLength_d00df 2 none ∈ gT := gT_t5 (i := 138) rfl (by decide +kernel)
theorem k_ml_J4_333 : Cond.methodLink RJ4 333 yJ5_setLength_d00df ∈ gT := gT_t5 (i := 139) (by decide +kernel) (by decide +kernel)
theorem k_im_J5_setLength_d00df : Cond.instanceMethod yJ5_setLength_d00df ∈ gT := gT_t5 (i := 140) (by decide +kernel) (by decide +kernel)
set_option maxRecDepth 10000 in
theorem k_cd_J5_setLength_d00df : Cond.code yJ5_setLength_d00df cJ5_setLength_d00df 2 none ∈ gT := gT_t5 (i := 141) rfl (by decide +kernel)
theorem k_cl_J5_129 : Cond.classLink RJ5 129 "java/lang/StringIndexOutOfBoundsException" ∈ gT := gT_t5 (i := 142) (by decide +kernel) (by decide +kernel)
theorem k_is_Jx7c733 : Cond.instantiable "java/lang/StringIndexOutOfBoundsException" 6 ∈ gT := gT_t5 (i := 143) (by decide +kernel) (by decide +kernel)
theorem k_ml_J5_131 : Cond.methodLink RJ5 131 yJx7c733_init_d00df ∈ gT := gT_t5 (i := 144) (by decide +kernel) (by decide +kernel)
theorem k_im_Jx7c733_init_d00df : Cond.instanceMethod yJx7c733_init_d00df ∈ gT := gT_t5 (i := 145) (by decide +kernel) (by decide +kernel)
set_option maxRecDepth 10000 in
theorem k_cd_Jx7c733_init_d00df : Cond.code yJx7c733_init_d00df cJx7c733_init_d00df 2 none ∈ gT := gT_t5 (i := 146) rfl (by decide +kernel)
theorem k_cl_Jx7c733_10 : Cond.classLink RJx7c733 10 "java/lang/StringBuilder" ∈ gT := gT_t5 (i := 147) (by decide +kernel) (by decide +kernel)
theorem k_ml_Jx7c733_12 : Cond.methodLink RJx7c733 12 yJ4_init_da8c8 ∈ gT := gT_t5 (i := 148) (by decide +kernel) (by decide +kernel)
theorem k_ml_Jx7c733_15 : Cond.methodLink RJx7c733 15 yJ4_append_15ec4 ∈ gT := gT_t5 (i := 150) (by decide +kernel) (by decide +kernel)
theorem k_im_J4_append_15ec4 : Cond.instanceMethod yJ4_append_15ec4 ∈ gT := gT_t5 (i := 151) (by decide +kernel) (by decide +kernel)
theorem k_se_J4_append_15ec4 : Cond.selects RJ4 yJ4_append_15ec4 yJ4_append_15ec4 ∈ gT := gT_t5 (i := 152) (by decide +kernel) (by decide +kernel)
set_option maxRecDepth 10000 in
theorem k_cd_J4_append_15ec4 : Cond.code yJ4_append_15ec4 cJ4_append_15ec4 2 (some (.object "java/lang/StringBuilder")) ∈ gT := gT_t5 (i := 153) rfl (by decide +kernel)
theorem k_ml_J4_29 : Cond.methodLink RJ4 29 yJ5_append_cf1ce ∈ gT := gT_t5 (i := 154) (by decide +kernel) (by decide +kernel)
theorem k_im_J5_append_cf1ce : Cond.instanceMethod yJ5_append_cf1ce ∈ gT := gT_t5 (i := 155) (by decide +kernel) (by decide +kernel)
set_option maxRecDepth 10000 in
theorem k_cd_J5_append_cf1ce : Cond.code yJ5_append_cf1ce cJ5_append_cf1ce 3 (some (.object "java/lang/AbstractStringBuilder")) ∈ gT := gT_t5 (i := 156) rfl (by decide +kernel)
theorem k_ml_J5_204 : Cond.methodLink RJ5 204 yJ5_appendNull_278bc ∈ gT := gT_t5 (i := 157) (by decide +kernel) (by decide +kernel)
theorem k_im_J5_appendNull_278bc : Cond.instanceMethod yJ5_appendNull_278bc ∈ gT := gT_t5 (i := 159) (by decide +kernel) (by decide +kernel)
set_option maxRecDepth 10000 in
theorem k_cd_J5_appendNull_278bc : Cond.code yJ5_appendNull_278bc cJ5_appendNull_278bc 3 (some (.object "java/lang/AbstractStringBuilder")) ∈ gT := gT_t5 (i := 160) rfl (by decide +kernel)
theorem k_ml_J5_100 : Cond.methodLink RJ5 100 yJ5_ensureCapacityInternal_d00df ∈ gT := gT_t5 (i := 161) (by decide +kernel) (by decide +kernel)
theorem k_im_J5_ensureCapacityInternal_d00df : Cond.instanceMethod yJ5_ensureCapacityInternal_d00df ∈ gT := gT_t5 (i := 163) (by decide +kernel) (by decide +kernel)
set_option maxRecDepth 10000 in
theorem k_cd_J5_ensureCapacityInternal_d00df : Cond.code yJ5_ensureCapacityInternal_d00df cJ5_ensureCapacityInternal_d00df 3 none ∈ gT := gT_t5 (i := 164) rfl (by decide +kernel)
theorem k_ml_J5_104 : Cond.methodLink RJ5 104 yJ5_newCapacity_0f7a4 ∈ gT := gT_t5 (i := 165) (by decide +kernel) (by decide +kernel)
theorem k_im_J5_newCapacity_0f7a4 : Cond.instanceMethod yJ5_newCapacity_0f7a4 ∈ gT := gT_t5 (i := 167) (by decide +kernel) (by decide +kernel)
set_option maxRecDepth 10000 in
theorem k_cd_J5_newCapacity_0f7a4 : Cond.code yJ5_newCapacity_0f7a4 cJ5_newCapacity_0f7a4 6 (some .int) ∈ gT := gT_t5 (i := 168) rfl (by decide +kernel)
theorem k_ml_J5_114 : Cond.methodLink RJ5 114 yJ8_newLength_cabcc ∈ gT := gT_t5 (i := 169) (by decide +kernel) (by decide +kernel)
theorem k_st_J8_newLength_cabcc : Cond.static yJ8_newLength_cabcc ∈ gT := gT_t5 (i := 170) (by decide +kernel) (by decide +kernel)
set_option maxRecDepth 10000 in
theorem k_cd_J8_newLength_cabcc : Cond.code yJ8_newLength_cabcc cJ8_newLength_cabcc 4 (some .int) ∈ gT := gT_t5 (i := 171) rfl (by decide +kernel)
theorem k_ml_J8_194 : Cond.methodLink RJ8 194 yJ9_max_7cf53 ∈ gT := gT_t5 (i := 172) (by decide +kernel) (by decide +kernel)
theorem k_st_J9_max_7cf53 : Cond.static yJ9_max_7cf53 ∈ gT := gT_t5 (i := 173) (by decide +kernel) (by decide +kernel)
set_option maxRecDepth 10000 in
theorem k_cd_J9_max_7cf53 : Cond.code yJ9_max_7cf53 cJ9_max_7cf53 2 (some .int) ∈ gT := gT_t5 (i := 174) rfl (by decide +kernel)
theorem k_co_J8_200 : Cond.constant RJ8 200 (2147483639) ∈ gT := gT_t5 (i := 175) (by decide +kernel) (by decide +kernel)
theorem k_ml_J8_201 : Cond.methodLink RJ8 201 yJ8_hugeLength_7cf53 ∈ gT := gT_t5 (i := 176) (by decide +kernel) (by decide +kernel)
theorem k_st_J8_hugeLength_7cf53 : Cond.static yJ8_hugeLength_7cf53 ∈ gT := gT_t5 (i := 177) (by decide +kernel) (by decide +kernel)
set_option maxRecDepth 10000 in
theorem k_cd_J8_hugeLength_7cf53 : Cond.code yJ8_hugeLength_7cf53 cJ8_hugeLength_7cf53 3 (some .int) ∈ gT := gT_t5 (i := 178) rfl (by decide +kernel)
theorem k_co_J5_39 : Cond.constant RJ5 39 (2147483647) ∈ gT := gT_t5 (i := 179) (by decide +kernel) (by decide +kernel)
theorem k_ml_J5_108 : Cond.methodLink RJ5 108 yJ7_copyOf_9075b ∈ gT := gT_t5 (i := 180) (by decide +kernel) (by decide +kernel)
theorem k_st_J7_copyOf_9075b : Cond.static yJ7_copyOf_9075b ∈ gT := gT_t5 (i := 181) (by decide +kernel) (by decide +kernel)
set_option maxRecDepth 10000 in
theorem k_cd_J7_copyOf_9075b : Cond.code yJ7_copyOf_9075b cJ7_copyOf_9075b 3 (some (.array .byte)) ∈ gT := gT_t5 (i := 182) rfl (by decide +kernel)
theorem k_ml_J7_310 : Cond.methodLink RJ7 310 ⟨"[B", "clone", "()Ljava/lang/Object;"⟩ ∈ gT := gT_t5 (i := 183) (by decide +kernel) (by decide +kernel)
theorem k_cl_J7_311 : Cond.classLink RJ7 311 "[B" ∈ gT := gT_t5 (i := 189) (by decide +kernel) (by decide +kernel)
theorem k_ml_J7_304 : Cond.methodLink RJ7 304 yJ9_min_7cf53 ∈ gT := gT_t5 (i := 190) (by decide +kernel) (by decide +kernel)
theorem k_ml_J7_150 : Cond.methodLink RJ7 150 ⟨"java/lang/System", "arraycopy", "(Ljava/lang/Object;ILjava/lang/Object;II)V"⟩ ∈ gT := gT_t5 (i := 191) (by decide +kernel) (by decide +kernel)
theorem k_ml_J5_83 : Cond.methodLink RJ5 83 yJ5_isLatin1_aae02 ∈ gT := gT_t5 (i := 192) (by decide +kernel) (by decide +kernel)
theorem k_im_J5_isLatin1_aae02 : Cond.instanceMethod yJ5_isLatin1_aae02 ∈ gT := gT_t5 (i := 193) (by decide +kernel) (by decide +kernel)
theorem k_se_J5_isLatin1_aae02 : Cond.selects RJ4 yJ5_isLatin1_aae02 yJ5_isLatin1_aae02 ∈ gT := gT_t5 (i := 195) (by decide +kernel) (by decide +kernel)
set_option maxRecDepth 10000 in
theorem k_cd_J5_isLatin1_aae02 : Cond.code yJ5_isLatin1_aae02 cJ5_isLatin1_aae02 1 (some .boolean) ∈ gT := gT_t5 (i := 196) rfl (by decide +kernel)
theorem k_ml_J5_226 : Cond.methodLink RJ5 226 yJ2_putCharsAt_cd4e5 ∈ gT := gT_t5 (i := 197) (by decide +kernel) (by decide +kernel)
theorem k_st_J2_putCharsAt_cd4e5 : Cond.static yJ2_putCharsAt_cd4e5 ∈ gT := gT_t5 (i := 198) (by decide +kernel) (by decide +kernel)
set_option maxRecDepth 10000 in
theorem k_cd_J2_putCharsAt_cd4e5 : Cond.code yJ2_putCharsAt_cd4e5 cJ2_putCharsAt_cd4e5 7 (some .int) ∈ gT := gT_t5 (i := 199) rfl (by decide +kernel)
theorem k_ml_J2_96 : Cond.methodLink RJ2 96 yJ2_checkBoundsBeginEnd_d044e ∈ gT := gT_t5 (i := 200) (by decide +kernel) (by decide +kernel)
theorem k_st_J2_checkBoundsBeginEnd_d044e : Cond.static yJ2_checkBoundsBeginEnd_d044e ∈ gT := gT_t5 (i := 201) (by decide +kernel) (by decide +kernel)
set_option maxRecDepth 10000 in
theorem k_cd_J2_checkBoundsBeginEnd_d044e : Cond.code yJ2_checkBoundsBeginEnd_d044e cJ2_checkBoundsBeginEnd_d044e 3 none ∈ gT := gT_t5 (i := 202) rfl (by decide +kernel)
theorem k_ml_J2_241 : Cond.methodLink RJ2 241 yJ0_checkBoundsBeginEnd_23922 ∈ gT := gT_t5 (i := 203) (by decide +kernel) (by decide +kernel)
theorem k_st_J0_checkBoundsBeginEnd_23922 : Cond.static yJ0_checkBoundsBeginEnd_23922 ∈ gT := gT_t5 (i := 204) (by decide +kernel) (by decide +kernel)
set_option maxRecDepth 10000 in
theorem k_cd_J0_checkBoundsBeginEnd_23922 : Cond.code yJ0_checkBoundsBeginEnd_23922 cJ0_checkBoundsBeginEnd_23922 3 none ∈ gT := gT_t5 (i := 205) rfl (by decide +kernel)
theorem k_ml_J0_1062 : Cond.methodLink RJ0 1062 yJ3_checkFromToIndex_8c36e ∈ gT := gT_t5 (i := 206) (by decide +kernel) (by decide +kernel)
theorem k_st_J3_checkFromToIndex_8c36e : Cond.static yJ3_checkFromToIndex_8c36e ∈ gT := gT_t5 (i := 207) (by decide +kernel) (by decide +kernel)
set_option maxRecDepth 10000 in
theorem k_cd_J3_checkFromToIndex_8c36e : Cond.code yJ3_checkFromToIndex_8c36e cJ3_checkFromToIndex_8c36e 4 (some .int) ∈ gT := gT_t5 (i := 208) rfl (by decide +kernel)
theorem k_ml_J2_111 : Cond.methodLink RJ2 111 yJ2_putChar_b72d1 ∈ gT := gT_t5 (i := 209) (by decide +kernel) (by decide +kernel)
theorem k_st_J2_putChar_b72d1 : Cond.static yJ2_putChar_b72d1 ∈ gT := gT_t5 (i := 210) (by decide +kernel) (by decide +kernel)
set_option maxRecDepth 10000 in
theorem k_cd_J2_putChar_b72d1 : Cond.code yJ2_putChar_b72d1 cJ2_putChar_b72d1 3 none ∈ gT := gT_t5 (i := 211) rfl (by decide +kernel)
theorem k_ml_J5_32 : Cond.methodLink RJ5 32 yJ0_length_8abf5 ∈ gT := gT_t5 (i := 212) (by decide +kernel) (by decide +kernel)
theorem k_ml_J5_208 : Cond.methodLink RJ5 208 yJ5_putStringAt_47b60 ∈ gT := gT_t5 (i := 213) (by decide +kernel) (by decide +kernel)
theorem k_im_J5_putStringAt_47b60 : Cond.instanceMethod yJ5_putStringAt_47b60 ∈ gT := gT_t5 (i := 215) (by decide +kernel) (by decide +kernel)
set_option maxRecDepth 10000 in
theorem k_cd_J5_putStringAt_47b60 : Cond.code yJ5_putStringAt_47b60 cJ5_putStringAt_47b60 3 none ∈ gT := gT_t5 (i := 216) rfl (by decide +kernel)
theorem k_ml_J5_397 : Cond.methodLink RJ5 397 yJ5_inflateIfNeededFor_a7421 ∈ gT := gT_t5 (i := 217) (by decide +kernel) (by decide +kernel)
theorem k_im_J5_inflateIfNeededFor_a7421 : Cond.instanceMethod yJ5_inflateIfNeededFor_a7421 ∈ gT := gT_t5 (i := 219) (by decide +kernel) (by decide +kernel)
set_option maxRecDepth 10000 in
theorem k_cd_J5_inflateIfNeededFor_a7421 : Cond.code yJ5_inflateIfNeededFor_a7421 cJ5_inflateIfNeededFor_a7421 2 none ∈ gT := gT_t5 (i := 220) rfl (by decide +kernel)
theorem k_ml_J5_40 : Cond.methodLink RJ5 40 yJ0_coder_7d493 ∈ gT := gT_t5 (i := 221) (by decide +kernel) (by decide +kernel)
theorem k_ml_J5_195 : Cond.methodLink RJ5 195 yJ5_inflate_da8c8 ∈ gT := gT_t5 (i := 222) (by decide +kernel) (by decide +kernel)
theorem k_im_J5_inflate_da8c8 : Cond.instanceMethod yJ5_inflate_da8c8 ∈ gT := gT_t5 (i := 224) (by decide +kernel) (by decide +kernel)
set_option maxRecDepth 10000 in
theorem k_cd_J5_inflate_da8c8 : Cond.code yJ5_inflate_da8c8 cJ5_inflate_da8c8 2 none ∈ gT := gT_t5 (i := 225) rfl (by decide +kernel)
theorem k_ml_J5_125 : Cond.methodLink RJ5 125 yJ1_inflate_0e8fd ∈ gT := gT_t5 (i := 226) (by decide +kernel) (by decide +kernel)
theorem k_st_J1_inflate_0e8fd : Cond.static yJ1_inflate_0e8fd ∈ gT := gT_t5 (i := 227) (by decide +kernel) (by decide +kernel)
set_option maxRecDepth 10000 in
theorem k_cd_J1_inflate_0e8fd : Cond.code yJ1_inflate_0e8fd cJ1_inflate_0e8fd 5 none ∈ gT := gT_t5 (i := 228) rfl (by decide +kernel)
theorem k_ml_J1_240 : Cond.methodLink RJ1 240 yJ2_inflate_0e8fd ∈ gT := gT_t5 (i := 229) (by decide +kernel) (by decide +kernel)
theorem k_st_J2_inflate_0e8fd : Cond.static yJ2_inflate_0e8fd ∈ gT := gT_t5 (i := 230) (by decide +kernel) (by decide +kernel)
set_option maxRecDepth 10000 in
theorem k_cd_J2_inflate_0e8fd : Cond.code yJ2_inflate_0e8fd cJ2_inflate_0e8fd 6 none ∈ gT := gT_t5 (i := 231) rfl (by decide +kernel)
theorem k_ml_J2_173 : Cond.methodLink RJ2 173 yJ2_checkBoundsOffCount_d044e ∈ gT := gT_t5 (i := 232) (by decide +kernel) (by decide +kernel)
theorem k_st_J2_checkBoundsOffCount_d044e : Cond.static yJ2_checkBoundsOffCount_d044e ∈ gT := gT_t5 (i := 233) (by decide +kernel) (by decide +kernel)
set_option maxRecDepth 10000 in
theorem k_cd_J2_checkBoundsOffCount_d044e : Cond.code yJ2_checkBoundsOffCount_d044e cJ2_checkBoundsOffCount_d044e 3 none ∈ gT := gT_t5 (i := 234) rfl (by decide +kernel)
theorem k_ml_J2_419 : Cond.methodLink RJ2 419 yJ0_checkBoundsOffCount_cabcc ∈ gT := gT_t5 (i := 235) (by decide +kernel) (by decide +kernel)
theorem k_st_J0_checkBoundsOffCount_cabcc : Cond.static yJ0_checkBoundsOffCount_cabcc ∈ gT := gT_t5 (i := 236) (by decide +kernel) (by decide +kernel)
set_option maxRecDepth 10000 in
theorem k_cd_J0_checkBoundsOffCount_cabcc : Cond.code yJ0_checkBoundsOffCount_cabcc cJ0_checkBoundsOffCount_cabcc 3 (some .int) ∈ gT := gT_t5 (i := 237) rfl (by decide +kernel)
theorem k_ml_J0_1065 : Cond.methodLink RJ0 1065 yJ3_checkFromIndexSize_8c36e ∈ gT := gT_t5 (i := 238) (by decide +kernel) (by decide +kernel)
theorem k_st_J3_checkFromIndexSize_8c36e : Cond.static yJ3_checkFromIndexSize_8c36e ∈ gT := gT_t5 (i := 239) (by decide +kernel) (by decide +kernel)
set_option maxRecDepth 10000 in
theorem k_cd_J3_checkFromIndexSize_8c36e : Cond.code yJ3_checkFromIndexSize_8c36e cJ3_checkFromIndexSize_8c36e 4 (some .int) ∈ gT := gT_t6 (i := 0) rfl (by decide +kernel)
theorem k_ml_J5_399 : Cond.methodLink RJ5 399 yJ0_getBytes_840e7 ∈ gT := gT_t6 (i := 1) (by decide +kernel) (by decide +kernel)
theorem k_im_J0_getBytes_840e7 : Cond.instanceMethod yJ0_getBytes_840e7 ∈ gT := gT_t6 (i := 2) (by decide +kernel) (by decide +kernel)
theorem k_se_J0_getBytes_840e7 : Cond.selects RJ0 yJ0_getBytes_840e7 yJ0_getBytes_840e7 ∈ gT := gT_t6 (i := 3) (by decide +kernel) (by decide +kernel)
set_option maxRecDepth 10000 in
theorem k_cd_J0_getBytes_840e7 : Cond.code yJ0_getBytes_840e7 cJ0_getBytes_840e7 4 none ∈ gT := gT_t6 (i := 4) rfl (by decide +kernel)
theorem k_ml_J0_212 : Cond.methodLink RJ0 212 ⟨"java/lang/System", "arraycopy", "(Ljava/lang/Object;ILjava/lang/Object;II)V"⟩ ∈ gT := gT_t6 (i := 5) (by decide +kernel) (by decide +kernel)
theorem k_ml_J0_106 : Cond.methodLink RJ0 106 yJ1_inflate_0e8fd ∈ gT := gT_t6 (i := 6) (by decide +kernel) (by decide +kernel)
theorem k_ml_Jx7c733_19 : Cond.methodLink RJx7c733 19 yJ4_append_bf812 ∈ gT := gT_t6 (i := 7) (by decide +kernel) (by decide +kernel)
theorem k_im_J4_append_bf812 : Cond.instanceMethod yJ4_append_bf812 ∈ gT := gT_t6 (i := 8) (by decide +kernel) (by decide +kernel)
theorem k_se_J4_append_bf812 : Cond.selects RJ4 yJ4_append_bf812 yJ4_append_bf812 ∈ gT := gT_t6 (i := 9) (by decide +kernel) (by decide +kernel)
set_option maxRecDepth 10000 in
theorem k_cd_J4_append_bf812 : Cond.code yJ4_append_bf812 cJ4_append_bf812 2 (some (.object "java/lang/StringBuilder")) ∈ gT := gT_t6 (i := 10) rfl (by decide +kernel)
theorem k_ml_J4_53 : Cond.methodLink RJ4 53 yJ5_append_c97b9 ∈ gT := gT_t6 (i := 11) (by decide +kernel) (by decide +kernel)
theorem k_im_J5_append_c97b9 : Cond.instanceMethod yJ5_append_c97b9 ∈ gT := gT_t6 (i := 12) (by decide +kernel) (by decide +kernel)
set_option maxRecDepth 10000 in
theorem k_cd_J5_append_c97b9 : Cond.code yJ5_append_c97b9 cJ5_append_c97b9 4 (some (.object "java/lang/AbstractStringBuilder")) ∈ gT := gT_t6 (i := 13) rfl (by decide +kernel)
theorem k_ml_J5_245 : Cond.methodLink RJ5 245 yJ6_stringSize_0f7a4 ∈ gT := gT_t6 (i := 14) (by decide +kernel) (by decide +kernel)
theorem k_st_J6_stringSize_0f7a4 : Cond.static yJ6_stringSize_0f7a4 ∈ gT := gT_t6 (i := 15) (by decide +kernel) (by decide +kernel)
set_option maxRecDepth 10000 in
theorem k_cd_J6_stringSize_0f7a4 : Cond.code yJ6_stringSize_0f7a4 cJ6_stringSize_0f7a4 4 (some .int) ∈ gT := gT_t6 (i := 16) rfl (by decide +kernel)
theorem k_ml_J5_248 : Cond.methodLink RJ5 248 yJ6_getChars_ba4f3 ∈ gT := gT_t6 (i := 17) (by decide +kernel) (by decide +kernel)
theorem k_st_J6_getChars_ba4f3 : Cond.static yJ6_getChars_ba4f3 ∈ gT := gT_t6 (i := 18) (by decide +kernel) (by decide +kernel)
set_option maxRecDepth 10000 in
theorem k_cd_J6_getChars_ba4f3 : Cond.code yJ6_getChars_ba4f3 cJ6_getChars_ba4f3 7 (some .int) ∈ gT := gT_t6 (i := 19) rfl (by decide +kernel)
theorem k_fl_J6_83 : Cond.fieldLink RJ6 83 "java/lang/Integer" "DigitOnes" "[B" ∈ gT := gT_t6 (i := 20) (by decide +kernel) (by decide +kernel)
theorem k_fl_J6_87 : Cond.fieldLink RJ6 87 "java/lang/Integer" "DigitTens" "[B" ∈ gT := gT_t6 (i := 22) (by decide +kernel) (by decide +kernel)
theorem k_ml_J5_251 : Cond.methodLink RJ5 251 yJ2_getChars_46870 ∈ gT := gT_t6 (i := 24) (by decide +kernel) (by decide +kernel)
theorem k_st_J2_getChars_46870 : Cond.static yJ2_getChars_46870 ∈ gT := gT_t6 (i := 25) (by decide +kernel) (by decide +kernel)
set_option maxRecDepth 10000 in
theorem k_cd_J2_getChars_46870 : Cond.code yJ2_getChars_46870 cJ2_getChars_46870 5 (some .int) ∈ gT := gT_t6 (i := 26) rfl (by decide +kernel)
theorem k_ml_J2_393 : Cond.methodLink RJ2 393 yJ2_getChars_ba4f3 ∈ gT := gT_t6 (i := 27) (by decide +kernel) (by decide +kernel)
theorem k_st_J2_getChars_ba4f3 : Cond.static yJ2_getChars_ba4f3 ∈ gT := gT_t6 (i := 28) (by decide +kernel) (by decide +kernel)
set_option maxRecDepth 10000 in
theorem k_cd_J2_getChars_ba4f3 : Cond.code yJ2_getChars_ba4f3 cJ2_getChars_ba4f3 7 (some .int) ∈ gT := gT_t6 (i := 29) rfl (by decide +kernel)
theorem k_fl_J2_403 : Cond.fieldLink RJ2 403 "java/lang/Integer" "DigitOnes" "[B" ∈ gT := gT_t6 (i := 30) (by decide +kernel) (by decide +kernel)
theorem k_fl_J2_407 : Cond.fieldLink RJ2 407 "java/lang/Integer" "DigitTens" "[B" ∈ gT := gT_t6 (i := 31) (by decide +kernel) (by decide +kernel)
theorem k_ml_Jx7c733_22 : Cond.methodLink RJx7c733 22 yJ4_toString_0e30d ∈ gT := gT_t6 (i := 32) (by decide +kernel) (by decide +kernel)
theorem k_im_J4_toString_0e30d : Cond.instanceMethod yJ4_toString_0e30d ∈ gT := gT_t6 (i := 33) (by decide +kernel) (by decide +kernel)
theorem k_se_J4_toString_0e30d : Cond.selects RJ4 yJ4_toString_0e30d yJ4_toString_0e30d ∈ gT := gT_t6 (i := 34) (by decide +kernel) (by decide +kernel)
set_option maxRecDepth 10000 in
theorem k_cd_J4_toString_0e30d : Cond.code yJ4_toString_0e30d cJ4_toString_0e30d 1 (some (.object "java/lang/String")) ∈ gT := gT_t6 (i := 35) rfl (by decide +kernel)
theorem k_cl_J4_18 : Cond.classLink RJ4 18 "java/lang/String" ∈ gT := gT_t6 (i := 36) (by decide +kernel) (by decide +kernel)
theorem k_is_J0 : Cond.instantiable "java/lang/String" 4 ∈ gT := gT_t6 (i := 37) (by decide +kernel) (by decide +kernel)
theorem k_ml_J4_137 : Cond.methodLink RJ4 137 yJ0_init_81219 ∈ gT := gT_t6 (i := 38) (by decide +kernel) (by decide +kernel)
theorem k_im_J0_init_81219 : Cond.instanceMethod yJ0_init_81219 ∈ gT := gT_t6 (i := 39) (by decide +kernel) (by decide +kernel)
set_option maxRecDepth 10000 in
theorem k_cd_J0_init_81219 : Cond.code yJ0_init_81219 cJ0_init_81219 2 none ∈ gT := gT_t6 (i := 40) rfl (by decide +kernel)
theorem k_ml_J0_489 : Cond.methodLink RJ0 489 yJ0_init_db425 ∈ gT := gT_t6 (i := 41) (by decide +kernel) (by decide +kernel)
theorem k_im_J0_init_db425 : Cond.instanceMethod yJ0_init_db425 ∈ gT := gT_t6 (i := 42) (by decide +kernel) (by decide +kernel)
set_option maxRecDepth 10000 in
theorem k_cd_J0_init_db425 : Cond.code yJ0_init_db425 cJ0_init_db425 5 none ∈ gT := gT_t6 (i := 43) rfl (by decide +kernel)
theorem k_ml_J0_1 : Cond.methodLink RJ0 1 ⟨"java/lang/Object", "<init>", "()V"⟩ ∈ gT := gT_t6 (i := 44) (by decide +kernel) (by decide +kernel)
theorem k_ml_J0_552 : Cond.methodLink RJ0 552 yJ5_getValue_6d5f1 ∈ gT := gT_t6 (i := 45) (by decide +kernel) (by decide +kernel)
theorem k_im_J5_getValue_6d5f1 : Cond.instanceMethod yJ5_getValue_6d5f1 ∈ gT := gT_t6 (i := 46) (by decide +kernel) (by decide +kernel)
theorem k_se_J5_getValue_6d5f1 : Cond.selects RJ4 yJ5_getValue_6d5f1 yJ5_getValue_6d5f1 ∈ gT := gT_t6 (i := 48) (by decide +kernel) (by decide +kernel)
set_option maxRecDepth 10000 in
theorem k_cd_J5_getValue_6d5f1 : Cond.code yJ5_getValue_6d5f1 cJ5_getValue_6d5f1 1 (some (.array .byte)) ∈ gT := gT_t6 (i := 49) rfl (by decide +kernel)
theorem k_ml_J0_549 : Cond.methodLink RJ0 549 yJ5_length_8abf5 ∈ gT := gT_t6 (i := 50) (by decide +kernel) (by decide +kernel)
theorem k_im_J5_length_8abf5 : Cond.instanceMethod yJ5_length_8abf5 ∈ gT := gT_t6 (i := 51) (by decide +kernel) (by decide +kernel)
theorem k_im_J4_length_8abf5 : Cond.instanceMethod yJ4_length_8abf5 ∈ gT := gT_t6 (i := 54) (by decide +kernel) (by decide +kernel)
set_option maxRecDepth 10000 in
theorem k_cd_J4_length_8abf5 : Cond.code yJ4_length_8abf5 cJ4_length_8abf5 1 (some .int) ∈ gT := gT_t6 (i := 55) rfl (by decide +kernel)
theorem k_ml_J4_343 : Cond.methodLink RJ4 343 yJ5_length_8abf5 ∈ gT := gT_t6 (i := 56) (by decide +kernel) (by decide +kernel)
set_option maxRecDepth 10000 in
theorem k_cd_J5_length_8abf5 : Cond.code yJ5_length_8abf5 cJ5_length_8abf5 1 (some .int) ∈ gT := gT_t6 (i := 57) rfl (by decide +kernel)
theorem k_ml_J0_1047 : Cond.methodLink RJ0 1047 yJ5_isLatin1_aae02 ∈ gT := gT_t6 (i := 58) (by decide +kernel) (by decide +kernel)
theorem k_ml_J0_54 : Cond.methodLink RJ0 54 yJ7_copyOfRange_39247 ∈ gT := gT_t6 (i := 59) (by decide +kernel) (by decide +kernel)
theorem k_st_J7_copyOfRange_39247 : Cond.static yJ7_copyOfRange_39247 ∈ gT := gT_t6 (i := 60) (by decide +kernel) (by decide +kernel)
set_option maxRecDepth 10000 in
theorem k_cd_J7_copyOfRange_39247 : Cond.code yJ7_copyOfRange_39247 cJ7_copyOfRange_39247 3 (some (.array .byte)) ∈ gT := gT_t6 (i := 61) rfl (by decide +kernel)
theorem k_ml_J7_339 : Cond.methodLink RJ7 339 yJ7_copyOfRangeByte_39247 ∈ gT := gT_t6 (i := 62) (by decide +kernel) (by decide +kernel)
theorem k_st_J7_copyOfRangeByte_39247 : Cond.static yJ7_copyOfRangeByte_39247 ∈ gT := gT_t6 (i := 63) (by decide +kernel) (by decide +kernel)
set_option maxRecDepth 10000 in
theorem k_cd_J7_copyOfRangeByte_39247 : Cond.code yJ7_copyOfRangeByte_39247 cJ7_copyOfRangeByte_39247 5 (some (.array .byte)) ∈ gT := gT_t6 (i := 64) rfl (by decide +kernel)
theorem k_ml_J7_343 : Cond.methodLink RJ7 343 yJ7_checkLength_df160 ∈ gT := gT_t6 (i := 65) (by decide +kernel) (by decide +kernel)
theorem k_st_J7_checkLength_df160 : Cond.static yJ7_checkLength_df160 ∈ gT := gT_t6 (i := 66) (by decide +kernel) (by decide +kernel)
set_option maxRecDepth 10000 in
theorem k_cd_J7_checkLength_df160 : Cond.code yJ7_checkLength_df160 cJ7_checkLength_df160 2 none ∈ gT := gT_t6 (i := 67) rfl (by decide +kernel)
theorem k_cl_J7_43 : Cond.classLink RJ7 43 "java/lang/IllegalArgumentException" ∈ gT := gT_t6 (i := 68) (by decide +kernel) (by decide +kernel)
theorem k_cl_J7_45 : Cond.classLink RJ7 45 "java/lang/StringBuilder" ∈ gT := gT_t6 (i := 69) (by decide +kernel) (by decide +kernel)
theorem k_ml_J7_47 : Cond.methodLink RJ7 47 yJ4_init_da8c8 ∈ gT := gT_t6 (i := 70) (by decide +kernel) (by decide +kernel)
theorem k_ml_J7_54 : Cond.methodLink RJ7 54 yJ4_append_bf812 ∈ gT := gT_t6 (i := 71) (by decide +kernel) (by decide +kernel)
theorem k_ml_J7_50 : Cond.methodLink RJ7 50 yJ4_append_15ec4 ∈ gT := gT_t6 (i := 73) (by decide +kernel) (by decide +kernel)
theorem k_ml_J7_61 : Cond.methodLink RJ7 61 yJ4_toString_0e30d ∈ gT := gT_t6 (i := 74) (by decide +kernel) (by decide +kernel)
theorem k_ml_J7_65 : Cond.methodLink RJ7 65 ⟨"java/lang/IllegalArgumentException", "<init>", "(Ljava/lang/String;)V"⟩ ∈ gT := gT_t6 (i := 75) (by decide +kernel) (by decide +kernel)
theorem k_ml_J0_1051 : Cond.methodLink RJ0 1051 yJ2_compress_39247 ∈ gT := gT_t6 (i := 76) (by decide +kernel) (by decide +kernel)
theorem k_st_J2_compress_39247 : Cond.static yJ2_compress_39247 ∈ gT := gT_t6 (i := 77) (by decide +kernel) (by decide +kernel)
set_option maxRecDepth 10000 in
theorem k_cd_J2_compress_39247 : Cond.code yJ2_compress_39247 cJ2_compress_39247 6 (some (.array .byte)) ∈ gT := gT_t6 (i := 78) rfl (by decide +kernel)
theorem k_ml_J2_123 : Cond.methodLink RJ2 123 yJ2_compress_5af95 ∈ gT := gT_t6 (i := 79) (by decide +kernel) (by decide +kernel)
theorem k_st_J2_compress_5af95 : Cond.static yJ2_compress_5af95 ∈ gT := gT_t6 (i := 80) (by decide +kernel) (by decide +kernel)
set_option maxRecDepth 10000 in
theorem k_cd_J2_compress_5af95 : Cond.code yJ2_compress_5af95 cJ2_compress_5af95 7 (some .int) ∈ gT := gT_t6 (i := 81) rfl (by decide +kernel)
theorem k_ml_J2_126 : Cond.methodLink RJ2 126 yJ7_copyOfRange_39247 ∈ gT := gT_t6 (i := 82) (by decide +kernel) (by decide +kernel)
theorem k_ml_J0_47 : Cond.methodLink RJ0 47 yJ2_coderFromArrayLen_85cad ∈ gT := gT_t6 (i := 83) (by decide +kernel) (by decide +kernel)
theorem k_st_J2_coderFromArrayLen_85cad : Cond.static yJ2_coderFromArrayLen_85cad ∈ gT := gT_t6 (i := 84) (by decide +kernel) (by decide +kernel)
set_option maxRecDepth 10000 in
theorem k_cd_J2_coderFromArrayLen_85cad : Cond.code yJ2_coderFromArrayLen_85cad cJ2_coderFromArrayLen_85cad 2 (some .byte) ∈ gT := gT_t6 (i := 85) rfl (by decide +kernel)
theorem k_fl_J0_9 : Cond.fieldLink RJ0 9 RJ0 (TJ0 0).2.1 (TJ0 0).2.2.1 ∈ gT := gT_t6 (i := 86) (by decide +kernel) (by decide +kernel)
theorem k_fl_J0_15 : Cond.fieldLink RJ0 15 RJ0 (TJ0 1).2.1 (TJ0 1).2.2.1 ∈ gT := gT_t6 (i := 87) (by decide +kernel) (by decide +kernel)
theorem k_ml_Jx7c733_7 : Cond.methodLink RJx7c733 7 ⟨"java/lang/IndexOutOfBoundsException", "<init>", "(Ljava/lang/String;)V"⟩ ∈ gT := gT_t6 (i := 97) (by decide +kernel) (by decide +kernel)
theorem k_ml_J5_133 : Cond.methodLink RJ5 133 yJ1_fillNull_b72d1 ∈ gT := gT_t6 (i := 105) (by decide +kernel) (by decide +kernel)
theorem k_st_J1_fillNull_b72d1 : Cond.static yJ1_fillNull_b72d1 ∈ gT := gT_t6 (i := 106) (by decide +kernel) (by decide +kernel)
set_option maxRecDepth 10000 in
theorem k_cd_J1_fillNull_b72d1 : Cond.code yJ1_fillNull_b72d1 cJ1_fillNull_b72d1 3 none ∈ gT := gT_t6 (i := 107) rfl (by decide +kernel)
theorem k_ml_J1_236 : Cond.methodLink RJ1 236 yJ7_fill_eb02e ∈ gT := gT_t6 (i := 108) (by decide +kernel) (by decide +kernel)
theorem k_st_J7_fill_eb02e : Cond.static yJ7_fill_eb02e ∈ gT := gT_t6 (i := 109) (by decide +kernel) (by decide +kernel)
set_option maxRecDepth 10000 in
theorem k_cd_J7_fill_eb02e : Cond.code yJ7_fill_eb02e cJ7_fill_eb02e 5 none ∈ gT := gT_t6 (i := 110) rfl (by decide +kernel)
theorem k_ml_J7_13 : Cond.methodLink RJ7 13 yJ7_rangeCheck_23922 ∈ gT := gT_t6 (i := 111) (by decide +kernel) (by decide +kernel)
theorem k_st_J7_rangeCheck_23922 : Cond.static yJ7_rangeCheck_23922 ∈ gT := gT_t6 (i := 112) (by decide +kernel) (by decide +kernel)
set_option maxRecDepth 10000 in
theorem k_cd_J7_rangeCheck_23922 : Cond.code yJ7_rangeCheck_23922 cJ7_rangeCheck_23922 3 none ∈ gT := gT_t6 (i := 113) rfl (by decide +kernel)
theorem k_cl_J7_68 : Cond.classLink RJ7 68 "java/lang/ArrayIndexOutOfBoundsException" ∈ gT := gT_t6 (i := 117) (by decide +kernel) (by decide +kernel)
theorem k_is_Jx00060 : Cond.instantiable "java/lang/ArrayIndexOutOfBoundsException" 6 ∈ gT := gT_t6 (i := 118) (by decide +kernel) (by decide +kernel)
theorem k_ml_J7_70 : Cond.methodLink RJ7 70 yJx00060_init_d00df ∈ gT := gT_t6 (i := 128) (by decide +kernel) (by decide +kernel)
theorem k_im_Jx00060_init_d00df : Cond.instanceMethod yJx00060_init_d00df ∈ gT := gT_t6 (i := 129) (by decide +kernel) (by decide +kernel)
set_option maxRecDepth 10000 in
theorem k_cd_Jx00060_init_d00df : Cond.code yJx00060_init_d00df cJx00060_init_d00df 2 none ∈ gT := gT_t6 (i := 130) rfl (by decide +kernel)
theorem k_cl_Jx00060_10 : Cond.classLink RJx00060 10 "java/lang/StringBuilder" ∈ gT := gT_t6 (i := 131) (by decide +kernel) (by decide +kernel)
theorem k_ml_Jx00060_12 : Cond.methodLink RJx00060 12 yJ4_init_da8c8 ∈ gT := gT_t6 (i := 132) (by decide +kernel) (by decide +kernel)
theorem k_ml_Jx00060_15 : Cond.methodLink RJx00060 15 yJ4_append_15ec4 ∈ gT := gT_t6 (i := 134) (by decide +kernel) (by decide +kernel)
theorem k_ml_Jx00060_19 : Cond.methodLink RJx00060 19 yJ4_append_bf812 ∈ gT := gT_t6 (i := 135) (by decide +kernel) (by decide +kernel)
theorem k_ml_Jx00060_22 : Cond.methodLink RJx00060 22 yJ4_toString_0e30d ∈ gT := gT_t6 (i := 136) (by decide +kernel) (by decide +kernel)
theorem k_ml_Jx00060_7 : Cond.methodLink RJx00060 7 ⟨"java/lang/IndexOutOfBoundsException", "<init>", "(Ljava/lang/String;)V"⟩ ∈ gT := gT_t6 (i := 137) (by decide +kernel) (by decide +kernel)
theorem k_ml_J5_137 : Cond.methodLink RJ5 137 yJ2_fillNull_b72d1 ∈ gT := gT_t6 (i := 140) (by decide +kernel) (by decide +kernel)
theorem k_st_J2_fillNull_b72d1 : Cond.static yJ2_fillNull_b72d1 ∈ gT := gT_t6 (i := 141) (by decide +kernel) (by decide +kernel)
set_option maxRecDepth 10000 in
theorem k_cd_J2_fillNull_b72d1 : Cond.code yJ2_fillNull_b72d1 cJ2_fillNull_b72d1 3 none ∈ gT := gT_t6 (i := 142) rfl (by decide +kernel)
theorem k_ml_J2_380 : Cond.methodLink RJ2 380 yJ7_fill_eb02e ∈ gT := gT_t6 (i := 143) (by decide +kernel) (by decide +kernel)
theorem k_ml_X6_285 : Cond.methodLink RX6 285 yX3_mnemonic ∈ gT := gT_t6 (i := 144) (by decide +kernel) (by decide +kernel)
theorem k_ml_X6_289 : Cond.methodLink RX6 289 yJ4_append_15ec4 ∈ gT := gT_t6 (i := 145) (by decide +kernel) (by decide +kernel)
theorem k_ml_X6_293 : Cond.methodLink RX6 293 yJ4_append_cf468 ∈ gT := gT_t6 (i := 146) (by decide +kernel) (by decide +kernel)
theorem k_im_J4_append_cf468 : Cond.instanceMethod yJ4_append_cf468 ∈ gT := gT_t6 (i := 147) (by decide +kernel) (by decide +kernel)
theorem k_se_J4_append_cf468 : Cond.selects RJ4 yJ4_append_cf468 yJ4_append_cf468 ∈ gT := gT_t6 (i := 148) (by decide +kernel) (by decide +kernel)
set_option maxRecDepth 10000 in
theorem k_cd_J4_append_cf468 : Cond.code yJ4_append_cf468 cJ4_append_cf468 2 (some (.object "java/lang/StringBuilder")) ∈ gT := gT_t6 (i := 149) rfl (by decide +kernel)
theorem k_ml_J4_50 : Cond.methodLink RJ4 50 yJ5_append_3fe6f ∈ gT := gT_t6 (i := 150) (by decide +kernel) (by decide +kernel)
theorem k_im_J5_append_3fe6f : Cond.instanceMethod yJ5_append_3fe6f ∈ gT := gT_t6 (i := 151) (by decide +kernel) (by decide +kernel)
set_option maxRecDepth 10000 in
theorem k_cd_J5_append_3fe6f : Cond.code yJ5_append_3fe6f cJ5_append_3fe6f 2 (some (.object "java/lang/AbstractStringBuilder")) ∈ gT := gT_t6 (i := 152) rfl (by decide +kernel)
theorem k_ml_J5_191 : Cond.methodLink RJ5 191 yJ1_canEncode_fc78d ∈ gT := gT_t6 (i := 153) (by decide +kernel) (by decide +kernel)
theorem k_st_J1_canEncode_fc78d : Cond.static yJ1_canEncode_fc78d ∈ gT := gT_t6 (i := 154) (by decide +kernel) (by decide +kernel)
set_option maxRecDepth 10000 in
theorem k_cd_J1_canEncode_fc78d : Cond.code yJ1_canEncode_fc78d cJ1_canEncode_fc78d 1 (some .boolean) ∈ gT := gT_t6 (i := 155) rfl (by decide +kernel)
theorem k_ml_J5_197 : Cond.methodLink RJ5 197 yJ2_putCharSB_b72d1 ∈ gT := gT_t6 (i := 156) (by decide +kernel) (by decide +kernel)
theorem k_st_J2_putCharSB_b72d1 : Cond.static yJ2_putCharSB_b72d1 ∈ gT := gT_t6 (i := 157) (by decide +kernel) (by decide +kernel)
set_option maxRecDepth 10000 in
theorem k_cd_J2_putCharSB_b72d1 : Cond.code yJ2_putCharSB_b72d1 cJ2_putCharSB_b72d1 3 none ∈ gT := gT_t6 (i := 158) rfl (by decide +kernel)
theorem k_ml_X6_296 : Cond.methodLink RX6 296 yX3_operand ∈ gT := gT_t6 (i := 159) (by decide +kernel) (by decide +kernel)
theorem k_ml_X6_299 : Cond.methodLink RX6 299 yX6_formatLocation ∈ gT := gT_t6 (i := 160) (by decide +kernel) (by decide +kernel)
theorem k_im_X6_formatLocation : Cond.instanceMethod yX6_formatLocation ∈ gT := gT_t6 (i := 162) (by decide +kernel) (by decide +kernel)
set_option maxRecDepth 10000 in
theorem k_cd_X6_formatLocation : Cond.code yX6_formatLocation cX6_formatLocation 2 none ∈ gT := gT_t6 (i := 163) rfl (by decide +kernel)
theorem k_ml_X6_302 : Cond.methodLink RX6 302 yJ4_append_bf812 ∈ gT := gT_t6 (i := 164) (by decide +kernel) (by decide +kernel)
theorem k_ml_X6_307 : Cond.methodLink RX6 307 yJ4_length_8abf5 ∈ gT := gT_t6 (i := 166) (by decide +kernel) (by decide +kernel)
theorem k_ml_L_276 : Cond.methodLink RL 276 yL_formattedByte ∈ gT := gT_t6 (i := 167) (by decide +kernel) (by decide +kernel)
theorem k_st_L_formattedByte : Cond.static yL_formattedByte ∈ gT := gT_t6 (i := 168) (by decide +kernel) (by decide +kernel)
set_option maxRecDepth 10000 in
theorem k_cd_L_formattedByte : Cond.codeWith yL_formattedByte cL_formattedByte 4 (some .int) [(0, 9, 12, 19)] ∈ gT := gT_t6 (i := 169) rfl (by decide +kernel)
theorem k_ml_L_104 : Cond.methodLink RL 104 yX6_formattedByte ∈ gT := gT_t6 (i := 170) (by decide +kernel) (by decide +kernel)
theorem k_im_X6_formattedByte : Cond.instanceMethod yX6_formattedByte ∈ gT := gT_t6 (i := 171) (by decide +kernel) (by decide +kernel)
theorem k_se_X6_formattedByte : Cond.selects RX6 yX6_formattedByte yX6_formattedByte ∈ gT := gT_t6 (i := 172) (by decide +kernel) (by decide +kernel)
set_option maxRecDepth 10000 in
theorem k_cd_X6_formattedByte : Cond.code yX6_formattedByte cX6_formattedByte 2 (some .int) ∈ gT := gT_t6 (i := 173) rfl (by decide +kernel)
theorem k_ml_X6_311 : Cond.methodLink RX6 311 yJ4_charAt_5068e ∈ gT := gT_t6 (i := 175) (by decide +kernel) (by decide +kernel)
theorem k_im_J4_charAt_5068e : Cond.instanceMethod yJ4_charAt_5068e ∈ gT := gT_t6 (i := 176) (by decide +kernel) (by decide +kernel)
theorem k_se_J4_charAt_5068e : Cond.selects RJ4 yJ4_charAt_5068e yJ4_charAt_5068e ∈ gT := gT_t6 (i := 177) (by decide +kernel) (by decide +kernel)
set_option maxRecDepth 10000 in
theorem k_cd_J4_charAt_5068e : Cond.code yJ4_charAt_5068e cJ4_charAt_5068e 2 (some .char) ∈ gT := gT_t6 (i := 178) rfl (by decide +kernel)
theorem k_ml_J4_329 : Cond.methodLink RJ4 329 yJ5_charAt_5068e ∈ gT := gT_t6 (i := 179) (by decide +kernel) (by decide +kernel)
theorem k_im_J5_charAt_5068e : Cond.instanceMethod yJ5_charAt_5068e ∈ gT := gT_t6 (i := 180) (by decide +kernel) (by decide +kernel)
set_option maxRecDepth 10000 in
theorem k_cd_J5_charAt_5068e : Cond.code yJ5_charAt_5068e cJ5_charAt_5068e 5 (some .char) ∈ gT := gT_t6 (i := 181) rfl (by decide +kernel)
theorem k_ml_J5_138 : Cond.methodLink RJ5 138 yJ9_min_7cf53 ∈ gT := gT_t6 (i := 182) (by decide +kernel) (by decide +kernel)
theorem k_ml_J5_144 : Cond.methodLink RJ5 144 yJ0_checkIndex_df160 ∈ gT := gT_t6 (i := 183) (by decide +kernel) (by decide +kernel)
theorem k_ml_J5_148 : Cond.methodLink RJ5 148 yJ2_getChar_3b067 ∈ gT := gT_t6 (i := 184) (by decide +kernel) (by decide +kernel)
theorem k_ml_L_279 : Cond.methodLink RL 279 yL_save ∈ gT := gT_t6 (i := 185) (by decide +kernel) (by decide +kernel)
theorem k_st_L_save : Cond.static yL_save ∈ gT := gT_t6 (i := 186) (by decide +kernel) (by decide +kernel)
set_option maxRecDepth 10000 in
theorem k_cd_L_save : Cond.codeWith yL_save cL_save 3 (some .int) [(0, 5, 8, 19)] ∈ gT := gT_t6 (i := 187) rfl (by decide +kernel)
theorem k_ml_L_107 : Cond.methodLink RL 107 yX6_save ∈ gT := gT_t6 (i := 188) (by decide +kernel) (by decide +kernel)
theorem k_im_X6_save : Cond.instanceMethod yX6_save ∈ gT := gT_t6 (i := 189) (by decide +kernel) (by decide +kernel)
theorem k_se_X6_save : Cond.selects RX6 yX6_save yX6_save ∈ gT := gT_t6 (i := 190) (by decide +kernel) (by decide +kernel)
set_option maxRecDepth 10000 in
theorem k_cd_X6_save : Cond.code yX6_save cX6_save 2 none ∈ gT := gT_t6 (i := 191) rfl (by decide +kernel)
theorem k_ml_X6_315 : Cond.methodLink RX6 315 yX6_requireSlot ∈ gT := gT_t6 (i := 192) (by decide +kernel) (by decide +kernel)
theorem k_st_X6_requireSlot : Cond.static yX6_requireSlot ∈ gT := gT_t6 (i := 193) (by decide +kernel) (by decide +kernel)
set_option maxRecDepth 10000 in
theorem k_cd_X6_requireSlot : Cond.code yX6_requireSlot cX6_requireSlot 1 none ∈ gT := gT_t6 (i := 194) rfl (by decide +kernel)
theorem k_ml_L_283 : Cond.methodLink RL 283 yL_restore ∈ gT := gT_t6 (i := 196) (by decide +kernel) (by decide +kernel)
theorem k_st_L_restore : Cond.static yL_restore ∈ gT := gT_t6 (i := 197) (by decide +kernel) (by decide +kernel)
set_option maxRecDepth 10000 in
theorem k_cd_L_restore : Cond.codeWith yL_restore cL_restore 3 (some .int) [(0, 5, 8, 19), (0, 5, 11, 13)] ∈ gT := gT_t6 (i := 198) rfl (by decide +kernel)
theorem k_ml_L_111 : Cond.methodLink RL 111 yX6_restore ∈ gT := gT_t6 (i := 199) (by decide +kernel) (by decide +kernel)
theorem k_im_X6_restore : Cond.instanceMethod yX6_restore ∈ gT := gT_t6 (i := 200) (by decide +kernel) (by decide +kernel)
theorem k_se_X6_restore : Cond.selects RX6 yX6_restore yX6_restore ∈ gT := gT_t6 (i := 201) (by decide +kernel) (by decide +kernel)
set_option maxRecDepth 10000 in
theorem k_cd_X6_restore : Cond.code yX6_restore cX6_restore 3 none ∈ gT := gT_t6 (i := 202) rfl (by decide +kernel)
theorem k_cl_L_115 : Cond.classLink RL 115 "DelayLineStoreModel" ∈ gT := gT_t6 (i := 204) (by decide +kernel) (by decide +kernel)
theorem k_is_X7 : Cond.instantiable "DelayLineStoreModel" 21 ∈ gT := gT_t6 (i := 205) (by decide +kernel) (by decide +kernel)
theorem k_ml_L_117 : Cond.methodLink RL 117 yX7_init ∈ gT := gT_t6 (i := 206) (by decide +kernel) (by decide +kernel)
theorem k_im_X7_init : Cond.instanceMethod yX7_init ∈ gT := gT_t6 (i := 207) (by decide +kernel) (by decide +kernel)
set_option maxRecDepth 10000 in
theorem k_cd_X7_init : Cond.code yX7_init cX7_init 2 none ∈ gT := gT_t6 (i := 208) rfl (by decide +kernel)
theorem k_ml_X7_1 : Cond.methodLink RX7 1 ⟨"java/lang/Object", "<init>", "()V"⟩ ∈ gT := gT_t6 (i := 209) (by decide +kernel) (by decide +kernel)
theorem k_lc_X7_33 : Cond.constantLong RX7 33 (388978) ∈ gT := gT_t6 (i := 210) (by decide +kernel) (by decide +kernel)
theorem k_lc_X7_35 : Cond.constantLong RX7 35 (247162) ∈ gT := gT_t6 (i := 211) (by decide +kernel) (by decide +kernel)
theorem k_lc_X7_37 : Cond.constantLong RX7 37 (10502465) ∈ gT := gT_t6 (i := 212) (by decide +kernel) (by decide +kernel)
theorem k_lc_X7_39 : Cond.constantLong RX7 39 (841) ∈ gT := gT_t6 (i := 213) (by decide +kernel) (by decide +kernel)
theorem k_lc_X7_41 : Cond.constantLong RX7 41 (14420) ∈ gT := gT_t6 (i := 214) (by decide +kernel) (by decide +kernel)
theorem k_lc_X7_43 : Cond.constantLong RX7 43 (1111) ∈ gT := gT_t6 (i := 215) (by decide +kernel) (by decide +kernel)
theorem k_lc_X7_45 : Cond.constantLong RX7 45 (17919) ∈ gT := gT_t6 (i := 216) (by decide +kernel) (by decide +kernel)
theorem k_lc_X7_47 : Cond.constantLong RX7 47 (10056) ∈ gT := gT_t6 (i := 217) (by decide +kernel) (by decide +kernel)
theorem k_lc_X7_49 : Cond.constantLong RX7 49 (14079) ∈ gT := gT_t6 (i := 218) (by decide +kernel) (by decide +kernel)
theorem k_lc_X7_51 : Cond.constantLong RX7 51 (14085) ∈ gT := gT_t6 (i := 219) (by decide +kernel) (by decide +kernel)
theorem k_lc_X7_53 : Cond.constantLong RX7 53 (207178) ∈ gT := gT_t6 (i := 220) (by decide +kernel) (by decide +kernel)
theorem k_lc_X7_55 : Cond.constantLong RX7 55 (5830314) ∈ gT := gT_t6 (i := 221) (by decide +kernel) (by decide +kernel)
theorem k_lc_X7_57 : Cond.constantLong RX7 57 (5625846) ∈ gT := gT_t6 (i := 222) (by decide +kernel) (by decide +kernel)
theorem k_lc_X7_59 : Cond.constantLong RX7 59 (257) ∈ gT := gT_t6 (i := 223) (by decide +kernel) (by decide +kernel)
theorem k_lc_X7_61 : Cond.constantLong RX7 61 (11522) ∈ gT := gT_t6 (i := 224) (by decide +kernel) (by decide +kernel)
theorem k_lc_X7_63 : Cond.constantLong RX7 63 (1905275) ∈ gT := gT_t6 (i := 225) (by decide +kernel) (by decide +kernel)
theorem k_co_X7_75 : Cond.constant RX7 75 (1000000) ∈ gT := gT_t6 (i := 226) (by decide +kernel) (by decide +kernel)
theorem k_fl_X7_76 : Cond.fieldLink RX7 76 RX7 (TX7 0).2.1 (TX7 0).2.2.1 ∈ gT := gT_t6 (i := 227) (by decide +kernel) (by decide +kernel)
theorem k_fl_X7_7 : Cond.fieldLink RX7 7 RX7 (TX7 1).2.1 (TX7 1).2.2.1 ∈ gT := gT_t6 (i := 228) (by decide +kernel) (by decide +kernel)
theorem k_fl_X7_13 : Cond.fieldLink RX7 13 RX7 (TX7 2).2.1 (TX7 2).2.2.1 ∈ gT := gT_t6 (i := 229) (by decide +kernel) (by decide +kernel)
theorem k_fl_X7_16 : Cond.fieldLink RX7 16 RX7 (TX7 3).2.1 (TX7 3).2.2.1 ∈ gT := gT_t6 (i := 230) (by decide +kernel) (by decide +kernel)
theorem k_fl_X7_347 : Cond.fieldLink RX7 347 RX7 (TX7 4).2.1 (TX7 4).2.2.1 ∈ gT := gT_t6 (i := 231) (by decide +kernel) (by decide +kernel)
theorem k_fl_X7_350 : Cond.fieldLink RX7 350 RX7 (TX7 5).2.1 (TX7 5).2.2.1 ∈ gT := gT_t6 (i := 232) (by decide +kernel) (by decide +kernel)
theorem k_fl_X7_19 : Cond.fieldLink RX7 19 RX7 (TX7 6).2.1 (TX7 6).2.2.1 ∈ gT := gT_t6 (i := 233) (by decide +kernel) (by decide +kernel)
theorem k_fl_X7_95 : Cond.fieldLink RX7 95 RX7 (TX7 7).2.1 (TX7 7).2.2.1 ∈ gT := gT_t6 (i := 234) (by decide +kernel) (by decide +kernel)
theorem k_fl_X7_113 : Cond.fieldLink RX7 113 RX7 (TX7 8).2.1 (TX7 8).2.2.1 ∈ gT := gT_t6 (i := 235) (by decide +kernel) (by decide +kernel)
theorem k_fl_X7_22 : Cond.fieldLink RX7 22 RX7 (TX7 9).2.1 (TX7 9).2.2.1 ∈ gT := gT_t6 (i := 236) (by decide +kernel) (by decide +kernel)
theorem k_fl_X7_106 : Cond.fieldLink RX7 106 RX7 (TX7 10).2.1 (TX7 10).2.2.1 ∈ gT := gT_t6 (i := 237) (by decide +kernel) (by decide +kernel)
theorem k_fl_X7_124 : Cond.fieldLink RX7 124 RX7 (TX7 11).2.1 (TX7 11).2.2.1 ∈ gT := gT_t6 (i := 238) (by decide +kernel) (by decide +kernel)
theorem k_fl_X7_109 : Cond.fieldLink RX7 109 RX7 (TX7 12).2.1 (TX7 12).2.2.1 ∈ gT := gT_t6 (i := 239) (by decide +kernel) (by decide +kernel)
theorem k_fl_X7_26 : Cond.fieldLink RX7 26 RX7 (TX7 13).2.1 (TX7 13).2.2.1 ∈ gT := gT_t7 (i := 0) (by decide +kernel) (by decide +kernel)
theorem k_fl_X7_29 : Cond.fieldLink RX7 29 RX7 (TX7 14).2.1 (TX7 14).2.2.1 ∈ gT := gT_t7 (i := 1) (by decide +kernel) (by decide +kernel)
theorem k_fl_X7_148 : Cond.fieldLink RX7 148 RX7 (TX7 15).2.1 (TX7 15).2.2.1 ∈ gT := gT_t7 (i := 2) (by decide +kernel) (by decide +kernel)
theorem k_fl_X7_181 : Cond.fieldLink RX7 181 RX7 (TX7 16).2.1 (TX7 16).2.2.1 ∈ gT := gT_t7 (i := 3) (by decide +kernel) (by decide +kernel)
theorem k_fl_X7_65 : Cond.fieldLink RX7 65 RX7 (TX7 17).2.1 (TX7 17).2.2.1 ∈ gT := gT_t7 (i := 4) (by decide +kernel) (by decide +kernel)
theorem k_fl_X7_69 : Cond.fieldLink RX7 69 RX7 (TX7 18).2.1 (TX7 18).2.2.1 ∈ gT := gT_t7 (i := 5) (by decide +kernel) (by decide +kernel)
theorem k_fl_X7_72 : Cond.fieldLink RX7 72 RX7 (TX7 19).2.1 (TX7 19).2.2.1 ∈ gT := gT_t7 (i := 6) (by decide +kernel) (by decide +kernel)
theorem k_fl_X7_331 : Cond.fieldLink RX7 331 RX7 (TX7 20).2.1 (TX7 20).2.2.1 ∈ gT := gT_t7 (i := 7) (by decide +kernel) (by decide +kernel)
theorem k_ac_long : Cond.arrayClass .long ∈ gT := gT_t7 (i := 51) (by decide +kernel) (by decide +kernel)
theorem k_ml_L_124 : Cond.methodLink RL 124 yX7_thrown ∈ gT := gT_t7 (i := 52) (by decide +kernel) (by decide +kernel)
theorem k_im_X7_thrown : Cond.instanceMethod yX7_thrown ∈ gT := gT_t7 (i := 53) (by decide +kernel) (by decide +kernel)
theorem k_se_X7_thrown : Cond.selects RX7 yX7_thrown yX7_thrown ∈ gT := gT_t7 (i := 54) (by decide +kernel) (by decide +kernel)
set_option maxRecDepth 10000 in
theorem k_cd_X7_thrown : Cond.code yX7_thrown cX7_thrown 1 (some .int) ∈ gT := gT_t7 (i := 55) rfl (by decide +kernel)
theorem k_ml_L_123 : Cond.methodLink RL 123 yX7_append ∈ gT := gT_t7 (i := 56) (by decide +kernel) (by decide +kernel)
theorem k_im_X7_append : Cond.instanceMethod yX7_append ∈ gT := gT_t7 (i := 57) (by decide +kernel) (by decide +kernel)
theorem k_se_X7_append : Cond.selects RX7 yX7_append yX7_append ∈ gT := gT_t7 (i := 58) (by decide +kernel) (by decide +kernel)
set_option maxRecDepth 10000 in
theorem k_cd_X7_append : Cond.code yX7_append cX7_append 6 (some .int) ∈ gT := gT_t7 (i := 59) rfl (by decide +kernel)
theorem k_ml_X7_98 : Cond.methodLink RX7 98 yX7_fails ∈ gT := gT_t7 (i := 60) (by decide +kernel) (by decide +kernel)
theorem k_im_X7_fails : Cond.instanceMethod yX7_fails ∈ gT := gT_t7 (i := 62) (by decide +kernel) (by decide +kernel)
set_option maxRecDepth 10000 in
theorem k_cd_X7_fails : Cond.code yX7_fails cX7_fails 2 (some .int) ∈ gT := gT_t7 (i := 63) rfl (by decide +kernel)
theorem k_ml_X7_102 : Cond.methodLink RX7 102 yX7_four ∈ gT := gT_t7 (i := 64) (by decide +kernel) (by decide +kernel)
theorem k_im_X7_four : Cond.instanceMethod yX7_four ∈ gT := gT_t7 (i := 66) (by decide +kernel) (by decide +kernel)
set_option maxRecDepth 10000 in
theorem k_cd_X7_four : Cond.code yX7_four cX7_four 3 none ∈ gT := gT_t7 (i := 67) rfl (by decide +kernel)
theorem k_ml_L_130 : Cond.methodLink RL 130 yX7_truncate ∈ gT := gT_t7 (i := 68) (by decide +kernel) (by decide +kernel)
theorem k_im_X7_truncate : Cond.instanceMethod yX7_truncate ∈ gT := gT_t7 (i := 69) (by decide +kernel) (by decide +kernel)
theorem k_se_X7_truncate : Cond.selects RX7 yX7_truncate yX7_truncate ∈ gT := gT_t7 (i := 70) (by decide +kernel) (by decide +kernel)
set_option maxRecDepth 10000 in
theorem k_cd_X7_truncate : Cond.code yX7_truncate cX7_truncate 2 (some .int) ∈ gT := gT_t7 (i := 71) rfl (by decide +kernel)
theorem k_ml_X7_81 : Cond.methodLink RX7 81 yX7_in ∈ gT := gT_t7 (i := 72) (by decide +kernel) (by decide +kernel)
theorem k_st_X7_in : Cond.static yX7_in ∈ gT := gT_t7 (i := 73) (by decide +kernel) (by decide +kernel)
set_option maxRecDepth 10000 in
theorem k_cd_X7_in : Cond.code yX7_in cX7_in 6 (some .boolean) ∈ gT := gT_t7 (i := 74) rfl (by decide +kernel)
theorem k_ml_L_134 : Cond.methodLink RL 134 yX7_assemble ∈ gT := gT_t7 (i := 75) (by decide +kernel) (by decide +kernel)
theorem k_im_X7_assemble : Cond.instanceMethod yX7_assemble ∈ gT := gT_t7 (i := 76) (by decide +kernel) (by decide +kernel)
theorem k_se_X7_assemble : Cond.selects RX7 yX7_assemble yX7_assemble ∈ gT := gT_t7 (i := 77) (by decide +kernel) (by decide +kernel)
set_option maxRecDepth 10000 in
theorem k_cd_X7_assemble : Cond.code yX7_assemble cX7_assemble 3 (some .int) ∈ gT := gT_t7 (i := 78) rfl (by decide +kernel)
theorem k_ml_X7_116 : Cond.methodLink RX7 116 yX7_here ∈ gT := gT_t7 (i := 79) (by decide +kernel) (by decide +kernel)
theorem k_im_X7_here : Cond.instanceMethod yX7_here ∈ gT := gT_t7 (i := 81) (by decide +kernel) (by decide +kernel)
set_option maxRecDepth 10000 in
theorem k_cd_X7_here : Cond.code yX7_here cX7_here 1 (some .int) ∈ gT := gT_t7 (i := 82) rfl (by decide +kernel)
theorem k_ml_X7_190 : Cond.methodLink RX7 190 yX7_statement ∈ gT := gT_t7 (i := 83) (by decide +kernel) (by decide +kernel)
theorem k_im_X7_statement : Cond.instanceMethod yX7_statement ∈ gT := gT_t7 (i := 85) (by decide +kernel) (by decide +kernel)
set_option maxRecDepth 10000 in
theorem k_cd_X7_statement : Cond.code yX7_statement cX7_statement 7 none ∈ gT := gT_t7 (i := 86) rfl (by decide +kernel)
theorem k_ml_X7_160 : Cond.methodLink RX7 160 yX7_word ∈ gT := gT_t7 (i := 87) (by decide +kernel) (by decide +kernel)
theorem k_im_X7_word : Cond.instanceMethod yX7_word ∈ gT := gT_t7 (i := 89) (by decide +kernel) (by decide +kernel)
set_option maxRecDepth 10000 in
theorem k_cd_X7_word : Cond.code yX7_word cX7_word 5 (some .long) ∈ gT := gT_t7 (i := 90) rfl (by decide +kernel)
theorem k_lc_X7_120 : Cond.constantLong RX7 120 (97) ∈ gT := gT_t7 (i := 91) (by decide +kernel) (by decide +kernel)
theorem k_lc_X7_122 : Cond.constantLong RX7 122 (122) ∈ gT := gT_t7 (i := 92) (by decide +kernel) (by decide +kernel)
theorem k_lc_X7_127 : Cond.constantLong RX7 127 (27) ∈ gT := gT_t7 (i := 93) (by decide +kernel) (by decide +kernel)
theorem k_lc_X7_129 : Cond.constantLong RX7 129 (96) ∈ gT := gT_t7 (i := 94) (by decide +kernel) (by decide +kernel)
theorem k_lc_X7_131 : Cond.constantLong RX7 131 (-1) ∈ gT := gT_t7 (i := 95) (by decide +kernel) (by decide +kernel)
theorem k_ml_X7_173 : Cond.methodLink RX7 173 yX7_opcodeOf ∈ gT := gT_t7 (i := 96) (by decide +kernel) (by decide +kernel)
theorem k_im_X7_opcodeOf : Cond.instanceMethod yX7_opcodeOf ∈ gT := gT_t7 (i := 98) (by decide +kernel) (by decide +kernel)
set_option maxRecDepth 10000 in
theorem k_cd_X7_opcodeOf : Cond.code yX7_opcodeOf cX7_opcodeOf 4 (some .int) ∈ gT := gT_t7 (i := 99) rfl (by decide +kernel)
theorem k_lc_X7_177 : Cond.constantLong RX7 177 (47) ∈ gT := gT_t7 (i := 100) (by decide +kernel) (by decide +kernel)
theorem k_ml_X7_157 : Cond.methodLink RX7 157 yX7_readLocation ∈ gT := gT_t7 (i := 101) (by decide +kernel) (by decide +kernel)
theorem k_im_X7_readLocation : Cond.instanceMethod yX7_readLocation ∈ gT := gT_t7 (i := 103) (by decide +kernel) (by decide +kernel)
set_option maxRecDepth 10000 in
theorem k_cd_X7_readLocation : Cond.code yX7_readLocation cX7_readLocation 2 (some .int) ∈ gT := gT_t7 (i := 104) rfl (by decide +kernel)
theorem k_ml_X7_141 : Cond.methodLink RX7 141 yX7_number ∈ gT := gT_t7 (i := 105) (by decide +kernel) (by decide +kernel)
theorem k_im_X7_number : Cond.instanceMethod yX7_number ∈ gT := gT_t7 (i := 107) (by decide +kernel) (by decide +kernel)
set_option maxRecDepth 10000 in
theorem k_cd_X7_number : Cond.code yX7_number cX7_number 7 (some .int) ∈ gT := gT_t7 (i := 108) rfl (by decide +kernel)
theorem k_lc_X7_133 : Cond.constantLong RX7 133 (48) ∈ gT := gT_t7 (i := 109) (by decide +kernel) (by decide +kernel)
theorem k_lc_X7_135 : Cond.constantLong RX7 135 (57) ∈ gT := gT_t7 (i := 110) (by decide +kernel) (by decide +kernel)
theorem k_ml_X7_137 : Cond.methodLink RX7 137 yX7_wrong ∈ gT := gT_t7 (i := 111) (by decide +kernel) (by decide +kernel)
theorem k_im_X7_wrong : Cond.instanceMethod yX7_wrong ∈ gT := gT_t7 (i := 113) (by decide +kernel) (by decide +kernel)
set_option maxRecDepth 10000 in
theorem k_cd_X7_wrong : Cond.code yX7_wrong cX7_wrong 3 none ∈ gT := gT_t7 (i := 114) rfl (by decide +kernel)
theorem k_ml_X7_145 : Cond.methodLink RX7 145 yX7_sign ∈ gT := gT_t7 (i := 115) (by decide +kernel) (by decide +kernel)
theorem k_im_X7_sign : Cond.instanceMethod yX7_sign ∈ gT := gT_t7 (i := 117) (by decide +kernel) (by decide +kernel)
set_option maxRecDepth 10000 in
theorem k_cd_X7_sign : Cond.code yX7_sign cX7_sign 2 none ∈ gT := gT_t7 (i := 118) rfl (by decide +kernel)
theorem k_lc_X7_179 : Cond.constantLong RX7 179 (10492274) ∈ gT := gT_t7 (i := 119) (by decide +kernel) (by decide +kernel)
theorem k_lc_X7_184 : Cond.constantLong RX7 184 (464134) ∈ gT := gT_t7 (i := 120) (by decide +kernel) (by decide +kernel)
theorem k_co_X7_186 : Cond.constant RX7 186 (-524288) ∈ gT := gT_t7 (i := 121) (by decide +kernel) (by decide +kernel)
theorem k_co_X7_93 : Cond.constant RX7 93 (524287) ∈ gT := gT_t7 (i := 122) (by decide +kernel) (by decide +kernel)
theorem k_ml_X7_170 : Cond.methodLink RX7 170 yX7_writes ∈ gT := gT_t7 (i := 123) (by decide +kernel) (by decide +kernel)
theorem k_im_X7_writes : Cond.instanceMethod yX7_writes ∈ gT := gT_t7 (i := 125) (by decide +kernel) (by decide +kernel)
set_option maxRecDepth 10000 in
theorem k_cd_X7_writes : Cond.code yX7_writes cX7_writes 2 none ∈ gT := gT_t7 (i := 126) rfl (by decide +kernel)
theorem k_co_X7_94 : Cond.constant RX7 94 (1048575) ∈ gT := gT_t7 (i := 127) (by decide +kernel) (by decide +kernel)
theorem k_ml_X7_151 : Cond.methodLink RX7 151 yX7_after ∈ gT := gT_t7 (i := 128) (by decide +kernel) (by decide +kernel)
theorem k_st_X7_after : Cond.static yX7_after ∈ gT := gT_t7 (i := 129) (by decide +kernel) (by decide +kernel)
set_option maxRecDepth 10000 in
theorem k_cd_X7_after : Cond.code yX7_after cX7_after 1 (some .int) ∈ gT := gT_t7 (i := 130) rfl (by decide +kernel)
theorem k_ml_X7_187 : Cond.methodLink RX7 187 yX7_instruction ∈ gT := gT_t7 (i := 131) (by decide +kernel) (by decide +kernel)
theorem k_im_X7_instruction : Cond.instanceMethod yX7_instruction ∈ gT := gT_t7 (i := 133) (by decide +kernel) (by decide +kernel)
set_option maxRecDepth 10000 in
theorem k_cd_X7_instruction : Cond.code yX7_instruction cX7_instruction 4 none ∈ gT := gT_t7 (i := 134) rfl (by decide +kernel)
theorem k_ml_X7_154 : Cond.methodLink RX7 154 yX7_hasOperand ∈ gT := gT_t7 (i := 135) (by decide +kernel) (by decide +kernel)
theorem k_st_X7_hasOperand : Cond.static yX7_hasOperand ∈ gT := gT_t7 (i := 136) (by decide +kernel) (by decide +kernel)
set_option maxRecDepth 10000 in
theorem k_cd_X7_hasOperand : Cond.code yX7_hasOperand cX7_hasOperand 1 (some .boolean) ∈ gT := gT_t7 (i := 137) rfl (by decide +kernel)
theorem k_lc_X7_164 : Cond.constantLong RX7 164 (399641) ∈ gT := gT_t7 (i := 138) (by decide +kernel) (by decide +kernel)
theorem k_ml_X7_166 : Cond.methodLink RX7 166 yX7_coded ∈ gT := gT_t7 (i := 139) (by decide +kernel) (by decide +kernel)
theorem k_st_X7_coded : Cond.static yX7_coded ∈ gT := gT_t7 (i := 140) (by decide +kernel) (by decide +kernel)
set_option maxRecDepth 10000 in
theorem k_cd_X7_coded : Cond.code yX7_coded cX7_coded 3 (some .int) ∈ gT := gT_t7 (i := 141) rfl (by decide +kernel)
theorem k_ml_L_138 : Cond.methodLink RL 138 yX7_errorCode ∈ gT := gT_t7 (i := 142) (by decide +kernel) (by decide +kernel)
theorem k_im_X7_errorCode : Cond.instanceMethod yX7_errorCode ∈ gT := gT_t7 (i := 143) (by decide +kernel) (by decide +kernel)
theorem k_se_X7_errorCode : Cond.selects RX7 yX7_errorCode yX7_errorCode ∈ gT := gT_t7 (i := 144) (by decide +kernel) (by decide +kernel)
set_option maxRecDepth 10000 in
theorem k_cd_X7_errorCode : Cond.code yX7_errorCode cX7_errorCode 1 (some .int) ∈ gT := gT_t7 (i := 145) rfl (by decide +kernel)
theorem k_ml_L_142 : Cond.methodLink RL 142 yX7_errorPosition ∈ gT := gT_t7 (i := 146) (by decide +kernel) (by decide +kernel)
theorem k_im_X7_errorPosition : Cond.instanceMethod yX7_errorPosition ∈ gT := gT_t7 (i := 147) (by decide +kernel) (by decide +kernel)
theorem k_se_X7_errorPosition : Cond.selects RX7 yX7_errorPosition yX7_errorPosition ∈ gT := gT_t7 (i := 148) (by decide +kernel) (by decide +kernel)
set_option maxRecDepth 10000 in
theorem k_cd_X7_errorPosition : Cond.code yX7_errorPosition cX7_errorPosition 1 (some .int) ∈ gT := gT_t7 (i := 149) rfl (by decide +kernel)
theorem k_ml_L_146 : Cond.methodLink RL 146 yX7_readWord ∈ gT := gT_t7 (i := 150) (by decide +kernel) (by decide +kernel)
theorem k_im_X7_readWord : Cond.instanceMethod yX7_readWord ∈ gT := gT_t7 (i := 151) (by decide +kernel) (by decide +kernel)
theorem k_se_X7_readWord : Cond.selects RX7 yX7_readWord yX7_readWord ∈ gT := gT_t7 (i := 152) (by decide +kernel) (by decide +kernel)
set_option maxRecDepth 10000 in
theorem k_cd_X7_readWord : Cond.code yX7_readWord cX7_readWord 3 (some .int) ∈ gT := gT_t7 (i := 153) rfl (by decide +kernel)
theorem k_ml_X7_193 : Cond.methodLink RX7 193 yX7_isLocation ∈ gT := gT_t7 (i := 154) (by decide +kernel) (by decide +kernel)
theorem k_st_X7_isLocation : Cond.static yX7_isLocation ∈ gT := gT_t7 (i := 155) (by decide +kernel) (by decide +kernel)
set_option maxRecDepth 10000 in
theorem k_cd_X7_isLocation : Cond.code yX7_isLocation cX7_isLocation 2 (some .boolean) ∈ gT := gT_t7 (i := 156) rfl (by decide +kernel)
theorem k_ml_X7_85 : Cond.methodLink RX7 85 yX7_isTank ∈ gT := gT_t7 (i := 157) (by decide +kernel) (by decide +kernel)
theorem k_st_X7_isTank : Cond.static yX7_isTank ∈ gT := gT_t7 (i := 158) (by decide +kernel) (by decide +kernel)
set_option maxRecDepth 10000 in
theorem k_cd_X7_isTank : Cond.code yX7_isTank cX7_isTank 1 (some .boolean) ∈ gT := gT_t7 (i := 159) rfl (by decide +kernel)
theorem k_lc_X7_79 : Cond.constantLong RX7 79 (7) ∈ gT := gT_t7 (i := 160) (by decide +kernel) (by decide +kernel)
theorem k_lc_X7_89 : Cond.constantLong RX7 89 (31) ∈ gT := gT_t7 (i := 161) (by decide +kernel) (by decide +kernel)
theorem k_ml_X7_197 : Cond.methodLink RX7 197 yX7_wrap ∈ gT := gT_t7 (i := 162) (by decide +kernel) (by decide +kernel)
theorem k_st_X7_wrap : Cond.static yX7_wrap ∈ gT := gT_t7 (i := 163) (by decide +kernel) (by decide +kernel)
set_option maxRecDepth 10000 in
theorem k_cd_X7_wrap : Cond.code yX7_wrap cX7_wrap 3 (some .int) ∈ gT := gT_t7 (i := 164) rfl (by decide +kernel)
theorem k_lc_X7_91 : Cond.constantLong RX7 91 (1048575) ∈ gT := gT_t7 (i := 165) (by decide +kernel) (by decide +kernel)
theorem k_ml_L_150 : Cond.methodLink RL 150 yX7_writeWord ∈ gT := gT_t7 (i := 166) (by decide +kernel) (by decide +kernel)
theorem k_im_X7_writeWord : Cond.instanceMethod yX7_writeWord ∈ gT := gT_t7 (i := 167) (by decide +kernel) (by decide +kernel)
theorem k_se_X7_writeWord : Cond.selects RX7 yX7_writeWord yX7_writeWord ∈ gT := gT_t7 (i := 168) (by decide +kernel) (by decide +kernel)
set_option maxRecDepth 10000 in
theorem k_cd_X7_writeWord : Cond.code yX7_writeWord cX7_writeWord 5 (some .int) ∈ gT := gT_t7 (i := 169) rfl (by decide +kernel)
theorem k_lc_X7_200 : Cond.constantLong RX7 200 (-524288) ∈ gT := gT_t7 (i := 170) (by decide +kernel) (by decide +kernel)
theorem k_lc_X7_202 : Cond.constantLong RX7 202 (524287) ∈ gT := gT_t7 (i := 171) (by decide +kernel) (by decide +kernel)
theorem k_ml_L_153 : Cond.methodLink RL 153 yX7_clearTank ∈ gT := gT_t7 (i := 172) (by decide +kernel) (by decide +kernel)
theorem k_im_X7_clearTank : Cond.instanceMethod yX7_clearTank ∈ gT := gT_t7 (i := 173) (by decide +kernel) (by decide +kernel)
theorem k_se_X7_clearTank : Cond.selects RX7 yX7_clearTank yX7_clearTank ∈ gT := gT_t7 (i := 174) (by decide +kernel) (by decide +kernel)
set_option maxRecDepth 10000 in
theorem k_cd_X7_clearTank : Cond.code yX7_clearTank cX7_clearTank 4 (some .int) ∈ gT := gT_t7 (i := 175) rfl (by decide +kernel)
theorem k_ml_X7_204 : Cond.methodLink RX7 204 yX7_bitsOf ∈ gT := gT_t7 (i := 176) (by decide +kernel) (by decide +kernel)
theorem k_im_X7_bitsOf : Cond.instanceMethod yX7_bitsOf ∈ gT := gT_t7 (i := 178) (by decide +kernel) (by decide +kernel)
set_option maxRecDepth 10000 in
theorem k_cd_X7_bitsOf : Cond.code yX7_bitsOf cX7_bitsOf 4 (some .int) ∈ gT := gT_t7 (i := 179) rfl (by decide +kernel)
theorem k_ml_L_157 : Cond.methodLink RL 157 yX7_swapTanks ∈ gT := gT_t7 (i := 180) (by decide +kernel) (by decide +kernel)
theorem k_im_X7_swapTanks : Cond.instanceMethod yX7_swapTanks ∈ gT := gT_t7 (i := 181) (by decide +kernel) (by decide +kernel)
theorem k_se_X7_swapTanks : Cond.selects RX7 yX7_swapTanks yX7_swapTanks ∈ gT := gT_t7 (i := 182) (by decide +kernel) (by decide +kernel)
set_option maxRecDepth 10000 in
theorem k_cd_X7_swapTanks : Cond.code yX7_swapTanks cX7_swapTanks 4 none ∈ gT := gT_t7 (i := 183) rfl (by decide +kernel)
theorem k_ml_X7_207 : Cond.methodLink RX7 207 yX7_exchange ∈ gT := gT_t7 (i := 184) (by decide +kernel) (by decide +kernel)
theorem k_im_X7_exchange : Cond.instanceMethod yX7_exchange ∈ gT := gT_t7 (i := 186) (by decide +kernel) (by decide +kernel)
set_option maxRecDepth 10000 in
theorem k_cd_X7_exchange : Cond.code yX7_exchange cX7_exchange 4 none ∈ gT := gT_t7 (i := 187) rfl (by decide +kernel)
theorem k_ml_L_160 : Cond.methodLink RL 160 yX7_bitCount ∈ gT := gT_t7 (i := 188) (by decide +kernel) (by decide +kernel)
theorem k_im_X7_bitCount : Cond.instanceMethod yX7_bitCount ∈ gT := gT_t7 (i := 189) (by decide +kernel) (by decide +kernel)
theorem k_se_X7_bitCount : Cond.selects RX7 yX7_bitCount yX7_bitCount ∈ gT := gT_t7 (i := 190) (by decide +kernel) (by decide +kernel)
set_option maxRecDepth 10000 in
theorem k_cd_X7_bitCount : Cond.code yX7_bitCount cX7_bitCount 2 (some .int) ∈ gT := gT_t7 (i := 191) rfl (by decide +kernel)
theorem k_ml_L_163 : Cond.methodLink RL 163 yX7_slips ∈ gT := gT_t7 (i := 192) (by decide +kernel) (by decide +kernel)
theorem k_im_X7_slips : Cond.instanceMethod yX7_slips ∈ gT := gT_t7 (i := 193) (by decide +kernel) (by decide +kernel)
theorem k_se_X7_slips : Cond.selects RX7 yX7_slips yX7_slips ∈ gT := gT_t7 (i := 194) (by decide +kernel) (by decide +kernel)
set_option maxRecDepth 10000 in
theorem k_cd_X7_slips : Cond.code yX7_slips cX7_slips 2 (some .int) ∈ gT := gT_t7 (i := 195) rfl (by decide +kernel)
theorem k_ml_L_167 : Cond.methodLink RL 167 yX7_dropouts ∈ gT := gT_t7 (i := 196) (by decide +kernel) (by decide +kernel)
theorem k_im_X7_dropouts : Cond.instanceMethod yX7_dropouts ∈ gT := gT_t7 (i := 197) (by decide +kernel) (by decide +kernel)
theorem k_se_X7_dropouts : Cond.selects RX7 yX7_dropouts yX7_dropouts ∈ gT := gT_t7 (i := 198) (by decide +kernel) (by decide +kernel)
set_option maxRecDepth 10000 in
theorem k_cd_X7_dropouts : Cond.code yX7_dropouts cX7_dropouts 1 (some .int) ∈ gT := gT_t7 (i := 199) rfl (by decide +kernel)
theorem k_ml_L_170 : Cond.methodLink RL 170 yX7_setTemperature ∈ gT := gT_t7 (i := 200) (by decide +kernel) (by decide +kernel)
theorem k_im_X7_setTemperature : Cond.instanceMethod yX7_setTemperature ∈ gT := gT_t7 (i := 201) (by decide +kernel) (by decide +kernel)
theorem k_se_X7_setTemperature : Cond.selects RX7 yX7_setTemperature yX7_setTemperature ∈ gT := gT_t7 (i := 202) (by decide +kernel) (by decide +kernel)
set_option maxRecDepth 10000 in
theorem k_cd_X7_setTemperature : Cond.code yX7_setTemperature cX7_setTemperature 3 (some .int) ∈ gT := gT_t7 (i := 203) rfl (by decide +kernel)
theorem k_ml_X7_212 : Cond.methodLink RX7 212 yX7_isWarmth ∈ gT := gT_t7 (i := 204) (by decide +kernel) (by decide +kernel)
theorem k_st_X7_isWarmth : Cond.static yX7_isWarmth ∈ gT := gT_t7 (i := 205) (by decide +kernel) (by decide +kernel)
set_option maxRecDepth 10000 in
theorem k_cd_X7_isWarmth : Cond.code yX7_isWarmth cX7_isWarmth 1 (some .boolean) ∈ gT := gT_t7 (i := 206) rfl (by decide +kernel)
theorem k_lc_X7_210 : Cond.constantLong RX7 210 (1000) ∈ gT := gT_t7 (i := 207) (by decide +kernel) (by decide +kernel)
theorem k_ml_X7_215 : Cond.methodLink RX7 215 yX7_puts ∈ gT := gT_t7 (i := 208) (by decide +kernel) (by decide +kernel)
theorem k_im_X7_puts : Cond.instanceMethod yX7_puts ∈ gT := gT_t7 (i := 210) (by decide +kernel) (by decide +kernel)
set_option maxRecDepth 10000 in
theorem k_cd_X7_puts : Cond.code yX7_puts cX7_puts 4 (some .int) ∈ gT := gT_t7 (i := 211) rfl (by decide +kernel)
theorem k_ml_L_173 : Cond.methodLink RL 173 yX7_temperature ∈ gT := gT_t7 (i := 212) (by decide +kernel) (by decide +kernel)
theorem k_im_X7_temperature : Cond.instanceMethod yX7_temperature ∈ gT := gT_t7 (i := 213) (by decide +kernel) (by decide +kernel)
theorem k_se_X7_temperature : Cond.selects RX7 yX7_temperature yX7_temperature ∈ gT := gT_t7 (i := 214) (by decide +kernel) (by decide +kernel)
set_option maxRecDepth 10000 in
theorem k_cd_X7_temperature : Cond.code yX7_temperature cX7_temperature 2 (some .int) ∈ gT := gT_t7 (i := 215) rfl (by decide +kernel)
theorem k_ml_L_176 : Cond.methodLink RL 176 yX7_setOven ∈ gT := gT_t7 (i := 216) (by decide +kernel) (by decide +kernel)
theorem k_im_X7_setOven : Cond.instanceMethod yX7_setOven ∈ gT := gT_t7 (i := 217) (by decide +kernel) (by decide +kernel)
theorem k_se_X7_setOven : Cond.selects RX7 yX7_setOven yX7_setOven ∈ gT := gT_t7 (i := 218) (by decide +kernel) (by decide +kernel)
set_option maxRecDepth 10000 in
theorem k_cd_X7_setOven : Cond.code yX7_setOven cX7_setOven 2 (some .int) ∈ gT := gT_t7 (i := 219) rfl (by decide +kernel)
theorem k_ml_L_179 : Cond.methodLink RL 179 yX7_setPilotTemperature ∈ gT := gT_t7 (i := 220) (by decide +kernel) (by decide +kernel)
theorem k_im_X7_setPilotTemperature : Cond.instanceMethod yX7_setPilotTemperature ∈ gT := gT_t7 (i := 221) (by decide +kernel) (by decide +kernel)
theorem k_se_X7_setPilotTemperature : Cond.selects RX7 yX7_setPilotTemperature yX7_setPilotTemperature ∈ gT := gT_t7 (i := 222) (by decide +kernel) (by decide +kernel)
set_option maxRecDepth 10000 in
theorem k_cd_X7_setPilotTemperature : Cond.code yX7_setPilotTemperature cX7_setPilotTemperature 2 (some .int) ∈ gT := gT_t7 (i := 223) rfl (by decide +kernel)
theorem k_ml_L_184 : Cond.methodLink RL 184 yX7_setPilot ∈ gT := gT_t7 (i := 224) (by decide +kernel) (by decide +kernel)
theorem k_im_X7_setPilot : Cond.instanceMethod yX7_setPilot ∈ gT := gT_t7 (i := 225) (by decide +kernel) (by decide +kernel)
theorem k_se_X7_setPilot : Cond.selects RX7 yX7_setPilot yX7_setPilot ∈ gT := gT_t7 (i := 226) (by decide +kernel) (by decide +kernel)
set_option maxRecDepth 10000 in
theorem k_cd_X7_setPilot : Cond.code yX7_setPilot cX7_setPilot 2 (some .boolean) ∈ gT := gT_t7 (i := 227) rfl (by decide +kernel)
theorem k_ml_L_187 : Cond.methodLink RL 187 yX7_setFixedPeriod ∈ gT := gT_t7 (i := 228) (by decide +kernel) (by decide +kernel)
theorem k_im_X7_setFixedPeriod : Cond.instanceMethod yX7_setFixedPeriod ∈ gT := gT_t7 (i := 229) (by decide +kernel) (by decide +kernel)
theorem k_se_X7_setFixedPeriod : Cond.selects RX7 yX7_setFixedPeriod yX7_setFixedPeriod ∈ gT := gT_t7 (i := 230) (by decide +kernel) (by decide +kernel)
set_option maxRecDepth 10000 in
theorem k_cd_X7_setFixedPeriod : Cond.code yX7_setFixedPeriod cX7_setFixedPeriod 2 (some .int) ∈ gT := gT_t7 (i := 231) rfl (by decide +kernel)
theorem k_lc_X7_219 : Cond.constantLong RX7 219 (900000) ∈ gT := gT_t7 (i := 232) (by decide +kernel) (by decide +kernel)
theorem k_lc_X7_221 : Cond.constantLong RX7 221 (1100000) ∈ gT := gT_t7 (i := 233) (by decide +kernel) (by decide +kernel)
theorem k_ml_L_191 : Cond.methodLink RL 191 yX7_period ∈ gT := gT_t7 (i := 234) (by decide +kernel) (by decide +kernel)
theorem k_im_X7_period : Cond.instanceMethod yX7_period ∈ gT := gT_t7 (i := 235) (by decide +kernel) (by decide +kernel)
theorem k_se_X7_period : Cond.selects RX7 yX7_period yX7_period ∈ gT := gT_t7 (i := 236) (by decide +kernel) (by decide +kernel)
set_option maxRecDepth 10000 in
theorem k_cd_X7_period : Cond.code yX7_period cX7_period 1 (some .int) ∈ gT := gT_t7 (i := 237) rfl (by decide +kernel)
theorem k_ml_X7_227 : Cond.methodLink RX7 227 yX7_periodNow ∈ gT := gT_t7 (i := 238) (by decide +kernel) (by decide +kernel)
theorem k_im_X7_periodNow : Cond.instanceMethod yX7_periodNow ∈ gT := gT_t8 (i := 0) (by decide +kernel) (by decide +kernel)
set_option maxRecDepth 10000 in
theorem k_cd_X7_periodNow : Cond.code yX7_periodNow cX7_periodNow 1 (some .int) ∈ gT := gT_t8 (i := 1) rfl (by decide +kernel)
theorem k_ml_X7_224 : Cond.methodLink RX7 224 yX7_delayAt ∈ gT := gT_t8 (i := 2) (by decide +kernel) (by decide +kernel)
theorem k_st_X7_delayAt : Cond.static yX7_delayAt ∈ gT := gT_t8 (i := 3) (by decide +kernel) (by decide +kernel)
set_option maxRecDepth 10000 in
theorem k_cd_X7_delayAt : Cond.code yX7_delayAt cX7_delayAt 1 (some .int) ∈ gT := gT_t8 (i := 4) rfl (by decide +kernel)
theorem k_co_X7_223 : Cond.constant RX7 223 (640000000) ∈ gT := gT_t8 (i := 5) (by decide +kernel) (by decide +kernel)
theorem k_ml_L_194 : Cond.methodLink RL 194 yX7_mismatch ∈ gT := gT_t8 (i := 6) (by decide +kernel) (by decide +kernel)
theorem k_im_X7_mismatch : Cond.instanceMethod yX7_mismatch ∈ gT := gT_t8 (i := 7) (by decide +kernel) (by decide +kernel)
theorem k_se_X7_mismatch : Cond.selects RX7 yX7_mismatch yX7_mismatch ∈ gT := gT_t8 (i := 8) (by decide +kernel) (by decide +kernel)
set_option maxRecDepth 10000 in
theorem k_cd_X7_mismatch : Cond.code yX7_mismatch cX7_mismatch 2 (some .int) ∈ gT := gT_t8 (i := 9) rfl (by decide +kernel)
theorem k_ml_X7_230 : Cond.methodLink RX7 230 yX7_mismatchAt ∈ gT := gT_t8 (i := 10) (by decide +kernel) (by decide +kernel)
theorem k_im_X7_mismatchAt : Cond.instanceMethod yX7_mismatchAt ∈ gT := gT_t8 (i := 12) (by decide +kernel) (by decide +kernel)
set_option maxRecDepth 10000 in
theorem k_cd_X7_mismatchAt : Cond.code yX7_mismatchAt cX7_mismatchAt 2 (some .int) ∈ gT := gT_t8 (i := 13) rfl (by decide +kernel)
theorem k_ml_L_198 : Cond.methodLink RL 198 yX7_leastSafeTemperature ∈ gT := gT_t8 (i := 14) (by decide +kernel) (by decide +kernel)
theorem k_im_X7_leastSafeTemperature : Cond.instanceMethod yX7_leastSafeTemperature ∈ gT := gT_t8 (i := 15) (by decide +kernel) (by decide +kernel)
theorem k_se_X7_leastSafeTemperature : Cond.selects RX7 yX7_leastSafeTemperature yX7_leastSafeTemperature ∈ gT := gT_t8 (i := 16) (by decide +kernel) (by decide +kernel)
set_option maxRecDepth 10000 in
theorem k_cd_X7_leastSafeTemperature : Cond.code yX7_leastSafeTemperature cX7_leastSafeTemperature 2 (some .int) ∈ gT := gT_t8 (i := 17) rfl (by decide +kernel)
theorem k_ml_X7_236 : Cond.methodLink RX7 236 yX7_isSafe ∈ gT := gT_t8 (i := 18) (by decide +kernel) (by decide +kernel)
theorem k_im_X7_isSafe : Cond.instanceMethod yX7_isSafe ∈ gT := gT_t8 (i := 20) (by decide +kernel) (by decide +kernel)
set_option maxRecDepth 10000 in
theorem k_cd_X7_isSafe : Cond.code yX7_isSafe cX7_isSafe 2 (some .boolean) ∈ gT := gT_t8 (i := 21) rfl (by decide +kernel)
theorem k_ml_X7_233 : Cond.methodLink RX7 233 yX7_distance ∈ gT := gT_t8 (i := 22) (by decide +kernel) (by decide +kernel)
theorem k_st_X7_distance : Cond.static yX7_distance ∈ gT := gT_t8 (i := 23) (by decide +kernel) (by decide +kernel)
set_option maxRecDepth 10000 in
theorem k_cd_X7_distance : Cond.code yX7_distance cX7_distance 1 (some .int) ∈ gT := gT_t8 (i := 24) rfl (by decide +kernel)
theorem k_ml_L_202 : Cond.methodLink RL 202 yX7_greatestSafeTemperature ∈ gT := gT_t8 (i := 25) (by decide +kernel) (by decide +kernel)
theorem k_im_X7_greatestSafeTemperature : Cond.instanceMethod yX7_greatestSafeTemperature ∈ gT := gT_t8 (i := 26) (by decide +kernel) (by decide +kernel)
theorem k_se_X7_greatestSafeTemperature : Cond.selects RX7 yX7_greatestSafeTemperature yX7_greatestSafeTemperature ∈ gT := gT_t8 (i := 27) (by decide +kernel) (by decide +kernel)
set_option maxRecDepth 10000 in
theorem k_cd_X7_greatestSafeTemperature : Cond.code yX7_greatestSafeTemperature cX7_greatestSafeTemperature 2 (some .int) ∈ gT := gT_t8 (i := 28) rfl (by decide +kernel)
theorem k_ml_L_206 : Cond.methodLink RL 206 yX7_unsafeAfter ∈ gT := gT_t8 (i := 29) (by decide +kernel) (by decide +kernel)
theorem k_im_X7_unsafeAfter : Cond.instanceMethod yX7_unsafeAfter ∈ gT := gT_t8 (i := 30) (by decide +kernel) (by decide +kernel)
theorem k_se_X7_unsafeAfter : Cond.selects RX7 yX7_unsafeAfter yX7_unsafeAfter ∈ gT := gT_t8 (i := 31) (by decide +kernel) (by decide +kernel)
set_option maxRecDepth 10000 in
theorem k_cd_X7_unsafeAfter : Cond.code yX7_unsafeAfter cX7_unsafeAfter 2 (some .int) ∈ gT := gT_t8 (i := 32) rfl (by decide +kernel)
theorem k_ml_X7_239 : Cond.methodLink RX7 239 yX7_putsAside ∈ gT := gT_t8 (i := 33) (by decide +kernel) (by decide +kernel)
theorem k_im_X7_putsAside : Cond.instanceMethod yX7_putsAside ∈ gT := gT_t8 (i := 35) (by decide +kernel) (by decide +kernel)
set_option maxRecDepth 10000 in
theorem k_cd_X7_putsAside : Cond.code yX7_putsAside cX7_putsAside 2 none ∈ gT := gT_t8 (i := 36) rfl (by decide +kernel)
theorem k_ml_X7_242 : Cond.methodLink RX7 242 yX7_areSafe ∈ gT := gT_t8 (i := 37) (by decide +kernel) (by decide +kernel)
theorem k_im_X7_areSafe : Cond.instanceMethod yX7_areSafe ∈ gT := gT_t8 (i := 39) (by decide +kernel) (by decide +kernel)
set_option maxRecDepth 10000 in
theorem k_cd_X7_areSafe : Cond.code yX7_areSafe cX7_areSafe 3 (some .boolean) ∈ gT := gT_t8 (i := 40) rfl (by decide +kernel)
theorem k_ml_X7_246 : Cond.methodLink RX7 246 yX7_warms ∈ gT := gT_t8 (i := 41) (by decide +kernel) (by decide +kernel)
theorem k_im_X7_warms : Cond.instanceMethod yX7_warms ∈ gT := gT_t8 (i := 43) (by decide +kernel) (by decide +kernel)
set_option maxRecDepth 10000 in
theorem k_cd_X7_warms : Cond.code yX7_warms cX7_warms 2 none ∈ gT := gT_t8 (i := 44) rfl (by decide +kernel)
theorem k_ml_X7_249 : Cond.methodLink RX7 249 yX7_takesBack ∈ gT := gT_t8 (i := 45) (by decide +kernel) (by decide +kernel)
theorem k_im_X7_takesBack : Cond.instanceMethod yX7_takesBack ∈ gT := gT_t8 (i := 47) (by decide +kernel) (by decide +kernel)
set_option maxRecDepth 10000 in
theorem k_cd_X7_takesBack : Cond.code yX7_takesBack cX7_takesBack 2 none ∈ gT := gT_t8 (i := 48) rfl (by decide +kernel)
theorem k_ml_L_209 : Cond.methodLink RL 209 yX7_start ∈ gT := gT_t8 (i := 49) (by decide +kernel) (by decide +kernel)
theorem k_im_X7_start : Cond.instanceMethod yX7_start ∈ gT := gT_t8 (i := 50) (by decide +kernel) (by decide +kernel)
theorem k_se_X7_start : Cond.selects RX7 yX7_start yX7_start ∈ gT := gT_t8 (i := 51) (by decide +kernel) (by decide +kernel)
set_option maxRecDepth 10000 in
theorem k_cd_X7_start : Cond.code yX7_start cX7_start 3 none ∈ gT := gT_t8 (i := 52) rfl (by decide +kernel)
theorem k_ml_L_212 : Cond.methodLink RL 212 yX7_run ∈ gT := gT_t8 (i := 53) (by decide +kernel) (by decide +kernel)
theorem k_im_X7_run : Cond.instanceMethod yX7_run ∈ gT := gT_t8 (i := 54) (by decide +kernel) (by decide +kernel)
theorem k_se_X7_run : Cond.selects RX7 yX7_run yX7_run ∈ gT := gT_t8 (i := 55) (by decide +kernel) (by decide +kernel)
set_option maxRecDepth 10000 in
theorem k_cd_X7_run : Cond.code yX7_run cX7_run 2 (some .int) ∈ gT := gT_t8 (i := 56) rfl (by decide +kernel)
theorem k_ml_X7_309 : Cond.methodLink RX7 309 yX7_whyNot ∈ gT := gT_t8 (i := 57) (by decide +kernel) (by decide +kernel)
theorem k_im_X7_whyNot : Cond.instanceMethod yX7_whyNot ∈ gT := gT_t8 (i := 59) (by decide +kernel) (by decide +kernel)
set_option maxRecDepth 10000 in
theorem k_cd_X7_whyNot : Cond.code yX7_whyNot cX7_whyNot 2 (some .int) ∈ gT := gT_t8 (i := 60) rfl (by decide +kernel)
theorem k_lc_X7_307 : Cond.constantLong RX7 307 (500) ∈ gT := gT_t8 (i := 61) (by decide +kernel) (by decide +kernel)
theorem k_ml_X7_312 : Cond.methodLink RX7 312 yX7_runs ∈ gT := gT_t8 (i := 62) (by decide +kernel) (by decide +kernel)
theorem k_im_X7_runs : Cond.instanceMethod yX7_runs ∈ gT := gT_t8 (i := 64) (by decide +kernel) (by decide +kernel)
set_option maxRecDepth 10000 in
theorem k_cd_X7_runs : Cond.code yX7_runs cX7_runs 4 (some .int) ∈ gT := gT_t8 (i := 65) rfl (by decide +kernel)
theorem k_ml_X7_304 : Cond.methodLink RX7 304 yX7_executes ∈ gT := gT_t8 (i := 66) (by decide +kernel) (by decide +kernel)
theorem k_im_X7_executes : Cond.instanceMethod yX7_executes ∈ gT := gT_t8 (i := 68) (by decide +kernel) (by decide +kernel)
set_option maxRecDepth 10000 in
theorem k_cd_X7_executes : Cond.code yX7_executes cX7_executes 6 (some .boolean) ∈ gT := gT_t8 (i := 69) rfl (by decide +kernel)
theorem k_ml_X7_271 : Cond.methodLink RX7 271 yX7_waitsFor ∈ gT := gT_t8 (i := 70) (by decide +kernel) (by decide +kernel)
theorem k_im_X7_waitsFor : Cond.instanceMethod yX7_waitsFor ∈ gT := gT_t8 (i := 72) (by decide +kernel) (by decide +kernel)
set_option maxRecDepth 10000 in
theorem k_cd_X7_waitsFor : Cond.code yX7_waitsFor cX7_waitsFor 3 none ∈ gT := gT_t8 (i := 73) rfl (by decide +kernel)
theorem k_ml_X7_264 : Cond.methodLink RX7 264 yX7_passes ∈ gT := gT_t8 (i := 74) (by decide +kernel) (by decide +kernel)
theorem k_im_X7_passes : Cond.instanceMethod yX7_passes ∈ gT := gT_t8 (i := 76) (by decide +kernel) (by decide +kernel)
set_option maxRecDepth 10000 in
theorem k_cd_X7_passes : Cond.code yX7_passes cX7_passes 3 none ∈ gT := gT_t8 (i := 77) rfl (by decide +kernel)
theorem k_ml_X7_261 : Cond.methodLink RX7 261 yX7_ends ∈ gT := gT_t8 (i := 78) (by decide +kernel) (by decide +kernel)
theorem k_im_X7_ends : Cond.instanceMethod yX7_ends ∈ gT := gT_t8 (i := 80) (by decide +kernel) (by decide +kernel)
set_option maxRecDepth 10000 in
theorem k_cd_X7_ends : Cond.code yX7_ends cX7_ends 5 none ∈ gT := gT_t8 (i := 81) rfl (by decide +kernel)
theorem k_ml_X7_252 : Cond.methodLink RX7 252 yX7_floor ∈ gT := gT_t8 (i := 82) (by decide +kernel) (by decide +kernel)
theorem k_st_X7_floor : Cond.static yX7_floor ∈ gT := gT_t8 (i := 83) (by decide +kernel) (by decide +kernel)
set_option maxRecDepth 10000 in
theorem k_cd_X7_floor : Cond.code yX7_floor cX7_floor 3 (some .int) ∈ gT := gT_t8 (i := 84) rfl (by decide +kernel)
theorem k_ml_X7_255 : Cond.methodLink RX7 255 yX7_moves ∈ gT := gT_t8 (i := 85) (by decide +kernel) (by decide +kernel)
theorem k_im_X7_moves : Cond.instanceMethod yX7_moves ∈ gT := gT_t8 (i := 87) (by decide +kernel) (by decide +kernel)
set_option maxRecDepth 10000 in
theorem k_cd_X7_moves : Cond.code yX7_moves cX7_moves 6 none ∈ gT := gT_t8 (i := 88) rfl (by decide +kernel)
theorem k_ml_X7_258 : Cond.methodLink RX7 258 yX7_drops ∈ gT := gT_t8 (i := 89) (by decide +kernel) (by decide +kernel)
theorem k_im_X7_drops : Cond.instanceMethod yX7_drops ∈ gT := gT_t8 (i := 91) (by decide +kernel) (by decide +kernel)
set_option maxRecDepth 10000 in
theorem k_cd_X7_drops : Cond.code yX7_drops cX7_drops 4 none ∈ gT := gT_t8 (i := 92) rfl (by decide +kernel)
theorem k_ml_X7_277 : Cond.methodLink RX7 277 yX7_operandOf ∈ gT := gT_t8 (i := 93) (by decide +kernel) (by decide +kernel)
theorem k_st_X7_operandOf : Cond.static yX7_operandOf ∈ gT := gT_t8 (i := 94) (by decide +kernel) (by decide +kernel)
set_option maxRecDepth 10000 in
theorem k_cd_X7_operandOf : Cond.code yX7_operandOf cX7_operandOf 1 (some .int) ∈ gT := gT_t8 (i := 95) rfl (by decide +kernel)
theorem k_ml_X7_280 : Cond.methodLink RX7 280 yX7_comesIn ∈ gT := gT_t8 (i := 96) (by decide +kernel) (by decide +kernel)
theorem k_im_X7_comesIn : Cond.instanceMethod yX7_comesIn ∈ gT := gT_t8 (i := 98) (by decide +kernel) (by decide +kernel)
set_option maxRecDepth 10000 in
theorem k_cd_X7_comesIn : Cond.code yX7_comesIn cX7_comesIn 2 (some .boolean) ∈ gT := gT_t8 (i := 99) rfl (by decide +kernel)
theorem k_ml_X7_283 : Cond.methodLink RX7 283 yX7_goesOut ∈ gT := gT_t8 (i := 100) (by decide +kernel) (by decide +kernel)
theorem k_im_X7_goesOut : Cond.instanceMethod yX7_goesOut ∈ gT := gT_t8 (i := 102) (by decide +kernel) (by decide +kernel)
set_option maxRecDepth 10000 in
theorem k_cd_X7_goesOut : Cond.code yX7_goesOut cX7_goesOut 1 (some .boolean) ∈ gT := gT_t8 (i := 103) rfl (by decide +kernel)
theorem k_ml_X7_286 : Cond.methodLink RX7 286 yX7_stores ∈ gT := gT_t8 (i := 104) (by decide +kernel) (by decide +kernel)
theorem k_im_X7_stores : Cond.instanceMethod yX7_stores ∈ gT := gT_t8 (i := 106) (by decide +kernel) (by decide +kernel)
set_option maxRecDepth 10000 in
theorem k_cd_X7_stores : Cond.code yX7_stores cX7_stores 2 none ∈ gT := gT_t8 (i := 107) rfl (by decide +kernel)
theorem k_ml_X7_289 : Cond.methodLink RX7 289 yX7_reads ∈ gT := gT_t8 (i := 108) (by decide +kernel) (by decide +kernel)
theorem k_im_X7_reads : Cond.instanceMethod yX7_reads ∈ gT := gT_t8 (i := 110) (by decide +kernel) (by decide +kernel)
set_option maxRecDepth 10000 in
theorem k_cd_X7_reads : Cond.code yX7_reads cX7_reads 4 none ∈ gT := gT_t8 (i := 111) rfl (by decide +kernel)
theorem k_ml_X7_274 : Cond.methodLink RX7 274 yX7_works ∈ gT := gT_t8 (i := 112) (by decide +kernel) (by decide +kernel)
theorem k_im_X7_works : Cond.instanceMethod yX7_works ∈ gT := gT_t8 (i := 114) (by decide +kernel) (by decide +kernel)
set_option maxRecDepth 10000 in
theorem k_cd_X7_works : Cond.code yX7_works cX7_works 4 none ∈ gT := gT_t8 (i := 115) rfl (by decide +kernel)
theorem k_ml_X7_267 : Cond.methodLink RX7 267 yX7_takes ∈ gT := gT_t8 (i := 116) (by decide +kernel) (by decide +kernel)
theorem k_im_X7_takes : Cond.instanceMethod yX7_takes ∈ gT := gT_t8 (i := 118) (by decide +kernel) (by decide +kernel)
set_option maxRecDepth 10000 in
theorem k_cd_X7_takes : Cond.code yX7_takes cX7_takes 4 none ∈ gT := gT_t8 (i := 119) rfl (by decide +kernel)
theorem k_ml_X7_292 : Cond.methodLink RX7 292 yX7_shifts ∈ gT := gT_t8 (i := 120) (by decide +kernel) (by decide +kernel)
theorem k_im_X7_shifts : Cond.instanceMethod yX7_shifts ∈ gT := gT_t8 (i := 122) (by decide +kernel) (by decide +kernel)
set_option maxRecDepth 10000 in
theorem k_cd_X7_shifts : Cond.code yX7_shifts cX7_shifts 3 none ∈ gT := gT_t8 (i := 123) rfl (by decide +kernel)
theorem k_ml_X7_295 : Cond.methodLink RX7 295 yX7_isTaken ∈ gT := gT_t8 (i := 124) (by decide +kernel) (by decide +kernel)
theorem k_im_X7_isTaken : Cond.instanceMethod yX7_isTaken ∈ gT := gT_t8 (i := 126) (by decide +kernel) (by decide +kernel)
set_option maxRecDepth 10000 in
theorem k_cd_X7_isTaken : Cond.code yX7_isTaken cX7_isTaken 3 (some .boolean) ∈ gT := gT_t8 (i := 127) rfl (by decide +kernel)
theorem k_ml_X7_298 : Cond.methodLink RX7 298 yX7_countsDown ∈ gT := gT_t8 (i := 128) (by decide +kernel) (by decide +kernel)
theorem k_im_X7_countsDown : Cond.instanceMethod yX7_countsDown ∈ gT := gT_t8 (i := 130) (by decide +kernel) (by decide +kernel)
set_option maxRecDepth 10000 in
theorem k_cd_X7_countsDown : Cond.code yX7_countsDown cX7_countsDown 2 none ∈ gT := gT_t8 (i := 131) rfl (by decide +kernel)
theorem k_ml_X7_301 : Cond.methodLink RX7 301 yX7_nextOf ∈ gT := gT_t8 (i := 132) (by decide +kernel) (by decide +kernel)
theorem k_st_X7_nextOf : Cond.static yX7_nextOf ∈ gT := gT_t8 (i := 133) (by decide +kernel) (by decide +kernel)
set_option maxRecDepth 10000 in
theorem k_cd_X7_nextOf : Cond.code yX7_nextOf cX7_nextOf 1 (some .int) ∈ gT := gT_t8 (i := 134) rfl (by decide +kernel)
theorem k_ml_L_215 : Cond.methodLink RL 215 yX7_idle ∈ gT := gT_t8 (i := 135) (by decide +kernel) (by decide +kernel)
theorem k_im_X7_idle : Cond.instanceMethod yX7_idle ∈ gT := gT_t8 (i := 136) (by decide +kernel) (by decide +kernel)
theorem k_se_X7_idle : Cond.selects RX7 yX7_idle yX7_idle ∈ gT := gT_t8 (i := 137) (by decide +kernel) (by decide +kernel)
set_option maxRecDepth 10000 in
theorem k_cd_X7_idle : Cond.code yX7_idle cX7_idle 2 (some .int) ∈ gT := gT_t8 (i := 138) rfl (by decide +kernel)
theorem k_lc_X7_315 : Cond.constantLong RX7 315 (3200) ∈ gT := gT_t8 (i := 139) (by decide +kernel) (by decide +kernel)
theorem k_ml_L_219 : Cond.methodLink RL 219 yX7_time ∈ gT := gT_t8 (i := 140) (by decide +kernel) (by decide +kernel)
theorem k_im_X7_time : Cond.instanceMethod yX7_time ∈ gT := gT_t8 (i := 141) (by decide +kernel) (by decide +kernel)
theorem k_se_X7_time : Cond.selects RX7 yX7_time yX7_time ∈ gT := gT_t8 (i := 142) (by decide +kernel) (by decide +kernel)
set_option maxRecDepth 10000 in
theorem k_cd_X7_time : Cond.code yX7_time cX7_time 1 (some .int) ∈ gT := gT_t8 (i := 143) rfl (by decide +kernel)
theorem k_ml_L_223 : Cond.methodLink RL 223 yX7_state ∈ gT := gT_t8 (i := 144) (by decide +kernel) (by decide +kernel)
theorem k_im_X7_state : Cond.instanceMethod yX7_state ∈ gT := gT_t8 (i := 145) (by decide +kernel) (by decide +kernel)
theorem k_se_X7_state : Cond.selects RX7 yX7_state yX7_state ∈ gT := gT_t8 (i := 146) (by decide +kernel) (by decide +kernel)
set_option maxRecDepth 10000 in
theorem k_cd_X7_state : Cond.code yX7_state cX7_state 1 (some .int) ∈ gT := gT_t8 (i := 147) rfl (by decide +kernel)
theorem k_ml_L_227 : Cond.methodLink RL 227 yX7_accumulator ∈ gT := gT_t8 (i := 148) (by decide +kernel) (by decide +kernel)
theorem k_im_X7_accumulator : Cond.instanceMethod yX7_accumulator ∈ gT := gT_t8 (i := 149) (by decide +kernel) (by decide +kernel)
theorem k_se_X7_accumulator : Cond.selects RX7 yX7_accumulator yX7_accumulator ∈ gT := gT_t8 (i := 150) (by decide +kernel) (by decide +kernel)
set_option maxRecDepth 10000 in
theorem k_cd_X7_accumulator : Cond.code yX7_accumulator cX7_accumulator 1 (some .int) ∈ gT := gT_t8 (i := 151) rfl (by decide +kernel)
theorem k_ml_L_232 : Cond.methodLink RL 232 yX7_hasOverflow ∈ gT := gT_t8 (i := 152) (by decide +kernel) (by decide +kernel)
theorem k_im_X7_hasOverflow : Cond.instanceMethod yX7_hasOverflow ∈ gT := gT_t8 (i := 153) (by decide +kernel) (by decide +kernel)
theorem k_se_X7_hasOverflow : Cond.selects RX7 yX7_hasOverflow yX7_hasOverflow ∈ gT := gT_t8 (i := 154) (by decide +kernel) (by decide +kernel)
set_option maxRecDepth 10000 in
theorem k_cd_X7_hasOverflow : Cond.code yX7_hasOverflow cX7_hasOverflow 1 (some .boolean) ∈ gT := gT_t8 (i := 155) rfl (by decide +kernel)
theorem k_ml_L_236 : Cond.methodLink RL 236 yX7_location ∈ gT := gT_t8 (i := 156) (by decide +kernel) (by decide +kernel)
theorem k_im_X7_location : Cond.instanceMethod yX7_location ∈ gT := gT_t8 (i := 157) (by decide +kernel) (by decide +kernel)
theorem k_se_X7_location : Cond.selects RX7 yX7_location yX7_location ∈ gT := gT_t8 (i := 158) (by decide +kernel) (by decide +kernel)
set_option maxRecDepth 10000 in
theorem k_cd_X7_location : Cond.code yX7_location cX7_location 1 (some .int) ∈ gT := gT_t8 (i := 159) rfl (by decide +kernel)
theorem k_ml_L_239 : Cond.methodLink RL 239 yX7_offerInput ∈ gT := gT_t8 (i := 160) (by decide +kernel) (by decide +kernel)
theorem k_im_X7_offerInput : Cond.instanceMethod yX7_offerInput ∈ gT := gT_t8 (i := 161) (by decide +kernel) (by decide +kernel)
theorem k_se_X7_offerInput : Cond.selects RX7 yX7_offerInput yX7_offerInput ∈ gT := gT_t8 (i := 162) (by decide +kernel) (by decide +kernel)
set_option maxRecDepth 10000 in
theorem k_cd_X7_offerInput : Cond.code yX7_offerInput cX7_offerInput 2 (some .int) ∈ gT := gT_t8 (i := 163) rfl (by decide +kernel)
theorem k_ml_L_242 : Cond.methodLink RL 242 yX7_takeOutput ∈ gT := gT_t8 (i := 164) (by decide +kernel) (by decide +kernel)
theorem k_im_X7_takeOutput : Cond.instanceMethod yX7_takeOutput ∈ gT := gT_t8 (i := 165) (by decide +kernel) (by decide +kernel)
theorem k_se_X7_takeOutput : Cond.selects RX7 yX7_takeOutput yX7_takeOutput ∈ gT := gT_t8 (i := 166) (by decide +kernel) (by decide +kernel)
set_option maxRecDepth 10000 in
theorem k_cd_X7_takeOutput : Cond.code yX7_takeOutput cX7_takeOutput 3 (some .int) ∈ gT := gT_t8 (i := 167) rfl (by decide +kernel)
theorem k_ml_L_246 : Cond.methodLink RL 246 yX7_outputLength ∈ gT := gT_t8 (i := 168) (by decide +kernel) (by decide +kernel)
theorem k_im_X7_outputLength : Cond.instanceMethod yX7_outputLength ∈ gT := gT_t8 (i := 169) (by decide +kernel) (by decide +kernel)
theorem k_se_X7_outputLength : Cond.selects RX7 yX7_outputLength yX7_outputLength ∈ gT := gT_t8 (i := 170) (by decide +kernel) (by decide +kernel)
set_option maxRecDepth 10000 in
theorem k_cd_X7_outputLength : Cond.code yX7_outputLength cX7_outputLength 1 (some .int) ∈ gT := gT_t8 (i := 171) rfl (by decide +kernel)
theorem k_ml_L_250 : Cond.methodLink RL 250 yX7_executed ∈ gT := gT_t8 (i := 172) (by decide +kernel) (by decide +kernel)
theorem k_im_X7_executed : Cond.instanceMethod yX7_executed ∈ gT := gT_t8 (i := 173) (by decide +kernel) (by decide +kernel)
theorem k_se_X7_executed : Cond.selects RX7 yX7_executed yX7_executed ∈ gT := gT_t8 (i := 174) (by decide +kernel) (by decide +kernel)
set_option maxRecDepth 10000 in
theorem k_cd_X7_executed : Cond.code yX7_executed cX7_executed 1 (some .int) ∈ gT := gT_t8 (i := 175) rfl (by decide +kernel)
theorem k_ml_L_253 : Cond.methodLink RL 253 yX7_executedAt ∈ gT := gT_t8 (i := 176) (by decide +kernel) (by decide +kernel)
theorem k_im_X7_executedAt : Cond.instanceMethod yX7_executedAt ∈ gT := gT_t8 (i := 177) (by decide +kernel) (by decide +kernel)
theorem k_se_X7_executedAt : Cond.selects RX7 yX7_executedAt yX7_executedAt ∈ gT := gT_t8 (i := 178) (by decide +kernel) (by decide +kernel)
set_option maxRecDepth 10000 in
theorem k_cd_X7_executedAt : Cond.code yX7_executedAt cX7_executedAt 3 (some .int) ∈ gT := gT_t8 (i := 179) rfl (by decide +kernel)
theorem k_ml_L_257 : Cond.methodLink RL 257 yX7_waited ∈ gT := gT_t8 (i := 180) (by decide +kernel) (by decide +kernel)
theorem k_im_X7_waited : Cond.instanceMethod yX7_waited ∈ gT := gT_t8 (i := 181) (by decide +kernel) (by decide +kernel)
theorem k_se_X7_waited : Cond.selects RX7 yX7_waited yX7_waited ∈ gT := gT_t8 (i := 182) (by decide +kernel) (by decide +kernel)
set_option maxRecDepth 10000 in
theorem k_cd_X7_waited : Cond.code yX7_waited cX7_waited 1 (some .int) ∈ gT := gT_t8 (i := 183) rfl (by decide +kernel)
theorem k_ml_L_260 : Cond.methodLink RL 260 yX7_predictTime ∈ gT := gT_t8 (i := 184) (by decide +kernel) (by decide +kernel)
theorem k_im_X7_predictTime : Cond.instanceMethod yX7_predictTime ∈ gT := gT_t8 (i := 185) (by decide +kernel) (by decide +kernel)
theorem k_se_X7_predictTime : Cond.selects RX7 yX7_predictTime yX7_predictTime ∈ gT := gT_t8 (i := 186) (by decide +kernel) (by decide +kernel)
set_option maxRecDepth 10000 in
theorem k_cd_X7_predictTime : Cond.code yX7_predictTime cX7_predictTime 5 (some .int) ∈ gT := gT_t8 (i := 187) rfl (by decide +kernel)
theorem k_ml_L_263 : Cond.methodLink RL 263 yX7_idealNextCycle ∈ gT := gT_t8 (i := 188) (by decide +kernel) (by decide +kernel)
theorem k_im_X7_idealNextCycle : Cond.instanceMethod yX7_idealNextCycle ∈ gT := gT_t8 (i := 189) (by decide +kernel) (by decide +kernel)
theorem k_se_X7_idealNextCycle : Cond.selects RX7 yX7_idealNextCycle yX7_idealNextCycle ∈ gT := gT_t8 (i := 190) (by decide +kernel) (by decide +kernel)
set_option maxRecDepth 10000 in
theorem k_cd_X7_idealNextCycle : Cond.code yX7_idealNextCycle cX7_idealNextCycle 3 (some .int) ∈ gT := gT_t8 (i := 191) rfl (by decide +kernel)
theorem k_ml_X7_323 : Cond.methodLink RX7 323 yX7_idealOf ∈ gT := gT_t8 (i := 192) (by decide +kernel) (by decide +kernel)
theorem k_im_X7_idealOf : Cond.instanceMethod yX7_idealOf ∈ gT := gT_t8 (i := 194) (by decide +kernel) (by decide +kernel)
set_option maxRecDepth 10000 in
theorem k_cd_X7_idealOf : Cond.code yX7_idealOf cX7_idealOf 2 (some .int) ∈ gT := gT_t8 (i := 195) rfl (by decide +kernel)
theorem k_ml_X7_320 : Cond.methodLink RX7 320 yX7_doneAt ∈ gT := gT_t8 (i := 196) (by decide +kernel) (by decide +kernel)
theorem k_st_X7_doneAt : Cond.static yX7_doneAt ∈ gT := gT_t8 (i := 197) (by decide +kernel) (by decide +kernel)
set_option maxRecDepth 10000 in
theorem k_cd_X7_doneAt : Cond.code yX7_doneAt cX7_doneAt 5 (some .int) ∈ gT := gT_t8 (i := 198) rfl (by decide +kernel)
theorem k_ml_X7_317 : Cond.methodLink RX7 317 yX7_until ∈ gT := gT_t8 (i := 199) (by decide +kernel) (by decide +kernel)
theorem k_st_X7_until : Cond.static yX7_until ∈ gT := gT_t8 (i := 200) (by decide +kernel) (by decide +kernel)
set_option maxRecDepth 10000 in
theorem k_cd_X7_until : Cond.code yX7_until cX7_until 2 (some .int) ∈ gT := gT_t8 (i := 201) rfl (by decide +kernel)
theorem k_ml_L_266 : Cond.methodLink RL 266 yX7_pathTime ∈ gT := gT_t8 (i := 202) (by decide +kernel) (by decide +kernel)
theorem k_im_X7_pathTime : Cond.instanceMethod yX7_pathTime ∈ gT := gT_t8 (i := 203) (by decide +kernel) (by decide +kernel)
theorem k_se_X7_pathTime : Cond.selects RX7 yX7_pathTime yX7_pathTime ∈ gT := gT_t8 (i := 204) (by decide +kernel) (by decide +kernel)
set_option maxRecDepth 10000 in
theorem k_cd_X7_pathTime : Cond.code yX7_pathTime cX7_pathTime 9 (some .int) ∈ gT := gT_t8 (i := 205) rfl (by decide +kernel)
theorem k_lc_X7_326 : Cond.constantLong RX7 326 (200) ∈ gT := gT_t8 (i := 206) (by decide +kernel) (by decide +kernel)
theorem k_ml_L_269 : Cond.methodLink RL 269 yX7_bestFreeCycle ∈ gT := gT_t8 (i := 207) (by decide +kernel) (by decide +kernel)
theorem k_im_X7_bestFreeCycle : Cond.instanceMethod yX7_bestFreeCycle ∈ gT := gT_t8 (i := 208) (by decide +kernel) (by decide +kernel)
theorem k_se_X7_bestFreeCycle : Cond.selects RX7 yX7_bestFreeCycle yX7_bestFreeCycle ∈ gT := gT_t8 (i := 209) (by decide +kernel) (by decide +kernel)
set_option maxRecDepth 10000 in
theorem k_cd_X7_bestFreeCycle : Cond.code yX7_bestFreeCycle cX7_bestFreeCycle 4 (some .int) ∈ gT := gT_t8 (i := 210) rfl (by decide +kernel)
theorem k_ml_X7_328 : Cond.methodLink RX7 328 yX7_bestFree ∈ gT := gT_t8 (i := 211) (by decide +kernel) (by decide +kernel)
theorem k_im_X7_bestFree : Cond.instanceMethod yX7_bestFree ∈ gT := gT_t8 (i := 213) (by decide +kernel) (by decide +kernel)
set_option maxRecDepth 10000 in
theorem k_cd_X7_bestFree : Cond.code yX7_bestFree cX7_bestFree 6 (some .int) ∈ gT := gT_t8 (i := 214) rfl (by decide +kernel)
theorem k_ml_L_272 : Cond.methodLink RL 272 yX7_moveNext ∈ gT := gT_t8 (i := 215) (by decide +kernel) (by decide +kernel)
theorem k_im_X7_moveNext : Cond.instanceMethod yX7_moveNext ∈ gT := gT_t8 (i := 216) (by decide +kernel) (by decide +kernel)
theorem k_se_X7_moveNext : Cond.selects RX7 yX7_moveNext yX7_moveNext ∈ gT := gT_t8 (i := 217) (by decide +kernel) (by decide +kernel)
set_option maxRecDepth 10000 in
theorem k_cd_X7_moveNext : Cond.code yX7_moveNext cX7_moveNext 9 (some .int) ∈ gT := gT_t8 (i := 218) rfl (by decide +kernel)
theorem k_ml_L_275 : Cond.methodLink RL 275 yX7_format ∈ gT := gT_t8 (i := 219) (by decide +kernel) (by decide +kernel)
theorem k_im_X7_format : Cond.instanceMethod yX7_format ∈ gT := gT_t8 (i := 220) (by decide +kernel) (by decide +kernel)
theorem k_se_X7_format : Cond.selects RX7 yX7_format yX7_format ∈ gT := gT_t8 (i := 221) (by decide +kernel) (by decide +kernel)
set_option maxRecDepth 10000 in
theorem k_cd_X7_format : Cond.code yX7_format cX7_format 5 (some .int) ∈ gT := gT_t8 (i := 222) rfl (by decide +kernel)
theorem k_ml_X7_340 : Cond.methodLink RX7 340 yX7_showsName ∈ gT := gT_t8 (i := 223) (by decide +kernel) (by decide +kernel)
theorem k_im_X7_showsName : Cond.instanceMethod yX7_showsName ∈ gT := gT_t8 (i := 225) (by decide +kernel) (by decide +kernel)
set_option maxRecDepth 10000 in
theorem k_cd_X7_showsName : Cond.code yX7_showsName cX7_showsName 7 none ∈ gT := gT_t8 (i := 226) rfl (by decide +kernel)
theorem k_ml_X7_344 : Cond.methodLink RX7 344 yX7_showsLocation ∈ gT := gT_t8 (i := 227) (by decide +kernel) (by decide +kernel)
theorem k_im_X7_showsLocation : Cond.instanceMethod yX7_showsLocation ∈ gT := gT_t8 (i := 229) (by decide +kernel) (by decide +kernel)
set_option maxRecDepth 10000 in
theorem k_cd_X7_showsLocation : Cond.code yX7_showsLocation cX7_showsLocation 2 none ∈ gT := gT_t8 (i := 230) rfl (by decide +kernel)
theorem k_ml_X7_334 : Cond.methodLink RX7 334 yX7_shows ∈ gT := gT_t8 (i := 231) (by decide +kernel) (by decide +kernel)
theorem k_im_X7_shows : Cond.instanceMethod yX7_shows ∈ gT := gT_t8 (i := 233) (by decide +kernel) (by decide +kernel)
set_option maxRecDepth 10000 in
theorem k_cd_X7_shows : Cond.code yX7_shows cX7_shows 2 none ∈ gT := gT_t8 (i := 234) rfl (by decide +kernel)
theorem k_ml_X7_337 : Cond.methodLink RX7 337 yX7_showsNumber ∈ gT := gT_t8 (i := 235) (by decide +kernel) (by decide +kernel)
theorem k_im_X7_showsNumber : Cond.instanceMethod yX7_showsNumber ∈ gT := gT_t8 (i := 237) (by decide +kernel) (by decide +kernel)
set_option maxRecDepth 10000 in
theorem k_cd_X7_showsNumber : Cond.code yX7_showsNumber cX7_showsNumber 2 none ∈ gT := gT_t8 (i := 238) rfl (by decide +kernel)
theorem k_ml_L_278 : Cond.methodLink RL 278 yX7_formattedByte ∈ gT := gT_t8 (i := 239) (by decide +kernel) (by decide +kernel)
theorem k_im_X7_formattedByte : Cond.instanceMethod yX7_formattedByte ∈ gT := gT_t9 (i := 0) (by decide +kernel) (by decide +kernel)
theorem k_se_X7_formattedByte : Cond.selects RX7 yX7_formattedByte yX7_formattedByte ∈ gT := gT_t9 (i := 1) (by decide +kernel) (by decide +kernel)
set_option maxRecDepth 10000 in
theorem k_cd_X7_formattedByte : Cond.code yX7_formattedByte cX7_formattedByte 2 (some .int) ∈ gT := gT_t9 (i := 2) rfl (by decide +kernel)
theorem k_ml_L_282 : Cond.methodLink RL 282 yX7_save ∈ gT := gT_t9 (i := 3) (by decide +kernel) (by decide +kernel)
theorem k_im_X7_save : Cond.instanceMethod yX7_save ∈ gT := gT_t9 (i := 4) (by decide +kernel) (by decide +kernel)
theorem k_se_X7_save : Cond.selects RX7 yX7_save yX7_save ∈ gT := gT_t9 (i := 5) (by decide +kernel) (by decide +kernel)
set_option maxRecDepth 10000 in
theorem k_cd_X7_save : Cond.code yX7_save cX7_save 3 none ∈ gT := gT_t9 (i := 6) rfl (by decide +kernel)
theorem k_ml_L_285 : Cond.methodLink RL 285 yX7_restore ∈ gT := gT_t9 (i := 7) (by decide +kernel) (by decide +kernel)
theorem k_im_X7_restore : Cond.instanceMethod yX7_restore ∈ gT := gT_t9 (i := 8) (by decide +kernel) (by decide +kernel)
theorem k_se_X7_restore : Cond.selects RX7 yX7_restore yX7_restore ∈ gT := gT_t9 (i := 9) (by decide +kernel) (by decide +kernel)
set_option maxRecDepth 10000 in
theorem k_cd_X7_restore : Cond.code yX7_restore cX7_restore 3 none ∈ gT := gT_t9 (i := 10) rfl (by decide +kernel)
theorem k_se_J4_length_8abf5 : Cond.selects RJ4 yJ4_length_8abf5 yJ4_length_8abf5 ∈ gT := gT_t9 (i := 22) (by decide +kernel) (by decide +kernel)
theorem in_X0 : ∀ w ∈ u_ws RX0 TX0 13, w ∈ gT := gT_list _ [182, 184, 186, 188, 190, 192, 194, 196, 198, 200, 202, 204, 206] (by decide +kernel) (by decide +kernel)
theorem in_X1 : ∀ w ∈ u_ws RX1 TX1 5, w ∈ gT := gT_list _ [81, 83, 85, 87, 89] (by decide +kernel) (by decide +kernel)
theorem in_X2 : ∀ w ∈ u_ws RX2 TX2 12, w ∈ gT := gT_list _ [133, 135, 137, 139, 141, 143, 145, 147, 149, 151, 153, 155] (by decide +kernel) (by decide +kernel)
theorem in_X4 : ∀ w ∈ u_ws RX4 TX4 3, w ∈ gT := gT_list _ [103, 105, 107] (by decide +kernel) (by decide +kernel)
theorem in_X5 : ∀ w ∈ u_ws RX5 TX5 4, w ∈ gT := gT_list _ [55, 57, 59, 61] (by decide +kernel) (by decide +kernel)
theorem in_X6 : ∀ w ∈ u_ws RX6 TX6 8, w ∈ gT := gT_list _ [251, 253, 255, 257, 259, 261, 263, 265] (by decide +kernel) (by decide +kernel)
theorem in_X7 : ∀ w ∈ u_ws RX7 TX7 21, w ∈ gT := gT_list _ [1448, 1450, 1452, 1454, 1456, 1458, 1460, 1462, 1464, 1466, 1468, 1470, 1472, 1474, 1476, 1478, 1480, 1482, 1484, 1486, 1488] (by decide +kernel) (by decide +kernel)
theorem in_Jx00060 : ∀ w ∈ u_ws RJx00060 TJx00060 6, w ∈ gT := gT_list _ [1323, 1324, 1325, 1326, 1327, 1338] (by decide +kernel) (by decide +kernel)
theorem in_J0 : ∀ w ∈ u_ws RJ0 TJ0 4, w ∈ gT := gT_list _ [1288, 1290, 1292, 1294] (by decide +kernel) (by decide +kernel)
theorem in_J4 : ∀ w ∈ u_ws RJ4 TJ4 4, w ∈ gT := gT_list _ [233, 235, 237, 239] (by decide +kernel) (by decide +kernel)
theorem in_Jx7c733 : ∀ w ∈ u_ws RJx7c733 TJx7c733 6, w ∈ gT := gT_list _ [1298, 1299, 1300, 1301, 1302, 1303] (by decide +kernel) (by decide +kernel)
set_option maxRecDepth 40000 in
theorem k_se_X0_beginText : Cond.selects RX0 yX0_beginText yX0_beginText ∈ gT := gT_prv (q := (yX0_beginText, _)) (i := 1) rfl (by decide +kernel)
set_option maxRecDepth 40000 in
theorem k_se_X0_readToken : Cond.selects RX0 yX0_readToken yX0_readToken ∈ gT := gT_prv (q := (yX0_readToken, _)) (i := 2) rfl (by decide +kernel)
set_option maxRecDepth 40000 in
theorem k_se_X0_byteAt : Cond.selects RX0 yX0_byteAt yX0_byteAt ∈ gT := gT_prv (q := (yX0_byteAt, _)) (i := 3) rfl (by decide +kernel)
set_option maxRecDepth 40000 in
theorem k_se_X0_readLetters : Cond.selects RX0 yX0_readLetters yX0_readLetters ∈ gT := gT_prv (q := (yX0_readLetters, _)) (i := 4) rfl (by decide +kernel)
set_option maxRecDepth 40000 in
theorem k_se_X0_readDigits : Cond.selects RX0 yX0_readDigits yX0_readDigits ∈ gT := gT_prv (q := (yX0_readDigits, _)) (i := 5) rfl (by decide +kernel)
set_option maxRecDepth 40000 in
theorem k_se_X0_opcodeOfToken : Cond.selects RX0 yX0_opcodeOfToken yX0_opcodeOfToken ∈ gT := gT_prv (q := (yX0_opcodeOfToken, _)) (i := 6) rfl (by decide +kernel)
set_option maxRecDepth 40000 in
theorem k_se_X0_tokenIs : Cond.selects RX0 yX0_tokenIs yX0_tokenIs ∈ gT := gT_prv (q := (yX0_tokenIs, _)) (i := 7) rfl (by decide +kernel)
set_option maxRecDepth 40000 in
theorem k_se_X0_readLocation : Cond.selects RX0 yX0_readLocation yX0_readLocation ∈ gT := gT_prv (q := (yX0_readLocation, _)) (i := 8) rfl (by decide +kernel)
set_option maxRecDepth 40000 in
theorem k_se_X0_readNumber : Cond.selects RX0 yX0_readNumber yX0_readNumber ∈ gT := gT_prv (q := (yX0_readNumber, _)) (i := 9) rfl (by decide +kernel)
set_option maxRecDepth 40000 in
theorem k_se_X0_fail : Cond.selects RX0 yX0_fail yX0_fail ∈ gT := gT_prv (q := (yX0_fail, _)) (i := 10) rfl (by decide +kernel)
set_option maxRecDepth 40000 in
theorem k_se_X0_readSymbol : Cond.selects RX0 yX0_readSymbol yX0_readSymbol ∈ gT := gT_prv (q := (yX0_readSymbol, _)) (i := 11) rfl (by decide +kernel)
set_option maxRecDepth 40000 in
theorem k_se_X0_readWordStatement : Cond.selects RX0 yX0_readWordStatement yX0_readWordStatement ∈ gT := gT_prv (q := (yX0_readWordStatement, _)) (i := 12) rfl (by decide +kernel)
set_option maxRecDepth 40000 in
theorem k_se_X0_refuseWrittenPlace : Cond.selects RX0 yX0_refuseWrittenPlace yX0_refuseWrittenPlace ∈ gT := gT_prv (q := (yX0_refuseWrittenPlace, _)) (i := 13) rfl (by decide +kernel)
set_option maxRecDepth 40000 in
theorem k_se_X0_write : Cond.selects RX0 yX0_write yX0_write ∈ gT := gT_prv (q := (yX0_write, _)) (i := 14) rfl (by decide +kernel)
set_option maxRecDepth 40000 in
theorem k_se_X0_placeAfter : Cond.selects RX0 yX0_placeAfter yX0_placeAfter ∈ gT := gT_prv (q := (yX0_placeAfter, _)) (i := 15) rfl (by decide +kernel)
set_option maxRecDepth 40000 in
theorem k_se_X0_readInstruction : Cond.selects RX0 yX0_readInstruction yX0_readInstruction ∈ gT := gT_prv (q := (yX0_readInstruction, _)) (i := 16) rfl (by decide +kernel)
set_option maxRecDepth 40000 in
theorem k_se_X6_requireReady : Cond.selects RX6 yX6_requireReady yX6_requireReady ∈ gT := gT_prv (q := (yX6_requireReady, _)) (i := 17) rfl (by decide +kernel)
set_option maxRecDepth 40000 in
theorem k_se_X2_executeNext : Cond.selects RX2 yX2_executeNext yX2_executeNext ∈ gT := gT_prv (q := (yX2_executeNext, _)) (i := 18) rfl (by decide +kernel)
set_option maxRecDepth 40000 in
theorem k_se_X2_awaitCycle : Cond.selects RX2 yX2_awaitCycle yX2_awaitCycle ∈ gT := gT_prv (q := (yX2_awaitCycle, _)) (i := 19) rfl (by decide +kernel)
set_option maxRecDepth 40000 in
theorem k_se_X2_endMajorCycle : Cond.selects RX2 yX2_endMajorCycle yX2_endMajorCycle ∈ gT := gT_prv (q := (yX2_endMajorCycle, _)) (i := 20) rfl (by decide +kernel)
set_option maxRecDepth 40000 in
theorem k_se_X2_isJumpTaken : Cond.selects RX2 yX2_isJumpTaken yX2_isJumpTaken ∈ gT := gT_prv (q := (yX2_isJumpTaken, _)) (i := 21) rfl (by decide +kernel)
set_option maxRecDepth 40000 in
theorem k_se_X2_perform : Cond.selects RX2 yX2_perform yX2_perform ∈ gT := gT_prv (q := (yX2_perform, _)) (i := 22) rfl (by decide +kernel)
set_option maxRecDepth 40000 in
theorem k_se_X2_combine : Cond.selects RX2 yX2_combine yX2_combine ∈ gT := gT_prv (q := (yX2_combine, _)) (i := 23) rfl (by decide +kernel)
set_option maxRecDepth 40000 in
theorem k_se_X2_putResult : Cond.selects RX2 yX2_putResult yX2_putResult ∈ gT := gT_prv (q := (yX2_putResult, _)) (i := 24) rfl (by decide +kernel)
set_option maxRecDepth 40000 in
theorem k_se_X6_cycleAfter : Cond.selects RX6 yX6_cycleAfter yX6_cycleAfter ∈ gT := gT_prv (q := (yX6_cycleAfter, _)) (i := 25) rfl (by decide +kernel)
set_option maxRecDepth 40000 in
theorem k_se_X6_freeCycleAfter : Cond.selects RX6 yX6_freeCycleAfter yX6_freeCycleAfter ∈ gT := gT_prv (q := (yX6_freeCycleAfter, _)) (i := 26) rfl (by decide +kernel)
set_option maxRecDepth 40000 in
theorem k_se_X6_formatLocation : Cond.selects RX6 yX6_formatLocation yX6_formatLocation ∈ gT := gT_prv (q := (yX6_formatLocation, _)) (i := 27) rfl (by decide +kernel)
set_option maxRecDepth 40000 in
theorem k_se_X7_fails : Cond.selects RX7 yX7_fails yX7_fails ∈ gT := gT_prv (q := (yX7_fails, _)) (i := 28) rfl (by decide +kernel)
set_option maxRecDepth 40000 in
theorem k_se_X7_four : Cond.selects RX7 yX7_four yX7_four ∈ gT := gT_prv (q := (yX7_four, _)) (i := 29) rfl (by decide +kernel)
set_option maxRecDepth 40000 in
theorem k_se_X7_here : Cond.selects RX7 yX7_here yX7_here ∈ gT := gT_prv (q := (yX7_here, _)) (i := 30) rfl (by decide +kernel)
set_option maxRecDepth 40000 in
theorem k_se_X7_statement : Cond.selects RX7 yX7_statement yX7_statement ∈ gT := gT_prv (q := (yX7_statement, _)) (i := 31) rfl (by decide +kernel)
set_option maxRecDepth 40000 in
theorem k_se_X7_word : Cond.selects RX7 yX7_word yX7_word ∈ gT := gT_prv (q := (yX7_word, _)) (i := 32) rfl (by decide +kernel)
set_option maxRecDepth 40000 in
theorem k_se_X7_opcodeOf : Cond.selects RX7 yX7_opcodeOf yX7_opcodeOf ∈ gT := gT_prv (q := (yX7_opcodeOf, _)) (i := 33) rfl (by decide +kernel)
set_option maxRecDepth 40000 in
theorem k_se_X7_readLocation : Cond.selects RX7 yX7_readLocation yX7_readLocation ∈ gT := gT_prv (q := (yX7_readLocation, _)) (i := 34) rfl (by decide +kernel)
set_option maxRecDepth 40000 in
theorem k_se_X7_number : Cond.selects RX7 yX7_number yX7_number ∈ gT := gT_prv (q := (yX7_number, _)) (i := 35) rfl (by decide +kernel)
set_option maxRecDepth 40000 in
theorem k_se_X7_wrong : Cond.selects RX7 yX7_wrong yX7_wrong ∈ gT := gT_prv (q := (yX7_wrong, _)) (i := 36) rfl (by decide +kernel)
set_option maxRecDepth 40000 in
theorem k_se_X7_sign : Cond.selects RX7 yX7_sign yX7_sign ∈ gT := gT_prv (q := (yX7_sign, _)) (i := 37) rfl (by decide +kernel)
set_option maxRecDepth 40000 in
theorem k_se_X7_writes : Cond.selects RX7 yX7_writes yX7_writes ∈ gT := gT_prv (q := (yX7_writes, _)) (i := 38) rfl (by decide +kernel)
set_option maxRecDepth 40000 in
theorem k_se_X7_instruction : Cond.selects RX7 yX7_instruction yX7_instruction ∈ gT := gT_prv (q := (yX7_instruction, _)) (i := 39) rfl (by decide +kernel)
set_option maxRecDepth 40000 in
theorem k_se_X7_bitsOf : Cond.selects RX7 yX7_bitsOf yX7_bitsOf ∈ gT := gT_prv (q := (yX7_bitsOf, _)) (i := 40) rfl (by decide +kernel)
set_option maxRecDepth 40000 in
theorem k_se_X7_exchange : Cond.selects RX7 yX7_exchange yX7_exchange ∈ gT := gT_prv (q := (yX7_exchange, _)) (i := 41) rfl (by decide +kernel)
set_option maxRecDepth 40000 in
theorem k_se_X7_puts : Cond.selects RX7 yX7_puts yX7_puts ∈ gT := gT_prv (q := (yX7_puts, _)) (i := 42) rfl (by decide +kernel)
set_option maxRecDepth 40000 in
theorem k_se_X7_periodNow : Cond.selects RX7 yX7_periodNow yX7_periodNow ∈ gT := gT_prv (q := (yX7_periodNow, _)) (i := 43) rfl (by decide +kernel)
set_option maxRecDepth 40000 in
theorem k_se_X7_mismatchAt : Cond.selects RX7 yX7_mismatchAt yX7_mismatchAt ∈ gT := gT_prv (q := (yX7_mismatchAt, _)) (i := 44) rfl (by decide +kernel)
set_option maxRecDepth 40000 in
theorem k_se_X7_isSafe : Cond.selects RX7 yX7_isSafe yX7_isSafe ∈ gT := gT_prv (q := (yX7_isSafe, _)) (i := 45) rfl (by decide +kernel)
set_option maxRecDepth 40000 in
theorem k_se_X7_putsAside : Cond.selects RX7 yX7_putsAside yX7_putsAside ∈ gT := gT_prv (q := (yX7_putsAside, _)) (i := 46) rfl (by decide +kernel)
set_option maxRecDepth 40000 in
theorem k_se_X7_areSafe : Cond.selects RX7 yX7_areSafe yX7_areSafe ∈ gT := gT_prv (q := (yX7_areSafe, _)) (i := 47) rfl (by decide +kernel)
set_option maxRecDepth 40000 in
theorem k_se_X7_warms : Cond.selects RX7 yX7_warms yX7_warms ∈ gT := gT_prv (q := (yX7_warms, _)) (i := 48) rfl (by decide +kernel)
set_option maxRecDepth 40000 in
theorem k_se_X7_takesBack : Cond.selects RX7 yX7_takesBack yX7_takesBack ∈ gT := gT_prv (q := (yX7_takesBack, _)) (i := 49) rfl (by decide +kernel)
set_option maxRecDepth 40000 in
theorem k_se_X7_whyNot : Cond.selects RX7 yX7_whyNot yX7_whyNot ∈ gT := gT_prv (q := (yX7_whyNot, _)) (i := 50) rfl (by decide +kernel)
set_option maxRecDepth 40000 in
theorem k_se_X7_runs : Cond.selects RX7 yX7_runs yX7_runs ∈ gT := gT_prv (q := (yX7_runs, _)) (i := 51) rfl (by decide +kernel)
set_option maxRecDepth 40000 in
theorem k_se_X7_executes : Cond.selects RX7 yX7_executes yX7_executes ∈ gT := gT_prv (q := (yX7_executes, _)) (i := 52) rfl (by decide +kernel)
set_option maxRecDepth 40000 in
theorem k_se_X7_waitsFor : Cond.selects RX7 yX7_waitsFor yX7_waitsFor ∈ gT := gT_prv (q := (yX7_waitsFor, _)) (i := 53) rfl (by decide +kernel)
set_option maxRecDepth 40000 in
theorem k_se_X7_passes : Cond.selects RX7 yX7_passes yX7_passes ∈ gT := gT_prv (q := (yX7_passes, _)) (i := 54) rfl (by decide +kernel)
set_option maxRecDepth 40000 in
theorem k_se_X7_ends : Cond.selects RX7 yX7_ends yX7_ends ∈ gT := gT_prv (q := (yX7_ends, _)) (i := 55) rfl (by decide +kernel)
set_option maxRecDepth 40000 in
theorem k_se_X7_moves : Cond.selects RX7 yX7_moves yX7_moves ∈ gT := gT_prv (q := (yX7_moves, _)) (i := 56) rfl (by decide +kernel)
set_option maxRecDepth 40000 in
theorem k_se_X7_drops : Cond.selects RX7 yX7_drops yX7_drops ∈ gT := gT_prv (q := (yX7_drops, _)) (i := 57) rfl (by decide +kernel)
set_option maxRecDepth 40000 in
theorem k_se_X7_comesIn : Cond.selects RX7 yX7_comesIn yX7_comesIn ∈ gT := gT_prv (q := (yX7_comesIn, _)) (i := 58) rfl (by decide +kernel)
set_option maxRecDepth 40000 in
theorem k_se_X7_goesOut : Cond.selects RX7 yX7_goesOut yX7_goesOut ∈ gT := gT_prv (q := (yX7_goesOut, _)) (i := 59) rfl (by decide +kernel)
set_option maxRecDepth 40000 in
theorem k_se_X7_stores : Cond.selects RX7 yX7_stores yX7_stores ∈ gT := gT_prv (q := (yX7_stores, _)) (i := 60) rfl (by decide +kernel)
set_option maxRecDepth 40000 in
theorem k_se_X7_reads : Cond.selects RX7 yX7_reads yX7_reads ∈ gT := gT_prv (q := (yX7_reads, _)) (i := 61) rfl (by decide +kernel)
set_option maxRecDepth 40000 in
theorem k_se_X7_works : Cond.selects RX7 yX7_works yX7_works ∈ gT := gT_prv (q := (yX7_works, _)) (i := 62) rfl (by decide +kernel)
set_option maxRecDepth 40000 in
theorem k_se_X7_takes : Cond.selects RX7 yX7_takes yX7_takes ∈ gT := gT_prv (q := (yX7_takes, _)) (i := 63) rfl (by decide +kernel)
set_option maxRecDepth 40000 in
theorem k_se_X7_shifts : Cond.selects RX7 yX7_shifts yX7_shifts ∈ gT := gT_prv (q := (yX7_shifts, _)) (i := 64) rfl (by decide +kernel)
set_option maxRecDepth 40000 in
theorem k_se_X7_isTaken : Cond.selects RX7 yX7_isTaken yX7_isTaken ∈ gT := gT_prv (q := (yX7_isTaken, _)) (i := 65) rfl (by decide +kernel)
set_option maxRecDepth 40000 in
theorem k_se_X7_countsDown : Cond.selects RX7 yX7_countsDown yX7_countsDown ∈ gT := gT_prv (q := (yX7_countsDown, _)) (i := 66) rfl (by decide +kernel)
set_option maxRecDepth 40000 in
theorem k_se_X7_idealOf : Cond.selects RX7 yX7_idealOf yX7_idealOf ∈ gT := gT_prv (q := (yX7_idealOf, _)) (i := 67) rfl (by decide +kernel)
set_option maxRecDepth 40000 in
theorem k_se_X7_bestFree : Cond.selects RX7 yX7_bestFree yX7_bestFree ∈ gT := gT_prv (q := (yX7_bestFree, _)) (i := 68) rfl (by decide +kernel)
set_option maxRecDepth 40000 in
theorem k_se_X7_showsName : Cond.selects RX7 yX7_showsName yX7_showsName ∈ gT := gT_prv (q := (yX7_showsName, _)) (i := 69) rfl (by decide +kernel)
set_option maxRecDepth 40000 in
theorem k_se_X7_showsLocation : Cond.selects RX7 yX7_showsLocation yX7_showsLocation ∈ gT := gT_prv (q := (yX7_showsLocation, _)) (i := 70) rfl (by decide +kernel)
set_option maxRecDepth 40000 in
theorem k_se_X7_shows : Cond.selects RX7 yX7_shows yX7_shows ∈ gT := gT_prv (q := (yX7_shows, _)) (i := 71) rfl (by decide +kernel)
set_option maxRecDepth 40000 in
theorem k_se_X7_showsNumber : Cond.selects RX7 yX7_showsNumber yX7_showsNumber ∈ gT := gT_prv (q := (yX7_showsNumber, _)) (i := 72) rfl (by decide +kernel)
