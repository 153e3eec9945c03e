/-! THE TWO METHODS OF String, on the literals: written by gen_str.py -/
theorem z_ri_0 : z_ri 0 := by unfold z_ri; omega
theorem z_ri_1 : z_ri 1 := by unfold z_ri; omega
def yj_coder : MethodName := ⟨"java/lang/String", "coder", "()B"⟩
theorem dj_coder_0 : decode prog_21_method_152_code 0 = .ok (.getstatic 38, 3) := by decide +kernel
theorem dj_coder_3 : decode prog_21_method_152_code 3 = .ok (.ifCond .eq 10, 3) := by decide +kernel
theorem dj_coder_6 : decode prog_21_method_152_code 6 = .ok (.aload_n 0, 1) := by decide +kernel
theorem dj_coder_7 : decode prog_21_method_152_code 7 = .ok (.getfield 15, 3) := by decide +kernel
theorem dj_coder_10 : decode prog_21_method_152_code 10 = .ok (.goto 4, 3) := by decide +kernel
theorem dj_coder_13 : decode prog_21_method_152_code 13 = .ok (.iconst 1, 1) := by decide +kernel
theorem dj_coder_14 : decode prog_21_method_152_code 14 = .ok (.ireturn, 1) := by decide +kernel
def yj_isLatin1 : MethodName := ⟨"java/lang/String", "isLatin1", "()Z"⟩
theorem dj_isLatin1_0 : decode prog_21_method_154_code 0 = .ok (.getstatic 38, 3) := by decide +kernel
theorem dj_isLatin1_3 : decode prog_21_method_154_code 3 = .ok (.ifCond .eq 14, 3) := by decide +kernel
theorem dj_isLatin1_6 : decode prog_21_method_154_code 6 = .ok (.aload_n 0, 1) := by decide +kernel
theorem dj_isLatin1_7 : decode prog_21_method_154_code 7 = .ok (.getfield 15, 3) := by decide +kernel
theorem dj_isLatin1_10 : decode prog_21_method_154_code 10 = .ok (.ifCond .ne 7, 3) := by decide +kernel
theorem dj_isLatin1_13 : decode prog_21_method_154_code 13 = .ok (.iconst 1, 1) := by decide +kernel
theorem dj_isLatin1_14 : decode prog_21_method_154_code 14 = .ok (.goto 4, 3) := by decide +kernel
theorem dj_isLatin1_17 : decode prog_21_method_154_code 17 = .ok (.iconst 0, 1) := by decide +kernel
theorem dj_isLatin1_18 : decode prog_21_method_154_code 18 = .ok (.ireturn, 1) := by decide +kernel
def yj_pre : MethodName := ⟨"jdk/internal/util/Preconditions", "checkIndex", "(IILjava/util/function/BiFunction;)I"⟩
theorem dj_pre_0 : decode prog_30_method_11_code 0 = .ok (.iload_n 0, 1) := by decide +kernel
theorem dj_pre_1 : decode prog_30_method_11_code 1 = .ok (.ifCond .lt 8, 3) := by decide +kernel
theorem dj_pre_4 : decode prog_30_method_11_code 4 = .ok (.iload_n 0, 1) := by decide +kernel
theorem dj_pre_5 : decode prog_30_method_11_code 5 = .ok (.iload_n 1, 1) := by decide +kernel
theorem dj_pre_6 : decode prog_30_method_11_code 6 = .ok (.if_icmp .lt 10, 3) := by decide +kernel
theorem dj_pre_9 : decode prog_30_method_11_code 9 = .ok (.aload_n 2, 1) := by decide +kernel
theorem dj_pre_10 : decode prog_30_method_11_code 10 = .ok (.iload_n 0, 1) := by decide +kernel
theorem dj_pre_11 : decode prog_30_method_11_code 11 = .ok (.iload_n 1, 1) := by decide +kernel
theorem dj_pre_12 : decode prog_30_method_11_code 12 = .ok (.invokestatic 95, 3) := by decide +kernel
theorem dj_pre_15 : decode prog_30_method_11_code 15 = .ok (.athrow, 1) := by decide +kernel
theorem dj_pre_16 : decode prog_30_method_11_code 16 = .ok (.iload_n 0, 1) := by decide +kernel
theorem dj_pre_17 : decode prog_30_method_11_code 17 = .ok (.ireturn, 1) := by decide +kernel
def yj_chk : MethodName := ⟨"java/lang/String", "checkIndex", "(II)V"⟩
theorem dj_chk_0 : decode prog_21_method_155_code 0 = .ok (.iload_n 0, 1) := by decide +kernel
theorem dj_chk_1 : decode prog_21_method_155_code 1 = .ok (.iload_n 1, 1) := by decide +kernel
theorem dj_chk_2 : decode prog_21_method_155_code 2 = .ok (.getstatic 1053, 3) := by decide +kernel
theorem dj_chk_5 : decode prog_21_method_155_code 5 = .ok (.invokestatic 1059, 3) := by decide +kernel
theorem dj_chk_8 : decode prog_21_method_155_code 8 = .ok (.pop, 1) := by decide +kernel
theorem dj_chk_9 : decode prog_21_method_155_code 9 = .ok (.return_, 1) := by decide +kernel
def yj_lat : MethodName := ⟨"java/lang/StringLatin1", "charAt", "([BI)C"⟩
theorem dj_lat_0 : decode prog_22_method_2_code 0 = .ok (.iload_n 1, 1) := by decide +kernel
theorem dj_lat_1 : decode prog_22_method_2_code 1 = .ok (.aload_n 0, 1) := by decide +kernel
theorem dj_lat_2 : decode prog_22_method_2_code 2 = .ok (.arraylength, 1) := by decide +kernel
theorem dj_lat_3 : decode prog_22_method_2_code 3 = .ok (.invokestatic 9, 3) := by decide +kernel
theorem dj_lat_6 : decode prog_22_method_2_code 6 = .ok (.aload_n 0, 1) := by decide +kernel
theorem dj_lat_7 : decode prog_22_method_2_code 7 = .ok (.iload_n 1, 1) := by decide +kernel
theorem dj_lat_8 : decode prog_22_method_2_code 8 = .ok (.baload, 1) := by decide +kernel
theorem dj_lat_9 : decode prog_22_method_2_code 9 = .ok (.sipush 255, 3) := by decide +kernel
theorem dj_lat_12 : decode prog_22_method_2_code 12 = .ok (.iand, 1) := by decide +kernel
theorem dj_lat_13 : decode prog_22_method_2_code 13 = .ok (.i2c, 1) := by decide +kernel
theorem dj_lat_14 : decode prog_22_method_2_code 14 = .ok (.ireturn, 1) := by decide +kernel
def yj_length : MethodName := ⟨"java/lang/String", "length", "()I"⟩
theorem dj_length_0 : decode prog_21_method_54_code 0 = .ok (.aload_n 0, 1) := by decide +kernel
theorem dj_length_1 : decode prog_21_method_54_code 1 = .ok (.getfield 9, 3) := by decide +kernel
theorem dj_length_4 : decode prog_21_method_54_code 4 = .ok (.arraylength, 1) := by decide +kernel
theorem dj_length_5 : decode prog_21_method_54_code 5 = .ok (.aload_n 0, 1) := by decide +kernel
theorem dj_length_6 : decode prog_21_method_54_code 6 = .ok (.invokevirtual 335, 3) := by decide +kernel
theorem dj_length_9 : decode prog_21_method_54_code 9 = .ok (.ishr, 1) := by decide +kernel
theorem dj_length_10 : decode prog_21_method_54_code 10 = .ok (.ireturn, 1) := by decide +kernel
def yj_charAt : MethodName := ⟨"java/lang/String", "charAt", "(I)C"⟩
theorem dj_charAt_0 : decode prog_21_method_56_code 0 = .ok (.aload_n 0, 1) := by decide +kernel
theorem dj_charAt_1 : decode prog_21_method_56_code 1 = .ok (.invokevirtual 492, 3) := by decide +kernel
theorem dj_charAt_4 : decode prog_21_method_56_code 4 = .ok (.ifCond .eq 12, 3) := by decide +kernel
theorem dj_charAt_7 : decode prog_21_method_56_code 7 = .ok (.aload_n 0, 1) := by decide +kernel
theorem dj_charAt_8 : decode prog_21_method_56_code 8 = .ok (.getfield 9, 3) := by decide +kernel
theorem dj_charAt_11 : decode prog_21_method_56_code 11 = .ok (.iload_n 1, 1) := by decide +kernel
theorem dj_charAt_12 : decode prog_21_method_56_code 12 = .ok (.invokestatic 495, 3) := by decide +kernel
theorem dj_charAt_15 : decode prog_21_method_56_code 15 = .ok (.ireturn, 1) := by decide +kernel
theorem dj_charAt_16 : decode prog_21_method_56_code 16 = .ok (.aload_n 0, 1) := by decide +kernel
theorem dj_charAt_17 : decode prog_21_method_56_code 17 = .ok (.getfield 9, 3) := by decide +kernel
theorem dj_charAt_20 : decode prog_21_method_56_code 20 = .ok (.iload_n 1, 1) := by decide +kernel
theorem dj_charAt_21 : decode prog_21_method_56_code 21 = .ok (.invokestatic 498, 3) := by decide +kernel
theorem dj_charAt_24 : decode prog_21_method_56_code 24 = .ok (.ireturn, 1) := by decide +kernel
theorem wj_compact : (Cond.fieldLink "java/lang/String" (38 : Nat) "java/lang/String" "COMPACT_STRINGS" "Z") ∈ z_tb := z_has_tb (w := some (6, 104)) (by decide +kernel) rfl
theorem wj_coderF : (Cond.fieldLink "java/lang/String" (15 : Nat) "java/lang/String" "coder" "B") ∈ z_tb := z_has_tb (w := some (8, 82)) (by decide +kernel) rfl
theorem wj_value : (Cond.fieldLink "java/lang/String" (9 : Nat) "java/lang/String" "value" "[B") ∈ z_tb := z_has_tb (w := some (8, 81)) (by decide +kernel) rfl
theorem wj_sioobe : (Cond.fieldLink "java/lang/String" (1053 : Nat) "jdk/internal/util/Preconditions" "SIOOBE_FORMATTER" "Ljava/util/function/BiFunction;") ∈ z_tb := z_has_tb (w := some (6, 120)) (by decide +kernel) rfl
theorem wj_coder_l : (Cond.methodLink "java/lang/String" (335 : Nat) ({ cls := "java/lang/String", name := "coder", desc := "()B" } : Jvm.MethodName)) ∈ z_tb := z_has_tb (w := some (6, 100)) (by decide +kernel) rfl
theorem wj_coder_c : (Cond.code ({ cls := "java/lang/String", name := "coder", desc := "()B" } : Jvm.MethodName) prog_21_method_152_code (1 : Nat) (Option.some Jvm.ClassFile.FieldType.byte)) ∈ z_tb := z_has_tb (w := some (6, 103)) (by decide +kernel) rfl
theorem wj_coder_i : (Cond.initialized "java/lang/String") ∈ z_tb := z_has_tb (w := some (1, 14)) (by decide +kernel) rfl
theorem wj_coder_m : (Cond.instanceMethod ({ cls := "java/lang/String", name := "coder", desc := "()B" } : Jvm.MethodName)) ∈ z_tb := z_has_tb (w := some (6, 101)) (by decide +kernel) rfl
theorem wj_coder_s : (Cond.selects "java/lang/String" ({ cls := "java/lang/String", name := "coder", desc := "()B" } : Jvm.MethodName) ({ cls := "java/lang/String", name := "coder", desc := "()B" } : Jvm.MethodName)) ∈ z_tb := z_has_tb (w := some (6, 102)) (by decide +kernel) rfl
theorem wj_isLatin1_l : (Cond.methodLink "java/lang/String" (492 : Nat) ({ cls := "java/lang/String", name := "isLatin1", desc := "()Z" } : Jvm.MethodName)) ∈ z_tb := z_has_tb (w := some (6, 110)) (by decide +kernel) rfl
theorem wj_isLatin1_c : (Cond.code ({ cls := "java/lang/String", name := "isLatin1", desc := "()Z" } : Jvm.MethodName) prog_21_method_154_code (1 : Nat) (Option.some Jvm.ClassFile.FieldType.boolean)) ∈ z_tb := z_has_tb (w := some (6, 113)) (by decide +kernel) rfl
theorem wj_isLatin1_i : (Cond.initialized "java/lang/String") ∈ z_tb := z_has_tb (w := some (1, 14)) (by decide +kernel) rfl
theorem wj_isLatin1_m : (Cond.instanceMethod ({ cls := "java/lang/String", name := "isLatin1", desc := "()Z" } : Jvm.MethodName)) ∈ z_tb := z_has_tb (w := some (6, 111)) (by decide +kernel) rfl
theorem wj_isLatin1_s : (Cond.selects "java/lang/String" ({ cls := "java/lang/String", name := "isLatin1", desc := "()Z" } : Jvm.MethodName) ({ cls := "java/lang/String", name := "isLatin1", desc := "()Z" } : Jvm.MethodName)) ∈ z_tb := z_has_tb (w := some (6, 112)) (by decide +kernel) rfl
theorem wj_lat_l : (Cond.methodLink "java/lang/String" (495 : Nat) ({ cls := "java/lang/StringLatin1", name := "charAt", desc := "([BI)C" } : Jvm.MethodName)) ∈ z_tb := z_has_tb (w := some (6, 114)) (by decide +kernel) rfl
theorem wj_lat_c : (Cond.code ({ cls := "java/lang/StringLatin1", name := "charAt", desc := "([BI)C" } : Jvm.MethodName) prog_22_method_2_code (2 : Nat) (Option.some Jvm.ClassFile.FieldType.char)) ∈ z_tb := z_has_tb (w := some (6, 116)) (by decide +kernel) rfl
theorem wj_lat_i : (Cond.initialized "java/lang/StringLatin1") ∈ z_tb := z_has_tb (w := some (1, 15)) (by decide +kernel) rfl
theorem wj_lat_t : (Cond.static ({ cls := "java/lang/StringLatin1", name := "charAt", desc := "([BI)C" } : Jvm.MethodName)) ∈ z_tb := z_has_tb (w := some (6, 115)) (by decide +kernel) rfl
theorem wj_chk_l : (Cond.methodLink "java/lang/StringLatin1" (9 : Nat) ({ cls := "java/lang/String", name := "checkIndex", desc := "(II)V" } : Jvm.MethodName)) ∈ z_tb := z_has_tb (w := some (6, 117)) (by decide +kernel) rfl
theorem wj_chk_c : (Cond.code ({ cls := "java/lang/String", name := "checkIndex", desc := "(II)V" } : Jvm.MethodName) prog_21_method_155_code (2 : Nat) (Option.none : Option Jvm.ClassFile.FieldType)) ∈ z_tb := z_has_tb (w := some (6, 119)) (by decide +kernel) rfl
theorem wj_chk_i : (Cond.initialized "java/lang/String") ∈ z_tb := z_has_tb (w := some (1, 14)) (by decide +kernel) rfl
theorem wj_chk_t : (Cond.static ({ cls := "java/lang/String", name := "checkIndex", desc := "(II)V" } : Jvm.MethodName)) ∈ z_tb := z_has_tb (w := some (6, 118)) (by decide +kernel) rfl
theorem wj_pre_l : (Cond.methodLink "java/lang/String" (1059 : Nat) ({ cls := "jdk/internal/util/Preconditions", name := "checkIndex", desc := "(IILjava/util/function/BiFunction;)I" } : Jvm.MethodName)) ∈ z_tb := z_has_tb (w := some (6, 122)) (by decide +kernel) rfl
theorem wj_pre_c : (Cond.code ({ cls := "jdk/internal/util/Preconditions", name := "checkIndex", desc := "(IILjava/util/function/BiFunction;)I" } : Jvm.MethodName) prog_30_method_11_code (3 : Nat) (Option.some Jvm.ClassFile.FieldType.int)) ∈ z_tb := z_has_tb (w := some (6, 124)) (by decide +kernel) rfl
theorem wj_pre_i : (Cond.initialized "jdk/internal/util/Preconditions") ∈ z_tb := z_has_tb (w := some (1, 16)) (by decide +kernel) rfl
theorem wj_pre_t : (Cond.static ({ cls := "jdk/internal/util/Preconditions", name := "checkIndex", desc := "(IILjava/util/function/BiFunction;)I" } : Jvm.MethodName)) ∈ z_tb := z_has_tb (w := some (6, 123)) (by decide +kernel) rfl
theorem zj_coder {l : Launch} {D : va_G} {cA : Nat → ClassId} {ad adK adV : Nat → Nat} {M : zM} {Q : Option zU → zM → Prop} {d : Nat} (hinj : ∀ i j, i < z_kt.length → j < z_kt.length → ad i = ad j → i = j) (hm : z_mok M) {j : Nat} (hj : j < 7) (hQ : Q (some (z_i 0)) M) : ∀ sz : Nat, Met l yj_coder (Cond.code yj_coder prog_21_method_152_code 1 (some .byte) :: z_tb) (z_rm (d + 1)) (va_Pc [.ref (adK j)] (z_B D cA ad adK adV M sz)) (z_Qg D cA ad adK Q (va_A (z_w ad cA M) sz)) 0 0 (va_A (z_w ad cA M) sz) := by
  refine zj_of (by decide) hinj (Nat.le_of_ble_eq_true rfl) ?_
  intro p e s m below meth c A ls cx cy hr hlocks hP hS hl
  have cx0 := cx
  have cy0 := cy
  obtain ⟨hx, hb, hml, hown, hts, hK, -, hinA, hstr, hroom⟩ := cx
  obtain ⟨hVS, hA, -, -, -, -, hnest⟩ := cy
  obtain ⟨so, sc, sv, st⟩ := hVS.1 j hj
  refine va_gets hx hb hnest.2.1 hS hown (hts _ wj_compact) (fun x h => h) dj_coder_0 ?_
  refine lv_if_eq (tgt := 13) hx hb dj_coder_3 (by decide) (fun h => absurd h (by decide)) (fun _ => ?_)
  refine lv_aload_n hx hb dj_coder_6 rfl (lv_at hl 0 rfl) ?_
  refine vk_getf hx hb sc hS hown (hts _ wj_coderF) (fun x h => h) dj_coder_7 ?_
  refine lv_goto (tgt := 14) hx hb dj_coder_10 (by decide) ?_
  exact W.zret hx hb hr rfl (fun t ht _ => ⟨⟨some (z_i 0), M, rfl, hQ, fun u hu => by cases hu; exact z_ri_0, hm, by rw [ht]; exact hP⟩, hS.F ht⟩) hS.2.2 dj_coder_14 hlocks
theorem zj_isLatin1 {l : Launch} {D : va_G} {cA : Nat → ClassId} {ad adK adV : Nat → Nat} {M : zM} {Q : Option zU → zM → Prop} {d : Nat} (hinj : ∀ i j, i < z_kt.length → j < z_kt.length → ad i = ad j → i = j) (hm : z_mok M) {j : Nat} (hj : j < 7) (hQ : Q (some (z_i 1)) M) : ∀ sz : Nat, Met l yj_isLatin1 (Cond.code yj_isLatin1 prog_21_method_154_code 1 (some .boolean) :: z_tb) (z_rm (d + 1)) (va_Pc [.ref (adK j)] (z_B D cA ad adK adV M sz)) (z_Qg D cA ad adK Q (va_A (z_w ad cA M) sz)) 0 0 (va_A (z_w ad cA M) sz) := by
  refine zj_of (by decide) hinj (Nat.le_of_ble_eq_true rfl) ?_
  intro p e s m below meth c A ls cx cy hr hlocks hP hS hl
  have cx0 := cx
  have cy0 := cy
  obtain ⟨hx, hb, hml, hown, hts, hK, -, hinA, hstr, hroom⟩ := cx
  obtain ⟨hVS, hA, -, -, -, -, hnest⟩ := cy
  obtain ⟨so, sc, sv, st⟩ := hVS.1 j hj
  refine va_gets hx hb hnest.2.1 hS hown (hts _ wj_compact) (fun x h => h) dj_isLatin1_0 ?_
  refine lv_if_eq (tgt := 17) hx hb dj_isLatin1_3 (by decide) (fun h => absurd h (by decide)) (fun _ => ?_)
  refine lv_aload_n hx hb dj_isLatin1_6 rfl (lv_at hl 0 rfl) ?_
  refine vk_getf hx hb sc hS hown (hts _ wj_coderF) (fun x h => h) dj_isLatin1_7 ?_
  refine lv_if_ne (tgt := 17) hx hb dj_isLatin1_10 (by decide) (fun h => absurd rfl h) (fun _ => ?_)
  refine lv_iconst (v := 1) hx hb dj_isLatin1_13 (by decide) ?_
  refine lv_goto (tgt := 18) hx hb dj_isLatin1_14 (by decide) ?_
  exact W.zret hx hb hr rfl (fun t ht _ => ⟨⟨some (z_i 1), M, rfl, hQ, fun u hu => by cases hu; exact z_ri_1, hm, by rw [ht]; exact hP⟩, hS.F ht⟩) hS.2.2 dj_isLatin1_18 hlocks
theorem zj_pre {l : Launch} {D : va_G} {cA : Nat → ClassId} {ad adK adV : Nat → Nat} {M : zM} {Q : Option zU → zM → Prop} {d : Nat} (hinj : ∀ i j, i < z_kt.length → j < z_kt.length → ad i = ad j → i = j) (hm : z_mok M) {i n : Int} {v : Value} (hv : v.category = 1) (hi : z_ri i) (hn : z_ri n) (hin : 0 ≤ i ∧ i < n) (hQ : Q (some (z_i i)) M) : ∀ sz : Nat, Met l yj_pre (Cond.code yj_pre prog_30_method_11_code 3 (some .int) :: z_tb) (z_rm (d + 1)) (va_Pc [.int (Int32.ofInt i), .int (Int32.ofInt n), v] (z_B D cA ad adK adV M sz)) (z_Qg D cA ad adK Q (va_A (z_w ad cA M) sz)) 0 0 (va_A (z_w ad cA M) sz) := by
  refine zj_of (by decide) hinj (by rcases v with _ | _ | _ | _ | _ | _ <;> first | exact Nat.le_of_ble_eq_true rfl | cases hv) ?_
  intro p e s m below meth c A ls cx cy hr hlocks hP hS hl
  have cx0 := cx
  have cy0 := cy
  obtain ⟨hx, hb, hml, hown, hts, hK, -, hinA, hstr, hroom⟩ := cx
  obtain ⟨hVS, hA, -, -, -, -, hnest⟩ := cy
  have l0 : ls[0]? = some (.val (.int (Int32.ofInt i))) := lv_at hl 0 rfl
  have l1 : ls[1]? = some (.val (.int (Int32.ofInt n))) := lv_at hl 1 rfl
  refine lv_iload_n hx hb dj_pre_0 rfl l0 ?_
  refine lv_if_lt (tgt := 9) hx hb dj_pre_1 (by decide) (fun h => absurd (Int32.lt_iff_toInt_lt.mp h) (by rw [zn_t hi]; show ¬ i < 0; omega)) (fun _ => ?_)
  refine lv_iload_n hx hb dj_pre_4 rfl l0 ?_
  refine lv_iload_n hx hb dj_pre_5 rfl l1 ?_
  refine lv_icmp_lt (tgt := 16) hx hb dj_pre_6 (by decide) (fun _ => ?_) (fun h => absurd (Int32.lt_iff_toInt_lt.mpr (by rw [zn_t hi, zn_t hn]; exact hin.2)) h)
  refine lv_iload_n hx hb dj_pre_16 rfl l0 ?_
  exact W.iret hx hb hr (fun t ht _ => ⟨⟨some (z_i i), M, rfl, hQ, fun u hu => by cases hu; exact hi, hm, by rw [ht]; exact hP⟩, hS.F ht⟩) hS.2.2 dj_pre_17 hlocks
theorem zj_chk {l : Launch} {D : va_G} {cA : Nat → ClassId} {ad adK adV : Nat → Nat} {M : zM} {Q : Option zU → zM → Prop} {d : Nat} (hinj : ∀ i j, i < z_kt.length → j < z_kt.length → ad i = ad j → i = j) (hm : z_mok M) {i n : Int} (hi : z_ri i) (hn : z_ri n) (hin : 0 ≤ i ∧ i < n) (hQ : Q none M) : ∀ sz : Nat, Met l yj_chk (Cond.code yj_chk prog_21_method_155_code 2 none :: z_tb) (z_rm (d + 1 + 1)) (va_Pc [.int (Int32.ofInt i), .int (Int32.ofInt n)] (z_B D cA ad adK adV M sz)) (z_Qg D cA ad adK Q (va_A (z_w ad cA M) sz)) 0 0 (va_A (z_w ad cA M) sz) := by
  refine zj_of (by decide) hinj (Nat.le_of_ble_eq_true rfl) ?_
  intro p e s m below meth c A ls cx cy hr hlocks hP hS hl
  have cx0 := cx
  have cy0 := cy
  obtain ⟨hx, hb, hml, hown, hts, hK, -, hinA, hstr, hroom⟩ := cx
  obtain ⟨hVS, hA, -, -, -, -, hnest⟩ := cy
  refine lv_iload_n hx hb dj_chk_0 rfl (lv_at hl 0 rfl) ?_
  refine lv_iload_n hx hb dj_chk_1 rfl (lv_at hl 1 rfl) ?_
  have go : ∀ v : Value, v.category = 1 → W p l e (z_rm (d + 1 + 1)) s m _ below meth c s.heap [] 0 0 (MQ below (z_Qg D cA ad adK Q A) _ s 0 0 A) (F0 m 5 ls [v, .int (Int32.ofInt n), .int (Int32.ofInt i)]) := fun v hv => by
    refine zl_J (na := 3) (rest := []) (As := [.int (Int32.ofInt i), .int (Int32.ofInt n), v]) (Q := fun r M' => r = some (z_i i) ∧ M' = M) cx0 cy0 (zj_pre hinj hm hv hi hn hin ⟨rfl, rfl⟩) (by decide) dj_chk_5 rfl (Nat.le_of_ble_eq_true rfl) ⟨Nat.zero_le _, Nat.zero_le _⟩ wj_pre_l wj_pre_t wj_pre_i wj_pre_c (by decide +kernel) hP hS hl.1 (fun r M' H1 locs1 hq hg hm' hP1 hS1 => ?_)
    obtain ⟨rfl, rfl⟩ := hq
    refine lv_pop hx hb dj_chk_8 rfl ?_
    exact W.vret hx hb hr (fun t ht _ => ⟨⟨none, M', rfl, hQ, fun u hu => (by cases hu), hm', by rw [ht]; exact hP1⟩, hS1.F ht⟩) hS1.2.2 dj_chk_9 hlocks
  rcases hnest.2.2 with z | ⟨t, z⟩
  · exact va_gets hx hb z hS hown (hts _ wj_sioobe) (fun x h => h) dj_chk_2 (go .null rfl)
  · exact va_gets hx hb z hS hown (hts _ wj_sioobe) (fun x h => h) dj_chk_2 (go (.ref t) rfl)
theorem zj_tab : ∀ j, j < 7 → (z_sl.getD j 0 < 10 ∧ (Int32.ofNat (z_sl.getD j 0) >>> ((0 : Int32) &&& 31)) = Int32.ofInt ((z_sl.getD j 0 : Nat) : Int) ∧ Int32.ofNat (z_sl.getD j 0) = Int32.ofInt ((z_sl.getD j 0 : Nat) : Int)) ∧ ∀ k, k < 10 → (((((z_sb.getD j []).getD k 0) &&& 255).toUInt32 % 65536).toInt32 = (z_sb.getD j []).getD k 0 ∧ z_ri ((z_sb.getD j []).getD k 0).toInt ∧ narrow .char (.int ((z_sb.getD j []).getD k 0)) = .int ((z_sb.getD j []).getD k 0)) := by decide +kernel
theorem zj_lat {l : Launch} {D : va_G} {cA : Nat → ClassId} {ad adK adV : Nat → Nat} {M : zM} {Q : Option zU → zM → Prop} {d : Nat} (hinj : ∀ i j, i < z_kt.length → j < z_kt.length → ad i = ad j → i = j) (hm : z_mok M) {j : Nat} (hj : j < 7) {i : Int} (hin : 0 ≤ i ∧ i < ((z_sl.getD j 0 : Nat) : Int)) (hQ : Q (some (z_i (z_chr j i))) M) : ∀ sz : Nat, Met l yj_lat (Cond.code yj_lat prog_22_method_2_code 2 (some .char) :: z_tb) (z_rm (d + 1 + 1 + 1)) (va_Pc [.ref (adV j), .int (Int32.ofInt i)] (z_B D cA ad adK adV M sz)) (z_Qg D cA ad adK Q (va_A (z_w ad cA M) sz)) 0 0 (va_A (z_w ad cA M) sz) := by
  refine zj_of (by decide) hinj (Nat.le_of_ble_eq_true rfl) ?_
  intro p e s m below meth c A ls cx cy hr hlocks hP hS hl
  have cx0 := cx
  have cy0 := cy
  obtain ⟨hx, hb, hml, hown, hts, hK, -, hinA, hstr, hroom⟩ := cx
  obtain ⟨hVS, hA, -, -, -, -, hnest⟩ := cy
  obtain ⟨so, sc, sv, st⟩ := hVS.1 j hj
  obtain ⟨⟨t1, t2, t3⟩, t4⟩ := zj_tab j hj
  obtain ⟨u1, u2, u3⟩ := t4 i.toNat (by omega)
  have hi : z_ri i := by unfold z_ri; omega
  have hn : z_ri ((z_sl.getD j 0 : Nat) : Int) := by unfold z_ri; omega
  have ec : (Int32.ofInt i).toNatClampNeg = i.toNat := by
    show (Int32.ofInt i).toInt.toNat = i.toNat
    rw [zn_t hi]
  have hvp : vp_in (Int32.ofInt i) (z_sl.getD j 0) := by
    rw [show Int32.ofInt i = nI i.toNat by
      apply Int32.toInt_inj.mp
      rw [zn_t hi, nI_toInt (by omega)]; omega]
    exact vp_in_nI (by omega) (by omega)
  refine lv_iload_n hx hb dj_lat_0 rfl (lv_at hl 1 rfl) ?_
  refine lv_aload_n hx hb dj_lat_1 rfl (lv_at hl 0 rfl) ?_
  refine va_tlen hx hb st hS t3 dj_lat_2 ?_
  refine zl_J (na := 2) (rest := []) (As := [.int (Int32.ofInt i), .int (Int32.ofInt ((z_sl.getD j 0 : Nat) : Int))]) (Q := fun r M' => r = none ∧ M' = M) cx0 cy0 (zj_chk hinj hm hi hn hin ⟨rfl, rfl⟩) (by decide) dj_lat_3 rfl (Nat.le_of_ble_eq_true rfl) ⟨Nat.zero_le _, Nat.zero_le _⟩ wj_chk_l wj_chk_t wj_chk_i wj_chk_c (by decide +kernel) hP hS hl.1 (fun r M' H1 locs1 hq hg hm' hP1 hS1 => ?_)
  obtain ⟨rfl, rfl⟩ := hq
  refine lv_aload_n hx hb dj_lat_6 rfl (lv_at hl 0 rfl) ?_
  refine lv_iload_n hx hb dj_lat_7 rfl (lv_at hl 1 rfl) ?_
  refine va_tb hx hb st hS1 hvp (v := .int ((z_sb.getD j []).getD i.toNat 0)) (by rw [ec]) dj_lat_8 ?_
  refine lv_sipush (v := 255) hx hb dj_lat_9 (by decide) ?_
  refine lv_iand hx hb dj_lat_12 ?_
  refine lv_i2c hx hb dj_lat_13 u1 ?_
  have ev : Value.int ((z_sb.getD j []).getD i.toNat 0) = .int (Int32.ofInt (z_chr j i)) := by
    unfold z_chr
    rw [Int32.ofInt_toInt]
  rw [ev] at u3 ⊢
  exact W.zret hx hb hr u3 (fun t ht _ => ⟨⟨some (z_i (z_chr j i)), M', rfl, hQ, fun u hu => by cases hu; exact u2, hm', by rw [ht]; exact hP1⟩, hS1.F ht⟩) hS1.2.2 dj_lat_14 hlocks
theorem zj_length {l : Launch} {D : va_G} {cA : Nat → ClassId} {ad adK adV : Nat → Nat} {M : zM} {Q : Option zU → zM → Prop} {d : Nat} (hinj : ∀ i j, i < z_kt.length → j < z_kt.length → ad i = ad j → i = j) (hm : z_mok M) {j : Nat} (hj : j < 7) (hQ : Q (some (z_i ((z_sl.getD j 0 : Nat) : Int))) M) : ∀ sz : Nat, Met l yj_length (Cond.code yj_length prog_21_method_54_code 1 (some .int) :: z_tb) (z_rm (d + 1 + 1)) (va_Pc [.ref (adK j)] (z_B D cA ad adK adV M sz)) (z_Qg D cA ad adK Q (va_A (z_w ad cA M) sz)) 0 0 (va_A (z_w ad cA M) sz) := by
  refine zj_of (by decide) hinj (Nat.le_of_ble_eq_true rfl) ?_
  intro p e s m below meth c A ls cx cy hr hlocks hP hS hl
  have cx0 := cx
  have cy0 := cy
  obtain ⟨hx, hb, hml, hown, hts, hK, -, hinA, hstr, hroom⟩ := cx
  obtain ⟨hVS, hA, -, -, -, -, hnest⟩ := cy
  obtain ⟨so, sc, sv, st⟩ := hVS.1 j hj
  obtain ⟨⟨t1, t2, t3⟩, t4⟩ := zj_tab j hj
  refine lv_aload_n hx hb dj_length_0 rfl (lv_at hl 0 rfl) ?_
  refine vk_getf hx hb sv hS hown (hts _ wj_value) (fun x h => h) dj_length_1 ?_
  refine va_tlen hx hb st hS rfl dj_length_4 ?_
  refine lv_aload_n hx hb dj_length_5 rfl (lv_at hl 0 rfl) ?_
  refine zl_JV (na := 0) (rest := [.int (Int32.ofNat (z_sl.getD j 0))]) (As := []) (Q := fun r M' => r = some (z_i 0) ∧ M' = M) cx0 cy0 hj rfl (zj_coder hinj hm hj ⟨rfl, rfl⟩) (by decide) dj_length_6 rfl (Nat.le_of_ble_eq_true rfl) ⟨Nat.zero_le _, Nat.zero_le _⟩ wj_coder_l wj_coder_m wj_coder_s wj_coder_i wj_coder_c (by decide +kernel) hP hS hl.1 (fun r M' H1 locs1 hq hg hm' hP1 hS1 => ?_)
  obtain ⟨rfl, rfl⟩ := hq
  refine lv_ishr hx hb dj_length_9 ?_
  have t2' : (Int32.ofNat (z_sl.getD j 0) >>> (Int32.ofInt 0 &&& 31)) = Int32.ofInt ((z_sl.getD j 0 : Nat) : Int) := t2
  rw [t2']
  exact W.iret hx hb hr (fun t ht _ => ⟨⟨some (z_i ((z_sl.getD j 0 : Nat) : Int)), M', rfl, hQ, fun u hu => by cases hu; show z_ri _; unfold z_ri; omega, hm', by rw [ht]; exact hP1⟩, hS1.F ht⟩) hS1.2.2 dj_length_10 hlocks
theorem zj_charAt {l : Launch} {D : va_G} {cA : Nat → ClassId} {ad adK adV : Nat → Nat} {M : zM} {Q : Option zU → zM → Prop} {d : Nat} (hinj : ∀ i j, i < z_kt.length → j < z_kt.length → ad i = ad j → i = j) (hm : z_mok M) {j : Nat} (hj : j < 7) {i : Int} (hin : 0 ≤ i ∧ i < ((z_sl.getD j 0 : Nat) : Int)) (hQ : Q (some (z_i (z_chr j i))) M) : ∀ sz : Nat, Met l yj_charAt (Cond.code yj_charAt prog_21_method_56_code 2 (some .char) :: z_tb) (z_rm (d + 1 + 1 + 1 + 1)) (va_Pc [.ref (adK j), .int (Int32.ofInt i)] (z_B D cA ad adK adV M sz)) (z_Qg D cA ad adK Q (va_A (z_w ad cA M) sz)) 0 0 (va_A (z_w ad cA M) sz) := by
  refine zj_of (by decide) hinj (Nat.le_of_ble_eq_true rfl) ?_
  intro p e s m below meth c A ls cx cy hr hlocks hP hS hl
  have cx0 := cx
  have cy0 := cy
  obtain ⟨hx, hb, hml, hown, hts, hK, -, hinA, hstr, hroom⟩ := cx
  obtain ⟨hVS, hA, -, -, -, -, hnest⟩ := cy
  obtain ⟨so, sc, sv, st⟩ := hVS.1 j hj
  obtain ⟨⟨t1, t2, t3⟩, t4⟩ := zj_tab j hj
  obtain ⟨u1, u2, u3⟩ := t4 i.toNat (by omega)
  refine lv_aload_n hx hb dj_charAt_0 rfl (lv_at hl 0 rfl) ?_
  refine zl_JV (na := 0) (rest := []) (As := []) (Q := fun r M' => r = some (z_i 1) ∧ M' = M) cx0 cy0 hj rfl (zj_isLatin1 hinj hm hj ⟨rfl, rfl⟩) (by decide) dj_charAt_1 rfl (Nat.le_of_ble_eq_true rfl) ⟨Nat.zero_le _, Nat.zero_le _⟩ wj_isLatin1_l wj_isLatin1_m wj_isLatin1_s wj_isLatin1_i wj_isLatin1_c (by decide +kernel) hP hS hl.1 (fun r M' H1 locs1 hq hg hm' hP1 hS1 => ?_)
  obtain ⟨rfl, rfl⟩ := hq
  refine lv_if_eq (tgt := 16) hx hb dj_charAt_4 (by decide) (fun h => absurd h (by decide)) (fun _ => ?_)
  refine lv_aload_n hx hb dj_charAt_7 rfl (lv_at hl 0 rfl) ?_
  refine vk_getf hx hb sv hS1 hown (hts _ wj_value) (fun x h => h) dj_charAt_8 ?_
  refine lv_iload_n hx hb dj_charAt_11 rfl (lv_at hl 1 rfl) ?_
  refine zl_J (na := 2) (rest := []) (As := [.ref (adV j), .int (Int32.ofInt i)]) (Q := fun r M'' => r = some (z_i (z_chr j i)) ∧ M'' = M') cx0 cy0 (zj_lat hinj hm' hj hin ⟨rfl, rfl⟩) (by decide) dj_charAt_12 rfl (Nat.le_of_ble_eq_true rfl) ⟨Nat.zero_le _, Nat.zero_le _⟩ wj_lat_l wj_lat_t wj_lat_i wj_lat_c (by decide +kernel) hP1 hS1 hl.1 (fun r M'' H2 locs2 hq hg2 hm2 hP2 hS2 => ?_)
  obtain ⟨rfl, rfl⟩ := hq
  have ev : Value.int ((z_sb.getD j []).getD i.toNat 0) = .int (Int32.ofInt (z_chr j i)) := by
    unfold z_chr
    rw [Int32.ofInt_toInt]
  rw [ev] at u3
  exact W.zret hx hb hr u3 (fun t ht _ => ⟨⟨some (z_i (z_chr j i)), M'', rfl, hQ, fun u hu => by cases hu; exact u2, hm2, by rw [ht]; exact hP2⟩, hS2.F ht⟩) hS2.2.2 dj_charAt_15 hlocks
theorem z_str_ok (l : Launch) (D : va_G) (cA : Nat → ClassId) (ad adK adV : Nat → Nat) (hinj : ∀ i j, i < z_kt.length → j < z_kt.length → ad i = ad j → i = j) : z_STR l D cA ad adK adV := by
  intro d y Y as M Q hy hY hC hg hm sz
  cases d with
  | zero => exact hC.elim
  | succ d =>
    unfold z_C at hC
    rw [hY] at hC
    obtain ⟨h1, h2, h3⟩ := hC
    rcases hy with rfl | rfl
    · cases Option.some.inj (hY.symm.trans (show z_mt[257]? = some _ from rfl))
      rcases as with _ | ⟨u, as⟩
      · exact (show 6 ≤ d ∧ False from h3).2.elim
      rcases u with x | x | ⟨k, a⟩
      · exact (show 6 ≤ d ∧ False from h3).2.elim
      · exact (show 6 ≤ d ∧ False from h3).2.elim
      rcases as with _ | ⟨u, as⟩
      · obtain ⟨hd6, h3⟩ : 6 ≤ d ∧ Q (some (z_i k.2)) M := h3
        have h1 : Nat.beq k.1 104 = true := h1
        have hk : k.1 = 104 := Nat.eq_of_beq_eq_true h1
        have hga := hg _ List.mem_cons_self
        rcases hga with ⟨-, g2, g3⟩ | ⟨g1, -⟩
        · obtain ⟨d', rfl⟩ : ∃ d', d = d' + 1 := ⟨d - 1, by omega⟩
          have ev : ([Sum.inr (Sum.inr (k, a))] : List zU).map (z_val ad adK) = [.ref (adK a)] := by
            show [Value.ref (cond (Nat.beq k.1 104) (adK a) (ad a))] = _
            rw [h1]; rfl
          rw [ev]
          rw [g3] at h3
          exact zj_length hinj hm g2 h3 sz
        · exact absurd hk g1
      · exact (show 6 ≤ d ∧ False from h3).2.elim
    · cases Option.some.inj (hY.symm.trans (show z_mt[258]? = some _ from rfl))
      rcases as with _ | ⟨u, as⟩
      · exact (show 6 ≤ d ∧ False from h3).2.elim
      rcases u with x | x | ⟨k, a⟩
      · exact (show 6 ≤ d ∧ False from h3).2.elim
      · exact (show 6 ≤ d ∧ False from h3).2.elim
      rcases as with _ | ⟨u, as⟩
      · exact (show 6 ≤ d ∧ False from h3).2.elim
      rcases u with j | x | x
      · rcases as with _ | ⟨u, as⟩
        · obtain ⟨hd6, h4, h5⟩ : 6 ≤ d ∧ (0 ≤ j ∧ j < k.2) ∧ Q (some (z_i (z_chr a j))) M := h3
          have h1 : Nat.beq k.1 104 = true := h1
          have hk : k.1 = 104 := Nat.eq_of_beq_eq_true h1
          have hga := hg _ List.mem_cons_self
          rcases hga with ⟨-, g2, g3⟩ | ⟨g1, -⟩
          · obtain ⟨d', rfl⟩ : ∃ d', d = d' + 1 + 1 + 1 := ⟨d - 3, by omega⟩
            have ev : ([Sum.inr (Sum.inr (k, a)), Sum.inl j] : List zU).map (z_val ad adK) = [.ref (adK a), .int (Int32.ofInt j)] := by
              show [Value.ref (cond (Nat.beq k.1 104) (adK a) (ad a)), Value.int (Int32.ofInt j)] = _
              rw [h1]; rfl
            rw [ev]
            rw [g3] at h4
            exact zj_charAt hinj hm g2 h4 h5 sz
          · exact absurd hk g1
        · exact (show 6 ≤ d ∧ False from h3).2.elim
      · exact (show 6 ≤ d ∧ False from h3).2.elim
      · exact (show 6 ≤ d ∧ False from h3).2.elim
