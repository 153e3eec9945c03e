/-! THE CONSTRUCTORS: written by gen_ctor.py -/
theorem wn_arr_int : (Cond.arrayClass Jvm.ClassFile.FieldType.int) ∈ z_tb := z_has_tb (w := some (1, 50)) (by decide +kernel) rfl
theorem wn_arr_long : (Cond.arrayClass Jvm.ClassFile.FieldType.long) ∈ z_tb := z_has_tb (w := some (1, 67)) (by decide +kernel) rfl
theorem wn_arr_boolean : (Cond.arrayClass Jvm.ClassFile.FieldType.boolean) ∈ z_tb := z_has_tb (w := some (1, 105)) (by decide +kernel) rfl
theorem wn_obj_m : Cond.instanceMethod Lib.objectInit ∈ z_tb := z_has_tb (w := some (1, 31)) (by decide +kernel) rfl
theorem wn_obj_c : Cond.code Lib.objectInit ⟨#[0xb1]⟩ 1 none ∈ z_tb := z_has_tb (w := some (1, 32)) (by decide +kernel) rfl
theorem dn_Text_0 : decode prog_9_method_1_code 0 = .ok (.aload_n 0, 1) := by decide +kernel
theorem dn_Text_1 : decode prog_9_method_1_code 1 = .ok (.invokespecial 3, 3) := by decide +kernel
theorem dn_Text_4 : decode prog_9_method_1_code 4 = .ok (.aload_n 0, 1) := by decide +kernel
theorem dn_Text_5 : decode prog_9_method_1_code 5 = .ok (.bipush 80, 2) := by decide +kernel
theorem dn_Text_7 : decode prog_9_method_1_code 7 = .ok (.newarray .int, 2) := by decide +kernel
theorem dn_Text_9 : decode prog_9_method_1_code 9 = .ok (.putfield 9, 3) := by decide +kernel
theorem dn_Text_12 : decode prog_9_method_1_code 12 = .ok (.return_, 1) := by decide +kernel
theorem wn_ol_Text : Cond.methodLink "WaterByLetters$Text" 3 Lib.objectInit ∈ z_tb := z_has_tb (w := some (1, 38)) (by decide +kernel) rfl
theorem wn_0 : (Cond.fieldLink "WaterByLetters$Text" (9 : Nat) "WaterByLetters$Text" "signs" "[I") ∈ z_tb := z_has_tb (w := some (1, 39)) (by decide +kernel) rfl
def zS_Text (S : Nat → Nat → Bool) : Nat → Nat → Bool := (zn_set S 1 0)
def zM_Text (M : zM) : zM := M
set_option maxRecDepth 20000 in
set_option maxHeartbeats 2000000 in
theorem zc_Text {l : Launch} {base : Nat} {D : va_G} {cA : Nat → ClassId} {S : Nat → Nat → Bool} {M : zM}  : zn_M l base D cA ⟨"WaterByLetters$Text", "<init>", "()V"⟩ prog_9_method_1_code 1 1 1 80 (1) (2) S M (3) (zS_Text S) (zM_Text M) := by
  refine zn_body (by decide) rfl (by decide) (fun p e s m below meth c ls cx hin hr hlocks hs0 hP hS hl => ?_)
  obtain ⟨hx, hb, -⟩ := id cx
  refine lv_aload_n hx hb dn_Text_0 rfl (lv_at hl 0 rfl) ?_
  refine zn_obj cx dn_Text_1 wn_ol_Text wn_obj_m wn_obj_c ⟨(Nat.le_of_ble_eq_true rfl), (Nat.le_of_ble_eq_true rfl)⟩ hl.1 ?_
  refine lv_aload_n hx hb dn_Text_4 rfl (lv_at hl 0 rfl) ?_
  refine lv_bipush (v := 80) hx hb dn_Text_5 (by decide) ?_
  refine zn_newI (k := 2) (N := 80) cx dn_Text_7 rfl (by decide) (by decide) (by decide) wn_arr_int (Nat.le_of_ble_eq_true rfl) (Nat.le_of_ble_eq_true rfl) hP hS (fun H hP hS => ?_)
  refine zn_putR (a := 1) (ci := 7) (j := 0) (off := 1) (k := 3) (ty := .array .int) cx dn_Text_9 (by omega) (by omega) (by decide) rfl rfl (by decide) wn_0 rfl hin rfl (by decide +kernel) (fun _ => rfl) (fun _ => rfl) rfl hP hS (fun H locs hP hS => ?_)
  exact W.vret hx hb hr (fun t ht _ => ⟨⟨rfl, by rw [ht]; exact hP⟩, hS.F ht⟩) hS.2.2 dn_Text_12 hlocks
theorem dn_Row_0 : decode prog_7_method_1_code 0 = .ok (.aload_n 0, 1) := by decide +kernel
theorem dn_Row_1 : decode prog_7_method_1_code 1 = .ok (.invokespecial 3, 3) := by decide +kernel
theorem dn_Row_4 : decode prog_7_method_1_code 4 = .ok (.aload_n 0, 1) := by decide +kernel
theorem dn_Row_5 : decode prog_7_method_1_code 5 = .ok (.bipush 8, 2) := by decide +kernel
theorem dn_Row_7 : decode prog_7_method_1_code 7 = .ok (.newarray .long, 2) := by decide +kernel
theorem dn_Row_9 : decode prog_7_method_1_code 9 = .ok (.putfield 9, 3) := by decide +kernel
theorem dn_Row_12 : decode prog_7_method_1_code 12 = .ok (.return_, 1) := by decide +kernel
theorem wn_ol_Row : Cond.methodLink "WaterByLetters$Row" 3 Lib.objectInit ∈ z_tb := z_has_tb (w := some (1, 56)) (by decide +kernel) rfl
theorem wn_1 : (Cond.fieldLink "WaterByLetters$Row" (9 : Nat) "WaterByLetters$Row" "numbers" "[J") ∈ z_tb := z_has_tb (w := some (1, 57)) (by decide +kernel) rfl
def zS_Row (S : Nat → Nat → Bool) : Nat → Nat → Bool := (zn_set S 3 0)
def zM_Row (M : zM) : zM := M
set_option maxRecDepth 20000 in
set_option maxHeartbeats 2000000 in
theorem zc_Row {l : Launch} {base : Nat} {D : va_G} {cA : Nat → ClassId} {S : Nat → Nat → Bool} {M : zM}  : zn_M l base D cA ⟨"WaterByLetters$Row", "<init>", "()V"⟩ prog_7_method_1_code 1 1 1 8 (3) (4) S M (5) (zS_Row S) (zM_Row M) := by
  refine zn_body (by decide) rfl (by decide) (fun p e s m below meth c ls cx hin hr hlocks hs0 hP hS hl => ?_)
  obtain ⟨hx, hb, -⟩ := id cx
  refine lv_aload_n hx hb dn_Row_0 rfl (lv_at hl 0 rfl) ?_
  refine zn_obj cx dn_Row_1 wn_ol_Row wn_obj_m wn_obj_c ⟨(Nat.le_of_ble_eq_true rfl), (Nat.le_of_ble_eq_true rfl)⟩ hl.1 ?_
  refine lv_aload_n hx hb dn_Row_4 rfl (lv_at hl 0 rfl) ?_
  refine lv_bipush (v := 8) hx hb dn_Row_5 (by decide) ?_
  refine zn_newL (k := 4) (N := 8) cx dn_Row_7 rfl (by decide) (by decide) (by decide) wn_arr_long (Nat.le_of_ble_eq_true rfl) (Nat.le_of_ble_eq_true rfl) hP hS (fun H hP hS => ?_)
  refine zn_putR (a := 3) (ci := 5) (j := 0) (off := 1) (k := 5) (ty := .array .long) cx dn_Row_9 (by omega) (by omega) (by decide) rfl rfl (by decide) wn_1 rfl hin rfl (by decide +kernel) (fun _ => rfl) (fun _ => rfl) rfl hP hS (fun H locs hP hS => ?_)
  exact W.vret hx hb hr (fun t ht _ => ⟨⟨rfl, by rw [ht]; exact hP⟩, hS.F ht⟩) hS.2.2 dn_Row_12 hlocks
theorem dn_Rule_0 : decode prog_8_method_1_code 0 = .ok (.aload_n 0, 1) := by decide +kernel
theorem dn_Rule_1 : decode prog_8_method_1_code 1 = .ok (.invokespecial 3, 3) := by decide +kernel
theorem dn_Rule_4 : decode prog_8_method_1_code 4 = .ok (.aload_n 0, 1) := by decide +kernel
theorem dn_Rule_5 : decode prog_8_method_1_code 5 = .ok (.bipush 40, 2) := by decide +kernel
theorem dn_Rule_7 : decode prog_8_method_1_code 7 = .ok (.newarray .int, 2) := by decide +kernel
theorem dn_Rule_9 : decode prog_8_method_1_code 9 = .ok (.putfield 9, 3) := by decide +kernel
theorem dn_Rule_12 : decode prog_8_method_1_code 12 = .ok (.aload_n 0, 1) := by decide +kernel
theorem dn_Rule_13 : decode prog_8_method_1_code 13 = .ok (.iconst 5, 1) := by decide +kernel
theorem dn_Rule_14 : decode prog_8_method_1_code 14 = .ok (.newarray .int, 2) := by decide +kernel
theorem dn_Rule_16 : decode prog_8_method_1_code 16 = .ok (.putfield 15, 3) := by decide +kernel
theorem dn_Rule_19 : decode prog_8_method_1_code 19 = .ok (.aload_n 0, 1) := by decide +kernel
theorem dn_Rule_20 : decode prog_8_method_1_code 20 = .ok (.iconst 5, 1) := by decide +kernel
theorem dn_Rule_21 : decode prog_8_method_1_code 21 = .ok (.newarray .int, 2) := by decide +kernel
theorem dn_Rule_23 : decode prog_8_method_1_code 23 = .ok (.putfield 18, 3) := by decide +kernel
theorem dn_Rule_26 : decode prog_8_method_1_code 26 = .ok (.aload_n 0, 1) := by decide +kernel
theorem dn_Rule_27 : decode prog_8_method_1_code 27 = .ok (.iconst 5, 1) := by decide +kernel
theorem dn_Rule_28 : decode prog_8_method_1_code 28 = .ok (.newarray .int, 2) := by decide +kernel
theorem dn_Rule_30 : decode prog_8_method_1_code 30 = .ok (.putfield 21, 3) := by decide +kernel
theorem dn_Rule_33 : decode prog_8_method_1_code 33 = .ok (.aload_n 0, 1) := by decide +kernel
theorem dn_Rule_34 : decode prog_8_method_1_code 34 = .ok (.iconst 5, 1) := by decide +kernel
theorem dn_Rule_35 : decode prog_8_method_1_code 35 = .ok (.newarray .int, 2) := by decide +kernel
theorem dn_Rule_37 : decode prog_8_method_1_code 37 = .ok (.putfield 24, 3) := by decide +kernel
theorem dn_Rule_40 : decode prog_8_method_1_code 40 = .ok (.aload_n 0, 1) := by decide +kernel
theorem dn_Rule_41 : decode prog_8_method_1_code 41 = .ok (.iconst 5, 1) := by decide +kernel
theorem dn_Rule_42 : decode prog_8_method_1_code 42 = .ok (.newarray .int, 2) := by decide +kernel
theorem dn_Rule_44 : decode prog_8_method_1_code 44 = .ok (.putfield 27, 3) := by decide +kernel
theorem dn_Rule_47 : decode prog_8_method_1_code 47 = .ok (.aload_n 0, 1) := by decide +kernel
theorem dn_Rule_48 : decode prog_8_method_1_code 48 = .ok (.iconst 5, 1) := by decide +kernel
theorem dn_Rule_49 : decode prog_8_method_1_code 49 = .ok (.newarray .int, 2) := by decide +kernel
theorem dn_Rule_51 : decode prog_8_method_1_code 51 = .ok (.putfield 30, 3) := by decide +kernel
theorem dn_Rule_54 : decode prog_8_method_1_code 54 = .ok (.aload_n 0, 1) := by decide +kernel
theorem dn_Rule_55 : decode prog_8_method_1_code 55 = .ok (.iconst 5, 1) := by decide +kernel
theorem dn_Rule_56 : decode prog_8_method_1_code 56 = .ok (.newarray .boolean, 2) := by decide +kernel
theorem dn_Rule_58 : decode prog_8_method_1_code 58 = .ok (.putfield 33, 3) := by decide +kernel
theorem dn_Rule_61 : decode prog_8_method_1_code 61 = .ok (.return_, 1) := by decide +kernel
theorem wn_ol_Rule : Cond.methodLink "WaterByLetters$Rule" 3 Lib.objectInit ∈ z_tb := z_has_tb (w := some (1, 73)) (by decide +kernel) rfl
theorem wn_2 : (Cond.fieldLink "WaterByLetters$Rule" (9 : Nat) "WaterByLetters$Rule" "signs" "[I") ∈ z_tb := z_has_tb (w := some (1, 74)) (by decide +kernel) rfl
theorem wn_3 : (Cond.fieldLink "WaterByLetters$Rule" (15 : Nat) "WaterByLetters$Rule" "compared" "[I") ∈ z_tb := z_has_tb (w := some (1, 76)) (by decide +kernel) rfl
theorem wn_4 : (Cond.fieldLink "WaterByLetters$Rule" (18 : Nat) "WaterByLetters$Rule" "comparisons" "[I") ∈ z_tb := z_has_tb (w := some (1, 77)) (by decide +kernel) rfl
theorem wn_5 : (Cond.fieldLink "WaterByLetters$Rule" (21 : Nat) "WaterByLetters$Rule" "sums" "[I") ∈ z_tb := z_has_tb (w := some (1, 78)) (by decide +kernel) rfl
theorem wn_6 : (Cond.fieldLink "WaterByLetters$Rule" (24 : Nat) "WaterByLetters$Rule" "addings" "[I") ∈ z_tb := z_has_tb (w := some (1, 79)) (by decide +kernel) rfl
theorem wn_7 : (Cond.fieldLink "WaterByLetters$Rule" (27 : Nat) "WaterByLetters$Rule" "products" "[I") ∈ z_tb := z_has_tb (w := some (1, 80)) (by decide +kernel) rfl
theorem wn_8 : (Cond.fieldLink "WaterByLetters$Rule" (30 : Nat) "WaterByLetters$Rule" "factorings" "[I") ∈ z_tb := z_has_tb (w := some (1, 81)) (by decide +kernel) rfl
theorem wn_9 : (Cond.fieldLink "WaterByLetters$Rule" (33 : Nat) "WaterByLetters$Rule" "negated" "[Z") ∈ z_tb := z_has_tb (w := some (1, 82)) (by decide +kernel) rfl
def zS_Rule (S : Nat → Nat → Bool) (a : Nat) : Nat → Nat → Bool := (zn_set (zn_set (zn_set (zn_set (zn_set (zn_set (zn_set (zn_set S (a) 0) (a) 2) (a) 3) (a) 4) (a) 5) (a) 6) (a) 7) (a) 8)
def zM_Rule (M : zM) (a : Nat) : zM := M
set_option maxRecDepth 20000 in
set_option maxHeartbeats 2000000 in
theorem zc_Rule {l : Launch} {base : Nat} {D : va_G} {cA : Nat → ClassId} {S : Nat → Nat → Bool} {M : zM} {a : Nat} (hk0 : z_kt[a]? = some (6, 0)) (hk1 : z_kt[a + 1]? = some (100, 40)) (hk2 : z_kt[a + 2]? = some (100, 5)) (hk3 : z_kt[a + 3]? = some (100, 5)) (hk4 : z_kt[a + 4]? = some (100, 5)) (hk5 : z_kt[a + 5]? = some (100, 5)) (hk6 : z_kt[a + 6]? = some (100, 5)) (hk7 : z_kt[a + 7]? = some (100, 5)) (hk8 : z_kt[a + 8]? = some (102, 5)) : zn_M l base D cA ⟨"WaterByLetters$Rule", "<init>", "()V"⟩ prog_8_method_1_code 1 1 8 75 (a) (a + 1) S M (a + 9) (zS_Rule S a) (zM_Rule M a) := by
  refine zn_body (by decide) rfl (by decide) (fun p e s m below meth c ls cx hin hr hlocks hs0 hP hS hl => ?_)
  obtain ⟨hx, hb, -⟩ := id cx
  refine lv_aload_n hx hb dn_Rule_0 rfl (lv_at hl 0 rfl) ?_
  refine zn_obj cx dn_Rule_1 wn_ol_Rule wn_obj_m wn_obj_c ⟨(Nat.le_of_ble_eq_true rfl), (Nat.le_of_ble_eq_true rfl)⟩ hl.1 ?_
  refine lv_aload_n hx hb dn_Rule_4 rfl (lv_at hl 0 rfl) ?_
  refine lv_bipush (v := 40) hx hb dn_Rule_5 (by decide) ?_
  refine zn_newI (k := a + 1) (N := 40) cx dn_Rule_7 hk1 (by decide) (by decide) (by decide) wn_arr_int (Nat.le_of_ble_eq_true rfl) (Nat.le_of_ble_eq_true rfl) hP hS (fun H hP hS => ?_)
  refine zn_putR (a := a) (ci := 6) (j := 0) (off := 1) (k := a + 2) (ty := .array .int) cx dn_Rule_9 (by omega) (by omega) (by decide) rfl hk0 (by decide) wn_2 rfl hin rfl (by decide +kernel) (fun _ => rfl) (fun _ => rfl) rfl hP hS (fun H locs hP hS => ?_)
  refine lv_aload_n hx hb dn_Rule_12 rfl (lv_at hl 0 rfl) ?_
  refine lv_iconst (v := 5) hx hb dn_Rule_13 (by decide) ?_
  refine zn_newI (k := a + 2) (N := 5) cx dn_Rule_14 hk2 (by decide) (by decide) (by decide) wn_arr_int (Nat.le_of_ble_eq_true rfl) (Nat.le_of_ble_eq_true rfl) hP hS (fun H hP hS => ?_)
  refine zn_putR (a := a) (ci := 6) (j := 2) (off := 2) (k := a + 3) (ty := .array .int) cx dn_Rule_16 (by omega) (by omega) (by decide) rfl hk0 (by decide) wn_3 rfl hin rfl (by decide +kernel) (fun _ => rfl) (fun _ => rfl) rfl hP hS (fun H locs hP hS => ?_)
  refine lv_aload_n hx hb dn_Rule_19 rfl (lv_at hl 0 rfl) ?_
  refine lv_iconst (v := 5) hx hb dn_Rule_20 (by decide) ?_
  refine zn_newI (k := a + 3) (N := 5) cx dn_Rule_21 hk3 (by decide) (by decide) (by decide) wn_arr_int (Nat.le_of_ble_eq_true rfl) (Nat.le_of_ble_eq_true rfl) hP hS (fun H hP hS => ?_)
  refine zn_putR (a := a) (ci := 6) (j := 3) (off := 3) (k := a + 4) (ty := .array .int) cx dn_Rule_23 (by omega) (by omega) (by decide) rfl hk0 (by decide) wn_4 rfl hin rfl (by decide +kernel) (fun _ => rfl) (fun _ => rfl) rfl hP hS (fun H locs hP hS => ?_)
  refine lv_aload_n hx hb dn_Rule_26 rfl (lv_at hl 0 rfl) ?_
  refine lv_iconst (v := 5) hx hb dn_Rule_27 (by decide) ?_
  refine zn_newI (k := a + 4) (N := 5) cx dn_Rule_28 hk4 (by decide) (by decide) (by decide) wn_arr_int (Nat.le_of_ble_eq_true rfl) (Nat.le_of_ble_eq_true rfl) hP hS (fun H hP hS => ?_)
  refine zn_putR (a := a) (ci := 6) (j := 4) (off := 4) (k := a + 5) (ty := .array .int) cx dn_Rule_30 (by omega) (by omega) (by decide) rfl hk0 (by decide) wn_5 rfl hin rfl (by decide +kernel) (fun _ => rfl) (fun _ => rfl) rfl hP hS (fun H locs hP hS => ?_)
  refine lv_aload_n hx hb dn_Rule_33 rfl (lv_at hl 0 rfl) ?_
  refine lv_iconst (v := 5) hx hb dn_Rule_34 (by decide) ?_
  refine zn_newI (k := a + 5) (N := 5) cx dn_Rule_35 hk5 (by decide) (by decide) (by decide) wn_arr_int (Nat.le_of_ble_eq_true rfl) (Nat.le_of_ble_eq_true rfl) hP hS (fun H hP hS => ?_)
  refine zn_putR (a := a) (ci := 6) (j := 5) (off := 5) (k := a + 6) (ty := .array .int) cx dn_Rule_37 (by omega) (by omega) (by decide) rfl hk0 (by decide) wn_6 rfl hin rfl (by decide +kernel) (fun _ => rfl) (fun _ => rfl) rfl hP hS (fun H locs hP hS => ?_)
  refine lv_aload_n hx hb dn_Rule_40 rfl (lv_at hl 0 rfl) ?_
  refine lv_iconst (v := 5) hx hb dn_Rule_41 (by decide) ?_
  refine zn_newI (k := a + 6) (N := 5) cx dn_Rule_42 hk6 (by decide) (by decide) (by decide) wn_arr_int (Nat.le_of_ble_eq_true rfl) (Nat.le_of_ble_eq_true rfl) hP hS (fun H hP hS => ?_)
  refine zn_putR (a := a) (ci := 6) (j := 6) (off := 6) (k := a + 7) (ty := .array .int) cx dn_Rule_44 (by omega) (by omega) (by decide) rfl hk0 (by decide) wn_7 rfl hin rfl (by decide +kernel) (fun _ => rfl) (fun _ => rfl) rfl hP hS (fun H locs hP hS => ?_)
  refine lv_aload_n hx hb dn_Rule_47 rfl (lv_at hl 0 rfl) ?_
  refine lv_iconst (v := 5) hx hb dn_Rule_48 (by decide) ?_
  refine zn_newI (k := a + 7) (N := 5) cx dn_Rule_49 hk7 (by decide) (by decide) (by decide) wn_arr_int (Nat.le_of_ble_eq_true rfl) (Nat.le_of_ble_eq_true rfl) hP hS (fun H hP hS => ?_)
  refine zn_putR (a := a) (ci := 6) (j := 7) (off := 7) (k := a + 8) (ty := .array .int) cx dn_Rule_51 (by omega) (by omega) (by decide) rfl hk0 (by decide) wn_8 rfl hin rfl (by decide +kernel) (fun _ => rfl) (fun _ => rfl) rfl hP hS (fun H locs hP hS => ?_)
  refine lv_aload_n hx hb dn_Rule_54 rfl (lv_at hl 0 rfl) ?_
  refine lv_iconst (v := 5) hx hb dn_Rule_55 (by decide) ?_
  refine zn_newZ (k := a + 8) (N := 5) cx dn_Rule_56 hk8 (by decide) (by decide) (by decide) wn_arr_boolean (Nat.le_of_ble_eq_true rfl) (Nat.le_of_ble_eq_true rfl) hP hS (fun H hP hS => ?_)
  refine zn_putR (a := a) (ci := 6) (j := 8) (off := 8) (k := a + 9) (ty := .array .boolean) cx dn_Rule_58 (by omega) (by omega) (by decide) rfl hk0 (by decide) wn_9 rfl hin rfl (by decide +kernel) (fun _ => rfl) (fun _ => rfl) rfl hP hS (fun H locs hP hS => ?_)
  exact W.vret hx hb hr (fun t ht _ => ⟨⟨rfl, by rw [ht]; exact hP⟩, hS.F ht⟩) hS.2.2 dn_Rule_61 hlocks
theorem dn_Town_0 : decode prog_11_method_1_code 0 = .ok (.aload_n 0, 1) := by decide +kernel
theorem dn_Town_1 : decode prog_11_method_1_code 1 = .ok (.invokespecial 3, 3) := by decide +kernel
theorem dn_Town_4 : decode prog_11_method_1_code 4 = .ok (.aload_n 0, 1) := by decide +kernel
theorem dn_Town_5 : decode prog_11_method_1_code 5 = .ok (.bipush 8, 2) := by decide +kernel
theorem dn_Town_7 : decode prog_11_method_1_code 7 = .ok (.newarray .int, 2) := by decide +kernel
theorem dn_Town_9 : decode prog_11_method_1_code 9 = .ok (.putfield 9, 3) := by decide +kernel
theorem dn_Town_12 : decode prog_11_method_1_code 12 = .ok (.aload_n 0, 1) := by decide +kernel
theorem dn_Town_13 : decode prog_11_method_1_code 13 = .ok (.bipush 48, 2) := by decide +kernel
theorem dn_Town_15 : decode prog_11_method_1_code 15 = .ok (.newarray .int, 2) := by decide +kernel
theorem dn_Town_17 : decode prog_11_method_1_code 17 = .ok (.putfield 15, 3) := by decide +kernel
theorem dn_Town_20 : decode prog_11_method_1_code 20 = .ok (.aload_n 0, 1) := by decide +kernel
theorem dn_Town_21 : decode prog_11_method_1_code 21 = .ok (.bipush 8, 2) := by decide +kernel
theorem dn_Town_23 : decode prog_11_method_1_code 23 = .ok (.newarray .int, 2) := by decide +kernel
theorem dn_Town_25 : decode prog_11_method_1_code 25 = .ok (.putfield 18, 3) := by decide +kernel
theorem dn_Town_28 : decode prog_11_method_1_code 28 = .ok (.aload_n 0, 1) := by decide +kernel
theorem dn_Town_29 : decode prog_11_method_1_code 29 = .ok (.bipush 8, 2) := by decide +kernel
theorem dn_Town_31 : decode prog_11_method_1_code 31 = .ok (.newarray .int, 2) := by decide +kernel
theorem dn_Town_33 : decode prog_11_method_1_code 33 = .ok (.putfield 21, 3) := by decide +kernel
theorem dn_Town_36 : decode prog_11_method_1_code 36 = .ok (.aload_n 0, 1) := by decide +kernel
theorem dn_Town_37 : decode prog_11_method_1_code 37 = .ok (.bipush 8, 2) := by decide +kernel
theorem dn_Town_39 : decode prog_11_method_1_code 39 = .ok (.newarray .int, 2) := by decide +kernel
theorem dn_Town_41 : decode prog_11_method_1_code 41 = .ok (.putfield 24, 3) := by decide +kernel
theorem dn_Town_44 : decode prog_11_method_1_code 44 = .ok (.iconst 0, 1) := by decide +kernel
theorem dn_Town_45 : decode prog_11_method_1_code 45 = .ok (.istore_n 1, 1) := by decide +kernel
theorem dn_Town_46 : decode prog_11_method_1_code 46 = .ok (.iload_n 1, 1) := by decide +kernel
theorem dn_Town_47 : decode prog_11_method_1_code 47 = .ok (.bipush 8, 2) := by decide +kernel
theorem dn_Town_49 : decode prog_11_method_1_code 49 = .ok (.if_icmp .ge 16, 3) := by decide +kernel
theorem dn_Town_52 : decode prog_11_method_1_code 52 = .ok (.aload_n 0, 1) := by decide +kernel
theorem dn_Town_53 : decode prog_11_method_1_code 53 = .ok (.getfield 9, 3) := by decide +kernel
theorem dn_Town_56 : decode prog_11_method_1_code 56 = .ok (.iload_n 1, 1) := by decide +kernel
theorem dn_Town_57 : decode prog_11_method_1_code 57 = .ok (.iload_n 1, 1) := by decide +kernel
theorem dn_Town_58 : decode prog_11_method_1_code 58 = .ok (.iastore, 1) := by decide +kernel
theorem dn_Town_59 : decode prog_11_method_1_code 59 = .ok (.iinc 1 1, 3) := by decide +kernel
theorem dn_Town_62 : decode prog_11_method_1_code 62 = .ok (.goto (-16), 3) := by decide +kernel
theorem dn_Town_65 : decode prog_11_method_1_code 65 = .ok (.return_, 1) := by decide +kernel
theorem wn_ol_Town : Cond.methodLink "WaterByLetters$Town" 3 Lib.objectInit ∈ z_tb := z_has_tb (w := some (1, 111)) (by decide +kernel) rfl
theorem wn_10 : (Cond.fieldLink "WaterByLetters$Town" (9 : Nat) "WaterByLetters$Town" "order" "[I") ∈ z_tb := z_has_tb (w := some (1, 112)) (by decide +kernel) rfl
theorem wn_11 : (Cond.fieldLink "WaterByLetters$Town" (15 : Nat) "WaterByLetters$Town" "names" "[I") ∈ z_tb := z_has_tb (w := some (1, 115)) (by decide +kernel) rfl
theorem wn_12 : (Cond.fieldLink "WaterByLetters$Town" (18 : Nat) "WaterByLetters$Town" "lengths" "[I") ∈ z_tb := z_has_tb (w := some (1, 116)) (by decide +kernel) rfl
theorem wn_13 : (Cond.fieldLink "WaterByLetters$Town" (21 : Nat) "WaterByLetters$Town" "dry" "[I") ∈ z_tb := z_has_tb (w := some (1, 118)) (by decide +kernel) rfl
theorem wn_14 : (Cond.fieldLink "WaterByLetters$Town" (24 : Nat) "WaterByLetters$Town" "had" "[I") ∈ z_tb := z_has_tb (w := some (1, 121)) (by decide +kernel) rfl
def zS_Town (S : Nat → Nat → Bool) (a : Nat) : Nat → Nat → Bool := (zn_set (zn_set (zn_set (zn_set (zn_set S (a) 0) (a) 1) (a) 2) (a) 3) (a) 4)
def zM_Town (M : zM) (a : Nat) : zM := (zn_idm M (a + 1) 8)
set_option maxRecDepth 20000 in
set_option maxHeartbeats 2000000 in
theorem zc_Town {l : Launch} {base : Nat} {D : va_G} {cA : Nat → ClassId} {S : Nat → Nat → Bool} {M : zM} {a : Nat} (hk0 : z_kt[a]? = some (9, 0)) (hk1 : z_kt[a + 1]? = some (100, 8)) (hk2 : z_kt[a + 2]? = some (100, 48)) (hk3 : z_kt[a + 3]? = some (100, 8)) (hk4 : z_kt[a + 4]? = some (100, 8)) (hk5 : z_kt[a + 5]? = some (100, 8)) : zn_M l base D cA ⟨"WaterByLetters$Town", "<init>", "()V"⟩ prog_11_method_1_code 2 1 5 80 (a) (a + 1) S M (a + 6) (zS_Town S a) (zM_Town M a) := by
  refine zn_body (by decide) rfl (by decide) (fun p e s m below meth c ls cx hin hr hlocks hs0 hP hS hl => ?_)
  obtain ⟨hx, hb, -⟩ := id cx
  refine lv_aload_n hx hb dn_Town_0 rfl (lv_at hl 0 rfl) ?_
  refine zn_obj cx dn_Town_1 wn_ol_Town wn_obj_m wn_obj_c ⟨(Nat.le_of_ble_eq_true rfl), (Nat.le_of_ble_eq_true rfl)⟩ hl.1 ?_
  refine lv_aload_n hx hb dn_Town_4 rfl (lv_at hl 0 rfl) ?_
  refine lv_bipush (v := 8) hx hb dn_Town_5 (by decide) ?_
  refine zn_newI (k := a + 1) (N := 8) cx dn_Town_7 hk1 (by decide) (by decide) (by decide) wn_arr_int (Nat.le_of_ble_eq_true rfl) (Nat.le_of_ble_eq_true rfl) hP hS (fun H hP hS => ?_)
  refine zn_putR (a := a) (ci := 9) (j := 0) (off := 1) (k := a + 2) (ty := .array .int) cx dn_Town_9 (by omega) (by omega) (by decide) rfl hk0 (by decide) wn_10 rfl hin rfl (by decide +kernel) (fun _ => rfl) (fun _ => rfl) rfl hP hS (fun H locs hP hS => ?_)
  refine lv_aload_n hx hb dn_Town_12 rfl (lv_at hl 0 rfl) ?_
  refine lv_bipush (v := 48) hx hb dn_Town_13 (by decide) ?_
  refine zn_newI (k := a + 2) (N := 48) cx dn_Town_15 hk2 (by decide) (by decide) (by decide) wn_arr_int (Nat.le_of_ble_eq_true rfl) (Nat.le_of_ble_eq_true rfl) hP hS (fun H hP hS => ?_)
  refine zn_putR (a := a) (ci := 9) (j := 1) (off := 2) (k := a + 3) (ty := .array .int) cx dn_Town_17 (by omega) (by omega) (by decide) rfl hk0 (by decide) wn_11 rfl hin rfl (by decide +kernel) (fun _ => rfl) (fun _ => rfl) rfl hP hS (fun H locs hP hS => ?_)
  refine lv_aload_n hx hb dn_Town_20 rfl (lv_at hl 0 rfl) ?_
  refine lv_bipush (v := 8) hx hb dn_Town_21 (by decide) ?_
  refine zn_newI (k := a + 3) (N := 8) cx dn_Town_23 hk3 (by decide) (by decide) (by decide) wn_arr_int (Nat.le_of_ble_eq_true rfl) (Nat.le_of_ble_eq_true rfl) hP hS (fun H hP hS => ?_)
  refine zn_putR (a := a) (ci := 9) (j := 2) (off := 3) (k := a + 4) (ty := .array .int) cx dn_Town_25 (by omega) (by omega) (by decide) rfl hk0 (by decide) wn_12 rfl hin rfl (by decide +kernel) (fun _ => rfl) (fun _ => rfl) rfl hP hS (fun H locs hP hS => ?_)
  refine lv_aload_n hx hb dn_Town_28 rfl (lv_at hl 0 rfl) ?_
  refine lv_bipush (v := 8) hx hb dn_Town_29 (by decide) ?_
  refine zn_newI (k := a + 4) (N := 8) cx dn_Town_31 hk4 (by decide) (by decide) (by decide) wn_arr_int (Nat.le_of_ble_eq_true rfl) (Nat.le_of_ble_eq_true rfl) hP hS (fun H hP hS => ?_)
  refine zn_putR (a := a) (ci := 9) (j := 3) (off := 4) (k := a + 5) (ty := .array .int) cx dn_Town_33 (by omega) (by omega) (by decide) rfl hk0 (by decide) wn_13 rfl hin rfl (by decide +kernel) (fun _ => rfl) (fun _ => rfl) rfl hP hS (fun H locs hP hS => ?_)
  refine lv_aload_n hx hb dn_Town_36 rfl (lv_at hl 0 rfl) ?_
  refine lv_bipush (v := 8) hx hb dn_Town_37 (by decide) ?_
  refine zn_newI (k := a + 5) (N := 8) cx dn_Town_39 hk5 (by decide) (by decide) (by decide) wn_arr_int (Nat.le_of_ble_eq_true rfl) (Nat.le_of_ble_eq_true rfl) hP hS (fun H hP hS => ?_)
  refine zn_putR (a := a) (ci := 9) (j := 4) (off := 5) (k := a + 6) (ty := .array .int) cx dn_Town_41 (by omega) (by omega) (by decide) rfl hk0 (by decide) wn_14 rfl hin rfl (by decide +kernel) (fun _ => rfl) (fun _ => rfl) rfl hP hS (fun H locs hP hS => ?_)
  refine lv_iconst (v := 0) hx hb dn_Town_44 (by decide) ?_
  refine lv_istore_n (lv' := [(1, .int (nI 0)), (0, .ref (base + (a)))]) hx hb dn_Town_45 rfl hl (by decide) rfl (fun ls hl => ?_)
  suffices loop : ∀ (n i : Nat), i + n = 8 → ∀ (H : Heap) (locs : List Loc) (ls : Array Slot), zn_P base D cA (zn_set (zn_set (zn_set (zn_set (zn_set S (a) 0) (a) 1) (a) 2) (a) 3) (a) 4) (zn_idm M (a + 1) i) (a + 6) H → va_S (fun q => base ≤ q) s.heap H locs → lv_has ls 2 [(1, .int (nI i)), (0, .ref (base + (a)))] → W p l e (zn_rm 1 5 80) s m #[.ref (base + (a))] below meth c H locs 5 80 (MQ below (zn_Q base D cA (a + 6) (zn_set (zn_set (zn_set (zn_set (zn_set S (a) 0) (a) 1) (a) 2) (a) 3) (a) 4) (zn_idm M (a + 1) 8)) #[.ref (base + (a))] s 5 80 (fun q => base ≤ q)) (F0 m 46 ls []) from zn_cs rfl rfl (loop 8 0 rfl H locs ls hP hS hl)
  intro n
  induction n with
  | zero =>
    intro i hi H locs ls hP hS hl
    obtain rfl : i = 8 := by omega
    refine lv_iload_n hx hb dn_Town_46 rfl (lv_at hl 0 rfl) ?_
    refine lv_bipush (v := nI 8) hx hb dn_Town_47 (by decide) ?_
    refine lv_icmp_ge (tgt := 65) hx hb dn_Town_49 (by decide) (fun _ => ?_) (fun h => absurd (nI_le (Nat.le_refl 8) (by decide)) h)
    exact W.vret hx hb hr (fun t ht _ => ⟨⟨rfl, by rw [ht]; exact hP⟩, hS.F ht⟩) hS.2.2 dn_Town_65 hlocks
  | succ n ih =>
    intro i hi H locs ls hP hS hl
    refine lv_iload_n hx hb dn_Town_46 rfl (lv_at hl 0 rfl) ?_
    refine lv_bipush (v := nI 8) hx hb dn_Town_47 (by decide) ?_
    refine lv_icmp_ge (tgt := 65) hx hb dn_Town_49 (by decide) (fun h => absurd h (nI_ge (by omega) (by decide))) (fun _ => ?_)
    refine lv_aload_n hx hb dn_Town_52 rfl (lv_at hl 1 rfl) ?_
    refine zn_getR (a := a) (ci := 9) (j := 0) (off := 1) (k := a + 6) cx dn_Town_53 (by omega) (by decide) rfl hk0 (by decide) wn_10 rfl (by simp [zn_set]) hP ?_
    refine lv_iload_n hx hb dn_Town_56 rfl (lv_at hl 0 rfl) ?_
    refine lv_iload_n hx hb dn_Town_57 rfl (lv_at hl 0 rfl) ?_
    refine zn_iast (a := a + 1) (N := 8) (i := i) (v := (i : Int)) (k := a + 6) cx dn_Town_58 (by omega) (by omega) hk1 (by omega) (by decide) hP hS (fun H locs hP hS => ?_)
    refine lv_iinc (v := nI (i + 1)) (lv' := [(1, .int (nI (i + 1))), (0, .ref (base + (a)))]) hx hb dn_Town_59 hl (k := 0) rfl (by rw [nI_succ]; rfl) (by decide) rfl (fun ls hl => ?_)
    refine lv_goto (tgt := 46) hx hb dn_Town_62 (by decide) ?_
    exact ih (i + 1) (by omega) H locs ls hP hS hl
theorem dn_Book_0 : decode prog_2_method_1_code 0 = .ok (.aload_n 0, 1) := by decide +kernel
theorem dn_Book_1 : decode prog_2_method_1_code 1 = .ok (.invokespecial 3, 3) := by decide +kernel
theorem dn_Book_4 : decode prog_2_method_1_code 4 = .ok (.aload_n 0, 1) := by decide +kernel
theorem dn_Book_5 : decode prog_2_method_1_code 5 = .ok (.bipush 8, 2) := by decide +kernel
theorem dn_Book_7 : decode prog_2_method_1_code 7 = .ok (.newarray .int, 2) := by decide +kernel
theorem dn_Book_9 : decode prog_2_method_1_code 9 = .ok (.putfield 9, 3) := by decide +kernel
theorem dn_Book_12 : decode prog_2_method_1_code 12 = .ok (.aload_n 0, 1) := by decide +kernel
theorem dn_Book_13 : decode prog_2_method_1_code 13 = .ok (.bipush 8, 2) := by decide +kernel
theorem dn_Book_15 : decode prog_2_method_1_code 15 = .ok (.newarray .int, 2) := by decide +kernel
theorem dn_Book_17 : decode prog_2_method_1_code 17 = .ok (.putfield 15, 3) := by decide +kernel
theorem dn_Book_20 : decode prog_2_method_1_code 20 = .ok (.aload_n 0, 1) := by decide +kernel
theorem dn_Book_21 : decode prog_2_method_1_code 21 = .ok (.bipush 8, 2) := by decide +kernel
theorem dn_Book_23 : decode prog_2_method_1_code 23 = .ok (.newarray .int, 2) := by decide +kernel
theorem dn_Book_25 : decode prog_2_method_1_code 25 = .ok (.putfield 18, 3) := by decide +kernel
theorem dn_Book_28 : decode prog_2_method_1_code 28 = .ok (.aload_n 0, 1) := by decide +kernel
theorem dn_Book_29 : decode prog_2_method_1_code 29 = .ok (.bipush 8, 2) := by decide +kernel
theorem dn_Book_31 : decode prog_2_method_1_code 31 = .ok (.newarray .int, 2) := by decide +kernel
theorem dn_Book_33 : decode prog_2_method_1_code 33 = .ok (.putfield 21, 3) := by decide +kernel
theorem dn_Book_36 : decode prog_2_method_1_code 36 = .ok (.return_, 1) := by decide +kernel
theorem wn_ol_Book : Cond.methodLink "WaterByLetters$Book" 3 Lib.objectInit ∈ z_tb := z_has_tb (w := some (1, 153)) (by decide +kernel) rfl
theorem wn_15 : (Cond.fieldLink "WaterByLetters$Book" (9 : Nat) "WaterByLetters$Book" "turn" "[I") ∈ z_tb := z_has_tb (w := some (1, 154)) (by decide +kernel) rfl
theorem wn_16 : (Cond.fieldLink "WaterByLetters$Book" (15 : Nat) "WaterByLetters$Book" "places" "[I") ∈ z_tb := z_has_tb (w := some (1, 157)) (by decide +kernel) rfl
theorem wn_17 : (Cond.fieldLink "WaterByLetters$Book" (18 : Nat) "WaterByLetters$Book" "keys" "[I") ∈ z_tb := z_has_tb (w := some (1, 160)) (by decide +kernel) rfl
theorem wn_18 : (Cond.fieldLink "WaterByLetters$Book" (21 : Nat) "WaterByLetters$Book" "ranks" "[I") ∈ z_tb := z_has_tb (w := some (1, 162)) (by decide +kernel) rfl
def zS_Book (S : Nat → Nat → Bool) (a : Nat) : Nat → Nat → Bool := (zn_set (zn_set (zn_set (zn_set S (a) 0) (a) 1) (a) 2) (a) 3)
def zM_Book (M : zM) (a : Nat) : zM := M
set_option maxRecDepth 20000 in
set_option maxHeartbeats 2000000 in
theorem zc_Book {l : Launch} {base : Nat} {D : va_G} {cA : Nat → ClassId} {S : Nat → Nat → Bool} {M : zM} {a : Nat} (hk0 : z_kt[a]? = some (0, 0)) (hk1 : z_kt[a + 1]? = some (100, 8)) (hk2 : z_kt[a + 2]? = some (100, 8)) (hk3 : z_kt[a + 3]? = some (100, 8)) (hk4 : z_kt[a + 4]? = some (100, 8)) : zn_M l base D cA ⟨"WaterByLetters$Book", "<init>", "()V"⟩ prog_2_method_1_code 1 1 4 32 (a) (a + 1) S M (a + 5) (zS_Book S a) (zM_Book M a) := by
  refine zn_body (by decide) rfl (by decide) (fun p e s m below meth c ls cx hin hr hlocks hs0 hP hS hl => ?_)
  obtain ⟨hx, hb, -⟩ := id cx
  refine lv_aload_n hx hb dn_Book_0 rfl (lv_at hl 0 rfl) ?_
  refine zn_obj cx dn_Book_1 wn_ol_Book wn_obj_m wn_obj_c ⟨(Nat.le_of_ble_eq_true rfl), (Nat.le_of_ble_eq_true rfl)⟩ hl.1 ?_
  refine lv_aload_n hx hb dn_Book_4 rfl (lv_at hl 0 rfl) ?_
  refine lv_bipush (v := 8) hx hb dn_Book_5 (by decide) ?_
  refine zn_newI (k := a + 1) (N := 8) cx dn_Book_7 hk1 (by decide) (by decide) (by decide) wn_arr_int (Nat.le_of_ble_eq_true rfl) (Nat.le_of_ble_eq_true rfl) hP hS (fun H hP hS => ?_)
  refine zn_putR (a := a) (ci := 0) (j := 0) (off := 1) (k := a + 2) (ty := .array .int) cx dn_Book_9 (by omega) (by omega) (by decide) rfl hk0 (by decide) wn_15 rfl hin rfl (by decide +kernel) (fun _ => rfl) (fun _ => rfl) rfl hP hS (fun H locs hP hS => ?_)
  refine lv_aload_n hx hb dn_Book_12 rfl (lv_at hl 0 rfl) ?_
  refine lv_bipush (v := 8) hx hb dn_Book_13 (by decide) ?_
  refine zn_newI (k := a + 2) (N := 8) cx dn_Book_15 hk2 (by decide) (by decide) (by decide) wn_arr_int (Nat.le_of_ble_eq_true rfl) (Nat.le_of_ble_eq_true rfl) hP hS (fun H hP hS => ?_)
  refine zn_putR (a := a) (ci := 0) (j := 1) (off := 2) (k := a + 3) (ty := .array .int) cx dn_Book_17 (by omega) (by omega) (by decide) rfl hk0 (by decide) wn_16 rfl hin rfl (by decide +kernel) (fun _ => rfl) (fun _ => rfl) rfl hP hS (fun H locs hP hS => ?_)
  refine lv_aload_n hx hb dn_Book_20 rfl (lv_at hl 0 rfl) ?_
  refine lv_bipush (v := 8) hx hb dn_Book_21 (by decide) ?_
  refine zn_newI (k := a + 3) (N := 8) cx dn_Book_23 hk3 (by decide) (by decide) (by decide) wn_arr_int (Nat.le_of_ble_eq_true rfl) (Nat.le_of_ble_eq_true rfl) hP hS (fun H hP hS => ?_)
  refine zn_putR (a := a) (ci := 0) (j := 2) (off := 3) (k := a + 4) (ty := .array .int) cx dn_Book_25 (by omega) (by omega) (by decide) rfl hk0 (by decide) wn_17 rfl hin rfl (by decide +kernel) (fun _ => rfl) (fun _ => rfl) rfl hP hS (fun H locs hP hS => ?_)
  refine lv_aload_n hx hb dn_Book_28 rfl (lv_at hl 0 rfl) ?_
  refine lv_bipush (v := 8) hx hb dn_Book_29 (by decide) ?_
  refine zn_newI (k := a + 4) (N := 8) cx dn_Book_31 hk4 (by decide) (by decide) (by decide) wn_arr_int (Nat.le_of_ble_eq_true rfl) (Nat.le_of_ble_eq_true rfl) hP hS (fun H hP hS => ?_)
  refine zn_putR (a := a) (ci := 0) (j := 3) (off := 4) (k := a + 5) (ty := .array .int) cx dn_Book_33 (by omega) (by omega) (by decide) rfl hk0 (by decide) wn_18 rfl hin rfl (by decide +kernel) (fun _ => rfl) (fun _ => rfl) rfl hP hS (fun H locs hP hS => ?_)
  exact W.vret hx hb hr (fun t ht _ => ⟨⟨rfl, by rw [ht]; exact hP⟩, hS.F ht⟩) hS.2.2 dn_Book_36 hlocks
theorem dn_Pump_0 : decode prog_6_method_1_code 0 = .ok (.aload_n 0, 1) := by decide +kernel
theorem dn_Pump_1 : decode prog_6_method_1_code 1 = .ok (.invokespecial 3, 3) := by decide +kernel
theorem dn_Pump_4 : decode prog_6_method_1_code 4 = .ok (.aload_n 0, 1) := by decide +kernel
theorem dn_Pump_5 : decode prog_6_method_1_code 5 = .ok (.bipush 8, 2) := by decide +kernel
theorem dn_Pump_7 : decode prog_6_method_1_code 7 = .ok (.newarray .int, 2) := by decide +kernel
theorem dn_Pump_9 : decode prog_6_method_1_code 9 = .ok (.putfield 9, 3) := by decide +kernel
theorem dn_Pump_12 : decode prog_6_method_1_code 12 = .ok (.aload_n 0, 1) := by decide +kernel
theorem dn_Pump_13 : decode prog_6_method_1_code 13 = .ok (.bipush 20, 2) := by decide +kernel
theorem dn_Pump_15 : decode prog_6_method_1_code 15 = .ok (.newarray .int, 2) := by decide +kernel
theorem dn_Pump_17 : decode prog_6_method_1_code 17 = .ok (.putfield 15, 3) := by decide +kernel
theorem dn_Pump_20 : decode prog_6_method_1_code 20 = .ok (.aload_n 0, 1) := by decide +kernel
theorem dn_Pump_21 : decode prog_6_method_1_code 21 = .ok (.iconst 1, 1) := by decide +kernel
theorem dn_Pump_22 : decode prog_6_method_1_code 22 = .ok (.putfield 18, 3) := by decide +kernel
theorem dn_Pump_25 : decode prog_6_method_1_code 25 = .ok (.aload_n 0, 1) := by decide +kernel
theorem dn_Pump_26 : decode prog_6_method_1_code 26 = .ok (.bipush 8, 2) := by decide +kernel
theorem dn_Pump_28 : decode prog_6_method_1_code 28 = .ok (.newarray .int, 2) := by decide +kernel
theorem dn_Pump_30 : decode prog_6_method_1_code 30 = .ok (.putfield 22, 3) := by decide +kernel
theorem dn_Pump_33 : decode prog_6_method_1_code 33 = .ok (.return_, 1) := by decide +kernel
theorem wn_ol_Pump : Cond.methodLink "WaterByLetters$Pump" 3 Lib.objectInit ∈ z_tb := z_has_tb (w := some (1, 182)) (by decide +kernel) rfl
theorem wn_19 : (Cond.fieldLink "WaterByLetters$Pump" (9 : Nat) "WaterByLetters$Pump" "thirst" "[I") ∈ z_tb := z_has_tb (w := some (1, 183)) (by decide +kernel) rfl
theorem wn_20 : (Cond.fieldLink "WaterByLetters$Pump" (15 : Nat) "WaterByLetters$Pump" "heat" "[I") ∈ z_tb := z_has_tb (w := some (1, 186)) (by decide +kernel) rfl
theorem wn_21 : (Cond.fieldLink "WaterByLetters$Pump" (18 : Nat) "WaterByLetters$Pump" "heatLength" "I") ∈ z_tb := z_has_tb (w := some (1, 187)) (by decide +kernel) rfl
theorem wn_22 : (Cond.fieldLink "WaterByLetters$Pump" (22 : Nat) "WaterByLetters$Pump" "cups" "[I") ∈ z_tb := z_has_tb (w := some (1, 189)) (by decide +kernel) rfl
def zS_Pump (S : Nat → Nat → Bool) : Nat → Nat → Bool := (zn_set (zn_set (zn_set S 45 0) 45 1) 45 3)
def zM_Pump (M : zM) : zM := (z_up M 45 2 1)
set_option maxRecDepth 20000 in
set_option maxHeartbeats 2000000 in
theorem zc_Pump {l : Launch} {base : Nat} {D : va_G} {cA : Nat → ClassId} {S : Nat → Nat → Bool} {M : zM}  : zn_M l base D cA ⟨"WaterByLetters$Pump", "<init>", "()V"⟩ prog_6_method_1_code 1 1 3 36 (45) (46) S M (49) (zS_Pump S) (zM_Pump M) := by
  refine zn_body (by decide) rfl (by decide) (fun p e s m below meth c ls cx hin hr hlocks hs0 hP hS hl => ?_)
  obtain ⟨hx, hb, -⟩ := id cx
  refine lv_aload_n hx hb dn_Pump_0 rfl (lv_at hl 0 rfl) ?_
  refine zn_obj cx dn_Pump_1 wn_ol_Pump wn_obj_m wn_obj_c ⟨(Nat.le_of_ble_eq_true rfl), (Nat.le_of_ble_eq_true rfl)⟩ hl.1 ?_
  refine lv_aload_n hx hb dn_Pump_4 rfl (lv_at hl 0 rfl) ?_
  refine lv_bipush (v := 8) hx hb dn_Pump_5 (by decide) ?_
  refine zn_newI (k := 46) (N := 8) cx dn_Pump_7 rfl (by decide) (by decide) (by decide) wn_arr_int (Nat.le_of_ble_eq_true rfl) (Nat.le_of_ble_eq_true rfl) hP hS (fun H hP hS => ?_)
  refine zn_putR (a := 45) (ci := 4) (j := 0) (off := 1) (k := 47) (ty := .array .int) cx dn_Pump_9 (by omega) (by omega) (by decide) rfl rfl (by decide) wn_19 rfl hin rfl (by decide +kernel) (fun _ => rfl) (fun _ => rfl) rfl hP hS (fun H locs hP hS => ?_)
  refine lv_aload_n hx hb dn_Pump_12 rfl (lv_at hl 0 rfl) ?_
  refine lv_bipush (v := 20) hx hb dn_Pump_13 (by decide) ?_
  refine zn_newI (k := 47) (N := 20) cx dn_Pump_15 rfl (by decide) (by decide) (by decide) wn_arr_int (Nat.le_of_ble_eq_true rfl) (Nat.le_of_ble_eq_true rfl) hP hS (fun H hP hS => ?_)
  refine zn_putR (a := 45) (ci := 4) (j := 1) (off := 2) (k := 48) (ty := .array .int) cx dn_Pump_17 (by omega) (by omega) (by decide) rfl rfl (by decide) wn_20 rfl hin rfl (by decide +kernel) (fun _ => rfl) (fun _ => rfl) rfl hP hS (fun H locs hP hS => ?_)
  refine lv_aload_n hx hb dn_Pump_20 rfl (lv_at hl 0 rfl) ?_
  refine lv_iconst (v := Int32.ofInt 1) hx hb dn_Pump_21 (by decide) ?_
  refine zn_putI (a := 45) (ci := 4) (j := 2) (v := 1) (k := 48) cx dn_Pump_22 (by omega) (by omega) (by decide) rfl rfl (by decide) wn_21 rfl (by decide +kernel) rfl rfl hP hS (fun H locs hP hS => ?_)
  refine lv_aload_n hx hb dn_Pump_25 rfl (lv_at hl 0 rfl) ?_
  refine lv_bipush (v := 8) hx hb dn_Pump_26 (by decide) ?_
  refine zn_newI (k := 48) (N := 8) cx dn_Pump_28 rfl (by decide) (by decide) (by decide) wn_arr_int (Nat.le_of_ble_eq_true rfl) (Nat.le_of_ble_eq_true rfl) hP hS (fun H hP hS => ?_)
  refine zn_putR (a := 45) (ci := 4) (j := 3) (off := 3) (k := 49) (ty := .array .int) cx dn_Pump_30 (by omega) (by omega) (by decide) rfl rfl (by decide) wn_22 rfl hin rfl (by decide +kernel) (fun _ => rfl) (fun _ => rfl) rfl hP hS (fun H locs hP hS => ?_)
  exact W.vret hx hb hr (fun t ht _ => ⟨⟨rfl, by rw [ht]; exact hP⟩, hS.F ht⟩) hS.2.2 dn_Pump_33 hlocks
theorem dn_Orders_0 : decode prog_4_method_1_code 0 = .ok (.aload_n 0, 1) := by decide +kernel
theorem dn_Orders_1 : decode prog_4_method_1_code 1 = .ok (.invokespecial 3, 3) := by decide +kernel
theorem dn_Orders_4 : decode prog_4_method_1_code 4 = .ok (.aload_n 0, 1) := by decide +kernel
theorem dn_Orders_5 : decode prog_4_method_1_code 5 = .ok (.bipush 64, 2) := by decide +kernel
theorem dn_Orders_7 : decode prog_4_method_1_code 7 = .ok (.newarray .int, 2) := by decide +kernel
theorem dn_Orders_9 : decode prog_4_method_1_code 9 = .ok (.putfield 9, 3) := by decide +kernel
theorem dn_Orders_12 : decode prog_4_method_1_code 12 = .ok (.aload_n 0, 1) := by decide +kernel
theorem dn_Orders_13 : decode prog_4_method_1_code 13 = .ok (.bipush 8, 2) := by decide +kernel
theorem dn_Orders_15 : decode prog_4_method_1_code 15 = .ok (.newarray .int, 2) := by decide +kernel
theorem dn_Orders_17 : decode prog_4_method_1_code 17 = .ok (.putfield 15, 3) := by decide +kernel
theorem dn_Orders_20 : decode prog_4_method_1_code 20 = .ok (.aload_n 0, 1) := by decide +kernel
theorem dn_Orders_21 : decode prog_4_method_1_code 21 = .ok (.sipush 256, 3) := by decide +kernel
theorem dn_Orders_24 : decode prog_4_method_1_code 24 = .ok (.newarray .int, 2) := by decide +kernel
theorem dn_Orders_26 : decode prog_4_method_1_code 26 = .ok (.putfield 18, 3) := by decide +kernel
theorem dn_Orders_29 : decode prog_4_method_1_code 29 = .ok (.aload_n 0, 1) := by decide +kernel
theorem dn_Orders_30 : decode prog_4_method_1_code 30 = .ok (.bipush 8, 2) := by decide +kernel
theorem dn_Orders_32 : decode prog_4_method_1_code 32 = .ok (.newarray .int, 2) := by decide +kernel
theorem dn_Orders_34 : decode prog_4_method_1_code 34 = .ok (.putfield 21, 3) := by decide +kernel
theorem dn_Orders_37 : decode prog_4_method_1_code 37 = .ok (.aload_n 0, 1) := by decide +kernel
theorem dn_Orders_38 : decode prog_4_method_1_code 38 = .ok (.sipush 256, 3) := by decide +kernel
theorem dn_Orders_41 : decode prog_4_method_1_code 41 = .ok (.newarray .int, 2) := by decide +kernel
theorem dn_Orders_43 : decode prog_4_method_1_code 43 = .ok (.putfield 24, 3) := by decide +kernel
theorem dn_Orders_46 : decode prog_4_method_1_code 46 = .ok (.aload_n 0, 1) := by decide +kernel
theorem dn_Orders_47 : decode prog_4_method_1_code 47 = .ok (.sipush 256, 3) := by decide +kernel
theorem dn_Orders_50 : decode prog_4_method_1_code 50 = .ok (.newarray .int, 2) := by decide +kernel
theorem dn_Orders_52 : decode prog_4_method_1_code 52 = .ok (.putfield 27, 3) := by decide +kernel
theorem dn_Orders_55 : decode prog_4_method_1_code 55 = .ok (.return_, 1) := by decide +kernel
theorem wn_ol_Orders : Cond.methodLink "WaterByLetters$Orders" 3 Lib.objectInit ∈ z_tb := z_has_tb (w := some (2, 0)) (by decide +kernel) rfl
theorem wn_23 : (Cond.fieldLink "WaterByLetters$Orders" (9 : Nat) "WaterByLetters$Orders" "losses" "[I") ∈ z_tb := z_has_tb (w := some (2, 1)) (by decide +kernel) rfl
theorem wn_24 : (Cond.fieldLink "WaterByLetters$Orders" (15 : Nat) "WaterByLetters$Orders" "losers" "[I") ∈ z_tb := z_has_tb (w := some (2, 2)) (by decide +kernel) rfl
theorem wn_25 : (Cond.fieldLink "WaterByLetters$Orders" (18 : Nat) "WaterByLetters$Orders" "least" "[I") ∈ z_tb := z_has_tb (w := some (2, 3)) (by decide +kernel) rfl
theorem wn_26 : (Cond.fieldLink "WaterByLetters$Orders" (21 : Nat) "WaterByLetters$Orders" "demands" "[I") ∈ z_tb := z_has_tb (w := some (2, 4)) (by decide +kernel) rfl
theorem wn_27 : (Cond.fieldLink "WaterByLetters$Orders" (24 : Nat) "WaterByLetters$Orders" "beginnings" "[I") ∈ z_tb := z_has_tb (w := some (2, 6)) (by decide +kernel) rfl
theorem wn_28 : (Cond.fieldLink "WaterByLetters$Orders" (27 : Nat) "WaterByLetters$Orders" "endings" "[I") ∈ z_tb := z_has_tb (w := some (2, 7)) (by decide +kernel) rfl
def zS_Orders (S : Nat → Nat → Bool) : Nat → Nat → Bool := (zn_set (zn_set (zn_set (zn_set (zn_set (zn_set S 144 0) 144 1) 144 2) 144 3) 144 5) 144 6)
def zM_Orders (M : zM) : zM := M
set_option maxRecDepth 20000 in
set_option maxHeartbeats 2000000 in
theorem zc_Orders {l : Launch} {base : Nat} {D : va_G} {cA : Nat → ClassId} {S : Nat → Nat → Bool} {M : zM}  : zn_M l base D cA ⟨"WaterByLetters$Orders", "<init>", "()V"⟩ prog_4_method_1_code 1 1 6 848 (144) (145) S M (151) (zS_Orders S) (zM_Orders M) := by
  refine zn_body (by decide) rfl (by decide) (fun p e s m below meth c ls cx hin hr hlocks hs0 hP hS hl => ?_)
  obtain ⟨hx, hb, -⟩ := id cx
  refine lv_aload_n hx hb dn_Orders_0 rfl (lv_at hl 0 rfl) ?_
  refine zn_obj cx dn_Orders_1 wn_ol_Orders wn_obj_m wn_obj_c ⟨(Nat.le_of_ble_eq_true rfl), (Nat.le_of_ble_eq_true rfl)⟩ hl.1 ?_
  refine lv_aload_n hx hb dn_Orders_4 rfl (lv_at hl 0 rfl) ?_
  refine lv_bipush (v := 64) hx hb dn_Orders_5 (by decide) ?_
  refine zn_newI (k := 145) (N := 64) cx dn_Orders_7 rfl (by decide) (by decide) (by decide) wn_arr_int (Nat.le_of_ble_eq_true rfl) (Nat.le_of_ble_eq_true rfl) hP hS (fun H hP hS => ?_)
  refine zn_putR (a := 144) (ci := 2) (j := 0) (off := 1) (k := 146) (ty := .array .int) cx dn_Orders_9 (by omega) (by omega) (by decide) rfl rfl (by decide) wn_23 rfl hin rfl (by decide +kernel) (fun _ => rfl) (fun _ => rfl) rfl hP hS (fun H locs hP hS => ?_)
  refine lv_aload_n hx hb dn_Orders_12 rfl (lv_at hl 0 rfl) ?_
  refine lv_bipush (v := 8) hx hb dn_Orders_13 (by decide) ?_
  refine zn_newI (k := 146) (N := 8) cx dn_Orders_15 rfl (by decide) (by decide) (by decide) wn_arr_int (Nat.le_of_ble_eq_true rfl) (Nat.le_of_ble_eq_true rfl) hP hS (fun H hP hS => ?_)
  refine zn_putR (a := 144) (ci := 2) (j := 1) (off := 2) (k := 147) (ty := .array .int) cx dn_Orders_17 (by omega) (by omega) (by decide) rfl rfl (by decide) wn_24 rfl hin rfl (by decide +kernel) (fun _ => rfl) (fun _ => rfl) rfl hP hS (fun H locs hP hS => ?_)
  refine lv_aload_n hx hb dn_Orders_20 rfl (lv_at hl 0 rfl) ?_
  refine lv_sipush (v := 256) hx hb dn_Orders_21 (by decide) ?_
  refine zn_newI (k := 147) (N := 256) cx dn_Orders_24 rfl (by decide) (by decide) (by decide) wn_arr_int (Nat.le_of_ble_eq_true rfl) (Nat.le_of_ble_eq_true rfl) hP hS (fun H hP hS => ?_)
  refine zn_putR (a := 144) (ci := 2) (j := 2) (off := 3) (k := 148) (ty := .array .int) cx dn_Orders_26 (by omega) (by omega) (by decide) rfl rfl (by decide) wn_25 rfl hin rfl (by decide +kernel) (fun _ => rfl) (fun _ => rfl) rfl hP hS (fun H locs hP hS => ?_)
  refine lv_aload_n hx hb dn_Orders_29 rfl (lv_at hl 0 rfl) ?_
  refine lv_bipush (v := 8) hx hb dn_Orders_30 (by decide) ?_
  refine zn_newI (k := 148) (N := 8) cx dn_Orders_32 rfl (by decide) (by decide) (by decide) wn_arr_int (Nat.le_of_ble_eq_true rfl) (Nat.le_of_ble_eq_true rfl) hP hS (fun H hP hS => ?_)
  refine zn_putR (a := 144) (ci := 2) (j := 3) (off := 4) (k := 149) (ty := .array .int) cx dn_Orders_34 (by omega) (by omega) (by decide) rfl rfl (by decide) wn_26 rfl hin rfl (by decide +kernel) (fun _ => rfl) (fun _ => rfl) rfl hP hS (fun H locs hP hS => ?_)
  refine lv_aload_n hx hb dn_Orders_37 rfl (lv_at hl 0 rfl) ?_
  refine lv_sipush (v := 256) hx hb dn_Orders_38 (by decide) ?_
  refine zn_newI (k := 149) (N := 256) cx dn_Orders_41 rfl (by decide) (by decide) (by decide) wn_arr_int (Nat.le_of_ble_eq_true rfl) (Nat.le_of_ble_eq_true rfl) hP hS (fun H hP hS => ?_)
  refine zn_putR (a := 144) (ci := 2) (j := 5) (off := 5) (k := 150) (ty := .array .int) cx dn_Orders_43 (by omega) (by omega) (by decide) rfl rfl (by decide) wn_27 rfl hin rfl (by decide +kernel) (fun _ => rfl) (fun _ => rfl) rfl hP hS (fun H locs hP hS => ?_)
  refine lv_aload_n hx hb dn_Orders_46 rfl (lv_at hl 0 rfl) ?_
  refine lv_sipush (v := 256) hx hb dn_Orders_47 (by decide) ?_
  refine zn_newI (k := 150) (N := 256) cx dn_Orders_50 rfl (by decide) (by decide) (by decide) wn_arr_int (Nat.le_of_ble_eq_true rfl) (Nat.le_of_ble_eq_true rfl) hP hS (fun H hP hS => ?_)
  refine zn_putR (a := 144) (ci := 2) (j := 6) (off := 6) (k := 151) (ty := .array .int) cx dn_Orders_52 (by omega) (by omega) (by decide) rfl rfl (by decide) wn_28 rfl hin rfl (by decide +kernel) (fun _ => rfl) (fun _ => rfl) rfl hP hS (fun H locs hP hS => ?_)
  exact W.vret hx hb hr (fun t ht _ => ⟨⟨rfl, by rw [ht]; exact hP⟩, hS.F ht⟩) hS.2.2 dn_Orders_55 hlocks
theorem dn_Thrift_0 : decode prog_10_method_1_code 0 = .ok (.aload_n 0, 1) := by decide +kernel
theorem dn_Thrift_1 : decode prog_10_method_1_code 1 = .ok (.invokespecial 3, 3) := by decide +kernel
theorem dn_Thrift_4 : decode prog_10_method_1_code 4 = .ok (.aload_n 0, 1) := by decide +kernel
theorem dn_Thrift_5 : decode prog_10_method_1_code 5 = .ok (.bipush 8, 2) := by decide +kernel
theorem dn_Thrift_7 : decode prog_10_method_1_code 7 = .ok (.newarray .int, 2) := by decide +kernel
theorem dn_Thrift_9 : decode prog_10_method_1_code 9 = .ok (.putfield 9, 3) := by decide +kernel
theorem dn_Thrift_12 : decode prog_10_method_1_code 12 = .ok (.aload_n 0, 1) := by decide +kernel
theorem dn_Thrift_13 : decode prog_10_method_1_code 13 = .ok (.bipush 8, 2) := by decide +kernel
theorem dn_Thrift_15 : decode prog_10_method_1_code 15 = .ok (.newarray .int, 2) := by decide +kernel
theorem dn_Thrift_17 : decode prog_10_method_1_code 17 = .ok (.putfield 15, 3) := by decide +kernel
theorem dn_Thrift_20 : decode prog_10_method_1_code 20 = .ok (.aload_n 0, 1) := by decide +kernel
theorem dn_Thrift_21 : decode prog_10_method_1_code 21 = .ok (.sipush 256, 3) := by decide +kernel
theorem dn_Thrift_24 : decode prog_10_method_1_code 24 = .ok (.newarray .int, 2) := by decide +kernel
theorem dn_Thrift_26 : decode prog_10_method_1_code 26 = .ok (.putfield 18, 3) := by decide +kernel
theorem dn_Thrift_29 : decode prog_10_method_1_code 29 = .ok (.aload_n 0, 1) := by decide +kernel
theorem dn_Thrift_30 : decode prog_10_method_1_code 30 = .ok (.bipush 64, 2) := by decide +kernel
theorem dn_Thrift_32 : decode prog_10_method_1_code 32 = .ok (.newarray .int, 2) := by decide +kernel
theorem dn_Thrift_34 : decode prog_10_method_1_code 34 = .ok (.putfield 21, 3) := by decide +kernel
theorem dn_Thrift_37 : decode prog_10_method_1_code 37 = .ok (.aload_n 0, 1) := by decide +kernel
theorem dn_Thrift_38 : decode prog_10_method_1_code 38 = .ok (.bipush 8, 2) := by decide +kernel
theorem dn_Thrift_40 : decode prog_10_method_1_code 40 = .ok (.newarray .int, 2) := by decide +kernel
theorem dn_Thrift_42 : decode prog_10_method_1_code 42 = .ok (.putfield 24, 3) := by decide +kernel
theorem dn_Thrift_45 : decode prog_10_method_1_code 45 = .ok (.return_, 1) := by decide +kernel
theorem wn_ol_Thrift : Cond.methodLink "WaterByLetters$Thrift" 3 Lib.objectInit ∈ z_tb := z_has_tb (w := some (2, 28)) (by decide +kernel) rfl
theorem wn_29 : (Cond.fieldLink "WaterByLetters$Thrift" (9 : Nat) "WaterByLetters$Thrift" "best" "[I") ∈ z_tb := z_has_tb (w := some (2, 29)) (by decide +kernel) rfl
theorem wn_30 : (Cond.fieldLink "WaterByLetters$Thrift" (15 : Nat) "WaterByLetters$Thrift" "tried" "[I") ∈ z_tb := z_has_tb (w := some (2, 31)) (by decide +kernel) rfl
theorem wn_31 : (Cond.fieldLink "WaterByLetters$Thrift" (18 : Nat) "WaterByLetters$Thrift" "sums" "[I") ∈ z_tb := z_has_tb (w := some (2, 32)) (by decide +kernel) rfl
theorem wn_32 : (Cond.fieldLink "WaterByLetters$Thrift" (21 : Nat) "WaterByLetters$Thrift" "telling" "[I") ∈ z_tb := z_has_tb (w := some (2, 33)) (by decide +kernel) rfl
theorem wn_33 : (Cond.fieldLink "WaterByLetters$Thrift" (24 : Nat) "WaterByLetters$Thrift" "aheadAnyway" "[I") ∈ z_tb := z_has_tb (w := some (2, 34)) (by decide +kernel) rfl
def zS_Thrift (S : Nat → Nat → Bool) : Nat → Nat → Bool := (zn_set (zn_set (zn_set (zn_set (zn_set S 151 0) 151 1) 151 2) 151 3) 151 4)
def zM_Thrift (M : zM) : zM := M
set_option maxRecDepth 20000 in
set_option maxHeartbeats 2000000 in
theorem zc_Thrift {l : Launch} {base : Nat} {D : va_G} {cA : Nat → ClassId} {S : Nat → Nat → Bool} {M : zM}  : zn_M l base D cA ⟨"WaterByLetters$Thrift", "<init>", "()V"⟩ prog_10_method_1_code 1 1 5 344 (151) (152) S M (157) (zS_Thrift S) (zM_Thrift M) := by
  refine zn_body (by decide) rfl (by decide) (fun p e s m below meth c ls cx hin hr hlocks hs0 hP hS hl => ?_)
  obtain ⟨hx, hb, -⟩ := id cx
  refine lv_aload_n hx hb dn_Thrift_0 rfl (lv_at hl 0 rfl) ?_
  refine zn_obj cx dn_Thrift_1 wn_ol_Thrift wn_obj_m wn_obj_c ⟨(Nat.le_of_ble_eq_true rfl), (Nat.le_of_ble_eq_true rfl)⟩ hl.1 ?_
  refine lv_aload_n hx hb dn_Thrift_4 rfl (lv_at hl 0 rfl) ?_
  refine lv_bipush (v := 8) hx hb dn_Thrift_5 (by decide) ?_
  refine zn_newI (k := 152) (N := 8) cx dn_Thrift_7 rfl (by decide) (by decide) (by decide) wn_arr_int (Nat.le_of_ble_eq_true rfl) (Nat.le_of_ble_eq_true rfl) hP hS (fun H hP hS => ?_)
  refine zn_putR (a := 151) (ci := 8) (j := 0) (off := 1) (k := 153) (ty := .array .int) cx dn_Thrift_9 (by omega) (by omega) (by decide) rfl rfl (by decide) wn_29 rfl hin rfl (by decide +kernel) (fun _ => rfl) (fun _ => rfl) rfl hP hS (fun H locs hP hS => ?_)
  refine lv_aload_n hx hb dn_Thrift_12 rfl (lv_at hl 0 rfl) ?_
  refine lv_bipush (v := 8) hx hb dn_Thrift_13 (by decide) ?_
  refine zn_newI (k := 153) (N := 8) cx dn_Thrift_15 rfl (by decide) (by decide) (by decide) wn_arr_int (Nat.le_of_ble_eq_true rfl) (Nat.le_of_ble_eq_true rfl) hP hS (fun H hP hS => ?_)
  refine zn_putR (a := 151) (ci := 8) (j := 1) (off := 2) (k := 154) (ty := .array .int) cx dn_Thrift_17 (by omega) (by omega) (by decide) rfl rfl (by decide) wn_30 rfl hin rfl (by decide +kernel) (fun _ => rfl) (fun _ => rfl) rfl hP hS (fun H locs hP hS => ?_)
  refine lv_aload_n hx hb dn_Thrift_20 rfl (lv_at hl 0 rfl) ?_
  refine lv_sipush (v := 256) hx hb dn_Thrift_21 (by decide) ?_
  refine zn_newI (k := 154) (N := 256) cx dn_Thrift_24 rfl (by decide) (by decide) (by decide) wn_arr_int (Nat.le_of_ble_eq_true rfl) (Nat.le_of_ble_eq_true rfl) hP hS (fun H hP hS => ?_)
  refine zn_putR (a := 151) (ci := 8) (j := 2) (off := 3) (k := 155) (ty := .array .int) cx dn_Thrift_26 (by omega) (by omega) (by decide) rfl rfl (by decide) wn_31 rfl hin rfl (by decide +kernel) (fun _ => rfl) (fun _ => rfl) rfl hP hS (fun H locs hP hS => ?_)
  refine lv_aload_n hx hb dn_Thrift_29 rfl (lv_at hl 0 rfl) ?_
  refine lv_bipush (v := 64) hx hb dn_Thrift_30 (by decide) ?_
  refine zn_newI (k := 155) (N := 64) cx dn_Thrift_32 rfl (by decide) (by decide) (by decide) wn_arr_int (Nat.le_of_ble_eq_true rfl) (Nat.le_of_ble_eq_true rfl) hP hS (fun H hP hS => ?_)
  refine zn_putR (a := 151) (ci := 8) (j := 3) (off := 4) (k := 156) (ty := .array .int) cx dn_Thrift_34 (by omega) (by omega) (by decide) rfl rfl (by decide) wn_32 rfl hin rfl (by decide +kernel) (fun _ => rfl) (fun _ => rfl) rfl hP hS (fun H locs hP hS => ?_)
  refine lv_aload_n hx hb dn_Thrift_37 rfl (lv_at hl 0 rfl) ?_
  refine lv_bipush (v := 8) hx hb dn_Thrift_38 (by decide) ?_
  refine zn_newI (k := 156) (N := 8) cx dn_Thrift_40 rfl (by decide) (by decide) (by decide) wn_arr_int (Nat.le_of_ble_eq_true rfl) (Nat.le_of_ble_eq_true rfl) hP hS (fun H hP hS => ?_)
  refine zn_putR (a := 151) (ci := 8) (j := 4) (off := 5) (k := 157) (ty := .array .int) cx dn_Thrift_42 (by omega) (by omega) (by decide) rfl rfl (by decide) wn_33 rfl hin rfl (by decide +kernel) (fun _ => rfl) (fun _ => rfl) rfl hP hS (fun H locs hP hS => ?_)
  exact W.vret hx hb hr (fun t ht _ => ⟨⟨rfl, by rw [ht]; exact hP⟩, hS.F ht⟩) hS.2.2 dn_Thrift_45 hlocks
theorem dn_Matching_0 : decode prog_3_method_1_code 0 = .ok (.aload_n 0, 1) := by decide +kernel
theorem dn_Matching_1 : decode prog_3_method_1_code 1 = .ok (.invokespecial 3, 3) := by decide +kernel
theorem dn_Matching_4 : decode prog_3_method_1_code 4 = .ok (.aload_n 0, 1) := by decide +kernel
theorem dn_Matching_5 : decode prog_3_method_1_code 5 = .ok (.bipush 64, 2) := by decide +kernel
theorem dn_Matching_7 : decode prog_3_method_1_code 7 = .ok (.newarray .int, 2) := by decide +kernel
theorem dn_Matching_9 : decode prog_3_method_1_code 9 = .ok (.putfield 9, 3) := by decide +kernel
theorem dn_Matching_12 : decode prog_3_method_1_code 12 = .ok (.aload_n 0, 1) := by decide +kernel
theorem dn_Matching_13 : decode prog_3_method_1_code 13 = .ok (.sipush 256, 3) := by decide +kernel
theorem dn_Matching_16 : decode prog_3_method_1_code 16 = .ok (.newarray .int, 2) := by decide +kernel
theorem dn_Matching_18 : decode prog_3_method_1_code 18 = .ok (.putfield 15, 3) := by decide +kernel
theorem dn_Matching_21 : decode prog_3_method_1_code 21 = .ok (.return_, 1) := by decide +kernel
theorem wn_ol_Matching : Cond.methodLink "WaterByLetters$Matching" 3 Lib.objectInit ∈ z_tb := z_has_tb (w := some (2, 54)) (by decide +kernel) rfl
theorem wn_34 : (Cond.fieldLink "WaterByLetters$Matching" (9 : Nat) "WaterByLetters$Matching" "climbs" "[I") ∈ z_tb := z_has_tb (w := some (2, 55)) (by decide +kernel) rfl
theorem wn_35 : (Cond.fieldLink "WaterByLetters$Matching" (15 : Nat) "WaterByLetters$Matching" "worth" "[I") ∈ z_tb := z_has_tb (w := some (2, 56)) (by decide +kernel) rfl
def zS_Matching (S : Nat → Nat → Bool) : Nat → Nat → Bool := (zn_set (zn_set S 157 0) 157 1)
def zM_Matching (M : zM) : zM := M
set_option maxRecDepth 20000 in
set_option maxHeartbeats 2000000 in
theorem zc_Matching {l : Launch} {base : Nat} {D : va_G} {cA : Nat → ClassId} {S : Nat → Nat → Bool} {M : zM}  : zn_M l base D cA ⟨"WaterByLetters$Matching", "<init>", "()V"⟩ prog_3_method_1_code 1 1 2 320 (157) (158) S M (160) (zS_Matching S) (zM_Matching M) := by
  refine zn_body (by decide) rfl (by decide) (fun p e s m below meth c ls cx hin hr hlocks hs0 hP hS hl => ?_)
  obtain ⟨hx, hb, -⟩ := id cx
  refine lv_aload_n hx hb dn_Matching_0 rfl (lv_at hl 0 rfl) ?_
  refine zn_obj cx dn_Matching_1 wn_ol_Matching wn_obj_m wn_obj_c ⟨(Nat.le_of_ble_eq_true rfl), (Nat.le_of_ble_eq_true rfl)⟩ hl.1 ?_
  refine lv_aload_n hx hb dn_Matching_4 rfl (lv_at hl 0 rfl) ?_
  refine lv_bipush (v := 64) hx hb dn_Matching_5 (by decide) ?_
  refine zn_newI (k := 158) (N := 64) cx dn_Matching_7 rfl (by decide) (by decide) (by decide) wn_arr_int (Nat.le_of_ble_eq_true rfl) (Nat.le_of_ble_eq_true rfl) hP hS (fun H hP hS => ?_)
  refine zn_putR (a := 157) (ci := 1) (j := 0) (off := 1) (k := 159) (ty := .array .int) cx dn_Matching_9 (by omega) (by omega) (by decide) rfl rfl (by decide) wn_34 rfl hin rfl (by decide +kernel) (fun _ => rfl) (fun _ => rfl) rfl hP hS (fun H locs hP hS => ?_)
  refine lv_aload_n hx hb dn_Matching_12 rfl (lv_at hl 0 rfl) ?_
  refine lv_sipush (v := 256) hx hb dn_Matching_13 (by decide) ?_
  refine zn_newI (k := 159) (N := 256) cx dn_Matching_16 rfl (by decide) (by decide) (by decide) wn_arr_int (Nat.le_of_ble_eq_true rfl) (Nat.le_of_ble_eq_true rfl) hP hS (fun H hP hS => ?_)
  refine zn_putR (a := 157) (ci := 1) (j := 1) (off := 2) (k := 160) (ty := .array .int) cx dn_Matching_18 (by omega) (by omega) (by decide) rfl rfl (by decide) wn_35 rfl hin rfl (by decide +kernel) (fun _ => rfl) (fun _ => rfl) rfl hP hS (fun H locs hP hS => ?_)
  exact W.vret hx hb hr (fun t ht _ => ⟨⟨rfl, by rw [ht]; exact hP⟩, hS.F ht⟩) hS.2.2 dn_Matching_21 hlocks
