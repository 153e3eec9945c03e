/-! THE CONSTRUCTORS of Past, of the class, of the reference: written by gen_ctor.py -/
def zS_tow (b0 arr : Nat) (S : Nat → Nat → Bool) : Nat → (Nat → Nat → Bool)
  | 0 => S
  | i + 1 => zn_set (zS_Town (zS_tow b0 arr S i) (b0 + 6 * i)) arr i
def zM_tow (b0 : Nat) (M : zM) : Nat → zM
  | 0 => M
  | i + 1 => zM_Town (zM_tow b0 M i) (b0 + 6 * i)
theorem zn_set_keep {S : Nat → Nat → Bool} {a i b j : Nat} (h : S b j = true) : zn_set S a i b j = true := by
  unfold zn_set
  rw [h]
  cases (Nat.beq b a && Nat.beq j i) <;> rfl
theorem zS_tow_keep {b0 arr : Nat} {S : Nat → Nat → Bool} {b j : Nat} (h : S b j = true) : ∀ i, zS_tow b0 arr S i b j = true
  | 0 => h
  | i + 1 => zn_set_keep (zn_set_keep (zn_set_keep (zn_set_keep (zn_set_keep (zn_set_keep (zS_tow_keep h i))))))
theorem zk_tow51 : ∀ i, i < 15 → z_kt[51 + 6 * i]? = some (9, 0) ∧ z_kt[51 + 6 * i + 1]? = some (100, 8) ∧ z_kt[51 + 6 * i + 2]? = some (100, 48) ∧ z_kt[51 + 6 * i + 3]? = some (100, 8) ∧ z_kt[51 + 6 * i + 4]? = some (100, 8) ∧ z_kt[51 + 6 * i + 5]? = some (100, 8) := by decide
theorem zk_tow161 : ∀ i, i < 3 → z_kt[161 + 6 * i]? = some (9, 0) ∧ z_kt[161 + 6 * i + 1]? = some (100, 8) ∧ z_kt[161 + 6 * i + 2]? = some (100, 48) ∧ z_kt[161 + 6 * i + 3]? = some (100, 8) ∧ z_kt[161 + 6 * i + 4]? = some (100, 8) ∧ z_kt[161 + 6 * i + 5]? = some (100, 8) := by decide
theorem dn_Past_0 : decode prog_5_method_1_code 0 = .ok (.aload_n 0, 1) := by decide +kernel
theorem dn_Past_1 : decode prog_5_method_1_code 1 = .ok (.invokespecial 3, 3) := by decide +kernel
theorem dn_Past_4 : decode prog_5_method_1_code 4 = .ok (.aload_n 0, 1) := by decide +kernel
theorem dn_Past_5 : decode prog_5_method_1_code 5 = .ok (.bipush 15, 2) := by decide +kernel
theorem dn_Past_7 : decode prog_5_method_1_code 7 = .ok (.anewarray 9, 3) := by decide +kernel
theorem dn_Past_10 : decode prog_5_method_1_code 10 = .ok (.putfield 11, 3) := by decide +kernel
theorem dn_Past_13 : decode prog_5_method_1_code 13 = .ok (.iconst 0, 1) := by decide +kernel
theorem dn_Past_14 : decode prog_5_method_1_code 14 = .ok (.istore_n 1, 1) := by decide +kernel
theorem dn_Past_15 : decode prog_5_method_1_code 15 = .ok (.iload_n 1, 1) := by decide +kernel
theorem dn_Past_16 : decode prog_5_method_1_code 16 = .ok (.bipush 15, 2) := by decide +kernel
theorem dn_Past_18 : decode prog_5_method_1_code 18 = .ok (.if_icmp .ge 22, 3) := by decide +kernel
theorem dn_Past_21 : decode prog_5_method_1_code 21 = .ok (.aload_n 0, 1) := by decide +kernel
theorem dn_Past_22 : decode prog_5_method_1_code 22 = .ok (.getfield 11, 3) := by decide +kernel
theorem dn_Past_25 : decode prog_5_method_1_code 25 = .ok (.iload_n 1, 1) := by decide +kernel
theorem dn_Past_26 : decode prog_5_method_1_code 26 = .ok (.new 9, 3) := by decide +kernel
theorem dn_Past_29 : decode prog_5_method_1_code 29 = .ok (.dup, 1) := by decide +kernel
theorem dn_Past_30 : decode prog_5_method_1_code 30 = .ok (.invokespecial 17, 3) := by decide +kernel
theorem dn_Past_33 : decode prog_5_method_1_code 33 = .ok (.aastore, 1) := by decide +kernel
theorem dn_Past_34 : decode prog_5_method_1_code 34 = .ok (.iinc 1 1, 3) := by decide +kernel
theorem dn_Past_37 : decode prog_5_method_1_code 37 = .ok (.goto (-22), 3) := by decide +kernel
theorem dn_Past_40 : decode prog_5_method_1_code 40 = .ok (.return_, 1) := by decide +kernel
theorem wn_ol_Past : Cond.methodLink "WaterByLetters$Past" 3 Lib.objectInit ∈ z_tb := z_has_tb (w := some (1, 220)) (by decide +kernel) rfl
theorem wn_cl_WaterByLetters_Past_9 : (Cond.classLink "WaterByLetters$Past" (9 : Nat) "WaterByLetters$Town") ∈ z_tb := z_has_tb (w := some (1, 221)) (by decide +kernel) rfl
theorem wn_37 : (Cond.fieldLink "WaterByLetters$Past" (11 : Nat) "WaterByLetters$Past" "towns" "[LWaterByLetters$Town;") ∈ z_tb := z_has_tb (w := some (1, 224)) (by decide +kernel) rfl
theorem wn_in_WaterByLetters_Town : (Cond.instantiable "WaterByLetters$Town" (7 : Nat)) ∈ z_tb := z_has_tb (w := some (1, 107)) (by decide +kernel) rfl
theorem wn_39 : (Cond.initialized "WaterByLetters$Town") ∈ z_tb := z_has_tb (w := some (1, 5)) (by decide +kernel) rfl
theorem wn_40 : (Cond.methodLink "WaterByLetters$Past" (17 : Nat) ({ cls := "WaterByLetters$Town", name := "<init>", desc := "()V" } : Jvm.MethodName)) ∈ z_tb := z_has_tb (w := some (1, 223)) (by decide +kernel) rfl
theorem wn_41 : (Cond.instanceMethod ({ cls := "WaterByLetters$Town", name := "<init>", desc := "()V" } : Jvm.MethodName)) ∈ z_tb := z_has_tb (w := some (1, 109)) (by decide +kernel) rfl
theorem wn_42 : (Cond.code ({ cls := "WaterByLetters$Town", name := "<init>", desc := "()V" } : Jvm.MethodName) prog_11_method_1_code (2 : Nat) (Option.none : Option Jvm.ClassFile.FieldType)) ∈ z_tb := z_has_tb (w := some (1, 110)) (by decide +kernel) rfl
def zS_Past (S : Nat → Nat → Bool) : Nat → Nat → Bool := (zS_tow 51 50 (zn_set S 49 0) 15)
def zM_Past (M : zM) : zM := (zM_tow 51 M 15)
set_option maxRecDepth 20000 in
set_option maxHeartbeats 2000000 in
theorem zc_Past {l : Launch} {base : Nat} {D : va_G} {cA : Nat → ClassId} {S : Nat → Nat → Bool} {M : zM}  : zn_M l base D cA ⟨"WaterByLetters$Past", "<init>", "()V"⟩ prog_5_method_1_code 2 2 91 1320 (49) (50) S M (141) (zS_Past S) (zM_Past M) := by
  refine zn_body (by decide) rfl (by decide) (fun p e s m below meth c ls cx hin hr hlocks hs0 hP hS hl => ?_)
  obtain ⟨hx, hb, -⟩ := id cx
  refine lv_aload_n hx hb dn_Past_0 rfl (lv_at hl 0 rfl) ?_
  refine zn_obj cx dn_Past_1 wn_ol_Past wn_obj_m wn_obj_c ⟨(Nat.le_of_ble_eq_true rfl), (Nat.le_of_ble_eq_true rfl)⟩ hl.1 ?_
  refine lv_aload_n hx hb dn_Past_4 rfl (lv_at hl 0 rfl) ?_
  refine lv_bipush (v := 15) hx hb dn_Past_5 (by decide) ?_
  refine zn_newQ (k := 50) (N := 15) cx dn_Past_7 rfl (by decide) (by decide) (by decide) wn_cl_WaterByLetters_Past_9 (Nat.le_of_ble_eq_true rfl) (Nat.le_of_ble_eq_true rfl) hP hS (fun H hP hS => ?_)
  refine zn_putR (a := 49) (ci := 3) (j := 0) (off := 1) (k := 51) (ty := .array (.object "WaterByLetters$Town")) cx dn_Past_10 (by omega) (by omega) (by decide) rfl rfl (by decide) wn_37 rfl hin rfl (by decide +kernel) (fun _ => rfl) (fun _ => rfl) rfl hP hS (fun H locs hP hS => ?_)
  refine lv_iconst (v := 0) hx hb dn_Past_13 (by decide) ?_
  refine lv_istore_n (lv' := [(1, .int (nI 0)), (0, .ref (base + 49))]) hx hb dn_Past_14 rfl hl (by decide) rfl (fun ls hl => ?_)
  suffices loop : ∀ (n i : Nat), i + n = 15 → ∀ (H : Heap) (locs : List Loc) (ls : Array Slot), zn_P base D cA (zS_tow 51 50 (zn_set S 49 0) i) (zM_tow 51 M i) (51 + 6 * i) H → va_S (fun q => base ≤ q) s.heap H locs → lv_has ls 2 [(1, .int (nI i)), (0, .ref (base + 49))] → W p l e (zn_rm 2 91 1320) s m #[.ref (base + 49)] below meth c H locs (1 + 6 * i) (15 + 87 * i) (MQ below (zn_Q base D cA 141 (zS_tow 51 50 (zn_set S 49 0) 15) (zM_tow 51 M 15)) #[.ref (base + 49)] s 91 1320 (fun q => base ≤ q)) (F0 m 15 ls []) from zn_cs rfl rfl (loop 15 0 rfl H locs ls hP hS hl)
  intro n
  induction n with
  | zero =>
    intro i hi H locs ls hP hS hl
    obtain rfl : i = 15 := by omega
    refine zn_cs (cells' := 91) (slots' := 1320) rfl rfl ?_
    refine lv_iload_n hx hb dn_Past_15 rfl (lv_at hl 0 rfl) ?_
    refine lv_bipush (v := nI 15) hx hb dn_Past_16 (by decide) ?_
    refine lv_icmp_ge (tgt := 40) hx hb dn_Past_18 (by decide) (fun _ => ?_) (fun h => absurd (nI_le (Nat.le_refl 15) (by decide)) h)
    exact W.vret hx hb hr (fun t ht _ => ⟨⟨rfl, by rw [ht]; exact hP⟩, hS.F ht⟩) hS.2.2 dn_Past_40 hlocks
  | succ n ih =>
    intro i hi H locs ls hP hS hl
    obtain ⟨g0, g1, g2, g3, g4, g5⟩ := zk_tow51 i (by omega)
    refine lv_iload_n hx hb dn_Past_15 rfl (lv_at hl 0 rfl) ?_
    refine lv_bipush (v := nI 15) hx hb dn_Past_16 (by decide) ?_
    refine lv_icmp_ge (tgt := 40) hx hb dn_Past_18 (by decide) (fun h => absurd h (nI_ge (by omega) (by decide))) (fun _ => ?_)
    refine lv_aload_n hx hb dn_Past_21 rfl (lv_at hl 1 rfl) ?_
    refine zn_getR (a := 49) (ci := 3) (j := 0) (off := 1) (k := 51 + 6 * i) cx dn_Past_22 (by omega) (by decide) rfl rfl (by decide) wn_37 rfl (zS_tow_keep rfl i) hP ?_
    refine lv_iload_n hx hb dn_Past_25 rfl (lv_at hl 0 rfl) ?_
    refine zn_new (k := 51 + 6 * i) (ci := 9) (N := 7) cx dn_Past_26 (by decide) rfl g0 wn_cl_WaterByLetters_Past_9 wn_in_WaterByLetters_Town wn_39 (by show 1 + 6 * i + 1 ≤ 91; omega) (by show 15 + 87 * i + 7 ≤ 1320; omega) hP hS (fun H hP hS => ?_)
    refine lv_dup hx hb dn_Past_29 rfl ?_
    refine zn_callI (a := 51 + 6 * i) (k := 51 + 6 * i + 1) cx (zc_Town g0 g1 g2 g3 g4 g5) dn_Past_30 ⟨(Nat.le_of_ble_eq_true rfl), (Nat.le_of_ble_eq_true rfl)⟩ wn_40 wn_41 wn_39 wn_42 (by decide +kernel) rfl (Nat.le_of_ble_eq_true rfl) (by show 1 + 6 * i + 1 + 5 ≤ 91; omega) (by show 15 + 87 * i + 7 + 80 ≤ 1320; omega) hl.1 hP hS (fun H locs hP hS => ?_)
    refine zn_ast (a := 50) (N := 15) (i := i) (k := 51 + 6 * i + 6) cx dn_Past_33 (by omega) (by omega) rfl (by omega) (by decide) (show 51 + 6 * i < 51 + 6 * i + 6 by omega) g0 hP hS (fun H locs hP hS => ?_)
    refine lv_iinc (v := nI (i + 1)) (lv' := [(1, .int (nI (i + 1))), (0, .ref (base + 49))]) hx hb dn_Past_34 hl (k := 0) rfl (by rw [nI_succ]; rfl) (by decide) rfl (fun ls hl => ?_)
    refine lv_goto (tgt := 15) hx hb dn_Past_37 (by decide) ?_
    exact zn_cs (by omega) (by omega) (ih (i + 1) (by omega) H locs ls hP hS hl)
theorem dn_W_0 : decode prog_1_method_1_code 0 = .ok (.aload_n 0, 1) := by decide +kernel
theorem dn_W_1 : decode prog_1_method_1_code 1 = .ok (.invokespecial 3, 3) := by decide +kernel
theorem dn_W_4 : decode prog_1_method_1_code 4 = .ok (.aload_n 0, 1) := by decide +kernel
theorem dn_W_5 : decode prog_1_method_1_code 5 = .ok (.new 9, 3) := by decide +kernel
theorem dn_W_8 : decode prog_1_method_1_code 8 = .ok (.dup, 1) := by decide +kernel
theorem dn_W_9 : decode prog_1_method_1_code 9 = .ok (.invokespecial 11, 3) := by decide +kernel
theorem dn_W_12 : decode prog_1_method_1_code 12 = .ok (.putfield 12, 3) := by decide +kernel
theorem dn_W_15 : decode prog_1_method_1_code 15 = .ok (.aload_n 0, 1) := by decide +kernel
theorem dn_W_16 : decode prog_1_method_1_code 16 = .ok (.new 16, 3) := by decide +kernel
theorem dn_W_19 : decode prog_1_method_1_code 19 = .ok (.dup, 1) := by decide +kernel
theorem dn_W_20 : decode prog_1_method_1_code 20 = .ok (.invokespecial 18, 3) := by decide +kernel
theorem dn_W_23 : decode prog_1_method_1_code 23 = .ok (.putfield 19, 3) := by decide +kernel
theorem dn_W_26 : decode prog_1_method_1_code 26 = .ok (.aload_n 0, 1) := by decide +kernel
theorem dn_W_27 : decode prog_1_method_1_code 27 = .ok (.new 23, 3) := by decide +kernel
theorem dn_W_30 : decode prog_1_method_1_code 30 = .ok (.dup, 1) := by decide +kernel
theorem dn_W_31 : decode prog_1_method_1_code 31 = .ok (.invokespecial 25, 3) := by decide +kernel
theorem dn_W_34 : decode prog_1_method_1_code 34 = .ok (.putfield 26, 3) := by decide +kernel
theorem dn_W_37 : decode prog_1_method_1_code 37 = .ok (.aload_n 0, 1) := by decide +kernel
theorem dn_W_38 : decode prog_1_method_1_code 38 = .ok (.new 23, 3) := by decide +kernel
theorem dn_W_41 : decode prog_1_method_1_code 41 = .ok (.dup, 1) := by decide +kernel
theorem dn_W_42 : decode prog_1_method_1_code 42 = .ok (.invokespecial 25, 3) := by decide +kernel
theorem dn_W_45 : decode prog_1_method_1_code 45 = .ok (.putfield 30, 3) := by decide +kernel
theorem dn_W_48 : decode prog_1_method_1_code 48 = .ok (.aload_n 0, 1) := by decide +kernel
theorem dn_W_49 : decode prog_1_method_1_code 49 = .ok (.new 33, 3) := by decide +kernel
theorem dn_W_52 : decode prog_1_method_1_code 52 = .ok (.dup, 1) := by decide +kernel
theorem dn_W_53 : decode prog_1_method_1_code 53 = .ok (.invokespecial 35, 3) := by decide +kernel
theorem dn_W_56 : decode prog_1_method_1_code 56 = .ok (.putfield 36, 3) := by decide +kernel
theorem dn_W_59 : decode prog_1_method_1_code 59 = .ok (.aload_n 0, 1) := by decide +kernel
theorem dn_W_60 : decode prog_1_method_1_code 60 = .ok (.new 33, 3) := by decide +kernel
theorem dn_W_63 : decode prog_1_method_1_code 63 = .ok (.dup, 1) := by decide +kernel
theorem dn_W_64 : decode prog_1_method_1_code 64 = .ok (.invokespecial 35, 3) := by decide +kernel
theorem dn_W_67 : decode prog_1_method_1_code 67 = .ok (.putfield 40, 3) := by decide +kernel
theorem dn_W_70 : decode prog_1_method_1_code 70 = .ok (.aload_n 0, 1) := by decide +kernel
theorem dn_W_71 : decode prog_1_method_1_code 71 = .ok (.new 43, 3) := by decide +kernel
theorem dn_W_74 : decode prog_1_method_1_code 74 = .ok (.dup, 1) := by decide +kernel
theorem dn_W_75 : decode prog_1_method_1_code 75 = .ok (.invokespecial 45, 3) := by decide +kernel
theorem dn_W_78 : decode prog_1_method_1_code 78 = .ok (.putfield 46, 3) := by decide +kernel
theorem dn_W_81 : decode prog_1_method_1_code 81 = .ok (.aload_n 0, 1) := by decide +kernel
theorem dn_W_82 : decode prog_1_method_1_code 82 = .ok (.new 43, 3) := by decide +kernel
theorem dn_W_85 : decode prog_1_method_1_code 85 = .ok (.dup, 1) := by decide +kernel
theorem dn_W_86 : decode prog_1_method_1_code 86 = .ok (.invokespecial 45, 3) := by decide +kernel
theorem dn_W_89 : decode prog_1_method_1_code 89 = .ok (.putfield 50, 3) := by decide +kernel
theorem dn_W_92 : decode prog_1_method_1_code 92 = .ok (.aload_n 0, 1) := by decide +kernel
theorem dn_W_93 : decode prog_1_method_1_code 93 = .ok (.new 53, 3) := by decide +kernel
theorem dn_W_96 : decode prog_1_method_1_code 96 = .ok (.dup, 1) := by decide +kernel
theorem dn_W_97 : decode prog_1_method_1_code 97 = .ok (.invokespecial 55, 3) := by decide +kernel
theorem dn_W_100 : decode prog_1_method_1_code 100 = .ok (.putfield 56, 3) := by decide +kernel
theorem dn_W_103 : decode prog_1_method_1_code 103 = .ok (.aload_n 0, 1) := by decide +kernel
theorem dn_W_104 : decode prog_1_method_1_code 104 = .ok (.new 60, 3) := by decide +kernel
theorem dn_W_107 : decode prog_1_method_1_code 107 = .ok (.dup, 1) := by decide +kernel
theorem dn_W_108 : decode prog_1_method_1_code 108 = .ok (.invokespecial 62, 3) := by decide +kernel
theorem dn_W_111 : decode prog_1_method_1_code 111 = .ok (.putfield 63, 3) := by decide +kernel
theorem dn_W_114 : decode prog_1_method_1_code 114 = .ok (.aload_n 0, 1) := by decide +kernel
theorem dn_W_115 : decode prog_1_method_1_code 115 = .ok (.iconst 3, 1) := by decide +kernel
theorem dn_W_116 : decode prog_1_method_1_code 116 = .ok (.anewarray 33, 3) := by decide +kernel
theorem dn_W_119 : decode prog_1_method_1_code 119 = .ok (.putfield 67, 3) := by decide +kernel
theorem dn_W_122 : decode prog_1_method_1_code 122 = .ok (.aload_n 0, 1) := by decide +kernel
theorem dn_W_123 : decode prog_1_method_1_code 123 = .ok (.bipush 8, 2) := by decide +kernel
theorem dn_W_125 : decode prog_1_method_1_code 125 = .ok (.newarray .int, 2) := by decide +kernel
theorem dn_W_127 : decode prog_1_method_1_code 127 = .ok (.putfield 71, 3) := by decide +kernel
theorem dn_W_130 : decode prog_1_method_1_code 130 = .ok (.aload_n 0, 1) := by decide +kernel
theorem dn_W_131 : decode prog_1_method_1_code 131 = .ok (.bipush 8, 2) := by decide +kernel
theorem dn_W_133 : decode prog_1_method_1_code 133 = .ok (.newarray .int, 2) := by decide +kernel
theorem dn_W_135 : decode prog_1_method_1_code 135 = .ok (.putfield 75, 3) := by decide +kernel
theorem dn_W_138 : decode prog_1_method_1_code 138 = .ok (.aload_n 0, 1) := by decide +kernel
theorem dn_W_139 : decode prog_1_method_1_code 139 = .ok (.new 78, 3) := by decide +kernel
theorem dn_W_142 : decode prog_1_method_1_code 142 = .ok (.dup, 1) := by decide +kernel
theorem dn_W_143 : decode prog_1_method_1_code 143 = .ok (.invokespecial 80, 3) := by decide +kernel
theorem dn_W_146 : decode prog_1_method_1_code 146 = .ok (.putfield 81, 3) := by decide +kernel
theorem dn_W_149 : decode prog_1_method_1_code 149 = .ok (.aload_n 0, 1) := by decide +kernel
theorem dn_W_150 : decode prog_1_method_1_code 150 = .ok (.new 85, 3) := by decide +kernel
theorem dn_W_153 : decode prog_1_method_1_code 153 = .ok (.dup, 1) := by decide +kernel
theorem dn_W_154 : decode prog_1_method_1_code 154 = .ok (.invokespecial 87, 3) := by decide +kernel
theorem dn_W_157 : decode prog_1_method_1_code 157 = .ok (.putfield 88, 3) := by decide +kernel
theorem dn_W_160 : decode prog_1_method_1_code 160 = .ok (.aload_n 0, 1) := by decide +kernel
theorem dn_W_161 : decode prog_1_method_1_code 161 = .ok (.new 92, 3) := by decide +kernel
theorem dn_W_164 : decode prog_1_method_1_code 164 = .ok (.dup, 1) := by decide +kernel
theorem dn_W_165 : decode prog_1_method_1_code 165 = .ok (.invokespecial 94, 3) := by decide +kernel
theorem dn_W_168 : decode prog_1_method_1_code 168 = .ok (.putfield 95, 3) := by decide +kernel
theorem dn_W_171 : decode prog_1_method_1_code 171 = .ok (.aload_n 0, 1) := by decide +kernel
theorem dn_W_172 : decode prog_1_method_1_code 172 = .ok (.bipush 8, 2) := by decide +kernel
theorem dn_W_174 : decode prog_1_method_1_code 174 = .ok (.newarray .int, 2) := by decide +kernel
theorem dn_W_176 : decode prog_1_method_1_code 176 = .ok (.putfield 99, 3) := by decide +kernel
theorem dn_W_179 : decode prog_1_method_1_code 179 = .ok (.iconst 0, 1) := by decide +kernel
theorem dn_W_180 : decode prog_1_method_1_code 180 = .ok (.istore_n 1, 1) := by decide +kernel
theorem dn_W_181 : decode prog_1_method_1_code 181 = .ok (.iload_n 1, 1) := by decide +kernel
theorem dn_W_182 : decode prog_1_method_1_code 182 = .ok (.iconst 3, 1) := by decide +kernel
theorem dn_W_183 : decode prog_1_method_1_code 183 = .ok (.if_icmp .ge 22, 3) := by decide +kernel
theorem dn_W_186 : decode prog_1_method_1_code 186 = .ok (.aload_n 0, 1) := by decide +kernel
theorem dn_W_187 : decode prog_1_method_1_code 187 = .ok (.getfield 67, 3) := by decide +kernel
theorem dn_W_190 : decode prog_1_method_1_code 190 = .ok (.iload_n 1, 1) := by decide +kernel
theorem dn_W_191 : decode prog_1_method_1_code 191 = .ok (.new 33, 3) := by decide +kernel
theorem dn_W_194 : decode prog_1_method_1_code 194 = .ok (.dup, 1) := by decide +kernel
theorem dn_W_195 : decode prog_1_method_1_code 195 = .ok (.invokespecial 35, 3) := by decide +kernel
theorem dn_W_198 : decode prog_1_method_1_code 198 = .ok (.aastore, 1) := by decide +kernel
theorem dn_W_199 : decode prog_1_method_1_code 199 = .ok (.iinc 1 1, 3) := by decide +kernel
theorem dn_W_202 : decode prog_1_method_1_code 202 = .ok (.goto (-21), 3) := by decide +kernel
theorem dn_W_205 : decode prog_1_method_1_code 205 = .ok (.return_, 1) := by decide +kernel
theorem wn_ol_W : Cond.methodLink "WaterByLetters" 3 Lib.objectInit ∈ z_tb := z_has_tb (w := some (1, 30)) (by decide +kernel) rfl
theorem wn_cl_WaterByLetters_9 : (Cond.classLink "WaterByLetters" (9 : Nat) "WaterByLetters$Text") ∈ z_tb := z_has_tb (w := some (1, 33)) (by decide +kernel) rfl
theorem wn_in_WaterByLetters_Text : (Cond.instantiable "WaterByLetters$Text" (2 : Nat)) ∈ z_tb := z_has_tb (w := some (1, 34)) (by decide +kernel) rfl
theorem wn_45 : (Cond.initialized "WaterByLetters$Text") ∈ z_tb := z_has_tb (w := some (1, 2)) (by decide +kernel) rfl
theorem wn_46 : (Cond.methodLinkNest "WaterByLetters" (11 : Nat) ({ cls := "WaterByLetters$Text", name := "<init>", desc := "()V" } : Jvm.MethodName) "WaterByLetters") ∈ lw_tbl := z_has_tbl (w := some (1, 35)) (by decide +kernel)
theorem wn_47 : (Cond.instanceMethod ({ cls := "WaterByLetters$Text", name := "<init>", desc := "()V" } : Jvm.MethodName)) ∈ z_tb := z_has_tb (w := some (1, 36)) (by decide +kernel) rfl
theorem wn_48 : (Cond.code ({ cls := "WaterByLetters$Text", name := "<init>", desc := "()V" } : Jvm.MethodName) prog_9_method_1_code (1 : Nat) (Option.none : Option Jvm.ClassFile.FieldType)) ∈ z_tb := z_has_tb (w := some (1, 37)) (by decide +kernel) rfl
theorem wn_49 : (Cond.fieldLink "WaterByLetters" (12 : Nat) "WaterByLetters" "text" "LWaterByLetters$Text;") ∈ z_tb := z_has_tb (w := some (2, 62)) (by decide +kernel) rfl
theorem wn_cl_WaterByLetters_16 : (Cond.classLink "WaterByLetters" (16 : Nat) "WaterByLetters$Row") ∈ z_tb := z_has_tb (w := some (1, 51)) (by decide +kernel) rfl
theorem wn_in_WaterByLetters_Row : (Cond.instantiable "WaterByLetters$Row" (2 : Nat)) ∈ z_tb := z_has_tb (w := some (1, 52)) (by decide +kernel) rfl
theorem wn_52 : (Cond.initialized "WaterByLetters$Row") ∈ z_tb := z_has_tb (w := some (1, 3)) (by decide +kernel) rfl
theorem wn_53 : (Cond.methodLinkNest "WaterByLetters" (18 : Nat) ({ cls := "WaterByLetters$Row", name := "<init>", desc := "()V" } : Jvm.MethodName) "WaterByLetters") ∈ lw_tbl := z_has_tbl (w := some (1, 53)) (by decide +kernel)
theorem wn_54 : (Cond.instanceMethod ({ cls := "WaterByLetters$Row", name := "<init>", desc := "()V" } : Jvm.MethodName)) ∈ z_tb := z_has_tb (w := some (1, 54)) (by decide +kernel) rfl
theorem wn_55 : (Cond.code ({ cls := "WaterByLetters$Row", name := "<init>", desc := "()V" } : Jvm.MethodName) prog_7_method_1_code (1 : Nat) (Option.none : Option Jvm.ClassFile.FieldType)) ∈ z_tb := z_has_tb (w := some (1, 55)) (by decide +kernel) rfl
theorem wn_56 : (Cond.fieldLink "WaterByLetters" (19 : Nat) "WaterByLetters" "told" "LWaterByLetters$Row;") ∈ z_tb := z_has_tb (w := some (2, 63)) (by decide +kernel) rfl
theorem wn_cl_WaterByLetters_23 : (Cond.classLink "WaterByLetters" (23 : Nat) "WaterByLetters$Rule") ∈ z_tb := z_has_tb (w := some (1, 68)) (by decide +kernel) rfl
theorem wn_in_WaterByLetters_Rule : (Cond.instantiable "WaterByLetters$Rule" (10 : Nat)) ∈ z_tb := z_has_tb (w := some (1, 69)) (by decide +kernel) rfl
theorem wn_59 : (Cond.initialized "WaterByLetters$Rule") ∈ z_tb := z_has_tb (w := some (1, 4)) (by decide +kernel) rfl
theorem wn_60 : (Cond.methodLinkNest "WaterByLetters" (25 : Nat) ({ cls := "WaterByLetters$Rule", name := "<init>", desc := "()V" } : Jvm.MethodName) "WaterByLetters") ∈ lw_tbl := z_has_tbl (w := some (1, 70)) (by decide +kernel)
theorem wn_61 : (Cond.instanceMethod ({ cls := "WaterByLetters$Rule", name := "<init>", desc := "()V" } : Jvm.MethodName)) ∈ z_tb := z_has_tb (w := some (1, 71)) (by decide +kernel) rfl
theorem wn_62 : (Cond.code ({ cls := "WaterByLetters$Rule", name := "<init>", desc := "()V" } : Jvm.MethodName) prog_8_method_1_code (1 : Nat) (Option.none : Option Jvm.ClassFile.FieldType)) ∈ z_tb := z_has_tb (w := some (1, 72)) (by decide +kernel) rfl
theorem wn_63 : (Cond.fieldLink "WaterByLetters" (26 : Nat) "WaterByLetters" "rule" "LWaterByLetters$Rule;") ∈ z_tb := z_has_tb (w := some (2, 64)) (by decide +kernel) rfl
theorem wn_64 : (Cond.fieldLink "WaterByLetters" (30 : Nat) "WaterByLetters" "otherRule" "LWaterByLetters$Rule;") ∈ z_tb := z_has_tb (w := some (2, 65)) (by decide +kernel) rfl
theorem wn_cl_WaterByLetters_33 : (Cond.classLink "WaterByLetters" (33 : Nat) "WaterByLetters$Town") ∈ z_tb := z_has_tb (w := some (1, 106)) (by decide +kernel) rfl
theorem wn_66 : (Cond.methodLink "WaterByLetters" (35 : Nat) ({ cls := "WaterByLetters$Town", name := "<init>", desc := "()V" } : Jvm.MethodName)) ∈ z_tb := z_has_tb (w := some (1, 108)) (by decide +kernel) rfl
theorem wn_67 : (Cond.fieldLink "WaterByLetters" (36 : Nat) "WaterByLetters" "town" "LWaterByLetters$Town;") ∈ z_tb := z_has_tb (w := some (2, 66)) (by decide +kernel) rfl
theorem wn_68 : (Cond.fieldLink "WaterByLetters" (40 : Nat) "WaterByLetters" "spare" "LWaterByLetters$Town;") ∈ z_tb := z_has_tb (w := some (2, 67)) (by decide +kernel) rfl
theorem wn_cl_WaterByLetters_43 : (Cond.classLink "WaterByLetters" (43 : Nat) "WaterByLetters$Book") ∈ z_tb := z_has_tb (w := some (1, 148)) (by decide +kernel) rfl
theorem wn_in_WaterByLetters_Book : (Cond.instantiable "WaterByLetters$Book" (5 : Nat)) ∈ z_tb := z_has_tb (w := some (1, 149)) (by decide +kernel) rfl
theorem wn_71 : (Cond.initialized "WaterByLetters$Book") ∈ z_tb := z_has_tb (w := some (1, 6)) (by decide +kernel) rfl
theorem wn_72 : (Cond.methodLinkNest "WaterByLetters" (45 : Nat) ({ cls := "WaterByLetters$Book", name := "<init>", desc := "()V" } : Jvm.MethodName) "WaterByLetters") ∈ lw_tbl := z_has_tbl (w := some (1, 150)) (by decide +kernel)
theorem wn_73 : (Cond.instanceMethod ({ cls := "WaterByLetters$Book", name := "<init>", desc := "()V" } : Jvm.MethodName)) ∈ z_tb := z_has_tb (w := some (1, 151)) (by decide +kernel) rfl
theorem wn_74 : (Cond.code ({ cls := "WaterByLetters$Book", name := "<init>", desc := "()V" } : Jvm.MethodName) prog_2_method_1_code (1 : Nat) (Option.none : Option Jvm.ClassFile.FieldType)) ∈ z_tb := z_has_tb (w := some (1, 152)) (by decide +kernel) rfl
theorem wn_75 : (Cond.fieldLink "WaterByLetters" (46 : Nat) "WaterByLetters" "book" "LWaterByLetters$Book;") ∈ z_tb := z_has_tb (w := some (2, 68)) (by decide +kernel) rfl
theorem wn_76 : (Cond.fieldLink "WaterByLetters" (50 : Nat) "WaterByLetters" "otherBook" "LWaterByLetters$Book;") ∈ z_tb := z_has_tb (w := some (2, 69)) (by decide +kernel) rfl
theorem wn_cl_WaterByLetters_53 : (Cond.classLink "WaterByLetters" (53 : Nat) "WaterByLetters$Pump") ∈ z_tb := z_has_tb (w := some (1, 177)) (by decide +kernel) rfl
theorem wn_in_WaterByLetters_Pump : (Cond.instantiable "WaterByLetters$Pump" (8 : Nat)) ∈ z_tb := z_has_tb (w := some (1, 178)) (by decide +kernel) rfl
theorem wn_79 : (Cond.initialized "WaterByLetters$Pump") ∈ z_tb := z_has_tb (w := some (1, 7)) (by decide +kernel) rfl
theorem wn_80 : (Cond.methodLinkNest "WaterByLetters" (55 : Nat) ({ cls := "WaterByLetters$Pump", name := "<init>", desc := "()V" } : Jvm.MethodName) "WaterByLetters") ∈ lw_tbl := z_has_tbl (w := some (1, 179)) (by decide +kernel)
theorem wn_81 : (Cond.instanceMethod ({ cls := "WaterByLetters$Pump", name := "<init>", desc := "()V" } : Jvm.MethodName)) ∈ z_tb := z_has_tb (w := some (1, 180)) (by decide +kernel) rfl
theorem wn_82 : (Cond.code ({ cls := "WaterByLetters$Pump", name := "<init>", desc := "()V" } : Jvm.MethodName) prog_6_method_1_code (1 : Nat) (Option.none : Option Jvm.ClassFile.FieldType)) ∈ z_tb := z_has_tb (w := some (1, 181)) (by decide +kernel) rfl
theorem wn_83 : (Cond.fieldLink "WaterByLetters" (56 : Nat) "WaterByLetters" "pump" "LWaterByLetters$Pump;") ∈ z_tb := z_has_tb (w := some (2, 70)) (by decide +kernel) rfl
theorem wn_cl_WaterByLetters_60 : (Cond.classLink "WaterByLetters" (60 : Nat) "WaterByLetters$Past") ∈ z_tb := z_has_tb (w := some (1, 215)) (by decide +kernel) rfl
theorem wn_in_WaterByLetters_Past : (Cond.instantiable "WaterByLetters$Past" (3 : Nat)) ∈ z_tb := z_has_tb (w := some (1, 216)) (by decide +kernel) rfl
theorem wn_86 : (Cond.initialized "WaterByLetters$Past") ∈ z_tb := z_has_tb (w := some (1, 8)) (by decide +kernel) rfl
theorem wn_87 : (Cond.methodLink "WaterByLetters" (62 : Nat) ({ cls := "WaterByLetters$Past", name := "<init>", desc := "()V" } : Jvm.MethodName)) ∈ z_tb := z_has_tb (w := some (1, 217)) (by decide +kernel) rfl
theorem wn_88 : (Cond.instanceMethod ({ cls := "WaterByLetters$Past", name := "<init>", desc := "()V" } : Jvm.MethodName)) ∈ z_tb := z_has_tb (w := some (1, 218)) (by decide +kernel) rfl
theorem wn_89 : (Cond.code ({ cls := "WaterByLetters$Past", name := "<init>", desc := "()V" } : Jvm.MethodName) prog_5_method_1_code (2 : Nat) (Option.none : Option Jvm.ClassFile.FieldType)) ∈ z_tb := z_has_tb (w := some (1, 219)) (by decide +kernel) rfl
theorem wn_90 : (Cond.fieldLink "WaterByLetters" (63 : Nat) "WaterByLetters" "past" "LWaterByLetters$Past;") ∈ z_tb := z_has_tb (w := some (2, 71)) (by decide +kernel) rfl
theorem wn_91 : (Cond.fieldLink "WaterByLetters" (67 : Nat) "WaterByLetters" "kept" "[LWaterByLetters$Town;") ∈ z_tb := z_has_tb (w := some (2, 72)) (by decide +kernel) rfl
theorem wn_92 : (Cond.fieldLink "WaterByLetters" (71 : Nat) "WaterByLetters" "seenAhead" "[I") ∈ z_tb := z_has_tb (w := some (2, 74)) (by decide +kernel) rfl
theorem wn_93 : (Cond.fieldLink "WaterByLetters" (75 : Nat) "WaterByLetters" "seenBehind" "[I") ∈ z_tb := z_has_tb (w := some (2, 75)) (by decide +kernel) rfl
theorem wn_cl_WaterByLetters_78 : (Cond.classLink "WaterByLetters" (78 : Nat) "WaterByLetters$Orders") ∈ z_tb := z_has_tb (w := some (1, 235)) (by decide +kernel) rfl
theorem wn_in_WaterByLetters_Orders : (Cond.instantiable "WaterByLetters$Orders" (7 : Nat)) ∈ z_tb := z_has_tb (w := some (1, 236)) (by decide +kernel) rfl
theorem wn_96 : (Cond.initialized "WaterByLetters$Orders") ∈ z_tb := z_has_tb (w := some (1, 9)) (by decide +kernel) rfl
theorem wn_97 : (Cond.methodLinkNest "WaterByLetters" (80 : Nat) ({ cls := "WaterByLetters$Orders", name := "<init>", desc := "()V" } : Jvm.MethodName) "WaterByLetters") ∈ lw_tbl := z_has_tbl (w := some (1, 237)) (by decide +kernel)
theorem wn_98 : (Cond.instanceMethod ({ cls := "WaterByLetters$Orders", name := "<init>", desc := "()V" } : Jvm.MethodName)) ∈ z_tb := z_has_tb (w := some (1, 238)) (by decide +kernel) rfl
theorem wn_99 : (Cond.code ({ cls := "WaterByLetters$Orders", name := "<init>", desc := "()V" } : Jvm.MethodName) prog_4_method_1_code (1 : Nat) (Option.none : Option Jvm.ClassFile.FieldType)) ∈ z_tb := z_has_tb (w := some (1, 239)) (by decide +kernel) rfl
theorem wn_100 : (Cond.fieldLink "WaterByLetters" (81 : Nat) "WaterByLetters" "orders" "LWaterByLetters$Orders;") ∈ z_tb := z_has_tb (w := some (2, 77)) (by decide +kernel) rfl
theorem wn_cl_WaterByLetters_85 : (Cond.classLink "WaterByLetters" (85 : Nat) "WaterByLetters$Thrift") ∈ z_tb := z_has_tb (w := some (2, 23)) (by decide +kernel) rfl
theorem wn_in_WaterByLetters_Thrift : (Cond.instantiable "WaterByLetters$Thrift" (6 : Nat)) ∈ z_tb := z_has_tb (w := some (2, 24)) (by decide +kernel) rfl
theorem wn_103 : (Cond.initialized "WaterByLetters$Thrift") ∈ z_tb := z_has_tb (w := some (1, 10)) (by decide +kernel) rfl
theorem wn_104 : (Cond.methodLinkNest "WaterByLetters" (87 : Nat) ({ cls := "WaterByLetters$Thrift", name := "<init>", desc := "()V" } : Jvm.MethodName) "WaterByLetters") ∈ lw_tbl := z_has_tbl (w := some (2, 25)) (by decide +kernel)
theorem wn_105 : (Cond.instanceMethod ({ cls := "WaterByLetters$Thrift", name := "<init>", desc := "()V" } : Jvm.MethodName)) ∈ z_tb := z_has_tb (w := some (2, 26)) (by decide +kernel) rfl
theorem wn_106 : (Cond.code ({ cls := "WaterByLetters$Thrift", name := "<init>", desc := "()V" } : Jvm.MethodName) prog_10_method_1_code (1 : Nat) (Option.none : Option Jvm.ClassFile.FieldType)) ∈ z_tb := z_has_tb (w := some (2, 27)) (by decide +kernel) rfl
theorem wn_107 : (Cond.fieldLink "WaterByLetters" (88 : Nat) "WaterByLetters" "thrift" "LWaterByLetters$Thrift;") ∈ z_tb := z_has_tb (w := some (2, 78)) (by decide +kernel) rfl
theorem wn_cl_WaterByLetters_92 : (Cond.classLink "WaterByLetters" (92 : Nat) "WaterByLetters$Matching") ∈ z_tb := z_has_tb (w := some (2, 49)) (by decide +kernel) rfl
theorem wn_in_WaterByLetters_Matching : (Cond.instantiable "WaterByLetters$Matching" (2 : Nat)) ∈ z_tb := z_has_tb (w := some (2, 50)) (by decide +kernel) rfl
theorem wn_110 : (Cond.initialized "WaterByLetters$Matching") ∈ z_tb := z_has_tb (w := some (1, 11)) (by decide +kernel) rfl
theorem wn_111 : (Cond.methodLinkNest "WaterByLetters" (94 : Nat) ({ cls := "WaterByLetters$Matching", name := "<init>", desc := "()V" } : Jvm.MethodName) "WaterByLetters") ∈ lw_tbl := z_has_tbl (w := some (2, 51)) (by decide +kernel)
theorem wn_112 : (Cond.instanceMethod ({ cls := "WaterByLetters$Matching", name := "<init>", desc := "()V" } : Jvm.MethodName)) ∈ z_tb := z_has_tb (w := some (2, 52)) (by decide +kernel) rfl
theorem wn_113 : (Cond.code ({ cls := "WaterByLetters$Matching", name := "<init>", desc := "()V" } : Jvm.MethodName) prog_3_method_1_code (1 : Nat) (Option.none : Option Jvm.ClassFile.FieldType)) ∈ z_tb := z_has_tb (w := some (2, 53)) (by decide +kernel) rfl
theorem wn_114 : (Cond.fieldLink "WaterByLetters" (95 : Nat) "WaterByLetters" "matching" "LWaterByLetters$Matching;") ∈ z_tb := z_has_tb (w := some (2, 79)) (by decide +kernel) rfl
theorem wn_115 : (Cond.fieldLink "WaterByLetters" (99 : Nat) "WaterByLetters" "draft" "[I") ∈ z_tb := z_has_tb (w := some (2, 80)) (by decide +kernel) rfl
def zS_W (S : Nat → Nat → Bool) : Nat → Nat → Bool := (zS_tow 161 141 (zn_set (zn_set (zS_Matching (zn_set (zS_Thrift (zn_set (zS_Orders (zn_set (zn_set (zn_set (zn_set (zS_Past (zn_set (zS_Pump (zn_set (zS_Book (zn_set (zS_Book (zn_set (zS_Town (zn_set (zS_Town (zn_set (zS_Rule (zn_set (zS_Rule (zn_set (zS_Row (zn_set (zS_Text S) 0 0)) 0 1) (5)) 0 2) (14)) 0 3) (23)) 0 4) (29)) 0 5) (35)) 0 6) (40)) 0 7)) 0 8)) 0 9) 0 10) 0 12) 0 13)) 0 15)) 0 16)) 0 17) 0 18) 3)
def zM_W (M : zM) : zM := (zM_tow 161 (zM_Matching (zM_Thrift (zM_Orders (zM_Past (zM_Pump (zM_Book (zM_Book (zM_Town (zM_Town (zM_Rule (zM_Rule (zM_Row (zM_Text M)) (5)) (14)) (23)) (29)) (35)) (40))))))) 3)
set_option maxRecDepth 20000 in
set_option maxHeartbeats 2000000 in
theorem zc_W {l : Launch} {base : Nat} {D : va_G} {cA : Nat → ClassId} {S : Nat → Nat → Bool} {M : zM}  : zn_M l base D cA ⟨"WaterByLetters", "<init>", "()V"⟩ prog_1_method_1_code 2 3 178 3692 (0) (1) S M (179) (zS_W S) (zM_W M) := by
  refine zn_body (by decide) rfl (by decide) (fun p e s m below meth c ls cx hin hr hlocks hs0 hP hS hl => ?_)
  obtain ⟨hx, hb, -⟩ := id cx
  refine lv_aload_n hx hb dn_W_0 rfl (lv_at hl 0 rfl) ?_
  refine zn_obj cx dn_W_1 wn_ol_W wn_obj_m wn_obj_c ⟨(Nat.le_of_ble_eq_true rfl), (Nat.le_of_ble_eq_true rfl)⟩ hl.1 ?_
  refine lv_aload_n hx hb dn_W_4 rfl (lv_at hl 0 rfl) ?_
  refine zn_new (k := 1) (ci := 7) (N := 2) cx dn_W_5 (by decide) rfl rfl wn_cl_WaterByLetters_9 wn_in_WaterByLetters_Text wn_45 (Nat.le_of_ble_eq_true rfl) (Nat.le_of_ble_eq_true rfl) hP hS (fun H hP hS => ?_)
  refine lv_dup hx hb dn_W_8 rfl ?_
  refine zn_callN (a := 1) (k := 2) cx (zc_Text) dn_W_9 ⟨(Nat.le_of_ble_eq_true rfl), (Nat.le_of_ble_eq_true rfl)⟩ wn_46 wn_47 wn_45 wn_48 (by decide +kernel) rfl (Nat.le_of_ble_eq_true rfl) (Nat.le_of_ble_eq_true rfl) (Nat.le_of_ble_eq_true rfl) hl.1 hP hS (fun H locs hP hS => ?_)
  refine zn_putR (a := 0) (ci := 10) (j := 0) (off := 1) (k := 3) (ty := .object "WaterByLetters$Text") cx dn_W_12 (by omega) (by omega) (by decide) rfl rfl (by decide) wn_49 rfl hin rfl (by decide +kernel) (fun _ => rfl) (fun _ => rfl) rfl hP hS (fun H locs hP hS => ?_)
  refine lv_aload_n hx hb dn_W_15 rfl (lv_at hl 0 rfl) ?_
  refine zn_new (k := 3) (ci := 5) (N := 2) cx dn_W_16 (by decide) rfl rfl wn_cl_WaterByLetters_16 wn_in_WaterByLetters_Row wn_52 (Nat.le_of_ble_eq_true rfl) (Nat.le_of_ble_eq_true rfl) hP hS (fun H hP hS => ?_)
  refine lv_dup hx hb dn_W_19 rfl ?_
  refine zn_callN (a := 3) (k := 4) cx (zc_Row) dn_W_20 ⟨(Nat.le_of_ble_eq_true rfl), (Nat.le_of_ble_eq_true rfl)⟩ wn_53 wn_54 wn_52 wn_55 (by decide +kernel) rfl (Nat.le_of_ble_eq_true rfl) (Nat.le_of_ble_eq_true rfl) (Nat.le_of_ble_eq_true rfl) hl.1 hP hS (fun H locs hP hS => ?_)
  refine zn_putR (a := 0) (ci := 10) (j := 1) (off := 3) (k := 5) (ty := .object "WaterByLetters$Row") cx dn_W_23 (by omega) (by omega) (by decide) rfl rfl (by decide) wn_56 rfl hin rfl (by decide +kernel) (fun _ => rfl) (fun _ => rfl) rfl hP hS (fun H locs hP hS => ?_)
  refine lv_aload_n hx hb dn_W_26 rfl (lv_at hl 0 rfl) ?_
  refine zn_new (k := 5) (ci := 6) (N := 10) cx dn_W_27 (by decide) rfl rfl wn_cl_WaterByLetters_23 wn_in_WaterByLetters_Rule wn_59 (Nat.le_of_ble_eq_true rfl) (Nat.le_of_ble_eq_true rfl) hP hS (fun H hP hS => ?_)
  refine lv_dup hx hb dn_W_30 rfl ?_
  refine zn_callN (a := 5) (k := 6) cx (zc_Rule rfl rfl rfl rfl rfl rfl rfl rfl rfl) dn_W_31 ⟨(Nat.le_of_ble_eq_true rfl), (Nat.le_of_ble_eq_true rfl)⟩ wn_60 wn_61 wn_59 wn_62 (by decide +kernel) rfl (Nat.le_of_ble_eq_true rfl) (Nat.le_of_ble_eq_true rfl) (Nat.le_of_ble_eq_true rfl) hl.1 hP hS (fun H locs hP hS => ?_)
  refine zn_putR (a := 0) (ci := 10) (j := 2) (off := 5) (k := 14) (ty := .object "WaterByLetters$Rule") cx dn_W_34 (by omega) (by omega) (by decide) rfl rfl (by decide) wn_63 rfl hin rfl (by decide +kernel) (fun _ => rfl) (fun _ => rfl) rfl hP hS (fun H locs hP hS => ?_)
  refine lv_aload_n hx hb dn_W_37 rfl (lv_at hl 0 rfl) ?_
  refine zn_new (k := 14) (ci := 6) (N := 10) cx dn_W_38 (by decide) rfl rfl wn_cl_WaterByLetters_23 wn_in_WaterByLetters_Rule wn_59 (Nat.le_of_ble_eq_true rfl) (Nat.le_of_ble_eq_true rfl) hP hS (fun H hP hS => ?_)
  refine lv_dup hx hb dn_W_41 rfl ?_
  refine zn_callN (a := 14) (k := 15) cx (zc_Rule rfl rfl rfl rfl rfl rfl rfl rfl rfl) dn_W_42 ⟨(Nat.le_of_ble_eq_true rfl), (Nat.le_of_ble_eq_true rfl)⟩ wn_60 wn_61 wn_59 wn_62 (by decide +kernel) rfl (Nat.le_of_ble_eq_true rfl) (Nat.le_of_ble_eq_true rfl) (Nat.le_of_ble_eq_true rfl) hl.1 hP hS (fun H locs hP hS => ?_)
  refine zn_putR (a := 0) (ci := 10) (j := 3) (off := 14) (k := 23) (ty := .object "WaterByLetters$Rule") cx dn_W_45 (by omega) (by omega) (by decide) rfl rfl (by decide) wn_64 rfl hin rfl (by decide +kernel) (fun _ => rfl) (fun _ => rfl) rfl hP hS (fun H locs hP hS => ?_)
  refine lv_aload_n hx hb dn_W_48 rfl (lv_at hl 0 rfl) ?_
  refine zn_new (k := 23) (ci := 9) (N := 7) cx dn_W_49 (by decide) rfl rfl wn_cl_WaterByLetters_33 wn_in_WaterByLetters_Town wn_39 (Nat.le_of_ble_eq_true rfl) (Nat.le_of_ble_eq_true rfl) hP hS (fun H hP hS => ?_)
  refine lv_dup hx hb dn_W_52 rfl ?_
  refine zn_callI (a := 23) (k := 24) cx (zc_Town rfl rfl rfl rfl rfl rfl) dn_W_53 ⟨(Nat.le_of_ble_eq_true rfl), (Nat.le_of_ble_eq_true rfl)⟩ wn_66 wn_41 wn_39 wn_42 (by decide +kernel) rfl (Nat.le_of_ble_eq_true rfl) (Nat.le_of_ble_eq_true rfl) (Nat.le_of_ble_eq_true rfl) hl.1 hP hS (fun H locs hP hS => ?_)
  refine zn_putR (a := 0) (ci := 10) (j := 4) (off := 23) (k := 29) (ty := .object "WaterByLetters$Town") cx dn_W_56 (by omega) (by omega) (by decide) rfl rfl (by decide) wn_67 rfl hin rfl (by decide +kernel) (fun _ => rfl) (fun _ => rfl) rfl hP hS (fun H locs hP hS => ?_)
  refine lv_aload_n hx hb dn_W_59 rfl (lv_at hl 0 rfl) ?_
  refine zn_new (k := 29) (ci := 9) (N := 7) cx dn_W_60 (by decide) rfl rfl wn_cl_WaterByLetters_33 wn_in_WaterByLetters_Town wn_39 (Nat.le_of_ble_eq_true rfl) (Nat.le_of_ble_eq_true rfl) hP hS (fun H hP hS => ?_)
  refine lv_dup hx hb dn_W_63 rfl ?_
  refine zn_callI (a := 29) (k := 30) cx (zc_Town rfl rfl rfl rfl rfl rfl) dn_W_64 ⟨(Nat.le_of_ble_eq_true rfl), (Nat.le_of_ble_eq_true rfl)⟩ wn_66 wn_41 wn_39 wn_42 (by decide +kernel) rfl (Nat.le_of_ble_eq_true rfl) (Nat.le_of_ble_eq_true rfl) (Nat.le_of_ble_eq_true rfl) hl.1 hP hS (fun H locs hP hS => ?_)
  refine zn_putR (a := 0) (ci := 10) (j := 5) (off := 29) (k := 35) (ty := .object "WaterByLetters$Town") cx dn_W_67 (by omega) (by omega) (by decide) rfl rfl (by decide) wn_68 rfl hin rfl (by decide +kernel) (fun _ => rfl) (fun _ => rfl) rfl hP hS (fun H locs hP hS => ?_)
  refine lv_aload_n hx hb dn_W_70 rfl (lv_at hl 0 rfl) ?_
  refine zn_new (k := 35) (ci := 0) (N := 5) cx dn_W_71 (by decide) rfl rfl wn_cl_WaterByLetters_43 wn_in_WaterByLetters_Book wn_71 (Nat.le_of_ble_eq_true rfl) (Nat.le_of_ble_eq_true rfl) hP hS (fun H hP hS => ?_)
  refine lv_dup hx hb dn_W_74 rfl ?_
  refine zn_callN (a := 35) (k := 36) cx (zc_Book rfl rfl rfl rfl rfl) dn_W_75 ⟨(Nat.le_of_ble_eq_true rfl), (Nat.le_of_ble_eq_true rfl)⟩ wn_72 wn_73 wn_71 wn_74 (by decide +kernel) rfl (Nat.le_of_ble_eq_true rfl) (Nat.le_of_ble_eq_true rfl) (Nat.le_of_ble_eq_true rfl) hl.1 hP hS (fun H locs hP hS => ?_)
  refine zn_putR (a := 0) (ci := 10) (j := 6) (off := 35) (k := 40) (ty := .object "WaterByLetters$Book") cx dn_W_78 (by omega) (by omega) (by decide) rfl rfl (by decide) wn_75 rfl hin rfl (by decide +kernel) (fun _ => rfl) (fun _ => rfl) rfl hP hS (fun H locs hP hS => ?_)
  refine lv_aload_n hx hb dn_W_81 rfl (lv_at hl 0 rfl) ?_
  refine zn_new (k := 40) (ci := 0) (N := 5) cx dn_W_82 (by decide) rfl rfl wn_cl_WaterByLetters_43 wn_in_WaterByLetters_Book wn_71 (Nat.le_of_ble_eq_true rfl) (Nat.le_of_ble_eq_true rfl) hP hS (fun H hP hS => ?_)
  refine lv_dup hx hb dn_W_85 rfl ?_
  refine zn_callN (a := 40) (k := 41) cx (zc_Book rfl rfl rfl rfl rfl) dn_W_86 ⟨(Nat.le_of_ble_eq_true rfl), (Nat.le_of_ble_eq_true rfl)⟩ wn_72 wn_73 wn_71 wn_74 (by decide +kernel) rfl (Nat.le_of_ble_eq_true rfl) (Nat.le_of_ble_eq_true rfl) (Nat.le_of_ble_eq_true rfl) hl.1 hP hS (fun H locs hP hS => ?_)
  refine zn_putR (a := 0) (ci := 10) (j := 7) (off := 40) (k := 45) (ty := .object "WaterByLetters$Book") cx dn_W_89 (by omega) (by omega) (by decide) rfl rfl (by decide) wn_76 rfl hin rfl (by decide +kernel) (fun _ => rfl) (fun _ => rfl) rfl hP hS (fun H locs hP hS => ?_)
  refine lv_aload_n hx hb dn_W_92 rfl (lv_at hl 0 rfl) ?_
  refine zn_new (k := 45) (ci := 4) (N := 8) cx dn_W_93 (by decide) rfl rfl wn_cl_WaterByLetters_53 wn_in_WaterByLetters_Pump wn_79 (Nat.le_of_ble_eq_true rfl) (Nat.le_of_ble_eq_true rfl) hP hS (fun H hP hS => ?_)
  refine lv_dup hx hb dn_W_96 rfl ?_
  refine zn_callN (a := 45) (k := 46) cx (zc_Pump) dn_W_97 ⟨(Nat.le_of_ble_eq_true rfl), (Nat.le_of_ble_eq_true rfl)⟩ wn_80 wn_81 wn_79 wn_82 (by decide +kernel) rfl (Nat.le_of_ble_eq_true rfl) (Nat.le_of_ble_eq_true rfl) (Nat.le_of_ble_eq_true rfl) hl.1 hP hS (fun H locs hP hS => ?_)
  refine zn_putR (a := 0) (ci := 10) (j := 8) (off := 45) (k := 49) (ty := .object "WaterByLetters$Pump") cx dn_W_100 (by omega) (by omega) (by decide) rfl rfl (by decide) wn_83 rfl hin rfl (by decide +kernel) (fun _ => rfl) (fun _ => rfl) rfl hP hS (fun H locs hP hS => ?_)
  refine lv_aload_n hx hb dn_W_103 rfl (lv_at hl 0 rfl) ?_
  refine zn_new (k := 49) (ci := 3) (N := 3) cx dn_W_104 (by decide) rfl rfl wn_cl_WaterByLetters_60 wn_in_WaterByLetters_Past wn_86 (Nat.le_of_ble_eq_true rfl) (Nat.le_of_ble_eq_true rfl) hP hS (fun H hP hS => ?_)
  refine lv_dup hx hb dn_W_107 rfl ?_
  refine zn_callI (a := 49) (k := 50) cx (zc_Past) dn_W_108 ⟨(Nat.le_of_ble_eq_true rfl), (Nat.le_of_ble_eq_true rfl)⟩ wn_87 wn_88 wn_86 wn_89 (by decide +kernel) rfl (Nat.le_of_ble_eq_true rfl) (Nat.le_of_ble_eq_true rfl) (Nat.le_of_ble_eq_true rfl) hl.1 hP hS (fun H locs hP hS => ?_)
  refine zn_putR (a := 0) (ci := 10) (j := 9) (off := 49) (k := 141) (ty := .object "WaterByLetters$Past") cx dn_W_111 (by omega) (by omega) (by decide) rfl rfl (by decide) wn_90 rfl hin rfl (by decide +kernel) (fun _ => rfl) (fun _ => rfl) rfl hP hS (fun H locs hP hS => ?_)
  refine lv_aload_n hx hb dn_W_114 rfl (lv_at hl 0 rfl) ?_
  refine lv_iconst (v := 3) hx hb dn_W_115 (by decide) ?_
  refine zn_newQ (k := 141) (N := 3) cx dn_W_116 rfl (by decide) (by decide) (by decide) wn_cl_WaterByLetters_33 (Nat.le_of_ble_eq_true rfl) (Nat.le_of_ble_eq_true rfl) hP hS (fun H hP hS => ?_)
  refine zn_putR (a := 0) (ci := 10) (j := 10) (off := 141) (k := 142) (ty := .array (.object "WaterByLetters$Town")) cx dn_W_119 (by omega) (by omega) (by decide) rfl rfl (by decide) wn_91 rfl hin rfl (by decide +kernel) (fun _ => rfl) (fun _ => rfl) rfl hP hS (fun H locs hP hS => ?_)
  refine lv_aload_n hx hb dn_W_122 rfl (lv_at hl 0 rfl) ?_
  refine lv_bipush (v := 8) hx hb dn_W_123 (by decide) ?_
  refine zn_newI (k := 142) (N := 8) cx dn_W_125 rfl (by decide) (by decide) (by decide) wn_arr_int (Nat.le_of_ble_eq_true rfl) (Nat.le_of_ble_eq_true rfl) hP hS (fun H hP hS => ?_)
  refine zn_putR (a := 0) (ci := 10) (j := 12) (off := 142) (k := 143) (ty := .array .int) cx dn_W_127 (by omega) (by omega) (by decide) rfl rfl (by decide) wn_92 rfl hin rfl (by decide +kernel) (fun _ => rfl) (fun _ => rfl) rfl hP hS (fun H locs hP hS => ?_)
  refine lv_aload_n hx hb dn_W_130 rfl (lv_at hl 0 rfl) ?_
  refine lv_bipush (v := 8) hx hb dn_W_131 (by decide) ?_
  refine zn_newI (k := 143) (N := 8) cx dn_W_133 rfl (by decide) (by decide) (by decide) wn_arr_int (Nat.le_of_ble_eq_true rfl) (Nat.le_of_ble_eq_true rfl) hP hS (fun H hP hS => ?_)
  refine zn_putR (a := 0) (ci := 10) (j := 13) (off := 143) (k := 144) (ty := .array .int) cx dn_W_135 (by omega) (by omega) (by decide) rfl rfl (by decide) wn_93 rfl hin rfl (by decide +kernel) (fun _ => rfl) (fun _ => rfl) rfl hP hS (fun H locs hP hS => ?_)
  refine lv_aload_n hx hb dn_W_138 rfl (lv_at hl 0 rfl) ?_
  refine zn_new (k := 144) (ci := 2) (N := 7) cx dn_W_139 (by decide) rfl rfl wn_cl_WaterByLetters_78 wn_in_WaterByLetters_Orders wn_96 (Nat.le_of_ble_eq_true rfl) (Nat.le_of_ble_eq_true rfl) hP hS (fun H hP hS => ?_)
  refine lv_dup hx hb dn_W_142 rfl ?_
  refine zn_callN (a := 144) (k := 145) cx (zc_Orders) dn_W_143 ⟨(Nat.le_of_ble_eq_true rfl), (Nat.le_of_ble_eq_true rfl)⟩ wn_97 wn_98 wn_96 wn_99 (by decide +kernel) rfl (Nat.le_of_ble_eq_true rfl) (Nat.le_of_ble_eq_true rfl) (Nat.le_of_ble_eq_true rfl) hl.1 hP hS (fun H locs hP hS => ?_)
  refine zn_putR (a := 0) (ci := 10) (j := 15) (off := 144) (k := 151) (ty := .object "WaterByLetters$Orders") cx dn_W_146 (by omega) (by omega) (by decide) rfl rfl (by decide) wn_100 rfl hin rfl (by decide +kernel) (fun _ => rfl) (fun _ => rfl) rfl hP hS (fun H locs hP hS => ?_)
  refine lv_aload_n hx hb dn_W_149 rfl (lv_at hl 0 rfl) ?_
  refine zn_new (k := 151) (ci := 8) (N := 6) cx dn_W_150 (by decide) rfl rfl wn_cl_WaterByLetters_85 wn_in_WaterByLetters_Thrift wn_103 (Nat.le_of_ble_eq_true rfl) (Nat.le_of_ble_eq_true rfl) hP hS (fun H hP hS => ?_)
  refine lv_dup hx hb dn_W_153 rfl ?_
  refine zn_callN (a := 151) (k := 152) cx (zc_Thrift) dn_W_154 ⟨(Nat.le_of_ble_eq_true rfl), (Nat.le_of_ble_eq_true rfl)⟩ wn_104 wn_105 wn_103 wn_106 (by decide +kernel) rfl (Nat.le_of_ble_eq_true rfl) (Nat.le_of_ble_eq_true rfl) (Nat.le_of_ble_eq_true rfl) hl.1 hP hS (fun H locs hP hS => ?_)
  refine zn_putR (a := 0) (ci := 10) (j := 16) (off := 151) (k := 157) (ty := .object "WaterByLetters$Thrift") cx dn_W_157 (by omega) (by omega) (by decide) rfl rfl (by decide) wn_107 rfl hin rfl (by decide +kernel) (fun _ => rfl) (fun _ => rfl) rfl hP hS (fun H locs hP hS => ?_)
  refine lv_aload_n hx hb dn_W_160 rfl (lv_at hl 0 rfl) ?_
  refine zn_new (k := 157) (ci := 1) (N := 2) cx dn_W_161 (by decide) rfl rfl wn_cl_WaterByLetters_92 wn_in_WaterByLetters_Matching wn_110 (Nat.le_of_ble_eq_true rfl) (Nat.le_of_ble_eq_true rfl) hP hS (fun H hP hS => ?_)
  refine lv_dup hx hb dn_W_164 rfl ?_
  refine zn_callN (a := 157) (k := 158) cx (zc_Matching) dn_W_165 ⟨(Nat.le_of_ble_eq_true rfl), (Nat.le_of_ble_eq_true rfl)⟩ wn_111 wn_112 wn_110 wn_113 (by decide +kernel) rfl (Nat.le_of_ble_eq_true rfl) (Nat.le_of_ble_eq_true rfl) (Nat.le_of_ble_eq_true rfl) hl.1 hP hS (fun H locs hP hS => ?_)
  refine zn_putR (a := 0) (ci := 10) (j := 17) (off := 157) (k := 160) (ty := .object "WaterByLetters$Matching") cx dn_W_168 (by omega) (by omega) (by decide) rfl rfl (by decide) wn_114 rfl hin rfl (by decide +kernel) (fun _ => rfl) (fun _ => rfl) rfl hP hS (fun H locs hP hS => ?_)
  refine lv_aload_n hx hb dn_W_171 rfl (lv_at hl 0 rfl) ?_
  refine lv_bipush (v := 8) hx hb dn_W_172 (by decide) ?_
  refine zn_newI (k := 160) (N := 8) cx dn_W_174 rfl (by decide) (by decide) (by decide) wn_arr_int (Nat.le_of_ble_eq_true rfl) (Nat.le_of_ble_eq_true rfl) hP hS (fun H hP hS => ?_)
  refine zn_putR (a := 0) (ci := 10) (j := 18) (off := 160) (k := 161) (ty := .array .int) cx dn_W_176 (by omega) (by omega) (by decide) rfl rfl (by decide) wn_115 rfl hin rfl (by decide +kernel) (fun _ => rfl) (fun _ => rfl) rfl hP hS (fun H locs hP hS => ?_)
  refine lv_iconst (v := 0) hx hb dn_W_179 (by decide) ?_
  refine lv_istore_n (lv' := [(1, .int (nI 0)), (0, .ref (base + 0))]) hx hb dn_W_180 rfl hl (by decide) rfl (fun ls hl => ?_)
  suffices loop : ∀ (n i : Nat), i + n = 3 → ∀ (H : Heap) (locs : List Loc) (ls : Array Slot), zn_P base D cA (zS_tow 161 141 (zn_set (zn_set (zS_Matching (zn_set (zS_Thrift (zn_set (zS_Orders (zn_set (zn_set (zn_set (zn_set (zS_Past (zn_set (zS_Pump (zn_set (zS_Book (zn_set (zS_Book (zn_set (zS_Town (zn_set (zS_Town (zn_set (zS_Rule (zn_set (zS_Rule (zn_set (zS_Row (zn_set (zS_Text S) 0 0)) 0 1) (5)) 0 2) (14)) 0 3) (23)) 0 4) (29)) 0 5) (35)) 0 6) (40)) 0 7)) 0 8)) 0 9) 0 10) 0 12) 0 13)) 0 15)) 0 16)) 0 17) 0 18) i) (zM_tow 161 (zM_Matching (zM_Thrift (zM_Orders (zM_Past (zM_Pump (zM_Book (zM_Book (zM_Town (zM_Town (zM_Rule (zM_Rule (zM_Row (zM_Text M)) (5)) (14)) (23)) (29)) (35)) (40))))))) i) (161 + 6 * i) H → va_S (fun q => base ≤ q) s.heap H locs → lv_has ls 2 [(1, .int (nI i)), (0, .ref (base + 0))] → W p l e (zn_rm 3 178 3692) s m #[.ref (base + 0)] below meth c H locs (160 + 6 * i) (3431 + 87 * i) (MQ below (zn_Q base D cA 179 (zS_tow 161 141 (zn_set (zn_set (zS_Matching (zn_set (zS_Thrift (zn_set (zS_Orders (zn_set (zn_set (zn_set (zn_set (zS_Past (zn_set (zS_Pump (zn_set (zS_Book (zn_set (zS_Book (zn_set (zS_Town (zn_set (zS_Town (zn_set (zS_Rule (zn_set (zS_Rule (zn_set (zS_Row (zn_set (zS_Text S) 0 0)) 0 1) (5)) 0 2) (14)) 0 3) (23)) 0 4) (29)) 0 5) (35)) 0 6) (40)) 0 7)) 0 8)) 0 9) 0 10) 0 12) 0 13)) 0 15)) 0 16)) 0 17) 0 18) 3) (zM_tow 161 (zM_Matching (zM_Thrift (zM_Orders (zM_Past (zM_Pump (zM_Book (zM_Book (zM_Town (zM_Town (zM_Rule (zM_Rule (zM_Row (zM_Text M)) (5)) (14)) (23)) (29)) (35)) (40))))))) 3)) #[.ref (base + 0)] s 178 3692 (fun q => base ≤ q)) (F0 m 181 ls []) from zn_cs rfl rfl (loop 3 0 rfl H locs ls hP hS hl)
  intro n
  induction n with
  | zero =>
    intro i hi H locs ls hP hS hl
    obtain rfl : i = 3 := by omega
    refine zn_cs (cells' := 178) (slots' := 3692) rfl rfl ?_
    refine lv_iload_n hx hb dn_W_181 rfl (lv_at hl 0 rfl) ?_
    refine lv_iconst (v := nI 3) hx hb dn_W_182 (by decide) ?_
    refine lv_icmp_ge (tgt := 205) hx hb dn_W_183 (by decide) (fun _ => ?_) (fun h => absurd (nI_le (Nat.le_refl 3) (by decide)) h)
    exact W.vret hx hb hr (fun t ht _ => ⟨⟨rfl, by rw [ht]; exact hP⟩, hS.F ht⟩) hS.2.2 dn_W_205 hlocks
  | succ n ih =>
    intro i hi H locs ls hP hS hl
    obtain ⟨g0, g1, g2, g3, g4, g5⟩ := zk_tow161 i (by omega)
    refine lv_iload_n hx hb dn_W_181 rfl (lv_at hl 0 rfl) ?_
    refine lv_iconst (v := nI 3) hx hb dn_W_182 (by decide) ?_
    refine lv_icmp_ge (tgt := 205) hx hb dn_W_183 (by decide) (fun h => absurd h (nI_ge (by omega) (by decide))) (fun _ => ?_)
    refine lv_aload_n hx hb dn_W_186 rfl (lv_at hl 1 rfl) ?_
    refine zn_getR (a := 0) (ci := 10) (j := 10) (off := 141) (k := 161 + 6 * i) cx dn_W_187 (by omega) (by decide) rfl rfl (by decide) wn_91 rfl (zS_tow_keep rfl i) hP ?_
    refine lv_iload_n hx hb dn_W_190 rfl (lv_at hl 0 rfl) ?_
    refine zn_new (k := 161 + 6 * i) (ci := 9) (N := 7) cx dn_W_191 (by decide) rfl g0 wn_cl_WaterByLetters_33 wn_in_WaterByLetters_Town wn_39 (by show 160 + 6 * i + 1 ≤ 178; omega) (by show 3431 + 87 * i + 7 ≤ 3692; omega) hP hS (fun H hP hS => ?_)
    refine lv_dup hx hb dn_W_194 rfl ?_
    refine zn_callI (a := 161 + 6 * i) (k := 161 + 6 * i + 1) cx (zc_Town g0 g1 g2 g3 g4 g5) dn_W_195 ⟨(Nat.le_of_ble_eq_true rfl), (Nat.le_of_ble_eq_true rfl)⟩ wn_66 wn_41 wn_39 wn_42 (by decide +kernel) rfl (Nat.le_of_ble_eq_true rfl) (by show 160 + 6 * i + 1 + 5 ≤ 178; omega) (by show 3431 + 87 * i + 7 + 80 ≤ 3692; omega) hl.1 hP hS (fun H locs hP hS => ?_)
    refine zn_ast (a := 141) (N := 3) (i := i) (k := 161 + 6 * i + 6) cx dn_W_198 (by omega) (by omega) rfl (by omega) (by decide) (show 161 + 6 * i < 161 + 6 * i + 6 by omega) g0 hP hS (fun H locs hP hS => ?_)
    refine lv_iinc (v := nI (i + 1)) (lv' := [(1, .int (nI (i + 1))), (0, .ref (base + 0))]) hx hb dn_W_199 hl (k := 0) rfl (by rw [nI_succ]; rfl) (by decide) rfl (fun ls hl => ?_)
    refine lv_goto (tgt := 181) hx hb dn_W_202 (by decide) ?_
    exact zn_cs (by omega) (by omega) (ih (i + 1) (by omega) H locs ls hP hS hl)
theorem dn_Mo_0 : decode prog_13_method_9_code 0 = .ok (.aload_n 0, 1) := by decide +kernel
theorem dn_Mo_1 : decode prog_13_method_9_code 1 = .ok (.invokespecial 22, 3) := by decide +kernel
theorem dn_Mo_4 : decode prog_13_method_9_code 4 = .ok (.aload_n 0, 1) := by decide +kernel
theorem dn_Mo_5 : decode prog_13_method_9_code 5 = .ok (.bipush 24, 2) := by decide +kernel
theorem dn_Mo_7 : decode prog_13_method_9_code 7 = .ok (.newarray .long, 2) := by decide +kernel
theorem dn_Mo_9 : decode prog_13_method_9_code 9 = .ok (.putfield 11, 3) := by decide +kernel
theorem dn_Mo_12 : decode prog_13_method_9_code 12 = .ok (.aload_n 0, 1) := by decide +kernel
theorem dn_Mo_13 : decode prog_13_method_9_code 13 = .ok (.iconst 1, 1) := by decide +kernel
theorem dn_Mo_14 : decode prog_13_method_9_code 14 = .ok (.putfield 28, 3) := by decide +kernel
theorem dn_Mo_17 : decode prog_13_method_9_code 17 = .ok (.aload_n 0, 1) := by decide +kernel
theorem dn_Mo_18 : decode prog_13_method_9_code 18 = .ok (.bipush 20, 2) := by decide +kernel
theorem dn_Mo_20 : decode prog_13_method_9_code 20 = .ok (.newarray .int, 2) := by decide +kernel
theorem dn_Mo_22 : decode prog_13_method_9_code 22 = .ok (.putfield 31, 3) := by decide +kernel
theorem dn_Mo_25 : decode prog_13_method_9_code 25 = .ok (.aload_n 0, 1) := by decide +kernel
theorem dn_Mo_26 : decode prog_13_method_9_code 26 = .ok (.bipush 8, 2) := by decide +kernel
theorem dn_Mo_28 : decode prog_13_method_9_code 28 = .ok (.newarray .int, 2) := by decide +kernel
theorem dn_Mo_30 : decode prog_13_method_9_code 30 = .ok (.putfield 35, 3) := by decide +kernel
theorem dn_Mo_33 : decode prog_13_method_9_code 33 = .ok (.aload_n 0, 1) := by decide +kernel
theorem dn_Mo_34 : decode prog_13_method_9_code 34 = .ok (.bipush 81, 2) := by decide +kernel
theorem dn_Mo_36 : decode prog_13_method_9_code 36 = .ok (.newarray .int, 2) := by decide +kernel
theorem dn_Mo_38 : decode prog_13_method_9_code 38 = .ok (.putfield 38, 3) := by decide +kernel
theorem dn_Mo_41 : decode prog_13_method_9_code 41 = .ok (.aload_n 0, 1) := by decide +kernel
theorem dn_Mo_42 : decode prog_13_method_9_code 42 = .ok (.bipush 81, 2) := by decide +kernel
theorem dn_Mo_44 : decode prog_13_method_9_code 44 = .ok (.newarray .int, 2) := by decide +kernel
theorem dn_Mo_46 : decode prog_13_method_9_code 46 = .ok (.putfield 41, 3) := by decide +kernel
theorem dn_Mo_49 : decode prog_13_method_9_code 49 = .ok (.aload_n 0, 1) := by decide +kernel
theorem dn_Mo_50 : decode prog_13_method_9_code 50 = .ok (.bipush 80, 2) := by decide +kernel
theorem dn_Mo_52 : decode prog_13_method_9_code 52 = .ok (.newarray .int, 2) := by decide +kernel
theorem dn_Mo_54 : decode prog_13_method_9_code 54 = .ok (.putfield 44, 3) := by decide +kernel
theorem dn_Mo_57 : decode prog_13_method_9_code 57 = .ok (.aload_n 0, 1) := by decide +kernel
theorem dn_Mo_58 : decode prog_13_method_9_code 58 = .ok (.bipush 48, 2) := by decide +kernel
theorem dn_Mo_60 : decode prog_13_method_9_code 60 = .ok (.newarray .int, 2) := by decide +kernel
theorem dn_Mo_62 : decode prog_13_method_9_code 62 = .ok (.putfield 47, 3) := by decide +kernel
theorem dn_Mo_65 : decode prog_13_method_9_code 65 = .ok (.aload_n 0, 1) := by decide +kernel
theorem dn_Mo_66 : decode prog_13_method_9_code 66 = .ok (.bipush 8, 2) := by decide +kernel
theorem dn_Mo_68 : decode prog_13_method_9_code 68 = .ok (.newarray .int, 2) := by decide +kernel
theorem dn_Mo_70 : decode prog_13_method_9_code 70 = .ok (.putfield 50, 3) := by decide +kernel
theorem dn_Mo_73 : decode prog_13_method_9_code 73 = .ok (.aload_n 0, 1) := by decide +kernel
theorem dn_Mo_74 : decode prog_13_method_9_code 74 = .ok (.bipush 8, 2) := by decide +kernel
theorem dn_Mo_76 : decode prog_13_method_9_code 76 = .ok (.newarray .int, 2) := by decide +kernel
theorem dn_Mo_78 : decode prog_13_method_9_code 78 = .ok (.putfield 53, 3) := by decide +kernel
theorem dn_Mo_81 : decode prog_13_method_9_code 81 = .ok (.aload_n 0, 1) := by decide +kernel
theorem dn_Mo_82 : decode prog_13_method_9_code 82 = .ok (.bipush 20, 2) := by decide +kernel
theorem dn_Mo_84 : decode prog_13_method_9_code 84 = .ok (.newarray .int, 2) := by decide +kernel
theorem dn_Mo_86 : decode prog_13_method_9_code 86 = .ok (.putfield 56, 3) := by decide +kernel
theorem dn_Mo_89 : decode prog_13_method_9_code 89 = .ok (.aload_n 0, 1) := by decide +kernel
theorem dn_Mo_90 : decode prog_13_method_9_code 90 = .ok (.bipush 80, 2) := by decide +kernel
theorem dn_Mo_92 : decode prog_13_method_9_code 92 = .ok (.newarray .int, 2) := by decide +kernel
theorem dn_Mo_94 : decode prog_13_method_9_code 94 = .ok (.putfield 59, 3) := by decide +kernel
theorem dn_Mo_97 : decode prog_13_method_9_code 97 = .ok (.aload_n 0, 1) := by decide +kernel
theorem dn_Mo_98 : decode prog_13_method_9_code 98 = .ok (.bipush 80, 2) := by decide +kernel
theorem dn_Mo_100 : decode prog_13_method_9_code 100 = .ok (.newarray .int, 2) := by decide +kernel
theorem dn_Mo_102 : decode prog_13_method_9_code 102 = .ok (.putfield 62, 3) := by decide +kernel
theorem dn_Mo_105 : decode prog_13_method_9_code 105 = .ok (.aload_n 0, 1) := by decide +kernel
theorem dn_Mo_106 : decode prog_13_method_9_code 106 = .ok (.bipush 80, 2) := by decide +kernel
theorem dn_Mo_108 : decode prog_13_method_9_code 108 = .ok (.newarray .int, 2) := by decide +kernel
theorem dn_Mo_110 : decode prog_13_method_9_code 110 = .ok (.putfield 65, 3) := by decide +kernel
theorem dn_Mo_113 : decode prog_13_method_9_code 113 = .ok (.aload_n 0, 1) := by decide +kernel
theorem dn_Mo_114 : decode prog_13_method_9_code 114 = .ok (.iconst 4, 1) := by decide +kernel
theorem dn_Mo_115 : decode prog_13_method_9_code 115 = .ok (.newarray .int, 2) := by decide +kernel
theorem dn_Mo_117 : decode prog_13_method_9_code 117 = .ok (.putfield 68, 3) := by decide +kernel
theorem dn_Mo_120 : decode prog_13_method_9_code 120 = .ok (.aload_n 0, 1) := by decide +kernel
theorem dn_Mo_121 : decode prog_13_method_9_code 121 = .ok (.bipush 64, 2) := by decide +kernel
theorem dn_Mo_123 : decode prog_13_method_9_code 123 = .ok (.newarray .int, 2) := by decide +kernel
theorem dn_Mo_125 : decode prog_13_method_9_code 125 = .ok (.putfield 71, 3) := by decide +kernel
theorem dn_Mo_128 : decode prog_13_method_9_code 128 = .ok (.aload_n 0, 1) := by decide +kernel
theorem dn_Mo_129 : decode prog_13_method_9_code 129 = .ok (.bipush 64, 2) := by decide +kernel
theorem dn_Mo_131 : decode prog_13_method_9_code 131 = .ok (.newarray .int, 2) := by decide +kernel
theorem dn_Mo_133 : decode prog_13_method_9_code 133 = .ok (.putfield 74, 3) := by decide +kernel
theorem dn_Mo_136 : decode prog_13_method_9_code 136 = .ok (.aload_n 0, 1) := by decide +kernel
theorem dn_Mo_137 : decode prog_13_method_9_code 137 = .ok (.bipush 64, 2) := by decide +kernel
theorem dn_Mo_139 : decode prog_13_method_9_code 139 = .ok (.newarray .boolean, 2) := by decide +kernel
theorem dn_Mo_141 : decode prog_13_method_9_code 141 = .ok (.putfield 77, 3) := by decide +kernel
theorem dn_Mo_144 : decode prog_13_method_9_code 144 = .ok (.aload_n 0, 1) := by decide +kernel
theorem dn_Mo_145 : decode prog_13_method_9_code 145 = .ok (.bipush 8, 2) := by decide +kernel
theorem dn_Mo_147 : decode prog_13_method_9_code 147 = .ok (.newarray .int, 2) := by decide +kernel
theorem dn_Mo_149 : decode prog_13_method_9_code 149 = .ok (.putfield 81, 3) := by decide +kernel
theorem dn_Mo_152 : decode prog_13_method_9_code 152 = .ok (.aload_n 0, 1) := by decide +kernel
theorem dn_Mo_153 : decode prog_13_method_9_code 153 = .ok (.bipush 8, 2) := by decide +kernel
theorem dn_Mo_155 : decode prog_13_method_9_code 155 = .ok (.newarray .int, 2) := by decide +kernel
theorem dn_Mo_157 : decode prog_13_method_9_code 157 = .ok (.putfield 84, 3) := by decide +kernel
theorem dn_Mo_160 : decode prog_13_method_9_code 160 = .ok (.aload_n 0, 1) := by decide +kernel
theorem dn_Mo_161 : decode prog_13_method_9_code 161 = .ok (.bipush 8, 2) := by decide +kernel
theorem dn_Mo_163 : decode prog_13_method_9_code 163 = .ok (.newarray .int, 2) := by decide +kernel
theorem dn_Mo_165 : decode prog_13_method_9_code 165 = .ok (.putfield 87, 3) := by decide +kernel
theorem dn_Mo_168 : decode prog_13_method_9_code 168 = .ok (.aload_n 0, 1) := by decide +kernel
theorem dn_Mo_169 : decode prog_13_method_9_code 169 = .ok (.bipush 8, 2) := by decide +kernel
theorem dn_Mo_171 : decode prog_13_method_9_code 171 = .ok (.newarray .int, 2) := by decide +kernel
theorem dn_Mo_173 : decode prog_13_method_9_code 173 = .ok (.putfield 90, 3) := by decide +kernel
theorem dn_Mo_176 : decode prog_13_method_9_code 176 = .ok (.aload_n 0, 1) := by decide +kernel
theorem dn_Mo_177 : decode prog_13_method_9_code 177 = .ok (.sipush 1296, 3) := by decide +kernel
theorem dn_Mo_180 : decode prog_13_method_9_code 180 = .ok (.newarray .int, 2) := by decide +kernel
theorem dn_Mo_182 : decode prog_13_method_9_code 182 = .ok (.putfield 93, 3) := by decide +kernel
theorem dn_Mo_185 : decode prog_13_method_9_code 185 = .ok (.aload_n 0, 1) := by decide +kernel
theorem dn_Mo_186 : decode prog_13_method_9_code 186 = .ok (.bipush 8, 2) := by decide +kernel
theorem dn_Mo_188 : decode prog_13_method_9_code 188 = .ok (.newarray .int, 2) := by decide +kernel
theorem dn_Mo_190 : decode prog_13_method_9_code 190 = .ok (.putfield 96, 3) := by decide +kernel
theorem dn_Mo_193 : decode prog_13_method_9_code 193 = .ok (.aload_n 0, 1) := by decide +kernel
theorem dn_Mo_194 : decode prog_13_method_9_code 194 = .ok (.bipush 60, 2) := by decide +kernel
theorem dn_Mo_196 : decode prog_13_method_9_code 196 = .ok (.newarray .int, 2) := by decide +kernel
theorem dn_Mo_198 : decode prog_13_method_9_code 198 = .ok (.putfield 99, 3) := by decide +kernel
theorem dn_Mo_201 : decode prog_13_method_9_code 201 = .ok (.aload_n 0, 1) := by decide +kernel
theorem dn_Mo_202 : decode prog_13_method_9_code 202 = .ok (.bipush 60, 2) := by decide +kernel
theorem dn_Mo_204 : decode prog_13_method_9_code 204 = .ok (.newarray .int, 2) := by decide +kernel
theorem dn_Mo_206 : decode prog_13_method_9_code 206 = .ok (.putfield 102, 3) := by decide +kernel
theorem dn_Mo_209 : decode prog_13_method_9_code 209 = .ok (.aload_n 0, 1) := by decide +kernel
theorem dn_Mo_210 : decode prog_13_method_9_code 210 = .ok (.bipush 60, 2) := by decide +kernel
theorem dn_Mo_212 : decode prog_13_method_9_code 212 = .ok (.newarray .int, 2) := by decide +kernel
theorem dn_Mo_214 : decode prog_13_method_9_code 214 = .ok (.putfield 105, 3) := by decide +kernel
theorem dn_Mo_217 : decode prog_13_method_9_code 217 = .ok (.aload_n 0, 1) := by decide +kernel
theorem dn_Mo_218 : decode prog_13_method_9_code 218 = .ok (.bipush 8, 2) := by decide +kernel
theorem dn_Mo_220 : decode prog_13_method_9_code 220 = .ok (.newarray .int, 2) := by decide +kernel
theorem dn_Mo_222 : decode prog_13_method_9_code 222 = .ok (.putfield 108, 3) := by decide +kernel
theorem dn_Mo_225 : decode prog_13_method_9_code 225 = .ok (.aload_n 0, 1) := by decide +kernel
theorem dn_Mo_226 : decode prog_13_method_9_code 226 = .ok (.bipush 8, 2) := by decide +kernel
theorem dn_Mo_228 : decode prog_13_method_9_code 228 = .ok (.newarray .int, 2) := by decide +kernel
theorem dn_Mo_230 : decode prog_13_method_9_code 230 = .ok (.putfield 111, 3) := by decide +kernel
theorem dn_Mo_233 : decode prog_13_method_9_code 233 = .ok (.aload_n 0, 1) := by decide +kernel
theorem dn_Mo_234 : decode prog_13_method_9_code 234 = .ok (.bipush 64, 2) := by decide +kernel
theorem dn_Mo_236 : decode prog_13_method_9_code 236 = .ok (.newarray .int, 2) := by decide +kernel
theorem dn_Mo_238 : decode prog_13_method_9_code 238 = .ok (.putfield 114, 3) := by decide +kernel
theorem dn_Mo_241 : decode prog_13_method_9_code 241 = .ok (.aload_n 0, 1) := by decide +kernel
theorem dn_Mo_242 : decode prog_13_method_9_code 242 = .ok (.bipush 8, 2) := by decide +kernel
theorem dn_Mo_244 : decode prog_13_method_9_code 244 = .ok (.newarray .int, 2) := by decide +kernel
theorem dn_Mo_246 : decode prog_13_method_9_code 246 = .ok (.putfield 117, 3) := by decide +kernel
theorem dn_Mo_249 : decode prog_13_method_9_code 249 = .ok (.aload_n 0, 1) := by decide +kernel
theorem dn_Mo_250 : decode prog_13_method_9_code 250 = .ok (.bipush 64, 2) := by decide +kernel
theorem dn_Mo_252 : decode prog_13_method_9_code 252 = .ok (.newarray .int, 2) := by decide +kernel
theorem dn_Mo_254 : decode prog_13_method_9_code 254 = .ok (.putfield 120, 3) := by decide +kernel
theorem dn_Mo_257 : decode prog_13_method_9_code 257 = .ok (.aload_n 0, 1) := by decide +kernel
theorem dn_Mo_258 : decode prog_13_method_9_code 258 = .ok (.bipush 8, 2) := by decide +kernel
theorem dn_Mo_260 : decode prog_13_method_9_code 260 = .ok (.newarray .int, 2) := by decide +kernel
theorem dn_Mo_262 : decode prog_13_method_9_code 262 = .ok (.putfield 123, 3) := by decide +kernel
theorem dn_Mo_265 : decode prog_13_method_9_code 265 = .ok (.aload_n 0, 1) := by decide +kernel
theorem dn_Mo_266 : decode prog_13_method_9_code 266 = .ok (.bipush 8, 2) := by decide +kernel
theorem dn_Mo_268 : decode prog_13_method_9_code 268 = .ok (.newarray .int, 2) := by decide +kernel
theorem dn_Mo_270 : decode prog_13_method_9_code 270 = .ok (.putfield 126, 3) := by decide +kernel
theorem dn_Mo_273 : decode prog_13_method_9_code 273 = .ok (.aload_n 0, 1) := by decide +kernel
theorem dn_Mo_274 : decode prog_13_method_9_code 274 = .ok (.bipush 8, 2) := by decide +kernel
theorem dn_Mo_276 : decode prog_13_method_9_code 276 = .ok (.newarray .int, 2) := by decide +kernel
theorem dn_Mo_278 : decode prog_13_method_9_code 278 = .ok (.putfield 129, 3) := by decide +kernel
theorem dn_Mo_281 : decode prog_13_method_9_code 281 = .ok (.aload_n 0, 1) := by decide +kernel
theorem dn_Mo_282 : decode prog_13_method_9_code 282 = .ok (.bipush 8, 2) := by decide +kernel
theorem dn_Mo_284 : decode prog_13_method_9_code 284 = .ok (.newarray .int, 2) := by decide +kernel
theorem dn_Mo_286 : decode prog_13_method_9_code 286 = .ok (.putfield 132, 3) := by decide +kernel
theorem dn_Mo_289 : decode prog_13_method_9_code 289 = .ok (.aload_n 0, 1) := by decide +kernel
theorem dn_Mo_290 : decode prog_13_method_9_code 290 = .ok (.bipush 8, 2) := by decide +kernel
theorem dn_Mo_292 : decode prog_13_method_9_code 292 = .ok (.newarray .int, 2) := by decide +kernel
theorem dn_Mo_294 : decode prog_13_method_9_code 294 = .ok (.putfield 135, 3) := by decide +kernel
theorem dn_Mo_297 : decode prog_13_method_9_code 297 = .ok (.aload_n 0, 1) := by decide +kernel
theorem dn_Mo_298 : decode prog_13_method_9_code 298 = .ok (.bipush 8, 2) := by decide +kernel
theorem dn_Mo_300 : decode prog_13_method_9_code 300 = .ok (.newarray .int, 2) := by decide +kernel
theorem dn_Mo_302 : decode prog_13_method_9_code 302 = .ok (.putfield 138, 3) := by decide +kernel
theorem dn_Mo_305 : decode prog_13_method_9_code 305 = .ok (.aload_n 0, 1) := by decide +kernel
theorem dn_Mo_306 : decode prog_13_method_9_code 306 = .ok (.bipush 8, 2) := by decide +kernel
theorem dn_Mo_308 : decode prog_13_method_9_code 308 = .ok (.newarray .int, 2) := by decide +kernel
theorem dn_Mo_310 : decode prog_13_method_9_code 310 = .ok (.putfield 141, 3) := by decide +kernel
theorem dn_Mo_313 : decode prog_13_method_9_code 313 = .ok (.aload_n 0, 1) := by decide +kernel
theorem dn_Mo_314 : decode prog_13_method_9_code 314 = .ok (.bipush 80, 2) := by decide +kernel
theorem dn_Mo_316 : decode prog_13_method_9_code 316 = .ok (.newarray .int, 2) := by decide +kernel
theorem dn_Mo_318 : decode prog_13_method_9_code 318 = .ok (.putfield 144, 3) := by decide +kernel
theorem dn_Mo_321 : decode prog_13_method_9_code 321 = .ok (.aload_n 0, 1) := by decide +kernel
theorem dn_Mo_322 : decode prog_13_method_9_code 322 = .ok (.iconst 3, 1) := by decide +kernel
theorem dn_Mo_323 : decode prog_13_method_9_code 323 = .ok (.newarray .boolean, 2) := by decide +kernel
theorem dn_Mo_325 : decode prog_13_method_9_code 325 = .ok (.putfield 147, 3) := by decide +kernel
theorem dn_Mo_328 : decode prog_13_method_9_code 328 = .ok (.aload_n 0, 1) := by decide +kernel
theorem dn_Mo_329 : decode prog_13_method_9_code 329 = .ok (.iconst 3, 1) := by decide +kernel
theorem dn_Mo_330 : decode prog_13_method_9_code 330 = .ok (.newarray .int, 2) := by decide +kernel
theorem dn_Mo_332 : decode prog_13_method_9_code 332 = .ok (.putfield 150, 3) := by decide +kernel
theorem dn_Mo_335 : decode prog_13_method_9_code 335 = .ok (.aload_n 0, 1) := by decide +kernel
theorem dn_Mo_336 : decode prog_13_method_9_code 336 = .ok (.sipush 243, 3) := by decide +kernel
theorem dn_Mo_339 : decode prog_13_method_9_code 339 = .ok (.newarray .int, 2) := by decide +kernel
theorem dn_Mo_341 : decode prog_13_method_9_code 341 = .ok (.putfield 153, 3) := by decide +kernel
theorem dn_Mo_344 : decode prog_13_method_9_code 344 = .ok (.iconst 0, 1) := by decide +kernel
theorem dn_Mo_345 : decode prog_13_method_9_code 345 = .ok (.istore_n 1, 1) := by decide +kernel
theorem dn_Mo_346 : decode prog_13_method_9_code 346 = .ok (.iload_n 1, 1) := by decide +kernel
theorem dn_Mo_347 : decode prog_13_method_9_code 347 = .ok (.bipush 8, 2) := by decide +kernel
theorem dn_Mo_349 : decode prog_13_method_9_code 349 = .ok (.if_icmp .ge 16, 3) := by decide +kernel
theorem dn_Mo_352 : decode prog_13_method_9_code 352 = .ok (.aload_n 0, 1) := by decide +kernel
theorem dn_Mo_353 : decode prog_13_method_9_code 353 = .ok (.getfield 38, 3) := by decide +kernel
theorem dn_Mo_356 : decode prog_13_method_9_code 356 = .ok (.iload_n 1, 1) := by decide +kernel
theorem dn_Mo_357 : decode prog_13_method_9_code 357 = .ok (.iload_n 1, 1) := by decide +kernel
theorem dn_Mo_358 : decode prog_13_method_9_code 358 = .ok (.iastore, 1) := by decide +kernel
theorem dn_Mo_359 : decode prog_13_method_9_code 359 = .ok (.iinc 1 1, 3) := by decide +kernel
theorem dn_Mo_362 : decode prog_13_method_9_code 362 = .ok (.goto (-16), 3) := by decide +kernel
theorem dn_Mo_365 : decode prog_13_method_9_code 365 = .ok (.return_, 1) := by decide +kernel
theorem wn_ol_Mo : Cond.methodLink "WaterByLettersModel" 22 Lib.objectInit ∈ z_tb := z_has_tb (w := some (5, 106)) (by decide +kernel) rfl
theorem wn_116 : (Cond.fieldLink "WaterByLettersModel" (11 : Nat) "WaterByLettersModel" "row" "[J") ∈ z_tb := z_has_tb (w := some (5, 109)) (by decide +kernel) rfl
theorem wn_117 : (Cond.fieldLink "WaterByLettersModel" (28 : Nat) "WaterByLettersModel" "skyLong" "I") ∈ z_tb := z_has_tb (w := some (5, 112)) (by decide +kernel) rfl
theorem wn_118 : (Cond.fieldLink "WaterByLettersModel" (31 : Nat) "WaterByLettersModel" "sky" "[I") ∈ z_tb := z_has_tb (w := some (5, 113)) (by decide +kernel) rfl
theorem wn_119 : (Cond.fieldLink "WaterByLettersModel" (35 : Nat) "WaterByLettersModel" "thirst" "[I") ∈ z_tb := z_has_tb (w := some (5, 114)) (by decide +kernel) rfl
theorem wn_120 : (Cond.fieldLink "WaterByLettersModel" (38 : Nat) "WaterByLettersModel" "now" "[I") ∈ z_tb := z_has_tb (w := some (5, 115)) (by decide +kernel) rfl
theorem wn_121 : (Cond.fieldLink "WaterByLettersModel" (41 : Nat) "WaterByLettersModel" "then" "[I") ∈ z_tb := z_has_tb (w := some (5, 116)) (by decide +kernel) rfl
theorem wn_122 : (Cond.fieldLink "WaterByLettersModel" (44 : Nat) "WaterByLettersModel" "tape" "[I") ∈ z_tb := z_has_tb (w := some (5, 117)) (by decide +kernel) rfl
theorem wn_123 : (Cond.fieldLink "WaterByLettersModel" (47 : Nat) "WaterByLettersModel" "readName" "[I") ∈ z_tb := z_has_tb (w := some (5, 122)) (by decide +kernel) rfl
theorem wn_124 : (Cond.fieldLink "WaterByLettersModel" (50 : Nat) "WaterByLettersModel" "readLong" "[I") ∈ z_tb := z_has_tb (w := some (5, 123)) (by decide +kernel) rfl
theorem wn_125 : (Cond.fieldLink "WaterByLettersModel" (53 : Nat) "WaterByLettersModel" "readThirst" "[I") ∈ z_tb := z_has_tb (w := some (5, 124)) (by decide +kernel) rfl
theorem wn_126 : (Cond.fieldLink "WaterByLettersModel" (56 : Nat) "WaterByLettersModel" "readSky" "[I") ∈ z_tb := z_has_tb (w := some (5, 126)) (by decide +kernel) rfl
theorem wn_127 : (Cond.fieldLink "WaterByLettersModel" (59 : Nat) "WaterByLettersModel" "code" "[I") ∈ z_tb := z_has_tb (w := some (5, 127)) (by decide +kernel) rfl
theorem wn_128 : (Cond.fieldLink "WaterByLettersModel" (62 : Nat) "WaterByLettersModel" "readCode" "[I") ∈ z_tb := z_has_tb (w := some (5, 128)) (by decide +kernel) rfl
theorem wn_129 : (Cond.fieldLink "WaterByLettersModel" (65 : Nat) "WaterByLettersModel" "stack" "[I") ∈ z_tb := z_has_tb (w := some (5, 131)) (by decide +kernel) rfl
theorem wn_130 : (Cond.fieldLink "WaterByLettersModel" (68 : Nat) "WaterByLettersModel" "asked" "[I") ∈ z_tb := z_has_tb (w := some (5, 132)) (by decide +kernel) rfl
theorem wn_131 : (Cond.fieldLink "WaterByLettersModel" (71 : Nat) "WaterByLettersModel" "mine" "[I") ∈ z_tb := z_has_tb (w := some (5, 133)) (by decide +kernel) rfl
theorem wn_132 : (Cond.fieldLink "WaterByLettersModel" (74 : Nat) "WaterByLettersModel" "theirs" "[I") ∈ z_tb := z_has_tb (w := some (5, 134)) (by decide +kernel) rfl
theorem wn_133 : (Cond.fieldLink "WaterByLettersModel" (77 : Nat) "WaterByLettersModel" "isAhead" "[Z") ∈ z_tb := z_has_tb (w := some (5, 135)) (by decide +kernel) rfl
theorem wn_134 : (Cond.fieldLink "WaterByLettersModel" (81 : Nat) "WaterByLettersModel" "rank" "[I") ∈ z_tb := z_has_tb (w := some (5, 136)) (by decide +kernel) rfl
theorem wn_135 : (Cond.fieldLink "WaterByLettersModel" (84 : Nat) "WaterByLettersModel" "place" "[I") ∈ z_tb := z_has_tb (w := some (5, 137)) (by decide +kernel) rfl
theorem wn_136 : (Cond.fieldLink "WaterByLettersModel" (87 : Nat) "WaterByLettersModel" "book" "[I") ∈ z_tb := z_has_tb (w := some (5, 138)) (by decide +kernel) rfl
theorem wn_137 : (Cond.fieldLink "WaterByLettersModel" (90 : Nat) "WaterByLettersModel" "cups" "[I") ∈ z_tb := z_has_tb (w := some (5, 139)) (by decide +kernel) rfl
theorem wn_138 : (Cond.fieldLink "WaterByLettersModel" (93 : Nat) "WaterByLettersModel" "undone" "[I") ∈ z_tb := z_has_tb (w := some (5, 141)) (by decide +kernel) rfl
theorem wn_139 : (Cond.fieldLink "WaterByLettersModel" (96 : Nat) "WaterByLettersModel" "readOrder" "[I") ∈ z_tb := z_has_tb (w := some (5, 143)) (by decide +kernel) rfl
theorem wn_140 : (Cond.fieldLink "WaterByLettersModel" (99 : Nat) "WaterByLettersModel" "actSign" "[I") ∈ z_tb := z_has_tb (w := some (5, 144)) (by decide +kernel) rfl
theorem wn_141 : (Cond.fieldLink "WaterByLettersModel" (102 : Nat) "WaterByLettersModel" "actOne" "[I") ∈ z_tb := z_has_tb (w := some (5, 145)) (by decide +kernel) rfl
theorem wn_142 : (Cond.fieldLink "WaterByLettersModel" (105 : Nat) "WaterByLettersModel" "actTwo" "[I") ∈ z_tb := z_has_tb (w := some (5, 146)) (by decide +kernel) rfl
theorem wn_143 : (Cond.fieldLink "WaterByLettersModel" (108 : Nat) "WaterByLettersModel" "turn" "[I") ∈ z_tb := z_has_tb (w := some (5, 148)) (by decide +kernel) rfl
theorem wn_144 : (Cond.fieldLink "WaterByLettersModel" (111 : Nat) "WaterByLettersModel" "bestTurn" "[I") ∈ z_tb := z_has_tb (w := some (5, 149)) (by decide +kernel) rfl
theorem wn_145 : (Cond.fieldLink "WaterByLettersModel" (114 : Nat) "WaterByLettersModel" "aheadMany" "[I") ∈ z_tb := z_has_tb (w := some (5, 154)) (by decide +kernel) rfl
theorem wn_146 : (Cond.fieldLink "WaterByLettersModel" (117 : Nat) "WaterByLettersModel" "wasPlace" "[I") ∈ z_tb := z_has_tb (w := some (5, 155)) (by decide +kernel) rfl
theorem wn_147 : (Cond.fieldLink "WaterByLettersModel" (120 : Nat) "WaterByLettersModel" "climb" "[I") ∈ z_tb := z_has_tb (w := some (5, 156)) (by decide +kernel) rfl
theorem wn_148 : (Cond.fieldLink "WaterByLettersModel" (123 : Nat) "WaterByLettersModel" "pairs" "[I") ∈ z_tb := z_has_tb (w := some (5, 157)) (by decide +kernel) rfl
theorem wn_149 : (Cond.fieldLink "WaterByLettersModel" (126 : Nat) "WaterByLettersModel" "bestPairs" "[I") ∈ z_tb := z_has_tb (w := some (5, 158)) (by decide +kernel) rfl
theorem wn_150 : (Cond.fieldLink "WaterByLettersModel" (129 : Nat) "WaterByLettersModel" "line" "[I") ∈ z_tb := z_has_tb (w := some (5, 161)) (by decide +kernel) rfl
theorem wn_151 : (Cond.fieldLink "WaterByLettersModel" (132 : Nat) "WaterByLettersModel" "share" "[I") ∈ z_tb := z_has_tb (w := some (5, 162)) (by decide +kernel) rfl
theorem wn_152 : (Cond.fieldLink "WaterByLettersModel" (135 : Nat) "WaterByLettersModel" "rest" "[I") ∈ z_tb := z_has_tb (w := some (5, 163)) (by decide +kernel) rfl
theorem wn_153 : (Cond.fieldLink "WaterByLettersModel" (138 : Nat) "WaterByLettersModel" "seenOne" "[I") ∈ z_tb := z_has_tb (w := some (5, 165)) (by decide +kernel) rfl
theorem wn_154 : (Cond.fieldLink "WaterByLettersModel" (141 : Nat) "WaterByLettersModel" "seenOther" "[I") ∈ z_tb := z_has_tb (w := some (5, 166)) (by decide +kernel) rfl
theorem wn_155 : (Cond.fieldLink "WaterByLettersModel" (144 : Nat) "WaterByLettersModel" "wasCode" "[I") ∈ z_tb := z_has_tb (w := some (5, 167)) (by decide +kernel) rfl
theorem wn_156 : (Cond.fieldLink "WaterByLettersModel" (147 : Nat) "WaterByLettersModel" "isKept" "[Z") ∈ z_tb := z_has_tb (w := some (5, 169)) (by decide +kernel) rfl
theorem wn_157 : (Cond.fieldLink "WaterByLettersModel" (150 : Nat) "WaterByLettersModel" "keptChanges" "[I") ∈ z_tb := z_has_tb (w := some (5, 170)) (by decide +kernel) rfl
theorem wn_158 : (Cond.fieldLink "WaterByLettersModel" (153 : Nat) "WaterByLettersModel" "kept" "[I") ∈ z_tb := z_has_tb (w := some (5, 171)) (by decide +kernel) rfl
def zS_Mo (S : Nat → Nat → Bool) : Nat → Nat → Bool := (zn_set (zn_set (zn_set (zn_set (zn_set (zn_set (zn_set (zn_set (zn_set (zn_set (zn_set (zn_set (zn_set (zn_set (zn_set (zn_set (zn_set (zn_set (zn_set (zn_set (zn_set (zn_set (zn_set (zn_set (zn_set (zn_set (zn_set (zn_set (zn_set (zn_set (zn_set (zn_set (zn_set (zn_set (zn_set (zn_set (zn_set (zn_set (zn_set (zn_set (zn_set (zn_set S 179 2) 179 6) 179 7) 179 8) 179 9) 179 10) 179 15) 179 16) 179 17) 179 19) 179 20) 179 21) 179 24) 179 25) 179 26) 179 27) 179 28) 179 29) 179 30) 179 31) 179 32) 179 34) 179 36) 179 37) 179 38) 179 39) 179 41) 179 42) 179 47) 179 48) 179 49) 179 50) 179 51) 179 54) 179 55) 179 56) 179 58) 179 59) 179 60) 179 62) 179 63) 179 64)
def zM_Mo (M : zM) : zM := (zn_idm (z_up M 179 5 1) (183) 8)
set_option maxRecDepth 20000 in
set_option maxHeartbeats 2000000 in
theorem zc_Mo {l : Launch} {base : Nat} {D : va_G} {cA : Nat → ClassId} {S : Nat → Nat → Bool} {M : zM}  : zn_M l base D cA ⟨"WaterByLettersModel", "<init>", "()V"⟩ prog_13_method_9_code 2 1 42 2867 (179) (180) S M (222) (zS_Mo S) (zM_Mo M) := by
  refine zn_body (by decide) rfl (by decide) (fun p e s m below meth c ls cx hin hr hlocks hs0 hP hS hl => ?_)
  obtain ⟨hx, hb, -⟩ := id cx
  refine lv_aload_n hx hb dn_Mo_0 rfl (lv_at hl 0 rfl) ?_
  refine zn_obj cx dn_Mo_1 wn_ol_Mo wn_obj_m wn_obj_c ⟨(Nat.le_of_ble_eq_true rfl), (Nat.le_of_ble_eq_true rfl)⟩ hl.1 ?_
  refine lv_aload_n hx hb dn_Mo_4 rfl (lv_at hl 0 rfl) ?_
  refine lv_bipush (v := 24) hx hb dn_Mo_5 (by decide) ?_
  refine zn_newL (k := 180) (N := 24) cx dn_Mo_7 rfl (by decide) (by decide) (by decide) wn_arr_long (Nat.le_of_ble_eq_true rfl) (Nat.le_of_ble_eq_true rfl) hP hS (fun H hP hS => ?_)
  refine zn_putR (a := 179) (ci := 11) (j := 2) (off := 1) (k := 181) (ty := .array .long) cx dn_Mo_9 (by omega) (by omega) (by decide) rfl rfl (by decide) wn_116 rfl hin rfl (by decide +kernel) (fun _ => rfl) (fun _ => rfl) rfl hP hS (fun H locs hP hS => ?_)
  refine lv_aload_n hx hb dn_Mo_12 rfl (lv_at hl 0 rfl) ?_
  refine lv_iconst (v := Int32.ofInt 1) hx hb dn_Mo_13 (by decide) ?_
  refine zn_putI (a := 179) (ci := 11) (j := 5) (v := 1) (k := 181) cx dn_Mo_14 (by omega) (by omega) (by decide) rfl rfl (by decide) wn_117 rfl (by decide +kernel) rfl rfl hP hS (fun H locs hP hS => ?_)
  refine lv_aload_n hx hb dn_Mo_17 rfl (lv_at hl 0 rfl) ?_
  refine lv_bipush (v := 20) hx hb dn_Mo_18 (by decide) ?_
  refine zn_newI (k := 181) (N := 20) cx dn_Mo_20 rfl (by decide) (by decide) (by decide) wn_arr_int (Nat.le_of_ble_eq_true rfl) (Nat.le_of_ble_eq_true rfl) hP hS (fun H hP hS => ?_)
  refine zn_putR (a := 179) (ci := 11) (j := 6) (off := 2) (k := 182) (ty := .array .int) cx dn_Mo_22 (by omega) (by omega) (by decide) rfl rfl (by decide) wn_118 rfl hin rfl (by decide +kernel) (fun _ => rfl) (fun _ => rfl) rfl hP hS (fun H locs hP hS => ?_)
  refine lv_aload_n hx hb dn_Mo_25 rfl (lv_at hl 0 rfl) ?_
  refine lv_bipush (v := 8) hx hb dn_Mo_26 (by decide) ?_
  refine zn_newI (k := 182) (N := 8) cx dn_Mo_28 rfl (by decide) (by decide) (by decide) wn_arr_int (Nat.le_of_ble_eq_true rfl) (Nat.le_of_ble_eq_true rfl) hP hS (fun H hP hS => ?_)
  refine zn_putR (a := 179) (ci := 11) (j := 7) (off := 3) (k := 183) (ty := .array .int) cx dn_Mo_30 (by omega) (by omega) (by decide) rfl rfl (by decide) wn_119 rfl hin rfl (by decide +kernel) (fun _ => rfl) (fun _ => rfl) rfl hP hS (fun H locs hP hS => ?_)
  refine lv_aload_n hx hb dn_Mo_33 rfl (lv_at hl 0 rfl) ?_
  refine lv_bipush (v := 81) hx hb dn_Mo_34 (by decide) ?_
  refine zn_newI (k := 183) (N := 81) cx dn_Mo_36 rfl (by decide) (by decide) (by decide) wn_arr_int (Nat.le_of_ble_eq_true rfl) (Nat.le_of_ble_eq_true rfl) hP hS (fun H hP hS => ?_)
  refine zn_putR (a := 179) (ci := 11) (j := 8) (off := 4) (k := 184) (ty := .array .int) cx dn_Mo_38 (by omega) (by omega) (by decide) rfl rfl (by decide) wn_120 rfl hin rfl (by decide +kernel) (fun _ => rfl) (fun _ => rfl) rfl hP hS (fun H locs hP hS => ?_)
  refine lv_aload_n hx hb dn_Mo_41 rfl (lv_at hl 0 rfl) ?_
  refine lv_bipush (v := 81) hx hb dn_Mo_42 (by decide) ?_
  refine zn_newI (k := 184) (N := 81) cx dn_Mo_44 rfl (by decide) (by decide) (by decide) wn_arr_int (Nat.le_of_ble_eq_true rfl) (Nat.le_of_ble_eq_true rfl) hP hS (fun H hP hS => ?_)
  refine zn_putR (a := 179) (ci := 11) (j := 9) (off := 5) (k := 185) (ty := .array .int) cx dn_Mo_46 (by omega) (by omega) (by decide) rfl rfl (by decide) wn_121 rfl hin rfl (by decide +kernel) (fun _ => rfl) (fun _ => rfl) rfl hP hS (fun H locs hP hS => ?_)
  refine lv_aload_n hx hb dn_Mo_49 rfl (lv_at hl 0 rfl) ?_
  refine lv_bipush (v := 80) hx hb dn_Mo_50 (by decide) ?_
  refine zn_newI (k := 185) (N := 80) cx dn_Mo_52 rfl (by decide) (by decide) (by decide) wn_arr_int (Nat.le_of_ble_eq_true rfl) (Nat.le_of_ble_eq_true rfl) hP hS (fun H hP hS => ?_)
  refine zn_putR (a := 179) (ci := 11) (j := 10) (off := 6) (k := 186) (ty := .array .int) cx dn_Mo_54 (by omega) (by omega) (by decide) rfl rfl (by decide) wn_122 rfl hin rfl (by decide +kernel) (fun _ => rfl) (fun _ => rfl) rfl hP hS (fun H locs hP hS => ?_)
  refine lv_aload_n hx hb dn_Mo_57 rfl (lv_at hl 0 rfl) ?_
  refine lv_bipush (v := 48) hx hb dn_Mo_58 (by decide) ?_
  refine zn_newI (k := 186) (N := 48) cx dn_Mo_60 rfl (by decide) (by decide) (by decide) wn_arr_int (Nat.le_of_ble_eq_true rfl) (Nat.le_of_ble_eq_true rfl) hP hS (fun H hP hS => ?_)
  refine zn_putR (a := 179) (ci := 11) (j := 15) (off := 7) (k := 187) (ty := .array .int) cx dn_Mo_62 (by omega) (by omega) (by decide) rfl rfl (by decide) wn_123 rfl hin rfl (by decide +kernel) (fun _ => rfl) (fun _ => rfl) rfl hP hS (fun H locs hP hS => ?_)
  refine lv_aload_n hx hb dn_Mo_65 rfl (lv_at hl 0 rfl) ?_
  refine lv_bipush (v := 8) hx hb dn_Mo_66 (by decide) ?_
  refine zn_newI (k := 187) (N := 8) cx dn_Mo_68 rfl (by decide) (by decide) (by decide) wn_arr_int (Nat.le_of_ble_eq_true rfl) (Nat.le_of_ble_eq_true rfl) hP hS (fun H hP hS => ?_)
  refine zn_putR (a := 179) (ci := 11) (j := 16) (off := 8) (k := 188) (ty := .array .int) cx dn_Mo_70 (by omega) (by omega) (by decide) rfl rfl (by decide) wn_124 rfl hin rfl (by decide +kernel) (fun _ => rfl) (fun _ => rfl) rfl hP hS (fun H locs hP hS => ?_)
  refine lv_aload_n hx hb dn_Mo_73 rfl (lv_at hl 0 rfl) ?_
  refine lv_bipush (v := 8) hx hb dn_Mo_74 (by decide) ?_
  refine zn_newI (k := 188) (N := 8) cx dn_Mo_76 rfl (by decide) (by decide) (by decide) wn_arr_int (Nat.le_of_ble_eq_true rfl) (Nat.le_of_ble_eq_true rfl) hP hS (fun H hP hS => ?_)
  refine zn_putR (a := 179) (ci := 11) (j := 17) (off := 9) (k := 189) (ty := .array .int) cx dn_Mo_78 (by omega) (by omega) (by decide) rfl rfl (by decide) wn_125 rfl hin rfl (by decide +kernel) (fun _ => rfl) (fun _ => rfl) rfl hP hS (fun H locs hP hS => ?_)
  refine lv_aload_n hx hb dn_Mo_81 rfl (lv_at hl 0 rfl) ?_
  refine lv_bipush (v := 20) hx hb dn_Mo_82 (by decide) ?_
  refine zn_newI (k := 189) (N := 20) cx dn_Mo_84 rfl (by decide) (by decide) (by decide) wn_arr_int (Nat.le_of_ble_eq_true rfl) (Nat.le_of_ble_eq_true rfl) hP hS (fun H hP hS => ?_)
  refine zn_putR (a := 179) (ci := 11) (j := 19) (off := 10) (k := 190) (ty := .array .int) cx dn_Mo_86 (by omega) (by omega) (by decide) rfl rfl (by decide) wn_126 rfl hin rfl (by decide +kernel) (fun _ => rfl) (fun _ => rfl) rfl hP hS (fun H locs hP hS => ?_)
  refine lv_aload_n hx hb dn_Mo_89 rfl (lv_at hl 0 rfl) ?_
  refine lv_bipush (v := 80) hx hb dn_Mo_90 (by decide) ?_
  refine zn_newI (k := 190) (N := 80) cx dn_Mo_92 rfl (by decide) (by decide) (by decide) wn_arr_int (Nat.le_of_ble_eq_true rfl) (Nat.le_of_ble_eq_true rfl) hP hS (fun H hP hS => ?_)
  refine zn_putR (a := 179) (ci := 11) (j := 20) (off := 11) (k := 191) (ty := .array .int) cx dn_Mo_94 (by omega) (by omega) (by decide) rfl rfl (by decide) wn_127 rfl hin rfl (by decide +kernel) (fun _ => rfl) (fun _ => rfl) rfl hP hS (fun H locs hP hS => ?_)
  refine lv_aload_n hx hb dn_Mo_97 rfl (lv_at hl 0 rfl) ?_
  refine lv_bipush (v := 80) hx hb dn_Mo_98 (by decide) ?_
  refine zn_newI (k := 191) (N := 80) cx dn_Mo_100 rfl (by decide) (by decide) (by decide) wn_arr_int (Nat.le_of_ble_eq_true rfl) (Nat.le_of_ble_eq_true rfl) hP hS (fun H hP hS => ?_)
  refine zn_putR (a := 179) (ci := 11) (j := 21) (off := 12) (k := 192) (ty := .array .int) cx dn_Mo_102 (by omega) (by omega) (by decide) rfl rfl (by decide) wn_128 rfl hin rfl (by decide +kernel) (fun _ => rfl) (fun _ => rfl) rfl hP hS (fun H locs hP hS => ?_)
  refine lv_aload_n hx hb dn_Mo_105 rfl (lv_at hl 0 rfl) ?_
  refine lv_bipush (v := 80) hx hb dn_Mo_106 (by decide) ?_
  refine zn_newI (k := 192) (N := 80) cx dn_Mo_108 rfl (by decide) (by decide) (by decide) wn_arr_int (Nat.le_of_ble_eq_true rfl) (Nat.le_of_ble_eq_true rfl) hP hS (fun H hP hS => ?_)
  refine zn_putR (a := 179) (ci := 11) (j := 24) (off := 13) (k := 193) (ty := .array .int) cx dn_Mo_110 (by omega) (by omega) (by decide) rfl rfl (by decide) wn_129 rfl hin rfl (by decide +kernel) (fun _ => rfl) (fun _ => rfl) rfl hP hS (fun H locs hP hS => ?_)
  refine lv_aload_n hx hb dn_Mo_113 rfl (lv_at hl 0 rfl) ?_
  refine lv_iconst (v := 4) hx hb dn_Mo_114 (by decide) ?_
  refine zn_newI (k := 193) (N := 4) cx dn_Mo_115 rfl (by decide) (by decide) (by decide) wn_arr_int (Nat.le_of_ble_eq_true rfl) (Nat.le_of_ble_eq_true rfl) hP hS (fun H hP hS => ?_)
  refine zn_putR (a := 179) (ci := 11) (j := 25) (off := 14) (k := 194) (ty := .array .int) cx dn_Mo_117 (by omega) (by omega) (by decide) rfl rfl (by decide) wn_130 rfl hin rfl (by decide +kernel) (fun _ => rfl) (fun _ => rfl) rfl hP hS (fun H locs hP hS => ?_)
  refine lv_aload_n hx hb dn_Mo_120 rfl (lv_at hl 0 rfl) ?_
  refine lv_bipush (v := 64) hx hb dn_Mo_121 (by decide) ?_
  refine zn_newI (k := 194) (N := 64) cx dn_Mo_123 rfl (by decide) (by decide) (by decide) wn_arr_int (Nat.le_of_ble_eq_true rfl) (Nat.le_of_ble_eq_true rfl) hP hS (fun H hP hS => ?_)
  refine zn_putR (a := 179) (ci := 11) (j := 26) (off := 15) (k := 195) (ty := .array .int) cx dn_Mo_125 (by omega) (by omega) (by decide) rfl rfl (by decide) wn_131 rfl hin rfl (by decide +kernel) (fun _ => rfl) (fun _ => rfl) rfl hP hS (fun H locs hP hS => ?_)
  refine lv_aload_n hx hb dn_Mo_128 rfl (lv_at hl 0 rfl) ?_
  refine lv_bipush (v := 64) hx hb dn_Mo_129 (by decide) ?_
  refine zn_newI (k := 195) (N := 64) cx dn_Mo_131 rfl (by decide) (by decide) (by decide) wn_arr_int (Nat.le_of_ble_eq_true rfl) (Nat.le_of_ble_eq_true rfl) hP hS (fun H hP hS => ?_)
  refine zn_putR (a := 179) (ci := 11) (j := 27) (off := 16) (k := 196) (ty := .array .int) cx dn_Mo_133 (by omega) (by omega) (by decide) rfl rfl (by decide) wn_132 rfl hin rfl (by decide +kernel) (fun _ => rfl) (fun _ => rfl) rfl hP hS (fun H locs hP hS => ?_)
  refine lv_aload_n hx hb dn_Mo_136 rfl (lv_at hl 0 rfl) ?_
  refine lv_bipush (v := 64) hx hb dn_Mo_137 (by decide) ?_
  refine zn_newZ (k := 196) (N := 64) cx dn_Mo_139 rfl (by decide) (by decide) (by decide) wn_arr_boolean (Nat.le_of_ble_eq_true rfl) (Nat.le_of_ble_eq_true rfl) hP hS (fun H hP hS => ?_)
  refine zn_putR (a := 179) (ci := 11) (j := 28) (off := 17) (k := 197) (ty := .array .boolean) cx dn_Mo_141 (by omega) (by omega) (by decide) rfl rfl (by decide) wn_133 rfl hin rfl (by decide +kernel) (fun _ => rfl) (fun _ => rfl) rfl hP hS (fun H locs hP hS => ?_)
  refine lv_aload_n hx hb dn_Mo_144 rfl (lv_at hl 0 rfl) ?_
  refine lv_bipush (v := 8) hx hb dn_Mo_145 (by decide) ?_
  refine zn_newI (k := 197) (N := 8) cx dn_Mo_147 rfl (by decide) (by decide) (by decide) wn_arr_int (Nat.le_of_ble_eq_true rfl) (Nat.le_of_ble_eq_true rfl) hP hS (fun H hP hS => ?_)
  refine zn_putR (a := 179) (ci := 11) (j := 29) (off := 18) (k := 198) (ty := .array .int) cx dn_Mo_149 (by omega) (by omega) (by decide) rfl rfl (by decide) wn_134 rfl hin rfl (by decide +kernel) (fun _ => rfl) (fun _ => rfl) rfl hP hS (fun H locs hP hS => ?_)
  refine lv_aload_n hx hb dn_Mo_152 rfl (lv_at hl 0 rfl) ?_
  refine lv_bipush (v := 8) hx hb dn_Mo_153 (by decide) ?_
  refine zn_newI (k := 198) (N := 8) cx dn_Mo_155 rfl (by decide) (by decide) (by decide) wn_arr_int (Nat.le_of_ble_eq_true rfl) (Nat.le_of_ble_eq_true rfl) hP hS (fun H hP hS => ?_)
  refine zn_putR (a := 179) (ci := 11) (j := 30) (off := 19) (k := 199) (ty := .array .int) cx dn_Mo_157 (by omega) (by omega) (by decide) rfl rfl (by decide) wn_135 rfl hin rfl (by decide +kernel) (fun _ => rfl) (fun _ => rfl) rfl hP hS (fun H locs hP hS => ?_)
  refine lv_aload_n hx hb dn_Mo_160 rfl (lv_at hl 0 rfl) ?_
  refine lv_bipush (v := 8) hx hb dn_Mo_161 (by decide) ?_
  refine zn_newI (k := 199) (N := 8) cx dn_Mo_163 rfl (by decide) (by decide) (by decide) wn_arr_int (Nat.le_of_ble_eq_true rfl) (Nat.le_of_ble_eq_true rfl) hP hS (fun H hP hS => ?_)
  refine zn_putR (a := 179) (ci := 11) (j := 31) (off := 20) (k := 200) (ty := .array .int) cx dn_Mo_165 (by omega) (by omega) (by decide) rfl rfl (by decide) wn_136 rfl hin rfl (by decide +kernel) (fun _ => rfl) (fun _ => rfl) rfl hP hS (fun H locs hP hS => ?_)
  refine lv_aload_n hx hb dn_Mo_168 rfl (lv_at hl 0 rfl) ?_
  refine lv_bipush (v := 8) hx hb dn_Mo_169 (by decide) ?_
  refine zn_newI (k := 200) (N := 8) cx dn_Mo_171 rfl (by decide) (by decide) (by decide) wn_arr_int (Nat.le_of_ble_eq_true rfl) (Nat.le_of_ble_eq_true rfl) hP hS (fun H hP hS => ?_)
  refine zn_putR (a := 179) (ci := 11) (j := 32) (off := 21) (k := 201) (ty := .array .int) cx dn_Mo_173 (by omega) (by omega) (by decide) rfl rfl (by decide) wn_137 rfl hin rfl (by decide +kernel) (fun _ => rfl) (fun _ => rfl) rfl hP hS (fun H locs hP hS => ?_)
  refine lv_aload_n hx hb dn_Mo_176 rfl (lv_at hl 0 rfl) ?_
  refine lv_sipush (v := 1296) hx hb dn_Mo_177 (by decide) ?_
  refine zn_newI (k := 201) (N := 1296) cx dn_Mo_180 rfl (by decide) (by decide) (by decide) wn_arr_int (Nat.le_of_ble_eq_true rfl) (Nat.le_of_ble_eq_true rfl) hP hS (fun H hP hS => ?_)
  refine zn_putR (a := 179) (ci := 11) (j := 34) (off := 22) (k := 202) (ty := .array .int) cx dn_Mo_182 (by omega) (by omega) (by decide) rfl rfl (by decide) wn_138 rfl hin rfl (by decide +kernel) (fun _ => rfl) (fun _ => rfl) rfl hP hS (fun H locs hP hS => ?_)
  refine lv_aload_n hx hb dn_Mo_185 rfl (lv_at hl 0 rfl) ?_
  refine lv_bipush (v := 8) hx hb dn_Mo_186 (by decide) ?_
  refine zn_newI (k := 202) (N := 8) cx dn_Mo_188 rfl (by decide) (by decide) (by decide) wn_arr_int (Nat.le_of_ble_eq_true rfl) (Nat.le_of_ble_eq_true rfl) hP hS (fun H hP hS => ?_)
  refine zn_putR (a := 179) (ci := 11) (j := 36) (off := 23) (k := 203) (ty := .array .int) cx dn_Mo_190 (by omega) (by omega) (by decide) rfl rfl (by decide) wn_139 rfl hin rfl (by decide +kernel) (fun _ => rfl) (fun _ => rfl) rfl hP hS (fun H locs hP hS => ?_)
  refine lv_aload_n hx hb dn_Mo_193 rfl (lv_at hl 0 rfl) ?_
  refine lv_bipush (v := 60) hx hb dn_Mo_194 (by decide) ?_
  refine zn_newI (k := 203) (N := 60) cx dn_Mo_196 rfl (by decide) (by decide) (by decide) wn_arr_int (Nat.le_of_ble_eq_true rfl) (Nat.le_of_ble_eq_true rfl) hP hS (fun H hP hS => ?_)
  refine zn_putR (a := 179) (ci := 11) (j := 37) (off := 24) (k := 204) (ty := .array .int) cx dn_Mo_198 (by omega) (by omega) (by decide) rfl rfl (by decide) wn_140 rfl hin rfl (by decide +kernel) (fun _ => rfl) (fun _ => rfl) rfl hP hS (fun H locs hP hS => ?_)
  refine lv_aload_n hx hb dn_Mo_201 rfl (lv_at hl 0 rfl) ?_
  refine lv_bipush (v := 60) hx hb dn_Mo_202 (by decide) ?_
  refine zn_newI (k := 204) (N := 60) cx dn_Mo_204 rfl (by decide) (by decide) (by decide) wn_arr_int (Nat.le_of_ble_eq_true rfl) (Nat.le_of_ble_eq_true rfl) hP hS (fun H hP hS => ?_)
  refine zn_putR (a := 179) (ci := 11) (j := 38) (off := 25) (k := 205) (ty := .array .int) cx dn_Mo_206 (by omega) (by omega) (by decide) rfl rfl (by decide) wn_141 rfl hin rfl (by decide +kernel) (fun _ => rfl) (fun _ => rfl) rfl hP hS (fun H locs hP hS => ?_)
  refine lv_aload_n hx hb dn_Mo_209 rfl (lv_at hl 0 rfl) ?_
  refine lv_bipush (v := 60) hx hb dn_Mo_210 (by decide) ?_
  refine zn_newI (k := 205) (N := 60) cx dn_Mo_212 rfl (by decide) (by decide) (by decide) wn_arr_int (Nat.le_of_ble_eq_true rfl) (Nat.le_of_ble_eq_true rfl) hP hS (fun H hP hS => ?_)
  refine zn_putR (a := 179) (ci := 11) (j := 39) (off := 26) (k := 206) (ty := .array .int) cx dn_Mo_214 (by omega) (by omega) (by decide) rfl rfl (by decide) wn_142 rfl hin rfl (by decide +kernel) (fun _ => rfl) (fun _ => rfl) rfl hP hS (fun H locs hP hS => ?_)
  refine lv_aload_n hx hb dn_Mo_217 rfl (lv_at hl 0 rfl) ?_
  refine lv_bipush (v := 8) hx hb dn_Mo_218 (by decide) ?_
  refine zn_newI (k := 206) (N := 8) cx dn_Mo_220 rfl (by decide) (by decide) (by decide) wn_arr_int (Nat.le_of_ble_eq_true rfl) (Nat.le_of_ble_eq_true rfl) hP hS (fun H hP hS => ?_)
  refine zn_putR (a := 179) (ci := 11) (j := 41) (off := 27) (k := 207) (ty := .array .int) cx dn_Mo_222 (by omega) (by omega) (by decide) rfl rfl (by decide) wn_143 rfl hin rfl (by decide +kernel) (fun _ => rfl) (fun _ => rfl) rfl hP hS (fun H locs hP hS => ?_)
  refine lv_aload_n hx hb dn_Mo_225 rfl (lv_at hl 0 rfl) ?_
  refine lv_bipush (v := 8) hx hb dn_Mo_226 (by decide) ?_
  refine zn_newI (k := 207) (N := 8) cx dn_Mo_228 rfl (by decide) (by decide) (by decide) wn_arr_int (Nat.le_of_ble_eq_true rfl) (Nat.le_of_ble_eq_true rfl) hP hS (fun H hP hS => ?_)
  refine zn_putR (a := 179) (ci := 11) (j := 42) (off := 28) (k := 208) (ty := .array .int) cx dn_Mo_230 (by omega) (by omega) (by decide) rfl rfl (by decide) wn_144 rfl hin rfl (by decide +kernel) (fun _ => rfl) (fun _ => rfl) rfl hP hS (fun H locs hP hS => ?_)
  refine lv_aload_n hx hb dn_Mo_233 rfl (lv_at hl 0 rfl) ?_
  refine lv_bipush (v := 64) hx hb dn_Mo_234 (by decide) ?_
  refine zn_newI (k := 208) (N := 64) cx dn_Mo_236 rfl (by decide) (by decide) (by decide) wn_arr_int (Nat.le_of_ble_eq_true rfl) (Nat.le_of_ble_eq_true rfl) hP hS (fun H hP hS => ?_)
  refine zn_putR (a := 179) (ci := 11) (j := 47) (off := 29) (k := 209) (ty := .array .int) cx dn_Mo_238 (by omega) (by omega) (by decide) rfl rfl (by decide) wn_145 rfl hin rfl (by decide +kernel) (fun _ => rfl) (fun _ => rfl) rfl hP hS (fun H locs hP hS => ?_)
  refine lv_aload_n hx hb dn_Mo_241 rfl (lv_at hl 0 rfl) ?_
  refine lv_bipush (v := 8) hx hb dn_Mo_242 (by decide) ?_
  refine zn_newI (k := 209) (N := 8) cx dn_Mo_244 rfl (by decide) (by decide) (by decide) wn_arr_int (Nat.le_of_ble_eq_true rfl) (Nat.le_of_ble_eq_true rfl) hP hS (fun H hP hS => ?_)
  refine zn_putR (a := 179) (ci := 11) (j := 48) (off := 30) (k := 210) (ty := .array .int) cx dn_Mo_246 (by omega) (by omega) (by decide) rfl rfl (by decide) wn_146 rfl hin rfl (by decide +kernel) (fun _ => rfl) (fun _ => rfl) rfl hP hS (fun H locs hP hS => ?_)
  refine lv_aload_n hx hb dn_Mo_249 rfl (lv_at hl 0 rfl) ?_
  refine lv_bipush (v := 64) hx hb dn_Mo_250 (by decide) ?_
  refine zn_newI (k := 210) (N := 64) cx dn_Mo_252 rfl (by decide) (by decide) (by decide) wn_arr_int (Nat.le_of_ble_eq_true rfl) (Nat.le_of_ble_eq_true rfl) hP hS (fun H hP hS => ?_)
  refine zn_putR (a := 179) (ci := 11) (j := 49) (off := 31) (k := 211) (ty := .array .int) cx dn_Mo_254 (by omega) (by omega) (by decide) rfl rfl (by decide) wn_147 rfl hin rfl (by decide +kernel) (fun _ => rfl) (fun _ => rfl) rfl hP hS (fun H locs hP hS => ?_)
  refine lv_aload_n hx hb dn_Mo_257 rfl (lv_at hl 0 rfl) ?_
  refine lv_bipush (v := 8) hx hb dn_Mo_258 (by decide) ?_
  refine zn_newI (k := 211) (N := 8) cx dn_Mo_260 rfl (by decide) (by decide) (by decide) wn_arr_int (Nat.le_of_ble_eq_true rfl) (Nat.le_of_ble_eq_true rfl) hP hS (fun H hP hS => ?_)
  refine zn_putR (a := 179) (ci := 11) (j := 50) (off := 32) (k := 212) (ty := .array .int) cx dn_Mo_262 (by omega) (by omega) (by decide) rfl rfl (by decide) wn_148 rfl hin rfl (by decide +kernel) (fun _ => rfl) (fun _ => rfl) rfl hP hS (fun H locs hP hS => ?_)
  refine lv_aload_n hx hb dn_Mo_265 rfl (lv_at hl 0 rfl) ?_
  refine lv_bipush (v := 8) hx hb dn_Mo_266 (by decide) ?_
  refine zn_newI (k := 212) (N := 8) cx dn_Mo_268 rfl (by decide) (by decide) (by decide) wn_arr_int (Nat.le_of_ble_eq_true rfl) (Nat.le_of_ble_eq_true rfl) hP hS (fun H hP hS => ?_)
  refine zn_putR (a := 179) (ci := 11) (j := 51) (off := 33) (k := 213) (ty := .array .int) cx dn_Mo_270 (by omega) (by omega) (by decide) rfl rfl (by decide) wn_149 rfl hin rfl (by decide +kernel) (fun _ => rfl) (fun _ => rfl) rfl hP hS (fun H locs hP hS => ?_)
  refine lv_aload_n hx hb dn_Mo_273 rfl (lv_at hl 0 rfl) ?_
  refine lv_bipush (v := 8) hx hb dn_Mo_274 (by decide) ?_
  refine zn_newI (k := 213) (N := 8) cx dn_Mo_276 rfl (by decide) (by decide) (by decide) wn_arr_int (Nat.le_of_ble_eq_true rfl) (Nat.le_of_ble_eq_true rfl) hP hS (fun H hP hS => ?_)
  refine zn_putR (a := 179) (ci := 11) (j := 54) (off := 34) (k := 214) (ty := .array .int) cx dn_Mo_278 (by omega) (by omega) (by decide) rfl rfl (by decide) wn_150 rfl hin rfl (by decide +kernel) (fun _ => rfl) (fun _ => rfl) rfl hP hS (fun H locs hP hS => ?_)
  refine lv_aload_n hx hb dn_Mo_281 rfl (lv_at hl 0 rfl) ?_
  refine lv_bipush (v := 8) hx hb dn_Mo_282 (by decide) ?_
  refine zn_newI (k := 214) (N := 8) cx dn_Mo_284 rfl (by decide) (by decide) (by decide) wn_arr_int (Nat.le_of_ble_eq_true rfl) (Nat.le_of_ble_eq_true rfl) hP hS (fun H hP hS => ?_)
  refine zn_putR (a := 179) (ci := 11) (j := 55) (off := 35) (k := 215) (ty := .array .int) cx dn_Mo_286 (by omega) (by omega) (by decide) rfl rfl (by decide) wn_151 rfl hin rfl (by decide +kernel) (fun _ => rfl) (fun _ => rfl) rfl hP hS (fun H locs hP hS => ?_)
  refine lv_aload_n hx hb dn_Mo_289 rfl (lv_at hl 0 rfl) ?_
  refine lv_bipush (v := 8) hx hb dn_Mo_290 (by decide) ?_
  refine zn_newI (k := 215) (N := 8) cx dn_Mo_292 rfl (by decide) (by decide) (by decide) wn_arr_int (Nat.le_of_ble_eq_true rfl) (Nat.le_of_ble_eq_true rfl) hP hS (fun H hP hS => ?_)
  refine zn_putR (a := 179) (ci := 11) (j := 56) (off := 36) (k := 216) (ty := .array .int) cx dn_Mo_294 (by omega) (by omega) (by decide) rfl rfl (by decide) wn_152 rfl hin rfl (by decide +kernel) (fun _ => rfl) (fun _ => rfl) rfl hP hS (fun H locs hP hS => ?_)
  refine lv_aload_n hx hb dn_Mo_297 rfl (lv_at hl 0 rfl) ?_
  refine lv_bipush (v := 8) hx hb dn_Mo_298 (by decide) ?_
  refine zn_newI (k := 216) (N := 8) cx dn_Mo_300 rfl (by decide) (by decide) (by decide) wn_arr_int (Nat.le_of_ble_eq_true rfl) (Nat.le_of_ble_eq_true rfl) hP hS (fun H hP hS => ?_)
  refine zn_putR (a := 179) (ci := 11) (j := 58) (off := 37) (k := 217) (ty := .array .int) cx dn_Mo_302 (by omega) (by omega) (by decide) rfl rfl (by decide) wn_153 rfl hin rfl (by decide +kernel) (fun _ => rfl) (fun _ => rfl) rfl hP hS (fun H locs hP hS => ?_)
  refine lv_aload_n hx hb dn_Mo_305 rfl (lv_at hl 0 rfl) ?_
  refine lv_bipush (v := 8) hx hb dn_Mo_306 (by decide) ?_
  refine zn_newI (k := 217) (N := 8) cx dn_Mo_308 rfl (by decide) (by decide) (by decide) wn_arr_int (Nat.le_of_ble_eq_true rfl) (Nat.le_of_ble_eq_true rfl) hP hS (fun H hP hS => ?_)
  refine zn_putR (a := 179) (ci := 11) (j := 59) (off := 38) (k := 218) (ty := .array .int) cx dn_Mo_310 (by omega) (by omega) (by decide) rfl rfl (by decide) wn_154 rfl hin rfl (by decide +kernel) (fun _ => rfl) (fun _ => rfl) rfl hP hS (fun H locs hP hS => ?_)
  refine lv_aload_n hx hb dn_Mo_313 rfl (lv_at hl 0 rfl) ?_
  refine lv_bipush (v := 80) hx hb dn_Mo_314 (by decide) ?_
  refine zn_newI (k := 218) (N := 80) cx dn_Mo_316 rfl (by decide) (by decide) (by decide) wn_arr_int (Nat.le_of_ble_eq_true rfl) (Nat.le_of_ble_eq_true rfl) hP hS (fun H hP hS => ?_)
  refine zn_putR (a := 179) (ci := 11) (j := 60) (off := 39) (k := 219) (ty := .array .int) cx dn_Mo_318 (by omega) (by omega) (by decide) rfl rfl (by decide) wn_155 rfl hin rfl (by decide +kernel) (fun _ => rfl) (fun _ => rfl) rfl hP hS (fun H locs hP hS => ?_)
  refine lv_aload_n hx hb dn_Mo_321 rfl (lv_at hl 0 rfl) ?_
  refine lv_iconst (v := 3) hx hb dn_Mo_322 (by decide) ?_
  refine zn_newZ (k := 219) (N := 3) cx dn_Mo_323 rfl (by decide) (by decide) (by decide) wn_arr_boolean (Nat.le_of_ble_eq_true rfl) (Nat.le_of_ble_eq_true rfl) hP hS (fun H hP hS => ?_)
  refine zn_putR (a := 179) (ci := 11) (j := 62) (off := 40) (k := 220) (ty := .array .boolean) cx dn_Mo_325 (by omega) (by omega) (by decide) rfl rfl (by decide) wn_156 rfl hin rfl (by decide +kernel) (fun _ => rfl) (fun _ => rfl) rfl hP hS (fun H locs hP hS => ?_)
  refine lv_aload_n hx hb dn_Mo_328 rfl (lv_at hl 0 rfl) ?_
  refine lv_iconst (v := 3) hx hb dn_Mo_329 (by decide) ?_
  refine zn_newI (k := 220) (N := 3) cx dn_Mo_330 rfl (by decide) (by decide) (by decide) wn_arr_int (Nat.le_of_ble_eq_true rfl) (Nat.le_of_ble_eq_true rfl) hP hS (fun H hP hS => ?_)
  refine zn_putR (a := 179) (ci := 11) (j := 63) (off := 41) (k := 221) (ty := .array .int) cx dn_Mo_332 (by omega) (by omega) (by decide) rfl rfl (by decide) wn_157 rfl hin rfl (by decide +kernel) (fun _ => rfl) (fun _ => rfl) rfl hP hS (fun H locs hP hS => ?_)
  refine lv_aload_n hx hb dn_Mo_335 rfl (lv_at hl 0 rfl) ?_
  refine lv_sipush (v := 243) hx hb dn_Mo_336 (by decide) ?_
  refine zn_newI (k := 221) (N := 243) cx dn_Mo_339 rfl (by decide) (by decide) (by decide) wn_arr_int (Nat.le_of_ble_eq_true rfl) (Nat.le_of_ble_eq_true rfl) hP hS (fun H hP hS => ?_)
  refine zn_putR (a := 179) (ci := 11) (j := 64) (off := 42) (k := 222) (ty := .array .int) cx dn_Mo_341 (by omega) (by omega) (by decide) rfl rfl (by decide) wn_158 rfl hin rfl (by decide +kernel) (fun _ => rfl) (fun _ => rfl) rfl hP hS (fun H locs hP hS => ?_)
  refine lv_iconst (v := 0) hx hb dn_Mo_344 (by decide) ?_
  refine lv_istore_n (lv' := [(1, .int (nI 0)), (0, .ref (base + 179))]) hx hb dn_Mo_345 rfl hl (by decide) rfl (fun ls hl => ?_)
  suffices loop : ∀ (n i : Nat), i + n = 8 → ∀ (H : Heap) (locs : List Loc) (ls : Array Slot), zn_P base D cA (zn_set (zn_set (zn_set (zn_set (zn_set (zn_set (zn_set (zn_set (zn_set (zn_set (zn_set (zn_set (zn_set (zn_set (zn_set (zn_set (zn_set (zn_set (zn_set (zn_set (zn_set (zn_set (zn_set (zn_set (zn_set (zn_set (zn_set (zn_set (zn_set (zn_set (zn_set (zn_set (zn_set (zn_set (zn_set (zn_set (zn_set (zn_set (zn_set (zn_set (zn_set (zn_set S 179 2) 179 6) 179 7) 179 8) 179 9) 179 10) 179 15) 179 16) 179 17) 179 19) 179 20) 179 21) 179 24) 179 25) 179 26) 179 27) 179 28) 179 29) 179 30) 179 31) 179 32) 179 34) 179 36) 179 37) 179 38) 179 39) 179 41) 179 42) 179 47) 179 48) 179 49) 179 50) 179 51) 179 54) 179 55) 179 56) 179 58) 179 59) 179 60) 179 62) 179 63) 179 64) (zn_idm (z_up M 179 5 1) (183) i) (222) H → va_S (fun q => base ≤ q) s.heap H locs → lv_has ls 2 [(1, .int (nI i)), (0, .ref (base + (179)))] → W p l e (zn_rm 1 42 2867) s m #[.ref (base + (179))] below meth c H locs 42 2867 (MQ below (zn_Q base D cA (222) (zn_set (zn_set (zn_set (zn_set (zn_set (zn_set (zn_set (zn_set (zn_set (zn_set (zn_set (zn_set (zn_set (zn_set (zn_set (zn_set (zn_set (zn_set (zn_set (zn_set (zn_set (zn_set (zn_set (zn_set (zn_set (zn_set (zn_set (zn_set (zn_set (zn_set (zn_set (zn_set (zn_set (zn_set (zn_set (zn_set (zn_set (zn_set (zn_set (zn_set (zn_set (zn_set S 179 2) 179 6) 179 7) 179 8) 179 9) 179 10) 179 15) 179 16) 179 17) 179 19) 179 20) 179 21) 179 24) 179 25) 179 26) 179 27) 179 28) 179 29) 179 30) 179 31) 179 32) 179 34) 179 36) 179 37) 179 38) 179 39) 179 41) 179 42) 179 47) 179 48) 179 49) 179 50) 179 51) 179 54) 179 55) 179 56) 179 58) 179 59) 179 60) 179 62) 179 63) 179 64) (zn_idm (z_up M 179 5 1) (183) 8)) #[.ref (base + (179))] s 42 2867 (fun q => base ≤ q)) (F0 m 346 ls []) from zn_cs rfl rfl (loop 8 0 rfl H locs ls hP hS hl)
  intro n
  induction n with
  | zero =>
    intro i hi H locs ls hP hS hl
    obtain rfl : i = 8 := by omega
    refine lv_iload_n hx hb dn_Mo_346 rfl (lv_at hl 0 rfl) ?_
    refine lv_bipush (v := nI 8) hx hb dn_Mo_347 (by decide) ?_
    refine lv_icmp_ge (tgt := 365) hx hb dn_Mo_349 (by decide) (fun _ => ?_) (fun h => absurd (nI_le (Nat.le_refl 8) (by decide)) h)
    exact W.vret hx hb hr (fun t ht _ => ⟨⟨rfl, by rw [ht]; exact hP⟩, hS.F ht⟩) hS.2.2 dn_Mo_365 hlocks
  | succ n ih =>
    intro i hi H locs ls hP hS hl
    refine lv_iload_n hx hb dn_Mo_346 rfl (lv_at hl 0 rfl) ?_
    refine lv_bipush (v := nI 8) hx hb dn_Mo_347 (by decide) ?_
    refine lv_icmp_ge (tgt := 365) hx hb dn_Mo_349 (by decide) (fun h => absurd h (nI_ge (by omega) (by decide))) (fun _ => ?_)
    refine lv_aload_n hx hb dn_Mo_352 rfl (lv_at hl 1 rfl) ?_
    refine zn_getR (a := 179) (ci := 11) (j := 8) (off := 4) (k := 222) cx dn_Mo_353 (by omega) (by decide) rfl rfl (by decide) wn_120 rfl (by simp [zn_set]) hP ?_
    refine lv_iload_n hx hb dn_Mo_356 rfl (lv_at hl 0 rfl) ?_
    refine lv_iload_n hx hb dn_Mo_357 rfl (lv_at hl 0 rfl) ?_
    refine zn_iast (a := 183) (N := 81) (i := i) (v := (i : Int)) (k := 222) cx dn_Mo_358 (by omega) (by omega) rfl (by omega) (by decide) hP hS (fun H locs hP hS => ?_)
    refine lv_iinc (v := nI (i + 1)) (lv' := [(1, .int (nI (i + 1))), (0, .ref (base + (179)))]) hx hb dn_Mo_359 hl (k := 0) rfl (by rw [nI_succ]; rfl) (by decide) rfl (fun ls hl => ?_)
    refine lv_goto (tgt := 346) hx hb dn_Mo_362 (by decide) ?_
    exact ih (i + 1) (by omega) H locs ls hP hS hl
