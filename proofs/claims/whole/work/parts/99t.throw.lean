/-! THE METHODS THAT THROW, and the law's wrappers that catch: written by gen_thr.py -/
theorem dt_house_0 : decode prog_1_method_9_code 0 = .ok (.aload_n 0, 1) := by decide +kernel
theorem dt_house_1 : decode prog_1_method_9_code 1 = .ok (.getfield 36, 3) := by decide +kernel
theorem dt_house_4 : decode prog_1_method_9_code 4 = .ok (.iload_n 1, 1) := by decide +kernel
theorem dt_house_5 : decode prog_1_method_9_code 5 = .ok (.invokevirtual 164, 3) := by decide +kernel
theorem dt_house_8 : decode prog_1_method_9_code 8 = .ok (.ifCond .ne 11, 3) := by decide +kernel
theorem dt_house_11 : decode prog_1_method_9_code 11 = .ok (.new 167, 3) := by decide +kernel
theorem dt_house_14 : decode prog_1_method_9_code 14 = .ok (.dup, 1) := by decide +kernel
theorem dt_house_15 : decode prog_1_method_9_code 15 = .ok (.invokespecial 169, 3) := by decide +kernel
theorem dt_house_18 : decode prog_1_method_9_code 18 = .ok (.athrow, 1) := by decide +kernel
theorem dt_house_19 : decode prog_1_method_9_code 19 = .ok (.iload_n 2, 1) := by decide +kernel
theorem dt_house_20 : decode prog_1_method_9_code 20 = .ok (.tableswitch 100 0 5 #[40, 50, 60, 70, 80, 86], 40) := by decide +kernel
theorem dt_house_60 : decode prog_1_method_9_code 60 = .ok (.aload_n 0, 1) := by decide +kernel
theorem dt_house_61 : decode prog_1_method_9_code 61 = .ok (.getfield 36, 3) := by decide +kernel
theorem dt_house_64 : decode prog_1_method_9_code 64 = .ok (.getfield 170, 3) := by decide +kernel
theorem dt_house_67 : decode prog_1_method_9_code 67 = .ok (.iload_n 1, 1) := by decide +kernel
theorem dt_house_68 : decode prog_1_method_9_code 68 = .ok (.iaload, 1) := by decide +kernel
theorem dt_house_69 : decode prog_1_method_9_code 69 = .ok (.ireturn, 1) := by decide +kernel
theorem dt_house_70 : decode prog_1_method_9_code 70 = .ok (.aload_n 0, 1) := by decide +kernel
theorem dt_house_71 : decode prog_1_method_9_code 71 = .ok (.getfield 56, 3) := by decide +kernel
theorem dt_house_74 : decode prog_1_method_9_code 74 = .ok (.getfield 139, 3) := by decide +kernel
theorem dt_house_77 : decode prog_1_method_9_code 77 = .ok (.iload_n 1, 1) := by decide +kernel
theorem dt_house_78 : decode prog_1_method_9_code 78 = .ok (.iaload, 1) := by decide +kernel
theorem dt_house_79 : decode prog_1_method_9_code 79 = .ok (.ireturn, 1) := by decide +kernel
theorem dt_house_80 : decode prog_1_method_9_code 80 = .ok (.aload_n 0, 1) := by decide +kernel
theorem dt_house_81 : decode prog_1_method_9_code 81 = .ok (.getfield 36, 3) := by decide +kernel
theorem dt_house_84 : decode prog_1_method_9_code 84 = .ok (.getfield 173, 3) := by decide +kernel
theorem dt_house_87 : decode prog_1_method_9_code 87 = .ok (.iload_n 1, 1) := by decide +kernel
theorem dt_house_88 : decode prog_1_method_9_code 88 = .ok (.iaload, 1) := by decide +kernel
theorem dt_house_89 : decode prog_1_method_9_code 89 = .ok (.ireturn, 1) := by decide +kernel
theorem dt_house_90 : decode prog_1_method_9_code 90 = .ok (.aload_n 0, 1) := by decide +kernel
theorem dt_house_91 : decode prog_1_method_9_code 91 = .ok (.getfield 36, 3) := by decide +kernel
theorem dt_house_94 : decode prog_1_method_9_code 94 = .ok (.getfield 176, 3) := by decide +kernel
theorem dt_house_97 : decode prog_1_method_9_code 97 = .ok (.iload_n 1, 1) := by decide +kernel
theorem dt_house_98 : decode prog_1_method_9_code 98 = .ok (.iaload, 1) := by decide +kernel
theorem dt_house_99 : decode prog_1_method_9_code 99 = .ok (.ireturn, 1) := by decide +kernel
theorem dt_house_100 : decode prog_1_method_9_code 100 = .ok (.aload_n 0, 1) := by decide +kernel
theorem dt_house_101 : decode prog_1_method_9_code 101 = .ok (.iload_n 1, 1) := by decide +kernel
theorem dt_house_102 : decode prog_1_method_9_code 102 = .ok (.invokevirtual 179, 3) := by decide +kernel
theorem dt_house_105 : decode prog_1_method_9_code 105 = .ok (.ireturn, 1) := by decide +kernel
theorem dt_house_106 : decode prog_1_method_9_code 106 = .ok (.aload_n 0, 1) := by decide +kernel
theorem dt_house_107 : decode prog_1_method_9_code 107 = .ok (.invokevirtual 182, 3) := by decide +kernel
theorem dt_house_110 : decode prog_1_method_9_code 110 = .ok (.aload_n 0, 1) := by decide +kernel
theorem dt_house_111 : decode prog_1_method_9_code 111 = .ok (.getfield 56, 3) := by decide +kernel
theorem dt_house_114 : decode prog_1_method_9_code 114 = .ok (.getfield 185, 3) := by decide +kernel
theorem dt_house_117 : decode prog_1_method_9_code 117 = .ok (.iload_n 1, 1) := by decide +kernel
theorem dt_house_118 : decode prog_1_method_9_code 118 = .ok (.iaload, 1) := by decide +kernel
theorem dt_house_119 : decode prog_1_method_9_code 119 = .ok (.ireturn, 1) := by decide +kernel
theorem dt_house_120 : decode prog_1_method_9_code 120 = .ok (.new 167, 3) := by decide +kernel
theorem dt_house_123 : decode prog_1_method_9_code 123 = .ok (.dup, 1) := by decide +kernel
theorem dt_house_124 : decode prog_1_method_9_code 124 = .ok (.invokespecial 169, 3) := by decide +kernel
theorem dt_house_127 : decode prog_1_method_9_code 127 = .ok (.athrow, 1) := by decide +kernel
theorem dt_letter_0 : decode prog_1_method_10_code 0 = .ok (.aload_n 0, 1) := by decide +kernel
theorem dt_letter_1 : decode prog_1_method_10_code 1 = .ok (.getfield 36, 3) := by decide +kernel
theorem dt_letter_4 : decode prog_1_method_10_code 4 = .ok (.iload_n 1, 1) := by decide +kernel
theorem dt_letter_5 : decode prog_1_method_10_code 5 = .ok (.invokevirtual 164, 3) := by decide +kernel
theorem dt_letter_8 : decode prog_1_method_10_code 8 = .ok (.ifCond .eq 20, 3) := by decide +kernel
theorem dt_letter_11 : decode prog_1_method_10_code 11 = .ok (.iload_n 2, 1) := by decide +kernel
theorem dt_letter_12 : decode prog_1_method_10_code 12 = .ok (.ifCond .lt 16, 3) := by decide +kernel
theorem dt_letter_15 : decode prog_1_method_10_code 15 = .ok (.iload_n 2, 1) := by decide +kernel
theorem dt_letter_16 : decode prog_1_method_10_code 16 = .ok (.aload_n 0, 1) := by decide +kernel
theorem dt_letter_17 : decode prog_1_method_10_code 17 = .ok (.getfield 36, 3) := by decide +kernel
theorem dt_letter_20 : decode prog_1_method_10_code 20 = .ok (.getfield 170, 3) := by decide +kernel
theorem dt_letter_23 : decode prog_1_method_10_code 23 = .ok (.iload_n 1, 1) := by decide +kernel
theorem dt_letter_24 : decode prog_1_method_10_code 24 = .ok (.iaload, 1) := by decide +kernel
theorem dt_letter_25 : decode prog_1_method_10_code 25 = .ok (.if_icmp .lt 11, 3) := by decide +kernel
theorem dt_letter_28 : decode prog_1_method_10_code 28 = .ok (.new 167, 3) := by decide +kernel
theorem dt_letter_31 : decode prog_1_method_10_code 31 = .ok (.dup, 1) := by decide +kernel
theorem dt_letter_32 : decode prog_1_method_10_code 32 = .ok (.invokespecial 169, 3) := by decide +kernel
theorem dt_letter_35 : decode prog_1_method_10_code 35 = .ok (.athrow, 1) := by decide +kernel
theorem dt_letter_36 : decode prog_1_method_10_code 36 = .ok (.aload_n 0, 1) := by decide +kernel
theorem dt_letter_37 : decode prog_1_method_10_code 37 = .ok (.getfield 36, 3) := by decide +kernel
theorem dt_letter_40 : decode prog_1_method_10_code 40 = .ok (.iload_n 1, 1) := by decide +kernel
theorem dt_letter_41 : decode prog_1_method_10_code 41 = .ok (.iload_n 2, 1) := by decide +kernel
theorem dt_letter_42 : decode prog_1_method_10_code 42 = .ok (.invokevirtual 188, 3) := by decide +kernel
theorem dt_letter_45 : decode prog_1_method_10_code 45 = .ok (.ireturn, 1) := by decide +kernel
theorem dt_row_0 : decode prog_1_method_62_code 0 = .ok (.iload_n 1, 1) := by decide +kernel
theorem dt_row_1 : decode prog_1_method_62_code 1 = .ok (.ifCond .lt 14, 3) := by decide +kernel
theorem dt_row_4 : decode prog_1_method_62_code 4 = .ok (.iload_n 1, 1) := by decide +kernel
theorem dt_row_5 : decode prog_1_method_62_code 5 = .ok (.aload_n 0, 1) := by decide +kernel
theorem dt_row_6 : decode prog_1_method_62_code 6 = .ok (.getfield 19, 3) := by decide +kernel
theorem dt_row_9 : decode prog_1_method_62_code 9 = .ok (.getfield 373, 3) := by decide +kernel
theorem dt_row_12 : decode prog_1_method_62_code 12 = .ok (.if_icmp .lt 11, 3) := by decide +kernel
theorem dt_row_15 : decode prog_1_method_62_code 15 = .ok (.new 167, 3) := by decide +kernel
theorem dt_row_18 : decode prog_1_method_62_code 18 = .ok (.dup, 1) := by decide +kernel
theorem dt_row_19 : decode prog_1_method_62_code 19 = .ok (.invokespecial 169, 3) := by decide +kernel
theorem dt_row_22 : decode prog_1_method_62_code 22 = .ok (.athrow, 1) := by decide +kernel
theorem dt_row_23 : decode prog_1_method_62_code 23 = .ok (.aload_n 0, 1) := by decide +kernel
theorem dt_row_24 : decode prog_1_method_62_code 24 = .ok (.getfield 19, 3) := by decide +kernel
theorem dt_row_27 : decode prog_1_method_62_code 27 = .ok (.getfield 428, 3) := by decide +kernel
theorem dt_row_30 : decode prog_1_method_62_code 30 = .ok (.iload_n 1, 1) := by decide +kernel
theorem dt_row_31 : decode prog_1_method_62_code 31 = .ok (.laload, 1) := by decide +kernel
theorem dt_row_32 : decode prog_1_method_62_code 32 = .ok (.lreturn, 1) := by decide +kernel
theorem wt_cls : (Cond.classLink "WaterByLetters" (167 : Nat) "java/util/NoSuchElementException") ∈ z_tb := z_has_tb (w := some (5, 22)) (by decide +kernel) rfl
theorem wt_ini : (Cond.initialized "java/util/NoSuchElementException") ∈ z_tb := z_has_tb (w := some (1, 22)) (by decide +kernel) rfl
theorem wt_town : (Cond.fieldLink "WaterByLetters" (36 : Nat) "WaterByLetters" "town" "LWaterByLetters$Town;") ∈ z_tb := z_has_tb (w := some (2, 66)) (by decide +kernel) rfl
theorem wt_told : (Cond.fieldLink "WaterByLetters" (19 : Nat) "WaterByLetters" "told" "LWaterByLetters$Row;") ∈ z_tb := z_has_tb (w := some (2, 63)) (by decide +kernel) rfl
theorem wt_len : (Cond.fieldLink "WaterByLetters" (170 : Nat) "WaterByLetters$Town" "lengths" "[I") ∈ z_tb := z_has_tb (w := some (1, 117)) (by decide +kernel) rfl
theorem wt_size : (Cond.fieldLink "WaterByLetters" (373 : Nat) "WaterByLetters$Row" "size" "I") ∈ z_tb := z_has_tb (w := some (1, 61)) (by decide +kernel) rfl
def zt_E : String := "java/util/NoSuchElementException"
def zt_up : List String := ["java/lang/RuntimeException", "java/lang/Exception"]
def zt_bad : List Cond := [.declares ⟨"java/lang/RuntimeException", "<init>", "()V"⟩, .declares ⟨"java/lang/Exception", "<init>", "()V"⟩, .declares ⟨"java/lang/Throwable", "<init>", "()V"⟩, .castable zt_E zt_E]
theorem zt_bad_ok : ∀ w ∈ (vx_at0 "WaterByLetters" 169 zt_E zt_up).filter (fun w => !goodWord w), w ∈ zt_bad := by decide +kernel
theorem zt_good_in : ∀ w ∈ (vx_at0 "WaterByLetters" 169 zt_E zt_up).filter goodWord, w ∈ lw_tbl := by decide +kernel
theorem zt_good_ok : ∀ w ∈ (vx_at0 "WaterByLetters" 169 zt_E zt_up).filter goodWord, w ∈ z_tb := fun w hw => List.mem_filter.mpr ⟨zt_good_in w hw, (List.mem_filter.mp hw).2⟩
theorem zt_ot : ∀ w ∈ Cond.classLink "WaterByLetters" 167 zt_E :: Cond.initialized zt_E :: vx_at0 "WaterByLetters" 169 zt_E zt_up, vx_ot w = true := by decide +kernel
/-- what a throw needs of the state -/
def z_thr (A : Nat → Prop) (U : State) (H : Heap) : Prop := vx_Zq Bundle.tN "UNASSIGNED_STACK" Bundle.steD A U H ∧ vx_Zq Bundle.tN "SUPPRESSED_SENTINEL" Bundle.listD A U H ∧ va_Nw (.declares ⟨"java/lang/RuntimeException", "<init>", "()V"⟩) U ∧ va_Nw (.declares ⟨"java/lang/Exception", "<init>", "()V"⟩) U ∧ va_Nw (.declares ⟨"java/lang/Throwable", "<init>", "()V"⟩) U ∧ va_Nw (.castable zt_E zt_E) U
theorem z_thr.warm {A : Nat → Prop} {s U : State} {H : Heap} (hW : s.WarmedH U.vm) (h : z_thr A s H) : z_thr A U H := ⟨vx_Zq.moved hW.alike h.1, vx_Zq.moved hW.alike h.2.1, va_Nw.warmD hW h.2.2.1, va_Nw.warmD hW h.2.2.2.1, va_Nw.warmD hW h.2.2.2.2.1, va_Nw.warmC hW h.2.2.2.2.2⟩
theorem z_thr.kept {A : Nat → Prop} {U : State} {H H1 : Heap} (h : z_thr A U H) (hq : ∀ a : Nat, a < H.size → ¬ A a → H1[a]? = H[a]?) : z_thr A U H1 := ⟨h.1.kept hq, h.2.1.kept hq, h.2.2⟩
theorem z_thr.narrow {A B : Nat → Prop} {U : State} {H : Heap} (h : z_thr A U H) (hAB : ∀ q, B q → A q) : z_thr B U H := ⟨h.1.narrow hAB, h.2.1.narrow hAB, h.2.2⟩
theorem z_thr.bad {A : Nat → Prop} {s : State} {H : Heap} {args : Array Value} (h : z_thr A s H) : ∀ w ∈ zt_bad, w.before args s = true := by
  obtain ⟨-, -, h1, h2, h3, h4⟩ := h
  exact vx_c (va_Nw.use rfl h1) (vx_c (va_Nw.use rfl h2) (vx_c (va_Nw.use rfl h3) (vx_c (va_Nw.use rfl h4) vx_n)))
def zt_B (D : va_G) (cA : Nat → ClassId) (ad adK adV : Nat → Nat) (M : zM) (sz : Nat) (U : State) : Prop := z_B D cA ad adK adV M sz U ∧ z_thr (va_A (z_w ad cA M) sz) U U.heap
theorem zt_B_blind {D : va_G} {cA : Nat → ClassId} {ad adK adV : Nat → Nat} {M : zM} {sz : Nat} {av : List Value} : FrameBlind (va_Pc av (zt_B D cA ad adK adV M sz)) := by
  intro a U g mk q
  obtain ⟨q0, q1, q2, q3, q4, q5, q6, q7⟩ := q
  have h := z_B_blind (D := D) (cA := cA) (ad := ad) (adK := adK) (adV := adV) (M := M) (sz := sz) (av := av) a U g mk ⟨q0, q1⟩
  exact ⟨h.1, h.2, vx_Zq.moved (u := U) (U := U.calling g mk a) (Vm.Alike.refl U.vm) q2, vx_Zq.moved (u := U) (U := U.calling g mk a) (Vm.Alike.refl U.vm) q3, va_Nw.same (u := U) (U := U.calling g mk a) rfl rfl q4, va_Nw.same (u := U) (U := U.calling g mk a) rfl rfl q5, va_Nw.same (u := U) (U := U.calling g mk a) rfl rfl q6, va_Nw.same (u := U) (U := U.calling g mk a) rfl rfl q7⟩
def zt_XC (D : va_G) (cA : Nat → ClassId) (ad : Nat → Nat) (M : zM) (A : Nat → Prop) : String → State → State → Prop := fun E st t => E = zt_E ∧ va_P D z_cl (z_w ad cA M) t.heap ∧ va_F A st t
def zt_rm (d : Nat) : Room := { frames := d, cells := 1, slots := 6, locals := 60 * d }
section
variable {p : Program} {l : Launch} {e : Env} {R : Room} {s : State} {m : MethodId} {args : Array Value} {below : List Frame} {meth : Method} {c : Code} {cc : ByteArray} {nL : Nat} {own : String} {D : va_G} {cA : Nat → ClassId} {ad adK adV : Nat → Nat} {A : Nat → Prop} {Qj : State → Prop} {pc : Nat} {zl : List zV} {zs : List zU} {M : zM}
/-- a call on the way -/
theorem zx_V {rm : Room} {C : Nat → List zU → zM → (Option zU → zM → Prop) → Prop} (cx : z_cx p R s m args c cc nL own D cA ad adK A) (cy : z_cy R s adK adV A rm) (hC : z_HC l D cA ad adK adV rm C) {y idx na : Nat} {w : List (Nat × Nat)} {rt : Option FieldType} {a : List zU} (hce : z_ce own nL rt pc (.invokevirtual idx) 3 [y, na] 0 w = true) (hd : decode cc pc = .ok (.invokevirtual idx, 3)) (hna : a.length = na + 1) (hc8 : z_cats zs ≤ 8)
    (h : C y a.reverse M (fun r M => z_X p l e R s m args below meth c nL D cA ad adK A Qj (pc + 3) zl (r.toList ++ zs) M)) : z_X p l e R s m args below meth c nL D cA ad adK A Qj pc zl (a ++ zs) M := by
  simp only [z_ce, Bool.and_eq_true, decide_eq_true_eq] at hce
  obtain ⟨-, h9, h1⟩ := hce
  obtain ⟨Y, hmt, hml9, hds, hf⟩ := z_cm_ok h1
  simp only [Bool.and_eq_true] at hf
  obtain ⟨f0, f1, f2, f5, f3, f4⟩ := hf
  simp only [z_rc, Bool.or_eq_true, Bool.and_eq_true, decide_eq_true_eq] at f0
  obtain ⟨n1, n2, -⟩ := z_mt_cls hmt
  exact zs_callV cx cy hC hmt hml9 rfl h9 f0 hd hna hc8 (z_has_tb f1 rfl) (z_has_tb f2 rfl) (z_has_tb f5 rfl) (z_has_tb f3 rfl) (z_has_tb f4 rfl) ⟨n1, n2, hds⟩ h
/-- 'throw new NoSuchElementException()' -/
theorem zx_throw {d : Nat} (hl : l.stackTraces = false) (cx : z_cx p (zt_rm (d + 6)) s m args c cc nL "WaterByLetters" D cA ad adK A) (ht : z_thr A s s.heap) (hA : ∀ q, s.heap.size ≤ q → A q) (hlocks : meth.locks = false) (htab : ∀ x ∈ c.exceptionTable.toList, False)
    (d0 : decode cc pc = .ok (.new 167, 3)) (d3 : decode cc (pc + 3) = .ok (.dup, 1)) (d4 : decode cc (pc + 4) = .ok (.invokespecial 169, 3)) (d7 : decode cc (pc + 7) = .ok (.athrow, 1)) :
    z_X p l e (zt_rm (d + 6)) s m args below meth c nL D cA ad adK A (vx_MQ below (fun _ _ _ _ => False) (zt_XC D cA ad M A) args s 1 6 A) pc zl [] M := by
  obtain ⟨hx, hb, hml, hown, hts, hK, hinj, hinA, hstr, hroom⟩ := cx
  intro hl0 hg hs hm H locs ls hP hS hv
  refine vx_throw0 (names := zt_up) (cls := zt_E) hx hb hl hown (by decide +kernel) (by decide +kernel) (hts _ wt_cls) (hts _ wt_ini) (vx_hat (fun w hw => hts w (zt_good_ok w hw)) zt_bad_ok ht.bad) zt_ot ht.1 ht.2.1 hS (by rw [hml]; exact hv.1) d0 d3 d4 d7 (fun x hx => (htab x hx).elim) (by show 2 + 3 < d + 6; omega) (by show 0 + (13 * (2 + 1) + 42) ≤ 60 * (d + 6); omega) (Nat.le_refl _) (Nat.le_refl _) hlocks (fun t hal hz hk => ⟨rfl, hP.kept (fun k q hq => hk q.1 (hP k q hq).lt), ?_⟩) hS.2.2 (Nat.le_refl _) (Nat.le_refl _)
  exact ⟨Nat.le_trans hS.1 hz, fun q h1 h2 => by rw [hk q (Nat.lt_of_lt_of_le h1 hS.1)]; exact hS.2.1 q h1 h2⟩
end
/-- a contract of a method that throws, out of a walk of its body -/
theorem zt_of {l : Launch} {D : va_G} {cA : Nat → ClassId} {ad adK adV : Nat → Nat} {M : zM} {y : MethodName} {bytes : ByteArray} {maxL d : Nat} {ret : Option FieldType} {as : List zU} (hy : plainName y.cls = true) (hinj : ∀ i j, i < z_kt.length → j < z_kt.length → ad i = ad j → i = j) (hm : z_mok M) (hg : z_gs as) (hAs : Nat.ble (z_es as).length maxL = true)
    (body : ∀ (p : Program) (e : Env) (s : State) (m : MethodId) (below : List Frame) (meth : Method) (c : Code) (A : Nat → Prop), z_cx p (zt_rm (d + 1)) s m (as.map (z_val ad adK)).toArray c bytes maxL y.cls D cA ad adK A → z_cy (zt_rm (d + 1)) s adK adV A (z_rm d) → z_thr A s s.heap → meth.locks = false → (∀ x ∈ c.exceptionTable.toList, False) → z_X p l e (zt_rm (d + 1)) s m (as.map (z_val ad adK)).toArray below meth c maxL D cA ad adK A (vx_MQ below (fun _ _ _ _ => False) (zt_XC D cA ad M A) (as.map (z_val ad adK)).toArray s 1 6 A) 0 (z_ent maxL as) [] M) :
    ∀ sz : Nat, vx_Met l y (Cond.code y bytes maxL ret :: z_tb) (zt_rm (d + 1)) (va_Pc (as.map (z_val ad adK)) (zt_B D cA ad adK adV M sz)) (fun _ _ _ _ => False) (zt_XC D cA ad M (va_A (z_w ad cA M) sz)) 1 6 (va_A (z_w ad cA M) sz) := by
  intro sz
  refine vx_ofW (cc := bytes) (maxL := maxL) (ret := ret) hy rfl ?_
  intro p e s m args below meth c s₁ B hml htab hv
  obtain ⟨rfl, ⟨hsz, hP, hK, hVS, hR, hN⟩, hthr⟩ := hv
  have hts0 := atoms_spec (ws := Cond.code y bytes maxL ret :: z_tb) B.pre
  have hts : ∀ w ∈ z_tb, w.before (as.map (z_val ad adK)).toArray s = true := fun w hw => hts0 w (List.mem_cons_of_mem _ hw)
  have hown : s.vm.findClass y.cls = some m.cls := findClass_of_methodNamed B.named
  subst hsz
  have hinA : ∀ i, i < z_kt.length → va_A (z_w ad cA M) s.heap.size (ad i) := by
    intro i hi
    have hk : z_kt[i]? = some z_kt[i] := List.getElem?_eq_getElem hi
    exact va_A.in (z_w_at (ad := ad) (cA := cA) (M := M) hk)
  have cx : z_cx p (zt_rm (d + 1)) s m (as.map (z_val ad adK)).toArray c bytes maxL y.cls D cA ad adK (va_A (z_w ad cA M) s.heap.size) :=
    ⟨B.exec, B.bytes, hml, hown, hts, hK, hinj, hinA, hR, by show 1 ≤ d + 1; omega, by show 60 ≤ 60 * (d + 1); omega⟩
  have cy : z_cy (zt_rm (d + 1)) s adK adV (va_A (z_w ad cA M) s.heap.size) (z_rm d) :=
    ⟨hVS, fun q hq => Or.inr hq, rfl, rfl, Nat.le_refl _, by show 60 * d + 60 ≤ 60 * (d + 1); omega, hN⟩
  rw [lg_entry_eq]
  refine body p e s m below meth c _ cx cy hthr B.notSynchronized htab (z_fill_len _ _) (fun u hu => hg u (z_es_mem as u (z_fill_mem _ _ u hu))) (fun u hu => by cases hu) hm s.heap [] _ hP va_S.rf ?_
  refine z_lv_weak (lv_entry (as.map (z_val ad adK)) (by rw [z_es_len]; exact Nat.le_of_ble_eq_true hAs)) (fun q hq => ?_)
  rw [← z_lv_es]
  exact z_lv_fill _ _ 0 q hq
set_option maxRecDepth 20000 in
theorem zt_house {l : Launch} {D : va_G} {cA : Nat → ClassId} {ad adK adV : Nat → Nat} {M : zM} {d : Nat} (hl : l.stackTraces = false) (hinj : ∀ i j, i < z_kt.length → j < z_kt.length → ad i = ad j → i = j) (hC : z_HC l D cA ad adK adV (z_rm (d + 5)) (z_C (d + 5))) (hm : z_mok M) {h x : Int} (hh : z_ri h) (hx : z_ri x) (hno : ¬ ((0 ≤ h ∧ h < M 23 5) ∧ 0 ≤ x ∧ x ≤ 5)) : ∀ sz : Nat, vx_Met l ⟨"WaterByLetters", "house", "(II)I"⟩ (Cond.code ⟨"WaterByLetters", "house", "(II)I"⟩ prog_1_method_9_code 3 (some .int) :: z_tb) (zt_rm (d + 6)) (va_Pc ([z_r (10, 0) 0, z_i h, z_i x].map (z_val ad adK)) (zt_B D cA ad adK adV M sz)) (fun _ _ _ _ => False) (zt_XC D cA ad M (va_A (z_w ad cA M) sz)) 1 6 (va_A (z_w ad cA M) sz) := by
  have town : ∀ (p : Program) (e : Env) (s : State) (m : MethodId) (below : List Frame) (meth : Method) (c : Code) (A : Nat → Prop), z_cx p (zt_rm (d + 6)) s m ([z_r (10, 0) 0, z_i h, z_i x].map (z_val ad adK)).toArray c prog_1_method_9_code 3 "WaterByLetters" D cA ad adK A → z_cy (zt_rm (d + 6)) s adK adV A (z_rm (d + 5)) → z_X p l e (zt_rm (d + 6)) s m ([z_r (10, 0) 0, z_i h, z_i x].map (z_val ad adK)).toArray below meth c 3 D cA ad adK A (vx_MQ below (fun _ _ _ _ => False) (zt_XC D cA ad M A) ([z_r (10, 0) 0, z_i h, z_i x].map (z_val ad adK)).toArray s 1 6 A) 8 (z_ent 3 [z_r (10, 0) 0, z_i h, z_i x]) [z_i (if 0 ≤ h ∧ h < M 23 5 then 1 else 0)] M → z_X p l e (zt_rm (d + 6)) s m ([z_r (10, 0) 0, z_i h, z_i x].map (z_val ad adK)).toArray below meth c 3 D cA ad adK A (vx_MQ below (fun _ _ _ _ => False) (zt_XC D cA ad M A) ([z_r (10, 0) 0, z_i h, z_i x].map (z_val ad adK)).toArray s 1 6 A) 0 (z_ent 3 [z_r (10, 0) 0, z_i h, z_i x]) [] M := fun p e s m below meth c A cx cy k => by
    refine zs_aload_n cx dt_house_0 rfl ?_
    refine zs_getR (ci := 10) (j := 4) (off := 23) (kc := (9, 0)) cx dt_house_1 rfl (by decide) rfl (by decide) (z_cl_in (ci := 10) (by decide) rfl) wt_town rfl (by decide) (fun _ => rfl) ?_
    refine zs_iload_n cx dt_house_4 rfl ?_
    refine zx_V (rt := some .int) (a := [z_i h, z_r (9, 0) 23]) (zs := []) (y := 35) (na := 1) (w := [(3, 35), (3, 36), (3, 37), (1, 5), (3, 38)]) cx cy hC (by decide +kernel) dt_house_5 rfl (by decide) ?_
    exact z_Ci (s_Town_has (a := 23) k) (fun v M' hv => hv)
  refine zt_of (by decide) hinj hm (fun u hu => ?_) rfl (fun p e s m below meth c A cx cy ht hlocks htab => town p e s m below meth c A cx cy ?_)
  · simp only [List.mem_cons, List.not_mem_nil, or_false] at hu
    rcases hu with rfl | rfl | rfl
    · exact Or.inr ⟨by decide, rfl⟩
    · exact hh
    · exact hx
  refine zs_if_ne cx dt_house_8 (t := 19) (by decide) ⟨fun q => ?_, fun q => zx_throw (d := d) hl cx ht cy.2.1 hlocks htab dt_house_11 dt_house_14 dt_house_15 dt_house_18⟩
  have q1 : 0 ≤ h ∧ h < M 23 5 := Classical.byContradiction (fun z => q (if_neg z))
  refine zs_iload_n cx dt_house_19 rfl ?_
  refine zs_table (ts := [60, 70, 80, 90, 100, 106]) (dt := 120) cx dt_house_20 (by decide) (by decide) (by decide) ?_
  refine ⟨fun z => absurd ⟨q1, by omega⟩ hno, fun z => absurd ⟨q1, by omega⟩ hno, fun z => absurd ⟨q1, by omega⟩ hno, fun z => absurd ⟨q1, by omega⟩ hno, fun z => absurd ⟨q1, by omega⟩ hno, fun z => absurd ⟨q1, by omega⟩ hno, fun _ => ?_⟩
  exact zx_throw (d := d) hl cx ht cy.2.1 hlocks htab dt_house_120 dt_house_123 dt_house_124 dt_house_127
set_option maxRecDepth 20000 in
theorem zt_letter {l : Launch} {D : va_G} {cA : Nat → ClassId} {ad adK adV : Nat → Nat} {M : zM} {d : Nat} (hl : l.stackTraces = false) (hinj : ∀ i j, i < z_kt.length → j < z_kt.length → ad i = ad j → i = j) (hC : z_HC l D cA ad adK adV (z_rm (d + 5)) (z_C (d + 5))) (hm : z_mok M) {h x : Int} (hh : z_ri h) (hx : z_ri x) (hc : M 23 5 ≤ 8) (hno : ¬ ((0 ≤ h ∧ h < M 23 5) ∧ 0 ≤ x ∧ x < M 26 h)) : ∀ sz : Nat, vx_Met l ⟨"WaterByLetters", "letter", "(II)I"⟩ (Cond.code ⟨"WaterByLetters", "letter", "(II)I"⟩ prog_1_method_10_code 3 (some .int) :: z_tb) (zt_rm (d + 6)) (va_Pc ([z_r (10, 0) 0, z_i h, z_i x].map (z_val ad adK)) (zt_B D cA ad adK adV M sz)) (fun _ _ _ _ => False) (zt_XC D cA ad M (va_A (z_w ad cA M) sz)) 1 6 (va_A (z_w ad cA M) sz) := by
  have town : ∀ (p : Program) (e : Env) (s : State) (m : MethodId) (below : List Frame) (meth : Method) (c : Code) (A : Nat → Prop), z_cx p (zt_rm (d + 6)) s m ([z_r (10, 0) 0, z_i h, z_i x].map (z_val ad adK)).toArray c prog_1_method_10_code 3 "WaterByLetters" D cA ad adK A → z_cy (zt_rm (d + 6)) s adK adV A (z_rm (d + 5)) → z_X p l e (zt_rm (d + 6)) s m ([z_r (10, 0) 0, z_i h, z_i x].map (z_val ad adK)).toArray below meth c 3 D cA ad adK A (vx_MQ below (fun _ _ _ _ => False) (zt_XC D cA ad M A) ([z_r (10, 0) 0, z_i h, z_i x].map (z_val ad adK)).toArray s 1 6 A) 8 (z_ent 3 [z_r (10, 0) 0, z_i h, z_i x]) [z_i (if 0 ≤ h ∧ h < M 23 5 then 1 else 0)] M → z_X p l e (zt_rm (d + 6)) s m ([z_r (10, 0) 0, z_i h, z_i x].map (z_val ad adK)).toArray below meth c 3 D cA ad adK A (vx_MQ below (fun _ _ _ _ => False) (zt_XC D cA ad M A) ([z_r (10, 0) 0, z_i h, z_i x].map (z_val ad adK)).toArray s 1 6 A) 0 (z_ent 3 [z_r (10, 0) 0, z_i h, z_i x]) [] M := fun p e s m below meth c A cx cy k => by
    refine zs_aload_n cx dt_letter_0 rfl ?_
    refine zs_getR (ci := 10) (j := 4) (off := 23) (kc := (9, 0)) cx dt_letter_1 rfl (by decide) rfl (by decide) (z_cl_in (ci := 10) (by decide) rfl) wt_town rfl (by decide) (fun _ => rfl) ?_
    refine zs_iload_n cx dt_letter_4 rfl ?_
    refine zx_V (rt := some .int) (a := [z_i h, z_r (9, 0) 23]) (zs := []) (y := 35) (na := 1) (w := [(3, 35), (3, 36), (3, 37), (1, 5), (3, 38)]) cx cy hC (by decide +kernel) dt_letter_5 rfl (by decide) ?_
    exact z_Ci (s_Town_has (a := 23) k) (fun v M' hv => hv)
  refine zt_of (by decide) hinj hm (fun u hu => ?_) rfl (fun p e s m below meth c A cx cy ht hlocks htab => town p e s m below meth c A cx cy ?_)
  · simp only [List.mem_cons, List.not_mem_nil, or_false] at hu
    rcases hu with rfl | rfl | rfl
    · exact Or.inr ⟨by decide, rfl⟩
    · exact hh
    · exact hx
  have thr : z_X p l e (zt_rm (d + 6)) s m _ below meth c 3 D cA ad adK A (vx_MQ below (fun _ _ _ _ => False) (zt_XC D cA ad M A) _ s 1 6 A) 28 (z_ent 3 [z_r (10, 0) 0, z_i h, z_i x]) [] M := zx_throw (d := d) hl cx ht cy.2.1 hlocks htab dt_letter_28 dt_letter_31 dt_letter_32 dt_letter_35
  refine zs_if_eq cx dt_letter_8 (t := 28) (by decide) ⟨fun _ => thr, fun q => ?_⟩
  have q1 : 0 ≤ h ∧ h < M 23 5 := Classical.byContradiction (fun z => q (if_neg z))
  refine zs_iload_n cx dt_letter_11 rfl ?_
  refine zs_if_lt cx dt_letter_12 (t := 28) (by decide) ⟨fun _ => thr, fun q2 => ?_⟩
  refine zs_iload_n cx dt_letter_15 rfl ?_
  refine zs_aload_n cx dt_letter_16 rfl ?_
  refine zs_getR (ci := 10) (j := 4) (off := 23) (kc := (9, 0)) cx dt_letter_17 rfl (by decide) rfl (by decide) (z_cl_in (ci := 10) (by decide) rfl) wt_town rfl (by decide) (fun _ => rfl) ?_
  refine zs_getR (ci := 9) (j := 2) (off := 3) (kc := (100, 8)) cx dt_letter_20 rfl (by decide) rfl (by decide) (z_cl_in (ci := 9) (by decide) rfl) wt_len rfl (by decide) (fun _ => rfl) ?_
  refine zs_iload_n cx dt_letter_23 rfl ?_
  refine zs_iaload cx dt_letter_24 rfl (show 0 ≤ h ∧ h < 8 by omega) ?_
  exact zs_icmp_lt cx dt_letter_25 (t := 36) (by decide) ⟨fun q3 => absurd ⟨q1, by omega, q3⟩ hno, fun _ => thr⟩
set_option maxRecDepth 20000 in
theorem zt_row {l : Launch} {D : va_G} {cA : Nat → ClassId} {ad adK adV : Nat → Nat} {M : zM} {d : Nat} (hl : l.stackTraces = false) (hinj : ∀ i j, i < z_kt.length → j < z_kt.length → ad i = ad j → i = j) (hC : z_HC l D cA ad adK adV (z_rm (d + 5)) (z_C (d + 5))) (hm : z_mok M) {x : Int} (hx : z_ri x) (hno : ¬ (0 ≤ x ∧ x < M 3 1)) : ∀ sz : Nat, vx_Met l ⟨"WaterByLetters", "row", "(I)J"⟩ (Cond.code ⟨"WaterByLetters", "row", "(I)J"⟩ prog_1_method_62_code 2 (some .long) :: z_tb) (zt_rm (d + 6)) (va_Pc ([z_r (10, 0) 0, z_i x].map (z_val ad adK)) (zt_B D cA ad adK adV M sz)) (fun _ _ _ _ => False) (zt_XC D cA ad M (va_A (z_w ad cA M) sz)) 1 6 (va_A (z_w ad cA M) sz) := by
  refine zt_of (by decide) hinj hm (fun u hu => ?_) rfl (fun p e s m below meth c A cx cy ht hlocks htab => ?_)
  · simp only [List.mem_cons, List.not_mem_nil, or_false] at hu
    rcases hu with rfl | rfl
    · exact Or.inr ⟨by decide, rfl⟩
    · exact hx
  have thr : z_X p l e (zt_rm (d + 6)) s m _ below meth c 2 D cA ad adK A (vx_MQ below (fun _ _ _ _ => False) (zt_XC D cA ad M A) _ s 1 6 A) 15 (z_ent 2 [z_r (10, 0) 0, z_i x]) [] M := zx_throw (d := d) hl cx ht cy.2.1 hlocks htab dt_row_15 dt_row_18 dt_row_19 dt_row_22
  refine zs_iload_n cx dt_row_0 rfl ?_
  refine zs_if_lt cx dt_row_1 (t := 15) (by decide) ⟨fun _ => thr, fun q2 => ?_⟩
  refine zs_iload_n cx dt_row_4 rfl ?_
  refine zs_aload_n cx dt_row_5 rfl ?_
  refine zs_getR (ci := 10) (j := 1) (off := 3) (kc := (5, 0)) cx dt_row_6 rfl (by decide) rfl (by decide) (z_cl_in (ci := 10) (by decide) rfl) wt_told rfl (by decide) (fun _ => rfl) ?_
  refine zs_getI (ci := 5) (j := 1) cx dt_row_9 rfl (by decide) rfl (by decide) (z_cl_in (ci := 5) (by decide) rfl) wt_size rfl rfl ?_
  exact zs_icmp_lt cx dt_row_12 (t := 23) (by decide) ⟨fun q3 => absurd ⟨by omega, q3⟩ hno, fun _ => thr⟩
