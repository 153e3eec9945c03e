/-! THE LAW'S WRAPPERS: written by gen_wrap.py -/
theorem ww_cls : (Cond.classLink "WaterByLettersLaw" (13 : Nat) "java/util/NoSuchElementException") ∈ z_tb := z_has_tb (w := some (5, 17)) (by decide +kernel) rfl
theorem ww_house_l : (Cond.methodLink "WaterByLettersLaw" (7 : Nat) ({ cls := "WaterByLetters", name := "house", desc := "(II)I" } : Jvm.MethodName)) ∈ z_tb := z_has_tb (w := some (5, 18)) (by decide +kernel) rfl
theorem ww_house_m : (Cond.instanceMethod ({ cls := "WaterByLetters", name := "house", desc := "(II)I" } : Jvm.MethodName)) ∈ z_tb := z_has_tb (w := some (5, 19)) (by decide +kernel) rfl
theorem ww_house_s : (Cond.selects "WaterByLetters" ({ cls := "WaterByLetters", name := "house", desc := "(II)I" } : Jvm.MethodName) ({ cls := "WaterByLetters", name := "house", desc := "(II)I" } : Jvm.MethodName)) ∈ z_tb := z_has_tb (w := some (5, 20)) (by decide +kernel) rfl
theorem ww_house_c : (Cond.code ({ cls := "WaterByLetters", name := "house", desc := "(II)I" } : Jvm.MethodName) prog_1_method_9_code (3 : Nat) (Option.some Jvm.ClassFile.FieldType.int)) ∈ z_tb := z_has_tb (w := some (5, 21)) (by decide +kernel) rfl
theorem ww_house_w : (Cond.codeWith ({ cls := "WaterByLettersLaw", name := "house", desc := "(LWaterByLetters;II[J)I" } : Jvm.MethodName) method_3_code (5 : Nat) (Option.some Jvm.ClassFile.FieldType.int) [((0 : Nat), (10 : Nat), (13 : Nat), (13 : Nat))]) ∈ z_tb := z_has_tb (w := some (5, 16)) (by decide +kernel) rfl
theorem dw_house_0 : decode method_3_code 0 = .ok (.aload_n 3, 1) := by decide +kernel
theorem dw_house_1 : decode method_3_code 1 = .ok (.iconst 0, 1) := by decide +kernel
theorem dw_house_2 : decode method_3_code 2 = .ok (.aload_n 0, 1) := by decide +kernel
theorem dw_house_3 : decode method_3_code 3 = .ok (.iload_n 1, 1) := by decide +kernel
theorem dw_house_4 : decode method_3_code 4 = .ok (.iload_n 2, 1) := by decide +kernel
theorem dw_house_5 : decode method_3_code 5 = .ok (.invokevirtual 7, 3) := by decide +kernel
theorem dw_house_8 : decode method_3_code 8 = .ok (.i2l, 1) := by decide +kernel
theorem dw_house_9 : decode method_3_code 9 = .ok (.lastore, 1) := by decide +kernel
theorem dw_house_10 : decode method_3_code 10 = .ok (.goto 7, 3) := by decide +kernel
theorem dw_house_13 : decode method_3_code 13 = .ok (.astore 4, 2) := by decide +kernel
theorem dw_house_15 : decode method_3_code 15 = .ok (.iconst 1, 1) := by decide +kernel
theorem dw_house_16 : decode method_3_code 16 = .ok (.ireturn, 1) := by decide +kernel
theorem dw_house_17 : decode method_3_code 17 = .ok (.iconst 0, 1) := by decide +kernel
theorem dw_house_18 : decode method_3_code 18 = .ok (.ireturn, 1) := by decide +kernel
theorem ww_letter_l : (Cond.methodLink "WaterByLettersLaw" (15 : Nat) ({ cls := "WaterByLetters", name := "letter", desc := "(II)I" } : Jvm.MethodName)) ∈ z_tb := z_has_tb (w := some (5, 86)) (by decide +kernel) rfl
theorem ww_letter_m : (Cond.instanceMethod ({ cls := "WaterByLetters", name := "letter", desc := "(II)I" } : Jvm.MethodName)) ∈ z_tb := z_has_tb (w := some (5, 87)) (by decide +kernel) rfl
theorem ww_letter_s : (Cond.selects "WaterByLetters" ({ cls := "WaterByLetters", name := "letter", desc := "(II)I" } : Jvm.MethodName) ({ cls := "WaterByLetters", name := "letter", desc := "(II)I" } : Jvm.MethodName)) ∈ z_tb := z_has_tb (w := some (5, 88)) (by decide +kernel) rfl
theorem ww_letter_c : (Cond.code ({ cls := "WaterByLetters", name := "letter", desc := "(II)I" } : Jvm.MethodName) prog_1_method_10_code (3 : Nat) (Option.some Jvm.ClassFile.FieldType.int)) ∈ z_tb := z_has_tb (w := some (5, 89)) (by decide +kernel) rfl
theorem ww_letter_w : (Cond.codeWith ({ cls := "WaterByLettersLaw", name := "letter", desc := "(LWaterByLetters;II[J)I" } : Jvm.MethodName) method_4_code (5 : Nat) (Option.some Jvm.ClassFile.FieldType.int) [((0 : Nat), (10 : Nat), (13 : Nat), (13 : Nat))]) ∈ z_tb := z_has_tb (w := some (5, 85)) (by decide +kernel) rfl
theorem dw_letter_0 : decode method_4_code 0 = .ok (.aload_n 3, 1) := by decide +kernel
theorem dw_letter_1 : decode method_4_code 1 = .ok (.iconst 0, 1) := by decide +kernel
theorem dw_letter_2 : decode method_4_code 2 = .ok (.aload_n 0, 1) := by decide +kernel
theorem dw_letter_3 : decode method_4_code 3 = .ok (.iload_n 1, 1) := by decide +kernel
theorem dw_letter_4 : decode method_4_code 4 = .ok (.iload_n 2, 1) := by decide +kernel
theorem dw_letter_5 : decode method_4_code 5 = .ok (.invokevirtual 15, 3) := by decide +kernel
theorem dw_letter_8 : decode method_4_code 8 = .ok (.i2l, 1) := by decide +kernel
theorem dw_letter_9 : decode method_4_code 9 = .ok (.lastore, 1) := by decide +kernel
theorem dw_letter_10 : decode method_4_code 10 = .ok (.goto 7, 3) := by decide +kernel
theorem dw_letter_13 : decode method_4_code 13 = .ok (.astore 4, 2) := by decide +kernel
theorem dw_letter_15 : decode method_4_code 15 = .ok (.iconst 1, 1) := by decide +kernel
theorem dw_letter_16 : decode method_4_code 16 = .ok (.ireturn, 1) := by decide +kernel
theorem dw_letter_17 : decode method_4_code 17 = .ok (.iconst 0, 1) := by decide +kernel
theorem dw_letter_18 : decode method_4_code 18 = .ok (.ireturn, 1) := by decide +kernel
theorem ww_row_l : (Cond.methodLink "WaterByLettersLaw" (18 : Nat) ({ cls := "WaterByLetters", name := "row", desc := "(I)J" } : Jvm.MethodName)) ∈ z_tb := z_has_tb (w := some (5, 93)) (by decide +kernel) rfl
theorem ww_row_m : (Cond.instanceMethod ({ cls := "WaterByLetters", name := "row", desc := "(I)J" } : Jvm.MethodName)) ∈ z_tb := z_has_tb (w := some (5, 94)) (by decide +kernel) rfl
theorem ww_row_s : (Cond.selects "WaterByLetters" ({ cls := "WaterByLetters", name := "row", desc := "(I)J" } : Jvm.MethodName) ({ cls := "WaterByLetters", name := "row", desc := "(I)J" } : Jvm.MethodName)) ∈ z_tb := z_has_tb (w := some (5, 95)) (by decide +kernel) rfl
theorem ww_row_c : (Cond.code ({ cls := "WaterByLetters", name := "row", desc := "(I)J" } : Jvm.MethodName) prog_1_method_62_code (2 : Nat) (Option.some Jvm.ClassFile.FieldType.long)) ∈ z_tb := z_has_tb (w := some (5, 96)) (by decide +kernel) rfl
theorem ww_row_w : (Cond.codeWith ({ cls := "WaterByLettersLaw", name := "row", desc := "(LWaterByLetters;I[J)I" } : Jvm.MethodName) method_5_code (4 : Nat) (Option.some Jvm.ClassFile.FieldType.int) [((0 : Nat), (8 : Nat), (11 : Nat), (13 : Nat))]) ∈ z_tb := z_has_tb (w := some (5, 92)) (by decide +kernel) rfl
theorem dw_row_0 : decode method_5_code 0 = .ok (.aload_n 2, 1) := by decide +kernel
theorem dw_row_1 : decode method_5_code 1 = .ok (.iconst 0, 1) := by decide +kernel
theorem dw_row_2 : decode method_5_code 2 = .ok (.aload_n 0, 1) := by decide +kernel
theorem dw_row_3 : decode method_5_code 3 = .ok (.iload_n 1, 1) := by decide +kernel
theorem dw_row_4 : decode method_5_code 4 = .ok (.invokevirtual 18, 3) := by decide +kernel
theorem dw_row_7 : decode method_5_code 7 = .ok (.lastore, 1) := by decide +kernel
theorem dw_row_8 : decode method_5_code 8 = .ok (.goto 6, 3) := by decide +kernel
theorem dw_row_11 : decode method_5_code 11 = .ok (.astore_n 3, 1) := by decide +kernel
theorem dw_row_12 : decode method_5_code 12 = .ok (.iconst 1, 1) := by decide +kernel
theorem dw_row_13 : decode method_5_code 13 = .ok (.ireturn, 1) := by decide +kernel
theorem dw_row_14 : decode method_5_code 14 = .ok (.iconst 0, 1) := by decide +kernel
theorem dw_row_15 : decode method_5_code 15 = .ok (.ireturn, 1) := by decide +kernel
theorem ww_ini : (Cond.initialized "WaterByLetters") ∈ z_tb := z_has_tb (w := some (1, 1)) (by decide +kernel) rfl
section
variable {p : Program} {l : Launch} {e : Env} {R : Room} {s : State} {m : MethodId} {args : Array Value} {below : List Frame} {meth : Method} {c : Code} {cc : ByteArray} {nL : Nat} {own : String} {D : va_G} {cA : Nat → ClassId} {ad adK adV : Nat → Nat} {A : Nat → Prop} {Qj : State → Prop} {pc : Nat} {zl : List zV} {zs : List zU} {M : zM} {H : Heap} {locs : List Loc} {ls : Array Slot} {rest As : List Value}
/-- a call that throws, caught by the one row of the table -/
theorem zw_thr {d : Nat} {y : MethodName} {bytes : ByteArray} {maxL idx na : Nat} {ret : Option FieldType} {x : ExceptionTableEntry} (cx : z_cx p (zt_rm (d + 7)) s m args c cc nL "WaterByLettersLaw" D cA ad adK A) (cy : z_cy (zt_rm (d + 7)) s adK adV A (z_rm (d + 6))) (ht : z_thr A s s.heap)
    (hMet : ∀ sz : Nat, vx_Met l y (Cond.code y bytes maxL ret :: z_tb) (zt_rm (d + 6)) (va_Pc (.ref (ad 0) :: As) (zt_B D cA ad adK adV M sz)) (fun _ _ _ _ => False) (zt_XC D cA ad M (va_A (z_w ad cA M) sz)) 1 6 (va_A (z_w ad cA M) sz)) (hml9 : maxL ≤ 41) (hyc : y.cls = "WaterByLetters")
    (hd : decode cc pc = .ok (.invokevirtual idx, 3)) (hna : As.length = na) (hcat : (rest.map fun v => v.category).sum ≤ 8) (hw1 : Cond.methodLink "WaterByLettersLaw" idx y ∈ z_tb) (hw2 : Cond.instanceMethod y ∈ z_tb) (hw5 : Cond.selects y.cls y y ∈ z_tb) (hw4 : Cond.code y bytes maxL ret ∈ z_tb) (hdesc : y.cls ≠ "java/lang/invoke/MethodHandle" ∧ y.cls ≠ "java/lang/invoke/VarHandle" ∧ (parseMethodDescriptor y.desc).map (fun d => d.parameters.length) = some na)
    (hP : va_P D z_cl (z_w ad cA M) H) (hS : va_S A s.heap H locs) (hls : ls.size = nL) (htab : c.exceptionTable.toList = [x]) (hx : covers x pc = true) (h0 : x.catchType = 13)
    (kk : ∀ (H1 : Heap) (locs1 : List Loc) (q : Nat), va_P D z_cl (z_w ad cA M) H1 → va_S A s.heap H1 locs1 → W p l e (zt_rm (d + 7)) s m args below meth c H1 locs1 1 6 Qj (F0 m x.handlerPc ls [.ref q])) : W p l e (zt_rm (d + 7)) s m args below meth c H locs 0 0 Qj (F0 m pc ls (As.reverse ++ .ref (ad 0) :: rest)) := by
  obtain ⟨hex, hb, hml, hown, hts, hK, hinj, hinA, hstr, hroom⟩ := cx
  obtain ⟨hVS, hA, r1, r2, r3, r4, hnest⟩ := cy
  have hin := z_A_in (cA := cA) (M := M) hinA hA hS
  have hrecv : ∃ cell : Cell, H[ad 0]? = some cell ∧ cell.vm.isStatics = false ∧ s.vm.findClass y.cls = some cell.cls := by
    rw [hyc]
    have ha := z_w_at (ad := ad) (cA := cA) (M := M) (a := 0) (k := (10, 0)) rfl
    rw [z_e_obj (by decide)] at ha
    exact va_recv hK hP (q := ("WaterByLetters", zF10, 20)) rfl ha
  have run := vx_runV (p := p) (l := l) (e := e) (R := zt_rm (d + 7)) (below := below) (meth := meth) (locs := locs) (cells := 0) (slots := 0) (As := As) (b := ad 0) (n := na) (own := "WaterByLettersLaw") (C := y.cls) (Ts := z_tb) (rest := rest) (g := F0 m pc ls (As.reverse ++ .ref (ad 0) :: rest)) ⟨hex, hb, hml, hown, hts⟩ (hMet H.size) ⟨callB_of (bytes := bytes) (maxL := maxL) (ret := ret) na hts (z_goodIn hw4) rfl rfl rfl (by rw [hyc]; exact hts _ ww_ini) (hts _ hw1) hdesc ⟨Nat.le_refl _, by show 8 + (maxL + 11) + 60 * (d + 6) ≤ 60 * (d + 7); omega⟩, hts _ hw2, hts _ hw5⟩ ⟨zt_B_blind, hrecv, fun U hU hW => ⟨rfl, z_B_at hK hstr hVS hnest hS hP hin U hU hW, by rw [hU]; exact ((ht.kept hS.2.1).narrow hin).warm hW⟩⟩ rfl hna hls rfl (lv_room hcat) hd ⟨Nat.le_refl _, Nat.le_refl _⟩
  intro T hT X
  rcases run T hT X with ⟨v, st₀, t, T', L, g0, X', hL, e1, e2, hq, st⟩ | ⟨q, st₀, t, T', L, E, ce, g0, X', hL, e1, e2, ⟨rfl, hP1, hF⟩, hce, hcv, hcl, st⟩
  · exact hq.elim
  · obtain ⟨k1, k2, k3⟩ := vx_keep g0 e1 hS (fun q _ hq => hin q hq) hin hL hF
    have hcast : (Cond.castable zt_E zt_E).before args s = true := va_Nw.use rfl ht.2.2.2.2.2
    have hlk : (Cond.classLink "WaterByLettersLaw" x.catchType zt_E).before args s = true := by rw [h0]; exact hts _ ww_cls
    obtain ⟨t2, a1, b1⟩ := zx_catch (rest := rest) hown htab hx (by rw [h0]; decide) hlk hcast (H := T'.heap) (by rw [e1]; exact hce) hcv hcl (kk T'.heap (locs ++ L) q (by rw [e1]; exact hP1) k3) T' rfl X'
    exact ⟨t2, st.trans a1, b1⟩
/-- the end of a wrapper -/
theorem zw_ret {Q : Option zU → zM → Prop} (cx : z_cx p R s m args c cc nL own D cA ad adK A) {a : Int} (hr : meth.sig.returnType = some .int) (hlocks : meth.locks = false) (hd : decode cc pc = .ok (.ireturn, 1)) (h : Q (some (z_i a)) M) : z_X p l e R s m args below meth c nL D cA ad adK A (MQ below (z_Qg D cA ad adK Q A) args s 1 6 A) pc zl [z_i a] M := by
  obtain ⟨hx, hb, hml, hown, hts, hK, hinj, hinA, hstr, hroom⟩ := cx
  intro hl hg hs hm H locs ls hP hS hv
  refine W.widen (k := 1) (n := 6) (by omega) (by omega) ?_
  exact W.iret hx hb hr (fun t ht _ => ⟨⟨some (z_i a), M, rfl, h, fun u hu => by cases hu; exact (z_gs_c.mp hs).1, hm, by rw [ht]; exact hP⟩, hS.F ht⟩) hS.2.2 hd hlocks
end
/-- a wrapper's contract out of a walk of its body -/
theorem zw_of {l : Launch} {D : va_G} {cA : Nat → ClassId} {ad adK adV : Nat → Nat} {M : zM} {Q : Option zU → zM → Prop} {y : MethodName} {bytes : ByteArray} {maxL d : Nat} {ret : Option FieldType} {hh : List (Nat × Nat × Nat × Nat)} {as : List zU} (hy : plainName y.cls = true) (hinj : ∀ i j, i < z_kt.length → j < z_kt.length → ad i = ad j → i = j) (hm : z_mok M) (hg : z_gs as) (hAs : Nat.ble (z_es as).length maxL = true)
    (body : ∀ (p : Program) (e : Env) (s : State) (m : MethodId) (below : List Frame) (meth : Method) (c : Code) (A : Nat → Prop), z_cx p (zt_rm (d + 1)) s m (as.map (z_val ad adK)).toArray c bytes maxL y.cls D cA ad adK A → z_cy (zt_rm (d + 1)) s adK adV A (z_rm d) → z_thr A s s.heap → meth.sig.returnType = ret → meth.locks = false → c.exceptionTable.toList = tableOf hh → z_X p l e (zt_rm (d + 1)) s m (as.map (z_val ad adK)).toArray below meth c maxL D cA ad adK A (MQ below (z_Qg D cA ad adK Q A) (as.map (z_val ad adK)).toArray s 1 6 A) 0 (z_ent maxL as) [] M) :
    ∀ sz : Nat, Met l y (Cond.codeWith y bytes maxL ret hh :: z_tb) (zt_rm (d + 1)) (va_Pc (as.map (z_val ad adK)) (zt_B D cA ad adK adV M sz)) (z_Qg D cA ad adK Q (va_A (z_w ad cA M) sz)) 1 6 (va_A (z_w ad cA M) sz) := by
  intro sz
  refine va_MetW (cc := bytes) (maxL := maxL) (ret := ret) (hh := hh) hy rfl ?_
  intro p e s m args below meth c s₁ B hml hv
  obtain ⟨rfl, ⟨hsz, hP, hK, hVS, hR, hN⟩, hthr⟩ := hv
  have hts0 := atoms_spec (ws := Cond.codeWith y bytes maxL ret hh :: z_tb) B.pre
  have hts : ∀ w ∈ z_tb, w.before (as.map (z_val ad adK)).toArray s = true := fun w hw => hts0 w (List.mem_cons_of_mem _ hw)
  have hown : s.vm.findClass y.cls = some m.cls := findClass_of_methodNamed B.named
  have htab := vx_table (x := y) B (hts0 _ List.mem_cons_self)
  subst hsz
  have hinA : ∀ i, i < z_kt.length → va_A (z_w ad cA M) s.heap.size (ad i) := by
    intro i hi
    have hk : z_kt[i]? = some z_kt[i] := List.getElem?_eq_getElem hi
    exact va_A.in (z_w_at (ad := ad) (cA := cA) (M := M) hk)
  have cx : z_cx p (zt_rm (d + 1)) s m (as.map (z_val ad adK)).toArray c bytes maxL y.cls D cA ad adK (va_A (z_w ad cA M) s.heap.size) :=
    ⟨B.exec, B.bytes, hml, hown, hts, hK, hinj, hinA, hR, by show 1 ≤ d + 1; omega, by show 60 ≤ 60 * (d + 1); omega⟩
  have cy : z_cy (zt_rm (d + 1)) s adK adV (va_A (z_w ad cA M) s.heap.size) (z_rm d) :=
    ⟨hVS, fun q hq => Or.inr hq, rfl, rfl, Nat.le_refl _, by show 60 * d + 60 ≤ 60 * (d + 1); omega, hN⟩
  rw [lg_entry_eq]
  refine body p e s m below meth c _ cx cy hthr B.returns B.notSynchronized htab (z_fill_len _ _) (fun u hu => hg u (z_es_mem as u (z_fill_mem _ _ u hu))) (fun u hu => by cases hu) hm s.heap [] _ hP va_S.rf ?_
  refine z_lv_weak (lv_entry (as.map (z_val ad adK)) (by rw [z_es_len]; exact Nat.le_of_ble_eq_true hAs)) (fun q hq => ?_)
  rw [← z_lv_es]
  exact z_lv_fill _ _ 0 q hq
set_option maxRecDepth 20000 in
theorem zw_house_a {l : Launch} {D : va_G} {cA : Nat → ClassId} {ad adK adV : Nat → Nat} {M : zM} {Q : Option zU → zM → Prop} {d : Nat} (hinj : ∀ i j, i < z_kt.length → j < z_kt.length → ad i = ad j → i = j) (hC : z_HC l D cA ad adK adV (z_rm (d + 6)) (z_C (d + 6))) (hm : z_mok M) {h x : Int} (hh : z_ri h) (hx : z_ri x) (h0 : zCi (d + 6) 145 [z_r (10, 0) 0, z_i h, z_i x] M (fun v M1 => Q (some (z_i 0)) (z_up M1 222 0 v))) : ∀ sz : Nat, Met l ⟨"WaterByLettersLaw", "house", "(LWaterByLetters;II[J)I"⟩ (Cond.codeWith ⟨"WaterByLettersLaw", "house", "(LWaterByLetters;II[J)I"⟩ method_3_code 5 (some .int) [(0, 10, 13, 13)] :: z_tb) (zt_rm (d + 7)) (va_Pc ([z_r (10, 0) 0, z_i h, z_i x, z_r (101, 1) 222].map (z_val ad adK)) (zt_B D cA ad adK adV M sz)) (z_Qg D cA ad adK Q (va_A (z_w ad cA M) sz)) 1 6 (va_A (z_w ad cA M) sz) := by
  have hg : z_gs [z_r (10, 0) 0, z_i h, z_i x, z_r (101, 1) 222] := fun u hu => by
    simp only [List.mem_cons, List.not_mem_nil, or_false] at hu
    rcases hu with rfl | rfl | rfl | rfl
    · exact Or.inr ⟨by decide, rfl⟩
    · exact hh
    · exact hx
    · exact Or.inr ⟨by decide, rfl⟩
  refine zw_of (by decide) hinj hm hg rfl (fun p e s m below meth c A cx cy ht hr hlocks htab => ?_)
  refine zs_aload_n cx dw_house_0 rfl ?_
  refine zs_iconst cx dw_house_1 rfl z_ri_0 ?_
  refine zs_aload_n cx dw_house_2 rfl ?_
  refine zs_iload_n cx dw_house_3 rfl ?_
  refine zs_iload_n cx dw_house_4 rfl ?_
  refine zx_V (rt := some .int) (a := [z_i x, z_i h, z_r (10, 0) 0]) (zs := [z_i 0, z_r (101, 1) 222]) (y := 145) (na := 2) (w := [(5, 18), (5, 19), (5, 20), (1, 1), (5, 21)]) cx cy hC (by decide +kernel) dw_house_5 rfl (by decide) ?_
  refine z_Ci h0 (fun v M' hv => ?_)
  refine zs_i2l cx dw_house_8 ?_
  refine zs_lastore cx dw_house_9 rfl (by decide) ?_
  refine zs_goto cx dw_house_10 (t := 17) (by decide) ?_
  refine zs_iconst cx dw_house_17 rfl z_ri_0 ?_
  exact zw_ret cx hr hlocks dw_house_18 hv
set_option maxRecDepth 20000 in
theorem zw_house_t {l : Launch} {D : va_G} {cA : Nat → ClassId} {ad adK adV : Nat → Nat} {M : zM} {Q : Option zU → zM → Prop} {d : Nat} (hinj : ∀ i j, i < z_kt.length → j < z_kt.length → ad i = ad j → i = j) (hC : z_HC l D cA ad adK adV (z_rm (d + 6)) (z_C (d + 6))) (hm : z_mok M) (hl : l.stackTraces = false) (hC5 : z_HC l D cA ad adK adV (z_rm (d + 5)) (z_C (d + 5))) {h x : Int} (hh : z_ri h) (hx : z_ri x) (hno : ¬ ((0 ≤ h ∧ h < M 23 5) ∧ 0 ≤ x ∧ x ≤ 5)) (hQ : Q (some (z_i 1)) M) : ∀ sz : Nat, Met l ⟨"WaterByLettersLaw", "house", "(LWaterByLetters;II[J)I"⟩ (Cond.codeWith ⟨"WaterByLettersLaw", "house", "(LWaterByLetters;II[J)I"⟩ method_3_code 5 (some .int) [(0, 10, 13, 13)] :: z_tb) (zt_rm (d + 7)) (va_Pc ([z_r (10, 0) 0, z_i h, z_i x, z_r (101, 1) 222].map (z_val ad adK)) (zt_B D cA ad adK adV M sz)) (z_Qg D cA ad adK Q (va_A (z_w ad cA M) sz)) 1 6 (va_A (z_w ad cA M) sz) := by
  have hg : z_gs [z_r (10, 0) 0, z_i h, z_i x, z_r (101, 1) 222] := fun u hu => by
    simp only [List.mem_cons, List.not_mem_nil, or_false] at hu
    rcases hu with rfl | rfl | rfl | rfl
    · exact Or.inr ⟨by decide, rfl⟩
    · exact hh
    · exact hx
    · exact Or.inr ⟨by decide, rfl⟩
  refine zw_of (by decide) hinj hm hg rfl (fun p e s m below meth c A cx cy ht hr hlocks htab => ?_)
  refine zs_aload_n cx dw_house_0 rfl ?_
  refine zs_iconst cx dw_house_1 rfl z_ri_0 ?_
  refine zs_aload_n cx dw_house_2 rfl ?_
  refine zs_iload_n cx dw_house_3 rfl ?_
  refine zs_iload_n cx dw_house_4 rfl ?_
  intro hl0 hg0 hs hm0 H locs ls hP hS hv
  obtain ⟨hex, hb, hml, hown, hts, hK, -, hinA, hstr, hroom⟩ := id cx
  refine zw_thr (y := ⟨"WaterByLetters", "house", "(II)I"⟩) (bytes := prog_1_method_9_code) (maxL := 3) (ret := (some .int)) (na := 2) (As := [.int (Int32.ofInt h), .int (Int32.ofInt x)]) (rest := [.int (Int32.ofInt 0), .ref (ad 222)]) (x := ⟨0, 10, 13, 13⟩) cx cy ht (zt_house (d := d) hl hinj hC5 hm hh hx hno) (by decide) rfl dw_house_5 rfl (Nat.le_of_ble_eq_true rfl) ww_house_l ww_house_m ww_house_s ww_house_c (by decide +kernel) hP hS hv.1 htab (by decide) rfl (fun H1 locs1 q hP1 hS1 => ?_)
  · show W p l e _ s m _ below meth c H1 locs1 1 6 _ (F0 m 13 ls [.ref q])
    refine lv_astore (lv' := [(4, .ref q), (0, .ref (ad 0)), (1, .int (Int32.ofInt h)), (2, .int (Int32.ofInt x)), (3, .ref (ad 222))]) hex hb dw_house_13 hv (by decide) rfl (fun ls hl => ?_)
    refine lv_iconst (v := 1) hex hb dw_house_15 (by decide) ?_
    exact W.iret hex hb hr (fun t ht _ => ⟨⟨some (z_i 1), M, rfl, hQ, fun u hu => by cases hu; exact z_ri_1, hm, by rw [ht]; exact hP1⟩, hS1.F ht⟩) hS1.2.2 dw_house_16 hlocks
set_option maxRecDepth 20000 in
theorem zw_letter_a {l : Launch} {D : va_G} {cA : Nat → ClassId} {ad adK adV : Nat → Nat} {M : zM} {Q : Option zU → zM → Prop} {d : Nat} (hinj : ∀ i j, i < z_kt.length → j < z_kt.length → ad i = ad j → i = j) (hC : z_HC l D cA ad adK adV (z_rm (d + 6)) (z_C (d + 6))) (hm : z_mok M) {h x : Int} (hh : z_ri h) (hx : z_ri x) (h0 : zCi (d + 6) 146 [z_r (10, 0) 0, z_i h, z_i x] M (fun v M1 => Q (some (z_i 0)) (z_up M1 222 0 v))) : ∀ sz : Nat, Met l ⟨"WaterByLettersLaw", "letter", "(LWaterByLetters;II[J)I"⟩ (Cond.codeWith ⟨"WaterByLettersLaw", "letter", "(LWaterByLetters;II[J)I"⟩ method_4_code 5 (some .int) [(0, 10, 13, 13)] :: z_tb) (zt_rm (d + 7)) (va_Pc ([z_r (10, 0) 0, z_i h, z_i x, z_r (101, 1) 222].map (z_val ad adK)) (zt_B D cA ad adK adV M sz)) (z_Qg D cA ad adK Q (va_A (z_w ad cA M) sz)) 1 6 (va_A (z_w ad cA M) sz) := by
  have hg : z_gs [z_r (10, 0) 0, z_i h, z_i x, z_r (101, 1) 222] := fun u hu => by
    simp only [List.mem_cons, List.not_mem_nil, or_false] at hu
    rcases hu with rfl | rfl | rfl | rfl
    · exact Or.inr ⟨by decide, rfl⟩
    · exact hh
    · exact hx
    · exact Or.inr ⟨by decide, rfl⟩
  refine zw_of (by decide) hinj hm hg rfl (fun p e s m below meth c A cx cy ht hr hlocks htab => ?_)
  refine zs_aload_n cx dw_letter_0 rfl ?_
  refine zs_iconst cx dw_letter_1 rfl z_ri_0 ?_
  refine zs_aload_n cx dw_letter_2 rfl ?_
  refine zs_iload_n cx dw_letter_3 rfl ?_
  refine zs_iload_n cx dw_letter_4 rfl ?_
  refine zx_V (rt := some .int) (a := [z_i x, z_i h, z_r (10, 0) 0]) (zs := [z_i 0, z_r (101, 1) 222]) (y := 146) (na := 2) (w := [(5, 86), (5, 87), (5, 88), (1, 1), (5, 89)]) cx cy hC (by decide +kernel) dw_letter_5 rfl (by decide) ?_
  refine z_Ci h0 (fun v M' hv => ?_)
  refine zs_i2l cx dw_letter_8 ?_
  refine zs_lastore cx dw_letter_9 rfl (by decide) ?_
  refine zs_goto cx dw_letter_10 (t := 17) (by decide) ?_
  refine zs_iconst cx dw_letter_17 rfl z_ri_0 ?_
  exact zw_ret cx hr hlocks dw_letter_18 hv
set_option maxRecDepth 20000 in
theorem zw_letter_t {l : Launch} {D : va_G} {cA : Nat → ClassId} {ad adK adV : Nat → Nat} {M : zM} {Q : Option zU → zM → Prop} {d : Nat} (hinj : ∀ i j, i < z_kt.length → j < z_kt.length → ad i = ad j → i = j) (hC : z_HC l D cA ad adK adV (z_rm (d + 6)) (z_C (d + 6))) (hm : z_mok M) (hl : l.stackTraces = false) (hC5 : z_HC l D cA ad adK adV (z_rm (d + 5)) (z_C (d + 5))) {h x : Int} (hh : z_ri h) (hx : z_ri x) (hc : M 23 5 ≤ 8) (hno : ¬ ((0 ≤ h ∧ h < M 23 5) ∧ 0 ≤ x ∧ x < M 26 h)) (hQ : Q (some (z_i 1)) M) : ∀ sz : Nat, Met l ⟨"WaterByLettersLaw", "letter", "(LWaterByLetters;II[J)I"⟩ (Cond.codeWith ⟨"WaterByLettersLaw", "letter", "(LWaterByLetters;II[J)I"⟩ method_4_code 5 (some .int) [(0, 10, 13, 13)] :: z_tb) (zt_rm (d + 7)) (va_Pc ([z_r (10, 0) 0, z_i h, z_i x, z_r (101, 1) 222].map (z_val ad adK)) (zt_B D cA ad adK adV M sz)) (z_Qg D cA ad adK Q (va_A (z_w ad cA M) sz)) 1 6 (va_A (z_w ad cA M) sz) := by
  have hg : z_gs [z_r (10, 0) 0, z_i h, z_i x, z_r (101, 1) 222] := fun u hu => by
    simp only [List.mem_cons, List.not_mem_nil, or_false] at hu
    rcases hu with rfl | rfl | rfl | rfl
    · exact Or.inr ⟨by decide, rfl⟩
    · exact hh
    · exact hx
    · exact Or.inr ⟨by decide, rfl⟩
  refine zw_of (by decide) hinj hm hg rfl (fun p e s m below meth c A cx cy ht hr hlocks htab => ?_)
  refine zs_aload_n cx dw_letter_0 rfl ?_
  refine zs_iconst cx dw_letter_1 rfl z_ri_0 ?_
  refine zs_aload_n cx dw_letter_2 rfl ?_
  refine zs_iload_n cx dw_letter_3 rfl ?_
  refine zs_iload_n cx dw_letter_4 rfl ?_
  intro hl0 hg0 hs hm0 H locs ls hP hS hv
  obtain ⟨hex, hb, hml, hown, hts, hK, -, hinA, hstr, hroom⟩ := id cx
  refine zw_thr (y := ⟨"WaterByLetters", "letter", "(II)I"⟩) (bytes := prog_1_method_10_code) (maxL := 3) (ret := (some .int)) (na := 2) (As := [.int (Int32.ofInt h), .int (Int32.ofInt x)]) (rest := [.int (Int32.ofInt 0), .ref (ad 222)]) (x := ⟨0, 10, 13, 13⟩) cx cy ht (zt_letter (d := d) hl hinj hC5 hm hh hx hc hno) (by decide) rfl dw_letter_5 rfl (Nat.le_of_ble_eq_true rfl) ww_letter_l ww_letter_m ww_letter_s ww_letter_c (by decide +kernel) hP hS hv.1 htab (by decide) rfl (fun H1 locs1 q hP1 hS1 => ?_)
  · show W p l e _ s m _ below meth c H1 locs1 1 6 _ (F0 m 13 ls [.ref q])
    refine lv_astore (lv' := [(4, .ref q), (0, .ref (ad 0)), (1, .int (Int32.ofInt h)), (2, .int (Int32.ofInt x)), (3, .ref (ad 222))]) hex hb dw_letter_13 hv (by decide) rfl (fun ls hl => ?_)
    refine lv_iconst (v := 1) hex hb dw_letter_15 (by decide) ?_
    exact W.iret hex hb hr (fun t ht _ => ⟨⟨some (z_i 1), M, rfl, hQ, fun u hu => by cases hu; exact z_ri_1, hm, by rw [ht]; exact hP1⟩, hS1.F ht⟩) hS1.2.2 dw_letter_16 hlocks
set_option maxRecDepth 20000 in
theorem zw_row_a {l : Launch} {D : va_G} {cA : Nat → ClassId} {ad adK adV : Nat → Nat} {M : zM} {Q : Option zU → zM → Prop} {d : Nat} (hinj : ∀ i j, i < z_kt.length → j < z_kt.length → ad i = ad j → i = j) (hC : z_HC l D cA ad adK adV (z_rm (d + 6)) (z_C (d + 6))) (hm : z_mok M) {x : Int} (hx : z_ri x) (h0 : zCl (d + 6) 147 [z_r (10, 0) 0, z_i x] M (fun v M1 => Q (some (z_i 0)) (z_up M1 222 0 v))) : ∀ sz : Nat, Met l ⟨"WaterByLettersLaw", "row", "(LWaterByLetters;I[J)I"⟩ (Cond.codeWith ⟨"WaterByLettersLaw", "row", "(LWaterByLetters;I[J)I"⟩ method_5_code 4 (some .int) [(0, 8, 11, 13)] :: z_tb) (zt_rm (d + 7)) (va_Pc ([z_r (10, 0) 0, z_i x, z_r (101, 1) 222].map (z_val ad adK)) (zt_B D cA ad adK adV M sz)) (z_Qg D cA ad adK Q (va_A (z_w ad cA M) sz)) 1 6 (va_A (z_w ad cA M) sz) := by
  have hg : z_gs [z_r (10, 0) 0, z_i x, z_r (101, 1) 222] := fun u hu => by
    simp only [List.mem_cons, List.not_mem_nil, or_false] at hu
    rcases hu with rfl | rfl | rfl
    · exact Or.inr ⟨by decide, rfl⟩
    · exact hx
    · exact Or.inr ⟨by decide, rfl⟩
  refine zw_of (by decide) hinj hm hg rfl (fun p e s m below meth c A cx cy ht hr hlocks htab => ?_)
  refine zs_aload_n cx dw_row_0 rfl ?_
  refine zs_iconst cx dw_row_1 rfl z_ri_0 ?_
  refine zs_aload_n cx dw_row_2 rfl ?_
  refine zs_iload_n cx dw_row_3 rfl ?_
  refine zx_V (rt := some .int) (a := [z_i x, z_r (10, 0) 0]) (zs := [z_i 0, z_r (101, 1) 222]) (y := 147) (na := 1) (w := [(5, 93), (5, 94), (5, 95), (1, 1), (5, 96)]) cx cy hC (by decide +kernel) dw_row_4 rfl (by decide) ?_
  refine z_Cl h0 (fun v M' hv => ?_)
  refine zs_lastore cx dw_row_7 rfl (by decide) ?_
  refine zs_goto cx dw_row_8 (t := 14) (by decide) ?_
  refine zs_iconst cx dw_row_14 rfl z_ri_0 ?_
  exact zw_ret cx hr hlocks dw_row_15 hv
set_option maxRecDepth 20000 in
theorem zw_row_t {l : Launch} {D : va_G} {cA : Nat → ClassId} {ad adK adV : Nat → Nat} {M : zM} {Q : Option zU → zM → Prop} {d : Nat} (hinj : ∀ i j, i < z_kt.length → j < z_kt.length → ad i = ad j → i = j) (hC : z_HC l D cA ad adK adV (z_rm (d + 6)) (z_C (d + 6))) (hm : z_mok M) (hl : l.stackTraces = false) (hC5 : z_HC l D cA ad adK adV (z_rm (d + 5)) (z_C (d + 5))) {x : Int} (hx : z_ri x) (hno : ¬ (0 ≤ x ∧ x < M 3 1)) (hQ : Q (some (z_i 1)) M) : ∀ sz : Nat, Met l ⟨"WaterByLettersLaw", "row", "(LWaterByLetters;I[J)I"⟩ (Cond.codeWith ⟨"WaterByLettersLaw", "row", "(LWaterByLetters;I[J)I"⟩ method_5_code 4 (some .int) [(0, 8, 11, 13)] :: z_tb) (zt_rm (d + 7)) (va_Pc ([z_r (10, 0) 0, z_i x, z_r (101, 1) 222].map (z_val ad adK)) (zt_B D cA ad adK adV M sz)) (z_Qg D cA ad adK Q (va_A (z_w ad cA M) sz)) 1 6 (va_A (z_w ad cA M) sz) := by
  have hg : z_gs [z_r (10, 0) 0, z_i x, z_r (101, 1) 222] := fun u hu => by
    simp only [List.mem_cons, List.not_mem_nil, or_false] at hu
    rcases hu with rfl | rfl | rfl
    · exact Or.inr ⟨by decide, rfl⟩
    · exact hx
    · exact Or.inr ⟨by decide, rfl⟩
  refine zw_of (by decide) hinj hm hg rfl (fun p e s m below meth c A cx cy ht hr hlocks htab => ?_)
  refine zs_aload_n cx dw_row_0 rfl ?_
  refine zs_iconst cx dw_row_1 rfl z_ri_0 ?_
  refine zs_aload_n cx dw_row_2 rfl ?_
  refine zs_iload_n cx dw_row_3 rfl ?_
  intro hl0 hg0 hs hm0 H locs ls hP hS hv
  obtain ⟨hex, hb, hml, hown, hts, hK, -, hinA, hstr, hroom⟩ := id cx
  refine zw_thr (y := ⟨"WaterByLetters", "row", "(I)J"⟩) (bytes := prog_1_method_62_code) (maxL := 2) (ret := (some .long)) (na := 1) (As := [.int (Int32.ofInt x)]) (rest := [.int (Int32.ofInt 0), .ref (ad 222)]) (x := ⟨0, 8, 11, 13⟩) cx cy ht (zt_row (d := d) hl hinj hC5 hm hx hno) (by decide) rfl dw_row_4 rfl (Nat.le_of_ble_eq_true rfl) ww_row_l ww_row_m ww_row_s ww_row_c (by decide +kernel) hP hS hv.1 htab (by decide) rfl (fun H1 locs1 q hP1 hS1 => ?_)
  · show W p l e _ s m _ below meth c H1 locs1 1 6 _ (F0 m 11 ls [.ref q])
    refine lv_astore_n (lv' := [(3, .ref q), (0, .ref (ad 0)), (1, .int (Int32.ofInt x)), (2, .ref (ad 222))]) hex hb dw_row_11 rfl hv (by decide) rfl (fun ls hl => ?_)
    refine lv_iconst (v := 1) hex hb dw_row_12 (by decide) ?_
    exact W.iret hex hb hr (fun t ht _ => ⟨⟨some (z_i 1), M, rfl, hQ, fun u hu => by cases hu; exact z_ri_1, hm, by rw [ht]; exact hP1⟩, hS1.F ht⟩) hS1.2.2 dw_row_13 hlocks
