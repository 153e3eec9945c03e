/-! CALLS where cells have been made before; the two methods of String -/
section
variable {p : Program} {l : Launch} {e : Env} {R : Room} {s : State} {m : MethodId} {args : Array Value} {below : List Frame} {meth : Method} {c : Code} {cc : ByteArray} {nL : Nat} {own : String} {D : va_G} {cA : Nat → ClassId} {ad adK adV : Nat → Nat} {A : Nat → Prop} {Qj : State → Prop} {pc : Nat} {M : zM} {H : Heap} {locs : List Loc} {cells slots : Nat} {ls : Array Slot} {rest : List Value}
theorem zl_run {st0 : List Value} {a : Array Value} {A1 : Nat → Prop} {free : Addr → Prop} {Q : Option zU → zM → Prop} (hr : va_Run p l e R s m args below meth c H locs cells slots 0 0 (F0 m pc ls st0) rest (z_Qg D cA ad adK Q A1 a) free) (hS : va_S A s.heap H locs) (hA : ∀ q, q < H.size → A1 q → A q) (hf : ∀ q, free q → A q)
    (kk : ∀ (r : Option zU) (M' : zM) (H1 : Heap) (locs1 : List Loc), Q r M' → (∀ u, r = some u → z_good u) → z_mok M' → va_P D z_cl (z_w ad cA M') H1 → va_S A s.heap H1 locs1 → W p l e R s m args below meth c H1 locs1 cells slots Qj (F0 m (pc + 3) ls ((r.map (z_val ad adK)).toList ++ rest))) : W p l e R s m args below meth c H locs cells slots Qj (F0 m pc ls st0) := by
  intro T hT X
  obtain ⟨v, st₀, t, T', L, h0, X', hL, e1, e2, ⟨⟨r, M', hv, hq, hg, hm, hP⟩, hz, hk⟩, st⟩ := hr T hT X
  cases hv
  rw [h0] at hz hk
  obtain ⟨t2, a1, b1⟩ := kk r M' T'.heap (locs ++ L) hq hg hm (by rw [e1]; exact hP)
    ⟨Nat.le_trans hS.1 (by rw [e1]; exact hz), fun q h1 h2 => by rw [e1, hk q (Nat.lt_of_lt_of_le h1 hS.1) (fun z => h2 (hA q (Nat.lt_of_lt_of_le h1 hS.1) z))]; exact hS.2.1 q h1 h2, fun q hq => by
      rcases List.mem_append.mp hq with h | h
      · exact hS.2.2 q h
      · exact hf _ (hL q h)⟩ T' rfl X'
  exact ⟨t2, st t2 a1, b1⟩
/-- a call of a method of the abstract machine -/
theorem zl_V {rm : Room} {C : Nat → List zU → zM → (Option zU → zM → Prop) → Prop} {G : Option zU → zM → Prop} (cx : z_cx p R s m args c cc nL own D cA ad adK A) (cy : z_cy R s adK adV A rm) (hC : z_HC l D cA ad adK adV rm C) {y idx na : Nat} {w : List (Nat × Nat)} {rt : Option FieldType} {k : zD} {b : Nat} {as : List zU}
    (hce : z_ce own nL rt pc (.invokevirtual idx) 3 [y, na] 0 w = true) (hd : decode cc pc = .ok (.invokevirtual idx, 3)) (hna : as.length = na) (hcat : (rest.map fun v => v.category).sum ≤ 8) (hcl : cells ≤ R.cells ∧ slots ≤ R.slots) (h : C y (z_r k b :: as) M G) (hg : z_gs (z_r k b :: as)) (hm : z_mok M) (hP : va_P D z_cl (z_w ad cA M) H) (hS : va_S A s.heap H locs) (hls : ls.size = nL)
    (kk : ∀ (r : Option zU) (M' : zM) (H1 : Heap) (locs1 : List Loc), G r M' → (∀ u, r = some u → z_good u) → z_mok M' → va_P D z_cl (z_w ad cA M') H1 → va_S A s.heap H1 locs1 → W p l e R s m args below meth c H1 locs1 cells slots Qj (F0 m (pc + 3) ls ((r.map (z_val ad adK)).toList ++ rest))) : W p l e R s m args below meth c H locs cells slots Qj (F0 m pc ls ((as.map (z_val ad adK)).reverse ++ z_val ad adK (z_r k b) :: rest)) := by
  obtain ⟨hx, hb, hml, hown, hts, hK, hinj, hinA, hstr, hroom⟩ := cx
  obtain ⟨hVS, hA, r1, r2, r3, r4, hnest⟩ := cy
  simp only [z_ce, Bool.and_eq_true, decide_eq_true_eq] at hce
  obtain ⟨-, h9, h1⟩ := hce
  obtain ⟨Y, hmt, hml9, hds, hf⟩ := z_cm_ok h1
  simp only [Bool.and_eq_true] at hf
  obtain ⟨f0, f1, f2, f5, f3, f4⟩ := hf
  simp only [z_rc, Bool.or_eq_true, Bool.and_eq_true, decide_eq_true_eq] at f0
  obtain ⟨n1, n2, -⟩ := z_mt_cls hmt
  have hin := z_A_in (cA := cA) (M := M) hinA hA hS
  obtain ⟨hrk, hMet⟩ := hC y Y _ M _ hmt h hg hm
  unfold z_rck at hrk
  rw [z_beqf h9] at hrk
  have hkr : k.1 = z_rv.getD y 99 := Nat.eq_of_beq_eq_true hrk
  have hrecv := z_recv hK hP hVS hS (hg _ List.mem_cons_self) hkr f0
  refine zl_run (rest := rest) (va_runV (As := as.map (z_val ad adK)) (b := cond (Nat.beq k.1 104) (adK b) (ad b)) (n := na) (own := own) (C := Y.1.cls) (Ts := z_tb) ⟨hx, hb, hml, hown, hts⟩ (hMet H.size) ⟨callB_of (bytes := Y.2.1) (maxL := Y.2.2.1) (ret := Y.2.2.2.1) na hts (z_goodIn (z_has_tb f4 rfl)) rfl r1 r2 (hts _ (z_has_tb f3 rfl)) (hts _ (z_has_tb f1 rfl)) ⟨n1, n2, hds⟩ ⟨r3, by omega⟩, hts _ (z_has_tb f2 rfl), hts _ (z_has_tb f5 rfl)⟩ ⟨z_B_blind, hrecv, fun U hU hW => ⟨rfl, z_B_at hK hstr hVS hnest hS hP hin U hU hW⟩⟩ rfl ?_ hls rfl (lv_room hcat) hd ⟨hcl.1, hcl.2⟩) hS (fun q _ hq => hin q hq) hin kk
  rw [List.length_map]; exact hna
/-- a method of the JDK by its own contract -/
theorem zl_J {rm : Room} {Q : Option zU → zM → Prop} {y : MethodName} {bytes : ByteArray} {maxL na idx : Nat} {ret : Option FieldType} {As : List Value} (cx : z_cx p R s m args c cc nL own D cA ad adK A) (cy : z_cy R s adK adV A rm)
    (hMet : ∀ sz : Nat, Met l y (Cond.code y bytes maxL ret :: z_tb) rm (va_Pc As (z_B D cA ad adK adV M sz)) (z_Qg D cA ad adK Q (va_A (z_w ad cA M) sz)) 0 0 (va_A (z_w ad cA M) sz)) (hml9 : maxL ≤ 41)
    (hd : decode cc pc = .ok (.invokestatic idx, 3)) (hna : As.length = na) (hcat : (rest.map fun v => v.category).sum ≤ 8) (hcl : cells ≤ R.cells ∧ slots ≤ R.slots) (hw1 : Cond.methodLink own idx y ∈ z_tb) (hw2 : Cond.static y ∈ z_tb) (hw3 : Cond.initialized y.cls ∈ z_tb) (hw4 : Cond.code y bytes maxL ret ∈ z_tb) (hdesc : y.cls ≠ "java/lang/invoke/MethodHandle" ∧ y.cls ≠ "java/lang/invoke/VarHandle" ∧ (parseMethodDescriptor y.desc).map (fun d => d.parameters.length) = some na)
    (hP : va_P D z_cl (z_w ad cA M) H) (hS : va_S A s.heap H locs) (hls : ls.size = nL)
    (kk : ∀ (r : Option zU) (M' : zM) (H1 : Heap) (locs1 : List Loc), Q r M' → (∀ u, r = some u → z_good u) → z_mok M' → va_P D z_cl (z_w ad cA M') H1 → va_S A s.heap H1 locs1 → W p l e R s m args below meth c H1 locs1 cells slots Qj (F0 m (pc + 3) ls ((r.map (z_val ad adK)).toList ++ rest))) : W p l e R s m args below meth c H locs cells slots Qj (F0 m pc ls (As.reverse ++ rest)) := by
  obtain ⟨hx, hb, hml, hown, hts, hK, hinj, hinA, hstr, hroom⟩ := cx
  obtain ⟨hVS, hA, r1, r2, r3, r4, hnest⟩ := cy
  have hin := z_A_in (cA := cA) (M := M) hinA hA hS
  exact zl_run (rest := rest) (va_runS (As := As) (n := na) (own := own) (Ts := z_tb) ⟨hx, hb, hml, hown, hts⟩ (hMet H.size) ⟨callB_of (bytes := bytes) (maxL := maxL) (ret := ret) na hts (z_goodIn hw4) rfl r1 r2 (hts _ hw3) (hts _ hw1) hdesc ⟨r3, by omega⟩, hts _ hw2⟩ ⟨z_B_blind, fun U hU hW => ⟨rfl, z_B_at hK hstr hVS hnest hS hP hin U hU hW⟩⟩ rfl hna hls rfl (lv_room hcat) hd ⟨hcl.1, hcl.2⟩) hS (fun q _ hq => hin q hq) hin kk
/-- the same, on a literal -/
theorem zl_JV {rm : Room} {Q : Option zU → zM → Prop} {y : MethodName} {bytes : ByteArray} {maxL na idx j : Nat} {ret : Option FieldType} {As : List Value} (cx : z_cx p R s m args c cc nL own D cA ad adK A) (cy : z_cy R s adK adV A rm) (hj : j < 7) (hyc : y.cls = "java/lang/String")
    (hMet : ∀ sz : Nat, Met l y (Cond.code y bytes maxL ret :: z_tb) rm (va_Pc (.ref (adK j) :: As) (z_B D cA ad adK adV M sz)) (z_Qg D cA ad adK Q (va_A (z_w ad cA M) sz)) 0 0 (va_A (z_w ad cA M) sz)) (hml9 : maxL ≤ 41)
    (hd : decode cc pc = .ok (.invokevirtual idx, 3)) (hna : As.length = na) (hcat : (rest.map fun v => v.category).sum ≤ 8) (hcl : cells ≤ R.cells ∧ slots ≤ R.slots) (hw1 : Cond.methodLink own idx y ∈ z_tb) (hw2 : Cond.instanceMethod y ∈ z_tb) (hw5 : Cond.selects y.cls y y ∈ z_tb) (hw3 : Cond.initialized y.cls ∈ z_tb) (hw4 : Cond.code y bytes maxL ret ∈ z_tb) (hdesc : y.cls ≠ "java/lang/invoke/MethodHandle" ∧ y.cls ≠ "java/lang/invoke/VarHandle" ∧ (parseMethodDescriptor y.desc).map (fun d => d.parameters.length) = some na)
    (hP : va_P D z_cl (z_w ad cA M) H) (hS : va_S A s.heap H locs) (hls : ls.size = nL)
    (kk : ∀ (r : Option zU) (M' : zM) (H1 : Heap) (locs1 : List Loc), Q r M' → (∀ u, r = some u → z_good u) → z_mok M' → va_P D z_cl (z_w ad cA M') H1 → va_S A s.heap H1 locs1 → W p l e R s m args below meth c H1 locs1 cells slots Qj (F0 m (pc + 3) ls ((r.map (z_val ad adK)).toList ++ rest))) : W p l e R s m args below meth c H locs cells slots Qj (F0 m pc ls (As.reverse ++ .ref (adK j) :: rest)) := by
  obtain ⟨hx, hb, hml, hown, hts, hK, hinj, hinA, hstr, hroom⟩ := cx
  obtain ⟨hVS, hA, r1, r2, r3, r4, hnest⟩ := cy
  have hin := z_A_in (cA := cA) (M := M) hinA hA hS
  have hrecv := vk_recv (adK := adK) (adV := adV) hVS hj hS
  rw [← hyc] at hrecv
  exact zl_run (rest := rest) (va_runV (As := As) (b := adK j) (n := na) (own := own) (C := y.cls) (Ts := z_tb) ⟨hx, hb, hml, hown, hts⟩ (hMet H.size) ⟨callB_of (bytes := bytes) (maxL := maxL) (ret := ret) na hts (z_goodIn hw4) rfl r1 r2 (hts _ hw3) (hts _ hw1) hdesc ⟨r3, by omega⟩, hts _ hw2, hts _ hw5⟩ ⟨z_B_blind, hrecv, fun U hU hW => ⟨rfl, z_B_at hK hstr hVS hnest hS hP hin U hU hW⟩⟩ rfl hna hls rfl (lv_room hcat) hd ⟨hcl.1, hcl.2⟩) hS (fun q _ hq => hin q hq) hin kk
end
/-- a contract out of a walk of the body -/
theorem zj_of {l : Launch} {D : va_G} {cA : Nat → ClassId} {ad adK adV : Nat → Nat} {M : zM} {Q : Option zU → zM → Prop} {y : MethodName} {bytes : ByteArray} {maxL d : Nat} {ret : Option FieldType} {As : List Value} (hy : plainName y.cls = true) (hinj : ∀ i j, i < z_kt.length → j < z_kt.length → ad i = ad j → i = j) (hAs : (lg_sl As).length ≤ maxL)
    (body : ∀ (p : Program) (e : Env) (s : State) (m : MethodId) (below : List Frame) (meth : Method) (c : Code) (A : Nat → Prop) (ls : Array Slot), z_cx p (z_rm (d + 1)) s m As.toArray c bytes maxL y.cls D cA ad adK A → z_cy (z_rm (d + 1)) s adK adV A (z_rm d) → meth.sig.returnType = ret → meth.locks = false → va_P D z_cl (z_w ad cA M) s.heap → va_S A s.heap s.heap [] → lv_has ls maxL (lv_args 0 As) → W p l e (z_rm (d + 1)) s m As.toArray below meth c s.heap [] 0 0 (MQ below (z_Qg D cA ad adK Q A) As.toArray s 0 0 A) (F0 m 0 ls [])) :
    ∀ sz : Nat, Met l y (Cond.code y bytes maxL ret :: z_tb) (z_rm (d + 1)) (va_Pc As (z_B D cA ad adK adV M sz)) (z_Qg D cA ad adK Q (va_A (z_w ad cA M) sz)) 0 0 (va_A (z_w ad cA M) sz) := by
  intro sz
  refine Met.ofW (cc := bytes) (maxL := maxL) (ret := ret) hy rfl ?_
  intro p e s m args below meth c s₁ B hml hv
  obtain ⟨rfl, hsz, hP, hK, hVS, hR, hN⟩ := hv
  have hts0 := atoms_spec (ws := Cond.code y bytes maxL ret :: z_tb) B.pre
  have hts : ∀ w ∈ z_tb, w.before As.toArray s = true := fun w hw => hts0 w (List.mem_cons_of_mem _ hw)
  have hown : s.vm.findClass y.cls = some m.cls := findClass_of_methodNamed B.named
  subst hsz
  have hinA : ∀ i, i < z_kt.length → va_A (z_w ad cA M) s.heap.size (ad i) := by
    intro i hi
    have hk : z_kt[i]? = some z_kt[i] := List.getElem?_eq_getElem hi
    exact va_A.in (z_w_at (ad := ad) (cA := cA) (M := M) hk)
  have cx : z_cx p (z_rm (d + 1)) s m As.toArray c bytes maxL y.cls D cA ad adK (va_A (z_w ad cA M) s.heap.size) :=
    ⟨B.exec, B.bytes, hml, hown, hts, hK, hinj, hinA, hR, by show 1 ≤ d + 1; omega, by show 60 ≤ 60 * (d + 1); omega⟩
  have cy : z_cy (z_rm (d + 1)) s adK adV (va_A (z_w ad cA M) s.heap.size) (z_rm d) :=
    ⟨hVS, fun q hq => Or.inr hq, rfl, rfl, Nat.le_refl _, by show 60 * d + 60 ≤ 60 * (d + 1); omega, hN⟩
  have hl := lv_entry As (n := maxL) hAs
  rw [lg_entry_eq]
  exact body p e s m below meth c _ _ cx cy B.returns B.notSynchronized hP va_S.rf hl
