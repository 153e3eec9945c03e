/-! THE LAW'S LOOP: written by gen_loop.py -/
theorem wl_house_l : (Cond.methodLink "WaterByLettersLaw" (49 : Nat) ({ cls := "WaterByLettersLaw", name := "house", desc := "(LWaterByLetters;II[J)I" } : Jvm.MethodName)) ∈ z_tb := z_has_tb (w := some (5, 14)) (by decide +kernel) rfl
theorem wl_house_t : (Cond.static ({ cls := "WaterByLettersLaw", name := "house", desc := "(LWaterByLetters;II[J)I" } : Jvm.MethodName)) ∈ z_tb := z_has_tb (w := some (5, 15)) (by decide +kernel) rfl
theorem wl_letter_l : (Cond.methodLink "WaterByLettersLaw" (58 : Nat) ({ cls := "WaterByLettersLaw", name := "letter", desc := "(LWaterByLetters;II[J)I" } : Jvm.MethodName)) ∈ z_tb := z_has_tb (w := some (5, 83)) (by decide +kernel) rfl
theorem wl_letter_t : (Cond.static ({ cls := "WaterByLettersLaw", name := "letter", desc := "(LWaterByLetters;II[J)I" } : Jvm.MethodName)) ∈ z_tb := z_has_tb (w := some (5, 84)) (by decide +kernel) rfl
theorem wl_row_l : (Cond.methodLink "WaterByLettersLaw" (194 : Nat) ({ cls := "WaterByLettersLaw", name := "row", desc := "(LWaterByLetters;I[J)I" } : Jvm.MethodName)) ∈ z_tb := z_has_tb (w := some (5, 90)) (by decide +kernel) rfl
theorem wl_row_t : (Cond.static ({ cls := "WaterByLettersLaw", name := "row", desc := "(LWaterByLetters;I[J)I" } : Jvm.MethodName)) ∈ z_tb := z_has_tb (w := some (5, 91)) (by decide +kernel) rfl
theorem wl_ini : (Cond.initialized "WaterByLettersLaw") ∈ z_tb := z_has_tb (w := some (1, 0)) (by decide +kernel) rfl
theorem z_ri_t (x : Int32) : z_ri x.toInt := by
  have h1 := Int32.toInt_lt x
  have h2 := Int32.le_toInt x
  unfold z_ri; omega
section
variable {p : Program} {l : Launch} {e : Env} {R : Room} {s : State} {m : MethodId} {args : Array Value} {below : List Frame} {meth : Method} {c : Code} {cc : ByteArray} {nL : Nat} {own : String} {D : va_G} {cA : Nat → ClassId} {ad adK adV : Nat → Nat} {A : Nat → Prop} {Qj : State → Prop} {pc : Nat} {M : zM} {H : Heap} {locs : List Loc} {cells slots : Nat} {ls : Array Slot} {rest : List Value}
theorem zl_runN {mc ms : Nat} {st0 : List Value} {a : Array Value} {A1 : Nat → Prop} {free : Addr → Prop} {Q : Option zU → zM → Prop} (hr : va_Run p l e R s m args below meth c H locs cells slots mc ms (F0 m pc ls st0) rest (z_Qg D cA ad adK Q A1 a) free) (hS : va_S A s.heap H locs) (hA : ∀ q, q < H.size → A1 q → A q) (hf : ∀ q, free q → A q)
    (kk : ∀ (r : Option zU) (M' : zM) (H1 : Heap) (locs1 : List Loc), Q r M' → (∀ u, r = some u → z_good u) → z_mok M' → va_P D z_cl (z_w ad cA M') H1 → va_S A s.heap H1 locs1 → W p l e R s m args below meth c H1 locs1 (cells + mc) (slots + ms) Qj (F0 m (pc + 3) ls ((r.map (z_val ad adK)).toList ++ rest))) : W p l e R s m args below meth c H locs cells slots Qj (F0 m pc ls st0) := by
  intro T hT X
  obtain ⟨v, st₀, t, T', L, h0, X', hL, e1, e2, ⟨⟨r, M', hv, hq, hg, hm, hP⟩, hz, hk⟩, st⟩ := hr T hT X
  cases hv
  rw [h0] at hz hk
  obtain ⟨t2, a1, b1⟩ := kk r M' T'.heap (locs ++ L) hq hg hm (by rw [e1]; exact hP)
    ⟨Nat.le_trans hS.1 (by rw [e1]; exact hz), fun q h1 h2 => by rw [e1, hk q (Nat.lt_of_lt_of_le h1 hS.1) (fun z => h2 (hA q (Nat.lt_of_lt_of_le h1 hS.1) z))]; exact hS.2.1 q h1 h2, fun q hq => by
      rcases List.mem_append.mp hq with h | h
      · exact hS.2.2 q h
      · exact hf _ (hL q h)⟩ T' rfl X'
  exact ⟨t2, st t2 a1, b1⟩
theorem z_goodInW {y : MethodName} {bytes : ByteArray} {ml : Nat} {ret : Option FieldType} {hh : List (Nat × Nat × Nat × Nat)} (h : Cond.codeWith y bytes ml ret hh ∈ z_tb) : GoodIn z_tb (Cond.codeWith y bytes ml ret hh :: z_tb) := by
  intro w hw
  rcases List.mem_cons.mp hw with h1 | h1
  · subst h1; exact ⟨h, z_good_tb h⟩
  · exact ⟨h1, z_good_tb h1⟩
/-- a call of one of the law's wrappers -/
theorem zl_W {rm : Room} {d : Nat} {Q : Option zU → zM → Prop} {y : MethodName} {bytes : ByteArray} {maxL na idx : Nat} {ret : Option FieldType} {hh : List (Nat × Nat × Nat × Nat)} {As : List Value} (cx : z_cx p R s m args c cc nL own D cA ad adK A) (cy : z_cy R s adK adV A rm) (ht : z_thr A s s.heap)
    (hMet : ∀ sz : Nat, Met l y (Cond.codeWith y bytes maxL ret hh :: z_tb) (zt_rm d) (va_Pc As (zt_B D cA ad adK adV M sz)) (z_Qg D cA ad adK Q (va_A (z_w ad cA M) sz)) 1 6 (va_A (z_w ad cA M) sz)) (hR : d + 1 ≤ R.frames ∧ 8 + (maxL + 11) + 60 * d ≤ R.locals)
    (hd : decode cc pc = .ok (.invokestatic idx, 3)) (hna : As.length = na) (hcat : (rest.map fun v => v.category).sum ≤ 8) (hcl : cells + 1 ≤ R.cells ∧ slots + 6 ≤ R.slots) (hw1 : Cond.methodLink own idx y ∈ z_tb) (hw2 : Cond.static y ∈ z_tb) (hw3 : Cond.initialized y.cls ∈ z_tb) (hw4 : Cond.codeWith y bytes maxL ret hh ∈ z_tb) (hdesc : y.cls ≠ "java/lang/invoke/MethodHandle" ∧ y.cls ≠ "java/lang/invoke/VarHandle" ∧ (parseMethodDescriptor y.desc).map (fun d => d.parameters.length) = some na)
    (hP : va_P D z_cl (z_w ad cA M) H) (hS : va_S A s.heap H locs) (hls : ls.size = nL)
    (kk : ∀ (r : Option zU) (M' : zM) (H1 : Heap) (locs1 : List Loc), Q r M' → (∀ u, r = some u → z_good u) → z_mok M' → va_P D z_cl (z_w ad cA M') H1 → va_S A s.heap H1 locs1 → W p l e R s m args below meth c H1 locs1 (cells + 1) (slots + 6) Qj (F0 m (pc + 3) ls ((r.map (z_val ad adK)).toList ++ rest))) : W p l e R s m args below meth c H locs cells slots Qj (F0 m pc ls (As.reverse ++ rest)) := by
  obtain ⟨hx, hb, hml, hown, hts, hK, hinj, hinA, hstr, hroom⟩ := cx
  obtain ⟨hVS, hA, r1, r2, r3, r4, hnest⟩ := cy
  have hin := z_A_in (cA := cA) (M := M) hinA hA hS
  refine zl_runN (rest := rest) (vx_runSW (hh := hh) (bytes := bytes) (maxL := maxL) (ret := ret) (As := As) (n := na) (own := own) (Ts := z_tb) ⟨hx, hb, hml, hown, hts⟩ (hMet H.size) ⟨⟨rfl, rfl, hR.1, hR.2, pay_in hts (z_goodInW hw4), List.mem_cons_self⟩, hts _ hw4, hts _ hw3, ⟨hdesc.1, hdesc.2.1⟩, fun sig h => ?_, hts _ hw1, hts _ hw2⟩ ⟨zt_B_blind, fun U hU hW => ⟨rfl, z_B_at hK hstr hVS hnest hS hP hin U hU hW, by rw [hU]; exact ((ht.kept hS.2.1).narrow hin).warm hW⟩⟩ rfl hna hls rfl (lv_room hcat) hd ⟨hcl.1, hcl.2⟩) hS (fun q _ hq => hin q hq) hin kk
  have h2 := hdesc.2.2
  rw [h] at h2
  exact (Option.some.inj h2).symm
end
/-- what holds all through the law -/
def zlaw (p : Program) (l : Launch) (s : State) (m : MethodId) (meth : Method) (c : Code) (b L : Nat) (xs : Nat → Int32) (D : va_G) (cA : Nat → ClassId) (ad adK adV : Nat → Nat) : Prop :=
  L ≤ 2560 ∧ lw_At p s m meth c b L xs ∧ z_cx p room_1 s m #[Value.ref b] c code 8 R_law D cA ad adK (fun q => s.heap.size ≤ q) ∧ z_cy room_1 s adK adV (fun q => s.heap.size ≤ q) (z_rm 830) ∧ z_thr (fun q => s.heap.size ≤ q) s s.heap ∧ l.stackTraces = false
def zlaw_lv (b : Nat) (ad : Nat → Nat) (i : Nat) : List (Nat × Value) := [(0, .ref b), (1, .ref (ad 0)), (2, .ref (ad 179)), (3, .ref (ad 222)), (4, .int (nI i))]
section
variable {p : Program} {l : Launch} {e : Env} {s : State} {m : MethodId} {below : List Frame} {meth : Method} {c : Code} {b L : Nat} {xs : Nat → Int32} {D : va_G} {cA : Nat → ClassId} {ad adK adV : Nat → Nat} {M : zM} {H : Heap} {locs : List Loc} {cells slots i P : Nat} {ls : Array Slot} {rest : List Value} {n : Int}
theorem zlaw.hC (Z : zlaw p l s m meth c b L xs D cA ad adK adV) (d : Nat) : z_HC l D cA ad adK adV (z_rm d) (z_C d) := by
  obtain ⟨hL, C0, cx, -⟩ := Z
  obtain ⟨-, -, -, -, -, -, hinj, -⟩ := cx
  exact z_met l D cA ad adK adV hinj (z_str_ok l D cA ad adK adV hinj) d
/-- the script's int at i + k -/
theorem zl_S {k : Nat} {k' : Int} {Q : State → Prop} (Z : zlaw p l s m meth c b L xs D cA ad adK adV) (hS : va_S (fun q => s.heap.size ≤ q) s.heap H locs) (h0 : ls[0]? = some (.val (.ref b))) (h4 : ls[4]? = some (.val (.int (nI i)))) (hi : i + k < L) (hk : Int32.ofInt k' = nI k)
    (hd : decode code P = .ok (.aload_n 0, 1) ∧ decode code (P + 1) = .ok (.iload 4, 2) ∧ decode code (P + 3) = .ok (.iconst k', 1) ∧ decode code (P + 4) = .ok (.iadd, 1) ∧ decode code (P + 5) = .ok (.iaload, 1))
    (kk : W p l e room_1 s m #[Value.ref b] below meth c H locs cells slots Q (F0 m (P + 6) ls (z_val ad adK (z_i (xs (i + k)).toInt) :: rest))) : W p l e room_1 s m #[Value.ref b] below meth c H locs cells slots Q (F0 m P ls rest) := by
  obtain ⟨hL, ⟨hx, hb, hr, hml, hown, hts, hX, hbl, hlocks, hgv⟩, -⟩ := Z
  obtain ⟨d0, d1, d2, d3, d4⟩ := hd
  refine lv_aload_n hx hb d0 rfl h0 ?_
  refine lv_iload hx hb d1 h4 ?_
  refine lv_iconst (v := nI k) hx hb d2 hk ?_
  refine lv_iadd hx hb d3 ?_
  have e1 : nI i + nI k = nI (i + k) := (Int32.ofNat_add i k).symm
  rw [e1]
  refine va_sld hx hb hX hbl (Nat.not_le.mpr hbl) hS (vp_in_nI hi (by omega)) d4 ?_
  rw [nI_clamp (by omega)]
  have e2 : z_val ad adK (z_i (xs (i + k)).toInt) = .int (xs (i + k)) := by
    show Value.int (Int32.ofInt (xs (i + k)).toInt) = _
    rw [Int32.ofInt_toInt]
  rw [e2] at kk
  exact kk
def zlaw_K (p : Program) (l : Launch) (e : Env) (s : State) (m : MethodId) (below : List Frame) (meth : Method) (c : Code) (b : Nat) (D : va_G) (cA : Nat → ClassId) (ad : Nat → Nat) (n : Int) (i cells slots : Nat) : Prop :=
  ∀ (M' : zM) (H1 : Heap) (locs1 : List Loc) (ls1 : Array Slot), zI (n + 1) M' → z_mok M' → va_P D z_cl (z_w ad cA M') H1 → va_S (fun q => s.heap.size ≤ q) s.heap H1 locs1 → lv_has ls1 8 (zlaw_lv b ad i) → W p l e room_1 s m #[Value.ref b] below meth c H1 locs1 (cells + 1) (slots + 6) (lw_Z below #[Value.ref b] s) (F0 m 1237 ls1 [])
theorem zl_gW : z_good (z_r (10, 0) 0) := Or.inr ⟨by decide, rfl⟩
theorem zl_gM : z_good (z_r (11, 0) 179) := Or.inr ⟨by decide, rfl⟩
theorem zl_c0 {yW yM iW iM : Nat} {off : Int} {wW wM : List (Nat × Nat)} (Z : zlaw p l s m meth c b L xs D cA ad adK adV) (hi : i + 4 < L) (hm : z_mok M) (hP : va_P D z_cl (z_w ad cA M) H) (hS : va_S (fun q => s.heap.size ≤ q) s.heap H locs) (hl : lv_has ls 8 (zlaw_lv b ad i)) (hcl : cells + 1 ≤ 601024 ∧ slots + 6 ≤ 7293034) (K : zlaw_K p l e s m below meth c b D cA ad n i cells slots)
    (hq : zQ 830 yW yM [z_r (10, 0) 0] [z_r (11, 0) 179] n M) (ht : ((P + 8 : Nat) : Int) + off = 1237) (hcW : z_ce R_law 8 none (P + 1) (.invokevirtual iW) 3 [yW, 0] 0 wW = true) (hcM : z_ce R_law 8 none (P + 5) (.invokevirtual iM) 3 [yM, 0] 0 wM = true)
    (d1 : decode code P = .ok (.aload_n 1, 1)) (d2 : decode code (P + 1) = .ok (.invokevirtual iW, 3)) (d3 : decode code (P + 4) = .ok (.aload_n 2, 1)) (d4 : decode code (P + 5) = .ok (.invokevirtual iM, 3)) (d5 : decode code (P + 8) = .ok (.if_icmp .eq off, 3)) :
    W p l e room_1 s m #[Value.ref b] below meth c H locs cells slots (lw_Z below #[Value.ref b] s) (F0 m P ls []) := by
  obtain ⟨hL, ⟨hx, hb, -⟩, cx, cy, hth, hst⟩ := id Z
  have hC := Z.hC 830
  have gW : z_gs (z_r (10, 0) 0 :: []) := z_gs_c.mpr ⟨zl_gW, fun u hu => by cases hu⟩
  have gM : z_gs (z_r (11, 0) 179 :: []) := z_gs_c.mpr ⟨zl_gM, fun u hu => by cases hu⟩
  have hq : z_C 830 yW [z_r (10, 0) 0] M (fun r M' => ∃ v, r = some (z_i v) ∧ zCi 830 yM [z_r (11, 0) 179] M' (fun v' M2 => v = v' ∧ zI (n + 1) M2)) := hq
  refine W.widen (k := cells + 1) (n := slots + 6) (by omega) (by omega) ?_
  refine lv_aload_n hx hb d1 rfl (lv_at hl 1 rfl) ?_
  refine zl_V (as := []) (rest := []) (k := (10, 0)) (b := 0) cx cy hC hcW d2 rfl (by decide) ⟨hcl.1, hcl.2⟩ hq gW hm hP hS hl.1 (fun r M1 H1 locs1 hq1 hg1 hm1 hP1 hS1 => ?_)
  obtain ⟨v, rfl, hq2⟩ := hq1
  have hq2 : z_C 830 yM [z_r (11, 0) 179] M1 (fun r M' => ∃ v', r = some (z_i v') ∧ v = v' ∧ zI (n + 1) M') := hq2
  refine lv_aload_n hx hb d3 rfl (lv_at hl 2 rfl) ?_
  refine zl_V (as := []) (rest := [.int (Int32.ofInt v)]) (k := (11, 0)) (b := 179) cx cy hC hcM d4 rfl (by show 1 ≤ 8; decide) ⟨hcl.1, hcl.2⟩ hq2 gM hm1 hP1 hS1 hl.1 (fun r M2 H2 locs2 hq3 hg2 hm2 hP2 hS2 => ?_)
  obtain ⟨v', rfl, rfl, hI⟩ := hq3
  exact lv_icmp_eq (tgt := 1237) hx hb d5 ht (fun _ => K M2 H2 locs2 ls hI hm2 hP2 hS2 hl) (fun h => absurd rfl h)
theorem zl_c1 {yW yM iW iM : Nat} {off : Int} {wW wM : List (Nat × Nat)} (Z : zlaw p l s m meth c b L xs D cA ad adK adV) (hi : i + 4 < L) (hm : z_mok M) (hP : va_P D z_cl (z_w ad cA M) H) (hS : va_S (fun q => s.heap.size ≤ q) s.heap H locs) (hl : lv_has ls 8 (zlaw_lv b ad i)) (hcl : cells + 1 ≤ 601024 ∧ slots + 6 ≤ 7293034) (K : zlaw_K p l e s m below meth c b D cA ad n i cells slots)
    (hq : zQ 830 yW yM [z_r (10, 0) 0, z_i (xs (i + 1)).toInt] [z_r (11, 0) 179, z_i (xs (i + 1)).toInt] n M) (ht : ((P + 20 : Nat) : Int) + off = 1237) (hcW : z_ce R_law 8 none (P + 7) (.invokevirtual iW) 3 [yW, 1] 0 wW = true) (hcM : z_ce R_law 8 none (P + 17) (.invokevirtual iM) 3 [yM, 1] 0 wM = true)
    (d1 : decode code P = .ok (.aload_n 1, 1)) (s1 : decode code (P + 1) = .ok (.aload_n 0, 1) ∧ decode code (P + 1 + 1) = .ok (.iload 4, 2) ∧ decode code (P + 1 + 3) = .ok (.iconst 1, 1) ∧ decode code (P + 1 + 4) = .ok (.iadd, 1) ∧ decode code (P + 1 + 5) = .ok (.iaload, 1)) (d2 : decode code (P + 7) = .ok (.invokevirtual iW, 3)) (d3 : decode code (P + 10) = .ok (.aload_n 2, 1)) (t1 : decode code (P + 11) = .ok (.aload_n 0, 1) ∧ decode code (P + 11 + 1) = .ok (.iload 4, 2) ∧ decode code (P + 11 + 3) = .ok (.iconst 1, 1) ∧ decode code (P + 11 + 4) = .ok (.iadd, 1) ∧ decode code (P + 11 + 5) = .ok (.iaload, 1)) (d4 : decode code (P + 17) = .ok (.invokevirtual iM, 3)) (d5 : decode code (P + 20) = .ok (.if_icmp .eq off, 3)) :
    W p l e room_1 s m #[Value.ref b] below meth c H locs cells slots (lw_Z below #[Value.ref b] s) (F0 m P ls []) := by
  obtain ⟨hL, ⟨hx, hb, -⟩, cx, cy, hth, hst⟩ := id Z
  have hC := Z.hC 830
  have gW : z_gs (z_r (10, 0) 0 :: [z_i (xs (i + 1)).toInt]) := z_gs_c.mpr ⟨zl_gW, fun u hu => by
    simp only [List.mem_cons, List.not_mem_nil, or_false] at hu
    rcases hu with rfl <;> exact z_ri_t _⟩
  have gM : z_gs (z_r (11, 0) 179 :: [z_i (xs (i + 1)).toInt]) := z_gs_c.mpr ⟨zl_gM, fun u hu => by
    simp only [List.mem_cons, List.not_mem_nil, or_false] at hu
    rcases hu with rfl <;> exact z_ri_t _⟩
  have hq : z_C 830 yW [z_r (10, 0) 0, z_i (xs (i + 1)).toInt] M (fun r M' => ∃ v, r = some (z_i v) ∧ zCi 830 yM [z_r (11, 0) 179, z_i (xs (i + 1)).toInt] M' (fun v' M2 => v = v' ∧ zI (n + 1) M2)) := hq
  refine W.widen (k := cells + 1) (n := slots + 6) (by omega) (by omega) ?_
  refine lv_aload_n hx hb d1 rfl (lv_at hl 1 rfl) ?_
  refine zl_S (k := 1) Z hS (lv_at hl 0 rfl) (lv_at hl 4 rfl) (by omega) (by decide) s1 ?_
  refine zl_V (as := [z_i (xs (i + 1)).toInt]) (rest := []) (k := (10, 0)) (b := 0) cx cy hC hcW d2 rfl (by decide) ⟨hcl.1, hcl.2⟩ hq gW hm hP hS hl.1 (fun r M1 H1 locs1 hq1 hg1 hm1 hP1 hS1 => ?_)
  obtain ⟨v, rfl, hq2⟩ := hq1
  have hq2 : z_C 830 yM [z_r (11, 0) 179, z_i (xs (i + 1)).toInt] M1 (fun r M' => ∃ v', r = some (z_i v') ∧ v = v' ∧ zI (n + 1) M') := hq2
  refine lv_aload_n hx hb d3 rfl (lv_at hl 2 rfl) ?_
  refine zl_S (k := 1) Z hS1 (lv_at hl 0 rfl) (lv_at hl 4 rfl) (by omega) (by decide) t1 ?_
  refine zl_V (as := [z_i (xs (i + 1)).toInt]) (rest := [.int (Int32.ofInt v)]) (k := (11, 0)) (b := 179) cx cy hC hcM d4 rfl (by show 1 ≤ 8; decide) ⟨hcl.1, hcl.2⟩ hq2 gM hm1 hP1 hS1 hl.1 (fun r M2 H2 locs2 hq3 hg2 hm2 hP2 hS2 => ?_)
  obtain ⟨v', rfl, rfl, hI⟩ := hq3
  exact lv_icmp_eq (tgt := 1237) hx hb d5 ht (fun _ => K M2 H2 locs2 ls hI hm2 hP2 hS2 hl) (fun h => absurd rfl h)
theorem zl_c2 {yW yM iW iM : Nat} {off : Int} {wW wM : List (Nat × Nat)} (Z : zlaw p l s m meth c b L xs D cA ad adK adV) (hi : i + 4 < L) (hm : z_mok M) (hP : va_P D z_cl (z_w ad cA M) H) (hS : va_S (fun q => s.heap.size ≤ q) s.heap H locs) (hl : lv_has ls 8 (zlaw_lv b ad i)) (hcl : cells + 1 ≤ 601024 ∧ slots + 6 ≤ 7293034) (K : zlaw_K p l e s m below meth c b D cA ad n i cells slots)
    (hq : zQ 830 yW yM [z_r (10, 0) 0, z_i (xs (i + 1)).toInt, z_i (xs (i + 2)).toInt] [z_r (11, 0) 179, z_i (xs (i + 1)).toInt, z_i (xs (i + 2)).toInt] n M) (ht : ((P + 32 : Nat) : Int) + off = 1237) (hcW : z_ce R_law 8 none (P + 13) (.invokevirtual iW) 3 [yW, 2] 0 wW = true) (hcM : z_ce R_law 8 none (P + 29) (.invokevirtual iM) 3 [yM, 2] 0 wM = true)
    (d1 : decode code P = .ok (.aload_n 1, 1)) (s1 : decode code (P + 1) = .ok (.aload_n 0, 1) ∧ decode code (P + 1 + 1) = .ok (.iload 4, 2) ∧ decode code (P + 1 + 3) = .ok (.iconst 1, 1) ∧ decode code (P + 1 + 4) = .ok (.iadd, 1) ∧ decode code (P + 1 + 5) = .ok (.iaload, 1)) (s2 : decode code (P + 7) = .ok (.aload_n 0, 1) ∧ decode code (P + 7 + 1) = .ok (.iload 4, 2) ∧ decode code (P + 7 + 3) = .ok (.iconst 2, 1) ∧ decode code (P + 7 + 4) = .ok (.iadd, 1) ∧ decode code (P + 7 + 5) = .ok (.iaload, 1)) (d2 : decode code (P + 13) = .ok (.invokevirtual iW, 3)) (d3 : decode code (P + 16) = .ok (.aload_n 2, 1)) (t1 : decode code (P + 17) = .ok (.aload_n 0, 1) ∧ decode code (P + 17 + 1) = .ok (.iload 4, 2) ∧ decode code (P + 17 + 3) = .ok (.iconst 1, 1) ∧ decode code (P + 17 + 4) = .ok (.iadd, 1) ∧ decode code (P + 17 + 5) = .ok (.iaload, 1)) (t2 : decode code (P + 23) = .ok (.aload_n 0, 1) ∧ decode code (P + 23 + 1) = .ok (.iload 4, 2) ∧ decode code (P + 23 + 3) = .ok (.iconst 2, 1) ∧ decode code (P + 23 + 4) = .ok (.iadd, 1) ∧ decode code (P + 23 + 5) = .ok (.iaload, 1)) (d4 : decode code (P + 29) = .ok (.invokevirtual iM, 3)) (d5 : decode code (P + 32) = .ok (.if_icmp .eq off, 3)) :
    W p l e room_1 s m #[Value.ref b] below meth c H locs cells slots (lw_Z below #[Value.ref b] s) (F0 m P ls []) := by
  obtain ⟨hL, ⟨hx, hb, -⟩, cx, cy, hth, hst⟩ := id Z
  have hC := Z.hC 830
  have gW : z_gs (z_r (10, 0) 0 :: [z_i (xs (i + 1)).toInt, z_i (xs (i + 2)).toInt]) := z_gs_c.mpr ⟨zl_gW, fun u hu => by
    simp only [List.mem_cons, List.not_mem_nil, or_false] at hu
    rcases hu with rfl | rfl <;> exact z_ri_t _⟩
  have gM : z_gs (z_r (11, 0) 179 :: [z_i (xs (i + 1)).toInt, z_i (xs (i + 2)).toInt]) := z_gs_c.mpr ⟨zl_gM, fun u hu => by
    simp only [List.mem_cons, List.not_mem_nil, or_false] at hu
    rcases hu with rfl | rfl <;> exact z_ri_t _⟩
  have hq : z_C 830 yW [z_r (10, 0) 0, z_i (xs (i + 1)).toInt, z_i (xs (i + 2)).toInt] M (fun r M' => ∃ v, r = some (z_i v) ∧ zCi 830 yM [z_r (11, 0) 179, z_i (xs (i + 1)).toInt, z_i (xs (i + 2)).toInt] M' (fun v' M2 => v = v' ∧ zI (n + 1) M2)) := hq
  refine W.widen (k := cells + 1) (n := slots + 6) (by omega) (by omega) ?_
  refine lv_aload_n hx hb d1 rfl (lv_at hl 1 rfl) ?_
  refine zl_S (k := 1) Z hS (lv_at hl 0 rfl) (lv_at hl 4 rfl) (by omega) (by decide) s1 ?_
  refine zl_S (k := 2) Z hS (lv_at hl 0 rfl) (lv_at hl 4 rfl) (by omega) (by decide) s2 ?_
  refine zl_V (as := [z_i (xs (i + 1)).toInt, z_i (xs (i + 2)).toInt]) (rest := []) (k := (10, 0)) (b := 0) cx cy hC hcW d2 rfl (by decide) ⟨hcl.1, hcl.2⟩ hq gW hm hP hS hl.1 (fun r M1 H1 locs1 hq1 hg1 hm1 hP1 hS1 => ?_)
  obtain ⟨v, rfl, hq2⟩ := hq1
  have hq2 : z_C 830 yM [z_r (11, 0) 179, z_i (xs (i + 1)).toInt, z_i (xs (i + 2)).toInt] M1 (fun r M' => ∃ v', r = some (z_i v') ∧ v = v' ∧ zI (n + 1) M') := hq2
  refine lv_aload_n hx hb d3 rfl (lv_at hl 2 rfl) ?_
  refine zl_S (k := 1) Z hS1 (lv_at hl 0 rfl) (lv_at hl 4 rfl) (by omega) (by decide) t1 ?_
  refine zl_S (k := 2) Z hS1 (lv_at hl 0 rfl) (lv_at hl 4 rfl) (by omega) (by decide) t2 ?_
  refine zl_V (as := [z_i (xs (i + 1)).toInt, z_i (xs (i + 2)).toInt]) (rest := [.int (Int32.ofInt v)]) (k := (11, 0)) (b := 179) cx cy hC hcM d4 rfl (by show 1 ≤ 8; decide) ⟨hcl.1, hcl.2⟩ hq2 gM hm1 hP1 hS1 hl.1 (fun r M2 H2 locs2 hq3 hg2 hm2 hP2 hS2 => ?_)
  obtain ⟨v', rfl, rfl, hI⟩ := hq3
  exact lv_icmp_eq (tgt := 1237) hx hb d5 ht (fun _ => K M2 H2 locs2 ls hI hm2 hP2 hS2 hl) (fun h => absurd rfl h)
theorem zl_c4 {yW yM iW iM : Nat} {off : Int} {wW wM : List (Nat × Nat)} (Z : zlaw p l s m meth c b L xs D cA ad adK adV) (hi : i + 4 < L) (hm : z_mok M) (hP : va_P D z_cl (z_w ad cA M) H) (hS : va_S (fun q => s.heap.size ≤ q) s.heap H locs) (hl : lv_has ls 8 (zlaw_lv b ad i)) (hcl : cells + 1 ≤ 601024 ∧ slots + 6 ≤ 7293034) (K : zlaw_K p l e s m below meth c b D cA ad n i cells slots)
    (hq : zQ 830 yW yM [z_r (10, 0) 0, z_i (xs (i + 1)).toInt, z_i (xs (i + 2)).toInt, z_i (xs (i + 3)).toInt, z_i (xs (i + 4)).toInt] [z_r (11, 0) 179, z_i (xs (i + 1)).toInt, z_i (xs (i + 2)).toInt, z_i (xs (i + 3)).toInt, z_i (xs (i + 4)).toInt] n M) (ht : ((P + 56 : Nat) : Int) + off = 1237) (hcW : z_ce R_law 8 none (P + 25) (.invokevirtual iW) 3 [yW, 4] 0 wW = true) (hcM : z_ce R_law 8 none (P + 53) (.invokevirtual iM) 3 [yM, 4] 0 wM = true)
    (d1 : decode code P = .ok (.aload_n 1, 1)) (s1 : decode code (P + 1) = .ok (.aload_n 0, 1) ∧ decode code (P + 1 + 1) = .ok (.iload 4, 2) ∧ decode code (P + 1 + 3) = .ok (.iconst 1, 1) ∧ decode code (P + 1 + 4) = .ok (.iadd, 1) ∧ decode code (P + 1 + 5) = .ok (.iaload, 1)) (s2 : decode code (P + 7) = .ok (.aload_n 0, 1) ∧ decode code (P + 7 + 1) = .ok (.iload 4, 2) ∧ decode code (P + 7 + 3) = .ok (.iconst 2, 1) ∧ decode code (P + 7 + 4) = .ok (.iadd, 1) ∧ decode code (P + 7 + 5) = .ok (.iaload, 1)) (s3 : decode code (P + 13) = .ok (.aload_n 0, 1) ∧ decode code (P + 13 + 1) = .ok (.iload 4, 2) ∧ decode code (P + 13 + 3) = .ok (.iconst 3, 1) ∧ decode code (P + 13 + 4) = .ok (.iadd, 1) ∧ decode code (P + 13 + 5) = .ok (.iaload, 1)) (s4 : decode code (P + 19) = .ok (.aload_n 0, 1) ∧ decode code (P + 19 + 1) = .ok (.iload 4, 2) ∧ decode code (P + 19 + 3) = .ok (.iconst 4, 1) ∧ decode code (P + 19 + 4) = .ok (.iadd, 1) ∧ decode code (P + 19 + 5) = .ok (.iaload, 1)) (d2 : decode code (P + 25) = .ok (.invokevirtual iW, 3)) (d3 : decode code (P + 28) = .ok (.aload_n 2, 1)) (t1 : decode code (P + 29) = .ok (.aload_n 0, 1) ∧ decode code (P + 29 + 1) = .ok (.iload 4, 2) ∧ decode code (P + 29 + 3) = .ok (.iconst 1, 1) ∧ decode code (P + 29 + 4) = .ok (.iadd, 1) ∧ decode code (P + 29 + 5) = .ok (.iaload, 1)) (t2 : decode code (P + 35) = .ok (.aload_n 0, 1) ∧ decode code (P + 35 + 1) = .ok (.iload 4, 2) ∧ decode code (P + 35 + 3) = .ok (.iconst 2, 1) ∧ decode code (P + 35 + 4) = .ok (.iadd, 1) ∧ decode code (P + 35 + 5) = .ok (.iaload, 1)) (t3 : decode code (P + 41) = .ok (.aload_n 0, 1) ∧ decode code (P + 41 + 1) = .ok (.iload 4, 2) ∧ decode code (P + 41 + 3) = .ok (.iconst 3, 1) ∧ decode code (P + 41 + 4) = .ok (.iadd, 1) ∧ decode code (P + 41 + 5) = .ok (.iaload, 1)) (t4 : decode code (P + 47) = .ok (.aload_n 0, 1) ∧ decode code (P + 47 + 1) = .ok (.iload 4, 2) ∧ decode code (P + 47 + 3) = .ok (.iconst 4, 1) ∧ decode code (P + 47 + 4) = .ok (.iadd, 1) ∧ decode code (P + 47 + 5) = .ok (.iaload, 1)) (d4 : decode code (P + 53) = .ok (.invokevirtual iM, 3)) (d5 : decode code (P + 56) = .ok (.if_icmp .eq off, 3)) :
    W p l e room_1 s m #[Value.ref b] below meth c H locs cells slots (lw_Z below #[Value.ref b] s) (F0 m P ls []) := by
  obtain ⟨hL, ⟨hx, hb, -⟩, cx, cy, hth, hst⟩ := id Z
  have hC := Z.hC 830
  have gW : z_gs (z_r (10, 0) 0 :: [z_i (xs (i + 1)).toInt, z_i (xs (i + 2)).toInt, z_i (xs (i + 3)).toInt, z_i (xs (i + 4)).toInt]) := z_gs_c.mpr ⟨zl_gW, fun u hu => by
    simp only [List.mem_cons, List.not_mem_nil, or_false] at hu
    rcases hu with rfl | rfl | rfl | rfl <;> exact z_ri_t _⟩
  have gM : z_gs (z_r (11, 0) 179 :: [z_i (xs (i + 1)).toInt, z_i (xs (i + 2)).toInt, z_i (xs (i + 3)).toInt, z_i (xs (i + 4)).toInt]) := z_gs_c.mpr ⟨zl_gM, fun u hu => by
    simp only [List.mem_cons, List.not_mem_nil, or_false] at hu
    rcases hu with rfl | rfl | rfl | rfl <;> exact z_ri_t _⟩
  have hq : z_C 830 yW [z_r (10, 0) 0, z_i (xs (i + 1)).toInt, z_i (xs (i + 2)).toInt, z_i (xs (i + 3)).toInt, z_i (xs (i + 4)).toInt] M (fun r M' => ∃ v, r = some (z_i v) ∧ zCi 830 yM [z_r (11, 0) 179, z_i (xs (i + 1)).toInt, z_i (xs (i + 2)).toInt, z_i (xs (i + 3)).toInt, z_i (xs (i + 4)).toInt] M' (fun v' M2 => v = v' ∧ zI (n + 1) M2)) := hq
  refine W.widen (k := cells + 1) (n := slots + 6) (by omega) (by omega) ?_
  refine lv_aload_n hx hb d1 rfl (lv_at hl 1 rfl) ?_
  refine zl_S (k := 1) Z hS (lv_at hl 0 rfl) (lv_at hl 4 rfl) (by omega) (by decide) s1 ?_
  refine zl_S (k := 2) Z hS (lv_at hl 0 rfl) (lv_at hl 4 rfl) (by omega) (by decide) s2 ?_
  refine zl_S (k := 3) Z hS (lv_at hl 0 rfl) (lv_at hl 4 rfl) (by omega) (by decide) s3 ?_
  refine zl_S (k := 4) Z hS (lv_at hl 0 rfl) (lv_at hl 4 rfl) (by omega) (by decide) s4 ?_
  refine zl_V (as := [z_i (xs (i + 1)).toInt, z_i (xs (i + 2)).toInt, z_i (xs (i + 3)).toInt, z_i (xs (i + 4)).toInt]) (rest := []) (k := (10, 0)) (b := 0) cx cy hC hcW d2 rfl (by decide) ⟨hcl.1, hcl.2⟩ hq gW hm hP hS hl.1 (fun r M1 H1 locs1 hq1 hg1 hm1 hP1 hS1 => ?_)
  obtain ⟨v, rfl, hq2⟩ := hq1
  have hq2 : z_C 830 yM [z_r (11, 0) 179, z_i (xs (i + 1)).toInt, z_i (xs (i + 2)).toInt, z_i (xs (i + 3)).toInt, z_i (xs (i + 4)).toInt] M1 (fun r M' => ∃ v', r = some (z_i v') ∧ v = v' ∧ zI (n + 1) M') := hq2
  refine lv_aload_n hx hb d3 rfl (lv_at hl 2 rfl) ?_
  refine zl_S (k := 1) Z hS1 (lv_at hl 0 rfl) (lv_at hl 4 rfl) (by omega) (by decide) t1 ?_
  refine zl_S (k := 2) Z hS1 (lv_at hl 0 rfl) (lv_at hl 4 rfl) (by omega) (by decide) t2 ?_
  refine zl_S (k := 3) Z hS1 (lv_at hl 0 rfl) (lv_at hl 4 rfl) (by omega) (by decide) t3 ?_
  refine zl_S (k := 4) Z hS1 (lv_at hl 0 rfl) (lv_at hl 4 rfl) (by omega) (by decide) t4 ?_
  refine zl_V (as := [z_i (xs (i + 1)).toInt, z_i (xs (i + 2)).toInt, z_i (xs (i + 3)).toInt, z_i (xs (i + 4)).toInt]) (rest := [.int (Int32.ofInt v)]) (k := (11, 0)) (b := 179) cx cy hC hcM d4 rfl (by show 1 ≤ 8; decide) ⟨hcl.1, hcl.2⟩ hq2 gM hm1 hP1 hS1 hl.1 (fun r M2 H2 locs2 hq3 hg2 hm2 hP2 hS2 => ?_)
  obtain ⟨v', rfl, rfl, hI⟩ := hq3
  exact lv_icmp_eq (tgt := 1237) hx hb d5 ht (fun _ => K M2 H2 locs2 ls hI hm2 hP2 hS2 hl) (fun h => absurd rfl h)
end
