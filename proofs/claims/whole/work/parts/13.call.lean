/-! THE MACHINE FOLLOWS z_step: switches, returns, calls -/
theorem z_ts_in {a lo : Int} {K : Nat → Prop} {dflt : Nat} : ∀ (ts : List Nat) (k : Int), z_ts a K dflt lo ts k → (∀ (i : Nat) (t : Nat), ts[i]? = some t → a = k + i → K t) ∧ ((a < lo ∨ k + ts.length ≤ a) → K dflt)
  | [], k, h => ⟨fun i t ht => by simp at ht, fun q => h (by simpa using q)⟩
  | t :: ts, k, h => by
    obtain ⟨h1, h2⟩ := h
    obtain ⟨h3, h4⟩ := z_ts_in ts (k + 1) h2
    refine ⟨fun i t' ht ha => ?_, fun q => h4 ?_⟩
    · cases i with
      | zero => cases ht; exact h1 (by simpa using ha)
      | succ i => exact h3 i t' ht (by rw [ha]; omega)
    · rw [List.length_cons] at q
      rcases q with q | q
      · exact Or.inl q
      · exact Or.inr (by omega)
theorem z_ls_in {a : Int} {K : Nat → Prop} {dflt pc : Nat} {d : Int} (hd : (pc : Int) + d = (dflt : Int)) : ∀ (ps : List (Int × Int)) (ts : List Nat), z_lk pc ps ts = true → z_ls a K dflt ts → ∃ t : Nat, (pc : Int) + Op.lookupswitch.offset ps d a = (t : Int) ∧ K t
  | [], [], _, h => ⟨dflt, hd, h⟩
  | [], _ :: _, hk, _ => by simp [z_lk] at hk
  | (k, o) :: r, [], hk, _ => by simp [z_lk] at hk
  | (k, o) :: r, [_], hk, _ => by simp [z_lk] at hk
  | (k, o) :: r, k' :: t :: ts, hk, h => by
    simp only [z_lk, Bool.and_eq_true, decide_eq_true_eq] at hk
    obtain ⟨e1, e2, e3⟩ := hk
    obtain ⟨h1, h2⟩ := h
    rw [Op.lookupswitch.offset_cons]
    by_cases hc : k = a
    · rw [if_pos hc]
      exact ⟨t, e2, h1 (by rw [← hc, e1])⟩
    · rw [if_neg hc]
      exact z_ls_in hd r ts e3 (h2 (fun q => hc (by rw [e1, q])))
theorem z_take_ok : ∀ (n : Nat) (st a r : List zU), z_take n st = some (a, r) → st = a ++ r ∧ a.length = n
  | 0, st, a, r, h => by cases h; exact ⟨rfl, rfl⟩
  | n + 1, [], a, r, h => by cases h
  | n + 1, u :: st, a, r, h => by
    simp only [z_take] at h
    cases hq : z_take n st with
    | none => rw [hq] at h; cases h
    | some q =>
      obtain ⟨a', r'⟩ := q
      rw [hq] at h
      cases h
      obtain ⟨h1, h2⟩ := z_take_ok n st a' r hq
      exact ⟨by rw [h1]; rfl, by rw [List.length_cons, h2]⟩
theorem z_rev_eq : ∀ (l b : List zU), z_rev l b = l.reverse ++ b
  | [], b => rfl
  | u :: l, b => by
    show z_rev l (u :: b) = (u :: l).reverse ++ b
    rw [z_rev_eq l (u :: b), List.reverse_cons, List.append_assoc]
    rfl
def z_Qg (D : va_G) (cA : Nat → ClassId) (ad adK : Nat → Nat) (Q : Option zU → zM → Prop) (A1 : Nat → Prop) : Array Value → State → Outcome → State → Prop := fun _ st oc t =>
  (∃ (r : Option zU) (M' : zM), oc = .returned (r.map (z_val ad adK)) ∧ Q r M' ∧ (∀ u, r = some u → z_good u) ∧ z_mok M' ∧ va_P D z_cl (z_w ad cA M') t.heap) ∧ va_F A1 st t
/-- the links to private methods of a nest mate -/
def z_nest (U : State) : Prop := ∀ (a : String) (i : Nat) (x : MethodName) (h : String), Cond.methodLinkNest a i x h ∈ lw_tbl → va_Nw (.methodLinkNest a i x h) U
/-- what two statics of the JDK hold: texts are compact; the maker of a wrong index's message is null or some object -/
def z_sta (A : Nat → Prop) (U : State) (H : Heap) : Prop := va_Z "java/lang/String" "COMPACT_STRINGS" "Z" (.int 1) A U H ∧ va_Zq "jdk/internal/util/Preconditions" "SIOOBE_FORMATTER" "Ljava/util/function/BiFunction;" A U H
theorem z_sta.moved {A : Nat → Prop} {u U : State} {H : Heap} (hvm : u.vm.Alike U.vm) (h : z_sta A u H) : z_sta A U H := ⟨va_Z.moved hvm h.1, va_Zq.moved hvm h.2⟩
theorem z_sta.kept {A : Nat → Prop} {U : State} {H H1 : Heap} (h : z_sta A U H) (hq : ∀ a : Nat, a < H.size → ¬ A a → H1[a]? = H[a]?) : z_sta A U H1 := ⟨h.1.kept hq, h.2.kept hq⟩
theorem z_sta.narrow {A B : Nat → Prop} {U : State} {H : Heap} (h : z_sta A U H) (hAB : ∀ q, B q → A q) : z_sta B U H := ⟨h.1.narrow hAB, h.2.narrow hAB⟩
def z_B (D : va_G) (cA : Nat → ClassId) (ad adK adV : Nat → Nat) (M : zM) (sz : Nat) (U : State) : Prop :=
  U.heap.size = sz ∧ va_P D z_cl (z_w ad cA M) U.heap ∧ va_K D z_cl (z_ty cA) U ∧ vk_S 7 z_sl z_sb adK adV (va_A (z_w ad cA M) sz) U U.heap ∧ (∀ j q, z_st[j]? = some q → vk_R q.1 q.2.1 q.2.2 (adK j) U) ∧ z_nest U ∧ z_sta (va_A (z_w ad cA M) sz) U U.heap
/-- the class of a method's receiver: 99 for a static one -/
def z_rck (r : Nat) (as : List zU) : Bool := cond (Nat.beq r 99) true (match as with
  | .inr (.inr (k, _)) :: _ => Nat.beq k.1 r
  | _ => false)
def z_HC (l : Launch) (D : va_G) (cA : Nat → ClassId) (ad adK adV : Nat → Nat) (rm : Room) (C : Nat → List zU → zM → (Option zU → zM → Prop) → Prop) : Prop :=
  ∀ (y : Nat) (Y : zY) (as : List zU) (M : zM) (Q : Option zU → zM → Prop), z_mt[y]? = some Y → C y as M Q → z_gs as → z_mok M → z_rck (z_rv.getD y 99) as = true ∧ ∀ sz : Nat, Met l Y.1 (Cond.code Y.1 Y.2.1 Y.2.2.1 Y.2.2.2.1 :: z_tb) rm (va_Pc (as.map (z_val ad adK)) (z_B D cA ad adK adV M sz)) (z_Qg D cA ad adK Q (va_A (z_w ad cA M) sz)) 0 0 (va_A (z_w ad cA M) sz)
theorem z_B_blind {D : va_G} {cA : Nat → ClassId} {ad adK adV : Nat → Nat} {M : zM} {sz : Nat} {av : List Value} : FrameBlind (va_Pc av (z_B D cA ad adK adV M sz)) := by
  intro a U g mk q
  obtain ⟨q0, q1, q2, q3, q4, q5, q6, q7⟩ := q
  exact ⟨q0, q1, q2, va_K.moved (u := U) (U := U.calling g mk a) (Vm.Alike.refl U.vm) q3, vk_S.moved (u := U) (U := U.calling g mk a) (Vm.Alike.refl U.vm) q4, fun j q hq => vk_R.same (u := U) (U := U.calling g mk a) rfl (q5 j q hq), fun b i x h hm => va_Nw.same (u := U) (U := U.calling g mk a) rfl rfl (q6 b i x h hm), z_sta.moved (u := U) (U := U.calling g mk a) (Vm.Alike.refl U.vm) q7⟩
theorem z_map_opt {ad adK : Nat → Nat} (r : Option zU) (zs : List zU) : (r.map (z_val ad adK)).toList ++ zs.map (z_val ad adK) = (r.toList ++ zs).map (z_val ad adK) := by
  cases r <;> rfl
theorem z_good_tb {w : Cond} (h : w ∈ z_tb) : (w.onTables && w.keeps) = true ∨ ∃ ty, w = .arrayClass ty := good_of_word (List.mem_filter.mp h).2
theorem z_goodIn {y : MethodName} {bytes : ByteArray} {ml : Nat} {ret : Option FieldType} (h : Cond.code y bytes ml ret ∈ z_tb) : GoodIn z_tb (Cond.code y bytes ml ret :: z_tb) := by
  intro w hw
  rcases List.mem_cons.mp hw with h1 | h1
  · subst h1; exact ⟨h, z_good_tb h⟩
  · exact ⟨h1, z_good_tb h1⟩
section
variable {p : Program} {l : Launch} {e : Env} {R : Room} {s : State} {m : MethodId} {args : Array Value} {below : List Frame} {meth : Method} {c : Code} {cc : ByteArray} {nL : Nat} {own : String} {D : va_G} {cA : Nat → ClassId} {ad adK adV : Nat → Nat} {A : Nat → Prop} {Qj : State → Prop} {pc : Nat} {zl : List zV} {zs : List zU} {M : zM}
theorem zs_table (cx : z_cx p R s m args c cc nL own D cA ad adK A) {a d lo hi : Int} {offs : Array Int} {n dt : Nat} {ts : List Nat} (hd : decode cc pc = .ok (.tableswitch d lo hi offs, n)) (hdt : (pc : Int) + d = (dt : Int)) (hto : offs.toList.map (fun o => (pc : Int) + o) = ts.map (fun t : Nat => (t : Int))) (hhi : hi = lo + ts.length - 1)
    (h : z_ts a (fun t => z_X p l e R s m args below meth c nL D cA ad adK A Qj t zl zs M) dt lo ts lo) : z_X p l e R s m args below meth c nL D cA ad adK A Qj pc zl (z_i a :: zs) M := by
  obtain ⟨hx, hb, hml, hown, hts, hK, hinj, hinA, hstr, hroom⟩ := cx
  intro hl hg hs hm H locs ls hP hS hv
  obtain ⟨ha1, h3⟩ := z_gs_c.mp hs
  have ha1 : z_ri a := ha1
  obtain ⟨h1, h2⟩ := z_ts_in ts lo h
  by_cases hc : a < lo ∨ hi < a
  · exact lv_tableOut hx hb hd (by rw [zn_t ha1]; exact hc) hdt (h2 (by omega) hl hg h3 hm H locs ls hP hS hv)
  · have hlt : (a - lo).toNat < ts.length := by omega
    have hlt2 : (a - lo).toNat < offs.size := by
      have := congrArg List.length hto
      simp only [List.length_map, Array.length_toList] at this
      omega
    have ho : offs[(a - lo).toNat]? = some offs[(a - lo).toNat] := Array.getElem?_eq_getElem hlt2
    have ht : ts[(a - lo).toNat]? = some ts[(a - lo).toNat] := List.getElem?_eq_getElem hlt
    have he : (pc : Int) + offs[(a - lo).toNat] = (ts[(a - lo).toNat] : Nat) := by
      have h5 := congrArg (fun l => l[(a - lo).toNat]?) hto
      simp only [List.getElem?_map, ht, Option.map_some, Array.getElem?_toList, ho] at h5
      exact Option.some.inj h5
    exact lv_tableIn hx hb hd (by rw [zn_t ha1]; omega) (by rw [zn_t ha1]; omega) (by rw [zn_t ha1]; exact ho) he (h1 _ _ ht (by omega) hl hg h3 hm H locs ls hP hS hv)
theorem zs_lookup (cx : z_cx p R s m args c cc nL own D cA ad adK A) {a d : Int} {ps : Array (Int × Int)} {n dt : Nat} {ts : List Nat} (hd : decode cc pc = .ok (.lookupswitch d ps, n)) (hdt : (pc : Int) + d = (dt : Int)) (hp : (ps.toList.zip (ps.toList.drop 1)).all (fun (a, next) => a.1 < next.1) = true) (hto : z_lk pc ps.toList ts = true)
    (h : z_ls a (fun t => z_X p l e R s m args below meth c nL D cA ad adK A Qj t zl zs M) dt ts) : z_X p l e R s m args below meth c nL D cA ad adK A Qj pc zl (z_i a :: zs) M := by
  obtain ⟨hx, hb, hml, hown, hts, hK, hinj, hinA, hstr, hroom⟩ := cx
  intro hl hg hs hm H locs ls hP hS hv
  obtain ⟨ha1, h3⟩ := z_gs_c.mp hs
  have ha1 : z_ri a := ha1
  obtain ⟨t, h1, h2⟩ := z_ls_in hdt ps.toList ts hto h
  exact lv_lookup hx hb hd hp rfl (by rw [zn_t ha1]; exact h1) (h2 hl hg h3 hm H locs ls hP hS hv)
theorem zs_run {H : Heap} {locs : List Loc} {ls : Array Slot} {st0 rest : List Value} {a : Array Value} {A1 : Nat → Prop} {free : Addr → Prop} {Q : Option zU → zM → Prop} (hr : va_Run p l e R s m args below meth c H locs 0 0 0 0 (F0 m pc ls st0) rest (z_Qg D cA ad adK Q A1 a) free) (hS : va_S A s.heap H locs) (hA : ∀ q, q < H.size → A1 q → A q) (hf : ∀ q, free q → A q)
    (kk : ∀ (r : Option zU) (M' : zM) (H1 : Heap) (locs1 : List Loc), Q r M' → (∀ u, r = some u → z_good u) → z_mok M' → va_P D z_cl (z_w ad cA M') H1 → va_S A s.heap H1 locs1 → W p l e R s m args below meth c H1 locs1 0 0 Qj (F0 m (pc + 3) ls ((r.map (z_val ad adK)).toList ++ rest))) : W p l e R s m args below meth c H locs 0 0 Qj (F0 m pc ls st0) := by
  intro T hT X
  obtain ⟨v, st₀, t, T', L, h0, X', hL, e1, e2, ⟨⟨r, M', hv, hq, hg, hm, hP⟩, hz, hk⟩, st⟩ := hr T hT X
  cases hv
  rw [h0] at hz hk
  obtain ⟨t2, a1, b1⟩ := kk r M' T'.heap (locs ++ L) hq hg hm (by rw [e1]; exact hP)
    ⟨Nat.le_trans hS.1 (by rw [e1]; exact hz), fun q h1 h2 => by rw [e1, hk q (Nat.lt_of_lt_of_le h1 hS.1) (fun z => h2 (hA q (Nat.lt_of_lt_of_le h1 hS.1) z))]; exact hS.2.1 q h1 h2, fun q hq => by
      rcases List.mem_append.mp hq with h | h
      · exact hS.2.2 q h
      · exact hf _ (hL q h)⟩ T' rfl X'
  exact ⟨t2, st t2 a1, b1⟩
/-- what a call needs beside z_cx -/
def z_cy (R : Room) (s : State) (adK adV : Nat → Nat) (A : Nat → Prop) (rm : Room) : Prop :=
  vk_S 7 z_sl z_sb adK adV A s s.heap ∧ (∀ q, s.heap.size ≤ q → A q) ∧ rm.cells = 0 ∧ rm.slots = 0 ∧ rm.frames + 1 ≤ R.frames ∧ rm.locals + 60 ≤ R.locals ∧ (z_nest s ∧ z_sta A s s.heap)
theorem z_A_in {H : Heap} {locs : List Loc} (hinA : ∀ i, i < z_kt.length → A (ad i)) (hA : ∀ q, s.heap.size ≤ q → A q) (hS : va_S A s.heap H locs) : ∀ q, va_A (z_w ad cA M) H.size q → A q := by
  intro q hq
  rcases hq with ⟨k, e, hk⟩ | hq
  · rw [z_w_get] at hk
    cases hz : z_kt[k]? with
    | none => rw [hz] at hk; cases hk
    | some d =>
      rw [hz] at hk
      cases hk
      exact hinA k (z_kt_lt hz)
  · exact hA q (Nat.le_trans hS.1 hq)
theorem z_B_at {H : Heap} {locs : List Loc} (hK : va_K D z_cl (z_ty cA) s) (hstr : ∀ j q, z_st[j]? = some q → vk_R q.1 q.2.1 q.2.2 (adK j) s) (hVS : vk_S 7 z_sl z_sb adK adV A s s.heap) (hnest : z_nest s ∧ z_sta A s s.heap) (hS : va_S A s.heap H locs) (hP : va_P D z_cl (z_w ad cA M) H) (hin : ∀ q, va_A (z_w ad cA M) H.size q → A q) (U : State) (hU : U.heap = H) (hW : s.WarmedH U.vm) : z_B D cA ad adK adV M H.size U := by
  refine ⟨by rw [hU], by rw [hU]; exact hP, va_K.moved hW.alike hK, ?_, fun j q hq => vk_R.warm hW (hstr j q hq), fun a i x h hm => va_Nw.warmM hW (hnest.1 a i x h hm), ?_⟩
  · rw [hU]
    exact ((hVS.kept hS.2.1).narrow hin).moved hW.alike
  · rw [hU]
    exact ((hnest.2.kept hS.2.1).narrow hin).moved hW.alike
theorem zs_callS {rm : Room} {C : Nat → List zU → zM → (Option zU → zM → Prop) → Prop} (cx : z_cx p R s m args c cc nL own D cA ad adK A) (cy : z_cy R s adK adV A rm) (hC : z_HC l D cA ad adK adV rm C) {y idx na : Nat} {Y : zY} {a : List zU} (hmt : z_mt[y]? = some Y) (hml9 : Y.2.2.1 ≤ 41)
    (hd : decode cc pc = .ok (.invokestatic idx, 3)) (hna : a.length = na) (hc8 : z_cats zs ≤ 8) (hw1 : Cond.methodLink own idx Y.1 ∈ z_tb) (hw2 : Cond.static Y.1 ∈ z_tb) (hw3 : Cond.initialized Y.1.cls ∈ z_tb) (hw4 : Cond.code Y.1 Y.2.1 Y.2.2.1 Y.2.2.2.1 ∈ z_tb) (hdesc : Y.1.cls ≠ "java/lang/invoke/MethodHandle" ∧ Y.1.cls ≠ "java/lang/invoke/VarHandle" ∧ (parseMethodDescriptor Y.1.desc).map (fun d => d.parameters.length) = some na)
    (h : C y a.reverse M (fun r M => z_X p l e R s m args below meth c nL D cA ad adK A Qj (pc + 3) zl (r.toList ++ zs) M)) : z_X p l e R s m args below meth c nL D cA ad adK A Qj pc zl (a ++ zs) M := by
  obtain ⟨hx, hb, hml, hown, hts, hK, hinj, hinA, hstr, hroom⟩ := cx
  obtain ⟨hVS, hA, r1, r2, r3, r4, hnest⟩ := cy
  intro hl hg hs hm H locs ls hP hS hv
  have hsa : z_gs a.reverse := fun u hu => hs u (List.mem_append_left _ (List.mem_reverse.mp hu))
  have hsz : z_gs zs := fun u hu => hs u (List.mem_append_right _ hu)
  have hin := z_A_in (cA := cA) (M := M) hinA hA hS
  obtain ⟨-, hMet⟩ := hC y Y a.reverse M _ hmt h hsa hm
  refine zs_run (rest := zs.map (z_val ad adK)) (va_runS (As := a.reverse.map (z_val ad adK)) (n := na) (own := own) (Ts := z_tb) ⟨hx, hb, hml, hown, hts⟩ (hMet H.size) ⟨callB_of (bytes := Y.2.1) (maxL := Y.2.2.1) (ret := Y.2.2.2.1) na hts (z_goodIn hw4) rfl r1 r2 (hts _ hw3) (hts _ hw1) hdesc ⟨r3, by omega⟩, hts _ hw2⟩ ⟨z_B_blind, fun U hU hW => ⟨rfl, z_B_at hK hstr hVS hnest hS hP hin U hU hW⟩⟩ rfl ?_ hv.1 ?_ ?_ hd ⟨Nat.zero_le _, Nat.zero_le _⟩) hS (fun q _ hq => hin q hq) hin (fun r M' H1 locs1 hq hgr hm' hP1 hS1 => ?_)
  · rw [List.length_map, List.length_reverse]; exact hna
  · show (a ++ zs).map (z_val ad adK) = (a.reverse.map (z_val ad adK)).reverse ++ zs.map (z_val ad adK)
    rw [List.map_append, List.map_reverse, List.reverse_reverse]
  · exact lv_room (by rw [z_cats_sum]; exact hc8)
  · rw [z_map_opt]
    refine hq hl hg (fun u hu => ?_) hm' H1 locs1 ls hP1 hS1 hv
    rcases List.mem_append.mp hu with h1 | h1
    · exact hgr u (by simpa using h1)
    · exact hsz u h1
theorem zs_callSN {rm : Room} {C : Nat → List zU → zM → (Option zU → zM → Prop) → Prop} (cx : z_cx p R s m args c cc nL own D cA ad adK A) (cy : z_cy R s adK adV A rm) (hC : z_HC l D cA ad adK adV rm C) {y idx na : Nat} {Y : zY} {a : List zU} (hmt : z_mt[y]? = some Y) (hml9 : Y.2.2.1 ≤ 41)
    (hd : decode cc pc = .ok (.invokestatic idx, 3)) (hna : a.length = na) (hc8 : z_cats zs ≤ 8) {host : String} (hw1 : Cond.methodLinkNest own idx Y.1 host ∈ lw_tbl) (hw2 : Cond.static Y.1 ∈ z_tb) (hw3 : Cond.initialized Y.1.cls ∈ z_tb) (hw4 : Cond.code Y.1 Y.2.1 Y.2.2.1 Y.2.2.2.1 ∈ z_tb) (hdesc : Y.1.cls ≠ "java/lang/invoke/MethodHandle" ∧ Y.1.cls ≠ "java/lang/invoke/VarHandle" ∧ (parseMethodDescriptor Y.1.desc).map (fun d => d.parameters.length) = some na)
    (h : C y a.reverse M (fun r M => z_X p l e R s m args below meth c nL D cA ad adK A Qj (pc + 3) zl (r.toList ++ zs) M)) : z_X p l e R s m args below meth c nL D cA ad adK A Qj pc zl (a ++ zs) M := by
  obtain ⟨hx, hb, hml, hown, hts, hK, hinj, hinA, hstr, hroom⟩ := cx
  obtain ⟨hVS, hA, r1, r2, r3, r4, hnest⟩ := cy
  intro hl hg hs hm H locs ls hP hS hv
  have hsa : z_gs a.reverse := fun u hu => hs u (List.mem_append_left _ (List.mem_reverse.mp hu))
  have hsz : z_gs zs := fun u hu => hs u (List.mem_append_right _ hu)
  have hin := z_A_in (cA := cA) (M := M) hinA hA hS
  obtain ⟨-, hMet⟩ := hC y Y a.reverse M _ hmt h hsa hm
  have hl1 : va_Nw (.methodLinkNest own idx Y.1 host) s := hnest.1 _ _ _ _ hw1
  refine zs_run (rest := zs.map (z_val ad adK)) (va_runSN (As := a.reverse.map (z_val ad adK)) (n := na) (own := own) (Ts := z_tb) ⟨hx, hb, hml, hown, hts⟩ (hMet H.size) ⟨va_cnB (bytes := Y.2.1) (maxL := Y.2.2.1) (ret := Y.2.2.2.1) na hts (z_goodIn hw4) rfl r1 r2 hl1 (hts _ hw3) hdesc ⟨r3, by omega⟩, hts _ hw2, trivial⟩ ⟨z_B_blind, fun U hU hW => ⟨rfl, z_B_at hK hstr hVS hnest hS hP hin U hU hW⟩⟩ rfl ?_ hv.1 ?_ ?_ hd ⟨Nat.zero_le _, Nat.zero_le _⟩) hS (fun q _ hq => hin q hq) hin (fun r M' H1 locs1 hq hgr hm' hP1 hS1 => ?_)
  · rw [List.length_map, List.length_reverse]; exact hna
  · show (a ++ zs).map (z_val ad adK) = (a.reverse.map (z_val ad adK)).reverse ++ zs.map (z_val ad adK)
    rw [List.map_append, List.map_reverse, List.reverse_reverse]
  · exact lv_room (by rw [z_cats_sum]; exact hc8)
  · rw [z_map_opt]
    refine hq hl hg (fun u hu => ?_) hm' H1 locs1 ls hP1 hS1 hv
    rcases List.mem_append.mp hu with h1 | h1
    · exact hgr u (by simpa using h1)
    · exact hsz u h1
/-- a receiver: an object of the class, or a literal -/
theorem z_recv {H : Heap} {locs : List Loc} {k : zD} {b r : Nat} {C : String} (hK : va_K D z_cl (z_ty cA) s) (hP : va_P D z_cl (z_w ad cA M) H) (hVS : vk_S 7 z_sl z_sb adK adV A s s.heap) (hS : va_S A s.heap H locs) (hg : z_good (z_r k b)) (hkr : k.1 = r) (hr : (r < 12 ∧ z_cl[r]?.map (fun q => q.1) = some C) ∨ (r = 104 ∧ C = "java/lang/String")) : ∃ cell : Cell, H[cond (Nat.beq k.1 104) (adK b) (ad b)]? = some cell ∧ cell.vm.isStatics = false ∧ s.vm.findClass C = some cell.cls := by
  rcases hr with ⟨h1, h2⟩ | ⟨h1, h2⟩
  · have hkt := z_good_ref hg (show k.1 ≠ 104 by omega)
    rw [show Nat.beq k.1 104 = false from z_beqf (by omega)]
    have ha := z_w_at (ad := ad) (cA := cA) (M := M) hkt
    rw [z_e_obj (by omega)] at ha
    cases hq : z_cl[r]? with
    | none => rw [hq] at h2; cases h2
    | some q =>
      rw [hq] at h2
      cases h2
      exact va_recv hK hP (by rw [hkr]; exact hq) ha
  · rcases hg with hg | hg
    · rw [show k.1 = 104 from hg.1, h2]
      exact vk_recv (adK := adK) (adV := adV) hVS hg.2.1 hS
    · exact absurd (by rw [hkr, h1]) hg.1
theorem zs_callV {rm : Room} {C : Nat → List zU → zM → (Option zU → zM → Prop) → Prop} (cx : z_cx p R s m args c cc nL own D cA ad adK A) (cy : z_cy R s adK adV A rm) (hC : z_HC l D cA ad adK adV rm C) {y idx na r : Nat} {Y : zY} {a : List zU} (hmt : z_mt[y]? = some Y) (hml9 : Y.2.2.1 ≤ 41) (hrv : z_rv.getD y 99 = r) (hr9 : r ≠ 99) (hrc : (r < 12 ∧ z_cl[r]?.map (fun q => q.1) = some Y.1.cls) ∨ (r = 104 ∧ Y.1.cls = "java/lang/String"))
    (hd : decode cc pc = .ok (.invokevirtual idx, 3)) (hna : a.length = na + 1) (hc8 : z_cats zs ≤ 8) (hw1 : Cond.methodLink own idx Y.1 ∈ z_tb) (hw2 : Cond.instanceMethod Y.1 ∈ z_tb) (hw5 : Cond.selects Y.1.cls Y.1 Y.1 ∈ z_tb) (hw3 : Cond.initialized Y.1.cls ∈ z_tb) (hw4 : Cond.code Y.1 Y.2.1 Y.2.2.1 Y.2.2.2.1 ∈ z_tb) (hdesc : Y.1.cls ≠ "java/lang/invoke/MethodHandle" ∧ Y.1.cls ≠ "java/lang/invoke/VarHandle" ∧ (parseMethodDescriptor Y.1.desc).map (fun d => d.parameters.length) = some na)
    (h : C y a.reverse M (fun r M => z_X p l e R s m args below meth c nL D cA ad adK A Qj (pc + 3) zl (r.toList ++ zs) M)) : z_X p l e R s m args below meth c nL D cA ad adK A Qj pc zl (a ++ zs) M := by
  obtain ⟨hx, hb, hml, hown, hts, hK, hinj, hinA, hstr, hroom⟩ := cx
  obtain ⟨hVS, hA, r1, r2, r3, r4, hnest⟩ := cy
  intro hl hg hs hm H locs ls hP hS hv
  have hsa : z_gs a.reverse := fun u hu => hs u (List.mem_append_left _ (List.mem_reverse.mp hu))
  have hsz : z_gs zs := fun u hu => hs u (List.mem_append_right _ hu)
  have hin := z_A_in (cA := cA) (M := M) hinA hA hS
  obtain ⟨hrk, hMet⟩ := hC y Y a.reverse M _ hmt h hsa hm
  rw [hrv] at hrk
  unfold z_rck at hrk
  rw [z_beqf hr9] at hrk
  cases hrev : a.reverse with
  | nil => rw [hrev] at hrk; cases hrk
  | cons u as =>
    rw [hrev] at hrk hMet
    have hul : z_good u := hsa u (by rw [hrev]; exact List.mem_cons_self)
    have hlen : as.length = na := by
      have h1 := congrArg List.length hrev
      rw [List.length_reverse, List.length_cons] at h1
      omega
    have haa : a = as.reverse ++ [u] := by
      have h1 := congrArg List.reverse hrev
      rw [List.reverse_reverse, List.reverse_cons] at h1
      exact h1
    rcases u with x | x | ⟨k, b⟩
    · cases hrk
    · cases hrk
    · have hkr : k.1 = r := Nat.eq_of_beq_eq_true hrk
      have hrecv := z_recv hK hP hVS hS hul hkr hrc
      refine zs_run (rest := zs.map (z_val ad adK)) (va_runV (As := as.map (z_val ad adK)) (b := cond (Nat.beq k.1 104) (adK b) (ad b)) (n := na) (own := own) (C := Y.1.cls) (Ts := z_tb) ⟨hx, hb, hml, hown, hts⟩ (hMet H.size) ⟨callB_of (bytes := Y.2.1) (maxL := Y.2.2.1) (ret := Y.2.2.2.1) na hts (z_goodIn hw4) rfl r1 r2 (hts _ hw3) (hts _ hw1) hdesc ⟨r3, by omega⟩, hts _ hw2, hts _ hw5⟩ ⟨z_B_blind, hrecv, fun U hU hW => ⟨rfl, z_B_at hK hstr hVS hnest hS hP hin U hU hW⟩⟩ rfl ?_ hv.1 ?_ ?_ hd ⟨Nat.zero_le _, Nat.zero_le _⟩) hS (fun q _ hq => hin q hq) hin (fun r M' H1 locs1 hq hgr hm' hP1 hS1 => ?_)
      · rw [List.length_map]; exact hlen
      · show (a ++ zs).map (z_val ad adK) = (as.map (z_val ad adK)).reverse ++ z_val ad adK (.inr (.inr (k, b))) :: zs.map (z_val ad adK)
        rw [haa, List.map_append, List.map_append, List.map_reverse, List.append_assoc]
        rfl
      · exact lv_room (by rw [z_cats_sum]; exact hc8)
      · rw [z_map_opt]
        refine hq hl hg (fun u hu => ?_) hm' H1 locs1 ls hP1 hS1 hv
        rcases List.mem_append.mp hu with h1 | h1
        · exact hgr u (by simpa using h1)
        · exact hsz u h1
theorem zs_iret (cx : z_cx p R s m args c cc nL own D cA ad adK A) {a : Int} {Q : Option zU → zM → Prop} (hr : meth.sig.returnType = some .int) (hlocks : meth.locks = false) (hd : decode cc pc = .ok (.ireturn, 1)) (h : Q (some (z_i a)) M) : z_X p l e R s m args below meth c nL D cA ad adK A (MQ below (z_Qg D cA ad adK Q A) args s 0 0 A) pc zl [z_i a] M := by
  obtain ⟨hx, hb, hml, hown, hts, hK, hinj, hinA, hstr, hroom⟩ := cx
  intro hl hg hs hm H locs ls hP hS hv
  exact W.iret hx hb hr (fun t ht _ => ⟨⟨some (z_i a), M, rfl, h, fun u hu => by cases hu; exact (z_gs_c.mp hs).1, hm, by rw [ht]; exact hP⟩, hS.F ht⟩) hS.2.2 hd hlocks
theorem zs_zret (cx : z_cx p R s m args c cc nL own D cA ad adK A) {a : Int} {Q : Option zU → zM → Prop} (hr : meth.sig.returnType = some .boolean) (hlocks : meth.locks = false) (hd : decode cc pc = .ok (.ireturn, 1)) (h1 : a = 0 ∨ a = 1) (h : Q (some (z_i a)) M) : z_X p l e R s m args below meth c nL D cA ad adK A (MQ below (z_Qg D cA ad adK Q A) args s 0 0 A) pc zl [z_i a] M := by
  obtain ⟨hx, hb, hml, hown, hts, hK, hinj, hinA, hstr, hroom⟩ := cx
  intro hl hg hs hm H locs ls hP hS hv
  exact W.zret hx hb hr (by rcases h1 with rfl | rfl <;> rfl) (fun t ht _ => ⟨⟨some (z_i a), M, rfl, h, fun u hu => by cases hu; exact (z_gs_c.mp hs).1, hm, by rw [ht]; exact hP⟩, hS.F ht⟩) hS.2.2 hd hlocks
theorem zs_lret (cx : z_cx p R s m args c cc nL own D cA ad adK A) {a : Int} {Q : Option zU → zM → Prop} (hr : meth.sig.returnType = some .long) (hlocks : meth.locks = false) (hd : decode cc pc = .ok (.lreturn, 1)) (h : Q (some (z_l a)) M) : z_X p l e R s m args below meth c nL D cA ad adK A (MQ below (z_Qg D cA ad adK Q A) args s 0 0 A) pc zl [z_l a] M := by
  obtain ⟨hx, hb, hml, hown, hts, hK, hinj, hinA, hstr, hroom⟩ := cx
  intro hl hg hs hm H locs ls hP hS hv
  exact W.lret hx hb hr (fun t ht _ => ⟨⟨some (z_l a), M, rfl, h, fun u hu => by cases hu; exact (z_gs_c.mp hs).1, hm, by rw [ht]; exact hP⟩, hS.F ht⟩) hS.2.2 hd hlocks
theorem zs_vret (cx : z_cx p R s m args c cc nL own D cA ad adK A) {Q : Option zU → zM → Prop} (hr : meth.sig.returnType = none) (hlocks : meth.locks = false) (hd : decode cc pc = .ok (.return_, 1)) (h : Q none M) : z_X p l e R s m args below meth c nL D cA ad adK A (MQ below (z_Qg D cA ad adK Q A) args s 0 0 A) pc zl [] M := by
  obtain ⟨hx, hb, hml, hown, hts, hK, hinj, hinA, hstr, hroom⟩ := cx
  intro hl hg hs hm H locs ls hP hS hv
  exact W.vret hx hb hr (fun t ht _ => ⟨⟨none, M, rfl, h, fun u hu => (by cases hu), hm, by rw [ht]; exact hP⟩, hS.F ht⟩) hS.2.2 hd hlocks
end
