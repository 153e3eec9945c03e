/-! THE MACHINE FOLLOWS z_step: a row an instruction (written by gen_step.py) -/
def z_ty (cA : Nat → ClassId) : List (ClassId × FieldType) := [(cA 0, .int), (cA 1, .long), (cA 2, .boolean), (cA 3, .object "WaterByLetters$Town")]
/-- what holds in a method's body -/
def z_cx (p : Program) (R : Room) (s : State) (m : MethodId) (args : Array Value) (c : Code) (cc : ByteArray) (nL : Nat) (own : String) (D : va_G) (cA : Nat → ClassId) (ad adK : Nat → Nat) (A : Nat → Prop) : Prop :=
  p.tables.exec = Jvm.exec ∧ c.code = cc ∧ c.maxLocals = nL ∧ s.vm.findClass own = some m.cls ∧ (∀ w ∈ z_tb, w.before args s = true) ∧ va_K D z_cl (z_ty cA) s ∧ (∀ i j, i < z_kt.length → j < z_kt.length → ad i = ad j → i = j) ∧ (∀ i, i < z_kt.length → A (ad i)) ∧ (∀ j q, z_st[j]? = some q → vk_R q.1 q.2.1 q.2.2 (adK j) s) ∧ (1 ≤ R.frames ∧ 60 ≤ R.locals)
def z_X (p : Program) (l : Launch) (e : Env) (R : Room) (s : State) (m : MethodId) (args : Array Value) (below : List Frame) (meth : Method) (c : Code) (nL : Nat) (D : va_G) (cA : Nat → ClassId) (ad adK : Nat → Nat) (A : Nat → Prop) (Qj : State → Prop) (pc : Nat) (zl : List zV) (zs : List zU) (M : zM) : Prop :=
  zl.length = nL → z_gl zl → z_gs zs → z_mok M → ∀ (H : Heap) (locs : List Loc) (ls : Array Slot), va_P D z_cl (z_w ad cA M) H → va_S A s.heap H locs → lv_has ls nL (z_lv ad adK 0 zl) → W p l e R s m args below meth c H locs 0 0 Qj (F0 m pc ls (zs.map (z_val ad adK)))
section
variable {p : Program} {l : Launch} {e : Env} {R : Room} {s : State} {m : MethodId} {args : Array Value} {below : List Frame} {meth : Method} {c : Code} {cc : ByteArray} {nL : Nat} {own : String} {D : va_G} {cA : Nat → ClassId} {ad adK : Nat → Nat} {A : Nat → Prop} {Qj : State → Prop} {pc : Nat} {zl : List zV} {zs : List zU} {M : zM}
theorem zs_iconst (cx : z_cx p R s m args c cc nL own D cA ad adK A) {k v : Int} (hd : decode cc pc = .ok (.iconst k, 1)) (hv0 : k = v) (hr : z_ri v) (h : z_X p l e R s m args below meth c nL D cA ad adK A Qj (pc + 1) zl (z_i v :: zs) M) : z_X p l e R s m args below meth c nL D cA ad adK A Qj pc zl zs M := by
  obtain ⟨hx, hb, hml, hown, hts, hK, hinj, hinA, hstr, hroom⟩ := cx
  intro hl hg hs hm H locs ls hP hS hv
  exact lv_iconst hx hb hd (by rw [hv0]) (h hl hg (z_gs_c.mpr ⟨hr, hs⟩) hm H locs ls hP hS hv)
theorem zs_i8 {k : Int} (h1 : -128 ≤ k) (h2 : k < 128) : (Int8.ofInt k).toInt32 = Int32.ofInt k := by
  apply Int32.toInt_inj.mp
  rw [zn_t (by unfold z_ri; omega), Int8.toInt_toInt32, Int8.toInt_ofInt_of_le (by omega) (by omega)]
theorem zs_i16 {k : Int} (h1 : -32768 ≤ k) (h2 : k < 32768) : (Int16.ofInt k).toInt32 = Int32.ofInt k := by
  apply Int32.toInt_inj.mp
  rw [zn_t (by unfold z_ri; omega), Int16.toInt_toInt32, Int16.toInt_ofInt_of_le (by omega) (by omega)]
theorem zs_bipush (cx : z_cx p R s m args c cc nL own D cA ad adK A) {k v : Int} (hd : decode cc pc = .ok (.bipush k, 2)) (hv0 : k = v) (hr : -128 ≤ k ∧ k < 128) (h : z_X p l e R s m args below meth c nL D cA ad adK A Qj (pc + 2) zl (z_i v :: zs) M) : z_X p l e R s m args below meth c nL D cA ad adK A Qj pc zl zs M := by
  obtain ⟨hx, hb, hml, hown, hts, hK, hinj, hinA, hstr, hroom⟩ := cx
  intro hl hg hs hm H locs ls hP hS hv
  subst hv0
  exact lv_bipush hx hb hd (zs_i8 hr.1 hr.2) (h hl hg (z_gs_c.mpr ⟨by show z_ri k; unfold z_ri; omega, hs⟩) hm H locs ls hP hS hv)
theorem zs_sipush (cx : z_cx p R s m args c cc nL own D cA ad adK A) {k v : Int} (hd : decode cc pc = .ok (.sipush k, 3)) (hv0 : k = v) (hr : -32768 ≤ k ∧ k < 32768) (h : z_X p l e R s m args below meth c nL D cA ad adK A Qj (pc + 3) zl (z_i v :: zs) M) : z_X p l e R s m args below meth c nL D cA ad adK A Qj pc zl zs M := by
  obtain ⟨hx, hb, hml, hown, hts, hK, hinj, hinA, hstr, hroom⟩ := cx
  intro hl hg hs hm H locs ls hP hS hv
  subst hv0
  exact lv_sipush hx hb hd (zs_i16 hr.1 hr.2) (h hl hg (z_gs_c.mpr ⟨by show z_ri k; unfold z_ri; omega, hs⟩) hm H locs ls hP hS hv)
theorem zs_lconst (cx : z_cx p R s m args c cc nL own D cA ad adK A) {k : Fin 2} {v : Int} (hd : decode cc pc = .ok (.lconst k, 1)) (hv0 : (k.val : Int) = v) (h : z_X p l e R s m args below meth c nL D cA ad adK A Qj (pc + 1) zl (z_l v :: zs) M) : z_X p l e R s m args below meth c nL D cA ad adK A Qj pc zl zs M := by
  obtain ⟨hx, hb, hml, hown, hts, hK, hinj, hinA, hstr, hroom⟩ := cx
  intro hl hg hs hm H locs ls hP hS hv
  have hk := k.isLt
  refine lv_lconst hx hb hd (v := Int64.ofInt v) ?_ (h hl hg (z_gs_c.mpr ⟨by show z_rl v; unfold z_rl; omega, hs⟩) hm H locs ls hP hS hv)
  rw [← hv0]
  exact (Int64.ofInt_eq_ofNat).symm
theorem zs_ldc2 (cx : z_cx p R s m args c cc nL own D cA ad adK A) {k : Nat} {v : Int} (hd : decode cc pc = .ok (.ldc2_w k, 3)) (hr : z_rl v) (hw : Cond.constantLong own k (Int64.ofInt v) ∈ z_tb) (h : z_X p l e R s m args below meth c nL D cA ad adK A Qj (pc + 3) zl (z_l v :: zs) M) : z_X p l e R s m args below meth c nL D cA ad adK A Qj pc zl zs M := by
  obtain ⟨hx, hb, hml, hown, hts, hK, hinj, hinA, hstr, hroom⟩ := cx
  intro hl hg hs hm H locs ls hP hS hv
  exact lv_ldc2 hx hb hown (hts _ hw) hd (h hl hg (z_gs_c.mpr ⟨hr, hs⟩) hm H locs ls hP hS hv)
theorem zs_ldc (cx : z_cx p R s m args c cc nL own D cA ad adK A) {k : Nat} {v : Int} (hd : decode cc pc = .ok (.ldc k, 2)) (hr : z_ri v) (hw : Cond.constant own k (Int32.ofInt v) ∈ z_tb) (h : z_X p l e R s m args below meth c nL D cA ad adK A Qj (pc + 2) zl (z_i v :: zs) M) : z_X p l e R s m args below meth c nL D cA ad adK A Qj pc zl zs M := by
  obtain ⟨hx, hb, hml, hown, hts, hK, hinj, hinA, hstr, hroom⟩ := cx
  intro hl hg hs hm H locs ls hP hS hv
  exact lv_ldc hx hb hown (hts _ hw) hd (h hl hg (z_gs_c.mpr ⟨hr, hs⟩) hm H locs ls hP hS hv)
theorem zs_ldcw (cx : z_cx p R s m args c cc nL own D cA ad adK A) {k : Nat} {v : Int} (hd : decode cc pc = .ok (.ldc_w k, 3)) (hr : z_ri v) (hw : Cond.constant own k (Int32.ofInt v) ∈ z_tb) (h : z_X p l e R s m args below meth c nL D cA ad adK A Qj (pc + 3) zl (z_i v :: zs) M) : z_X p l e R s m args below meth c nL D cA ad adK A Qj pc zl zs M := by
  obtain ⟨hx, hb, hml, hown, hts, hK, hinj, hinA, hstr, hroom⟩ := cx
  intro hl hg hs hm H locs ls hP hS hv
  exact lv_ldcw hx hb hown (hts _ hw) hd (h hl hg (z_gs_c.mpr ⟨hr, hs⟩) hm H locs ls hP hS hv)
theorem zs_ldcS (cx : z_cx p R s m args c cc nL own D cA ad adK A) {k j len : Nat} {tx : String} (hd : decode cc pc = .ok (.ldc k, 2)) (hj : z_st[j]? = some (own, k, tx)) (hlen : j < 7 ∧ z_sl.getD j 0 = len) (h : z_X p l e R s m args below meth c nL D cA ad adK A Qj (pc + 2) zl (z_r (104, (len : Int)) j :: zs) M) : z_X p l e R s m args below meth c nL D cA ad adK A Qj pc zl zs M := by
  obtain ⟨hx, hb, hml, hown, hts, hK, hinj, hinA, hstr, hroom⟩ := cx
  intro hl hg hs hm H locs ls hP hS hv
  exact va_ldcS hx hb hown (hstr j _ hj) hd (h hl hg (z_gs_c.mpr ⟨Or.inl ⟨rfl, hlen.1, by rw [hlen.2]⟩, hs⟩) hm H locs ls hP hS hv)
theorem zs_ldcwS0 {H : Heap} {locs : List Loc} {cells slots : Nat} {Q : State → Prop} {ls : Array Slot} {rest : List Value} (hexec : p.tables.exec = Jvm.exec) (hb : c.code = cc) {own tx : String} {index q : Nat} (hown : s.vm.findClass own = some m.cls) (hZ : vk_R own index tx q s) (hdg : decode cc pc = .ok (.ldc_w index, 3))
    (k : W p l e R s m args below meth c H locs cells slots Q (F0 m (pc + 3) ls (.ref q :: rest))) : W p l e R s m args below meth c H locs cells slots Q (F0 m pc ls rest) := by
  intro T hT X
  obtain ⟨t, a1, b1⟩ := k T hT X
  refine ⟨t, ?_, b1⟩
  obtain ⟨k, cf, i, a', hk, hcf, hcp, -, hr, hev'⟩ := Cond.stringRef_spec hown hZ.1
  cases hZ.2.symm.trans hev'
  obtain ⟨k', hk', he⟩ := X.warmed.alike.2.2 _ _ hk
  have hr' : k'.resolved[index]? = some (some (.string q)) := by
    rcases X.warmed.entry hk hk' index with h | ⟨h, -⟩
    · rw [h]; exact hr
    · rw [hr] at h; cases h
  subst hb
  jvm_step X.here [hexec, hdg, ldc_w.wp_string (e := e) (s := T) (f := F0 m pc ls rest) X.here.top hk' (by rw [he]; exact hcf) hcp hr']
  exact a1
theorem zs_ldcwS (cx : z_cx p R s m args c cc nL own D cA ad adK A) {k j len : Nat} {tx : String} (hd : decode cc pc = .ok (.ldc_w k, 3)) (hj : z_st[j]? = some (own, k, tx)) (hlen : j < 7 ∧ z_sl.getD j 0 = len) (h : z_X p l e R s m args below meth c nL D cA ad adK A Qj (pc + 3) zl (z_r (104, (len : Int)) j :: zs) M) : z_X p l e R s m args below meth c nL D cA ad adK A Qj pc zl zs M := by
  obtain ⟨hx, hb, hml, hown, hts, hK, hinj, hinA, hstr, hroom⟩ := cx
  intro hl hg hs hm H locs ls hP hS hv
  exact zs_ldcwS0 hx hb hown (hstr j _ hj) hd (h hl hg (z_gs_c.mpr ⟨Or.inl ⟨rfl, hlen.1, by rw [hlen.2]⟩, hs⟩) hm H locs ls hP hS hv)
theorem zs_iload (cx : z_cx p R s m args c cc nL own D cA ad adK A) {k : Nat} {a : Int} (hd : decode cc pc = .ok (.iload k, 2)) (hk : z_get zl k = some (Sum.inl a)) (h : z_X p l e R s m args below meth c nL D cA ad adK A Qj (pc + 2) zl (z_i a :: zs) M) : z_X p l e R s m args below meth c nL D cA ad adK A Qj pc zl zs M := by
  obtain ⟨hx, hb, hml, hown, hts, hK, hinj, hinA, hstr, hroom⟩ := cx
  intro hl hg hs hm H locs ls hP hS hv
  have hmem := z_lv_get (ad := ad) (adK := adK) zl 0 k _ hk
  rw [Nat.zero_add] at hmem
  exact lv_iload hx hb hd (hv.2.2 _ hmem) (h hl hg (z_gs_c.mpr ⟨hg _ (z_get_mem zl k _ hk), hs⟩) hm H locs ls hP hS hv)
theorem zs_iload_n (cx : z_cx p R s m args c cc nL own D cA ad adK A) {k : Fin 4} {a : Int} (hd : decode cc pc = .ok (.iload_n k, 1)) (hk : z_get zl k.val = some (Sum.inl a)) (h : z_X p l e R s m args below meth c nL D cA ad adK A Qj (pc + 1) zl (z_i a :: zs) M) : z_X p l e R s m args below meth c nL D cA ad adK A Qj pc zl zs M := by
  obtain ⟨hx, hb, hml, hown, hts, hK, hinj, hinA, hstr, hroom⟩ := cx
  intro hl hg hs hm H locs ls hP hS hv
  have hmem := z_lv_get (ad := ad) (adK := adK) zl 0 k.val _ hk
  rw [Nat.zero_add] at hmem
  exact lv_iload_n hx hb hd rfl (hv.2.2 _ hmem) (h hl hg (z_gs_c.mpr ⟨hg _ (z_get_mem zl k.val _ hk), hs⟩) hm H locs ls hP hS hv)
theorem zs_lload (cx : z_cx p R s m args c cc nL own D cA ad adK A) {k : Nat} {a : Int} (hd : decode cc pc = .ok (.lload k, 2)) (hk : z_get zl k = some (Sum.inr (.inl a))) (h : z_X p l e R s m args below meth c nL D cA ad adK A Qj (pc + 2) zl (z_l a :: zs) M) : z_X p l e R s m args below meth c nL D cA ad adK A Qj pc zl zs M := by
  obtain ⟨hx, hb, hml, hown, hts, hK, hinj, hinA, hstr, hroom⟩ := cx
  intro hl hg hs hm H locs ls hP hS hv
  have hmem := z_lv_get (ad := ad) (adK := adK) zl 0 k _ hk
  rw [Nat.zero_add] at hmem
  exact lv_lload hx hb hd (hv.2.2 _ hmem) (h hl hg (z_gs_c.mpr ⟨hg _ (z_get_mem zl k _ hk), hs⟩) hm H locs ls hP hS hv)
theorem zs_lload_n (cx : z_cx p R s m args c cc nL own D cA ad adK A) {k : Fin 4} {a : Int} (hd : decode cc pc = .ok (.lload_n k, 1)) (hk : z_get zl k.val = some (Sum.inr (.inl a))) (h : z_X p l e R s m args below meth c nL D cA ad adK A Qj (pc + 1) zl (z_l a :: zs) M) : z_X p l e R s m args below meth c nL D cA ad adK A Qj pc zl zs M := by
  obtain ⟨hx, hb, hml, hown, hts, hK, hinj, hinA, hstr, hroom⟩ := cx
  intro hl hg hs hm H locs ls hP hS hv
  have hmem := z_lv_get (ad := ad) (adK := adK) zl 0 k.val _ hk
  rw [Nat.zero_add] at hmem
  exact lv_lload_n hx hb hd rfl (hv.2.2 _ hmem) (h hl hg (z_gs_c.mpr ⟨hg _ (z_get_mem zl k.val _ hk), hs⟩) hm H locs ls hP hS hv)
theorem zs_aload (cx : z_cx p R s m args c cc nL own D cA ad adK A) {k : Nat} {a : zD × Nat} (hd : decode cc pc = .ok (.aload k, 2)) (hk : z_get zl k = some (Sum.inr (.inr a))) (h : z_X p l e R s m args below meth c nL D cA ad adK A Qj (pc + 2) zl (.inr (.inr a) :: zs) M) : z_X p l e R s m args below meth c nL D cA ad adK A Qj pc zl zs M := by
  obtain ⟨hx, hb, hml, hown, hts, hK, hinj, hinA, hstr, hroom⟩ := cx
  intro hl hg hs hm H locs ls hP hS hv
  have hmem := z_lv_get (ad := ad) (adK := adK) zl 0 k _ hk
  rw [Nat.zero_add] at hmem
  exact lv_aload hx hb hd (hv.2.2 _ hmem) (h hl hg (z_gs_c.mpr ⟨hg _ (z_get_mem zl k _ hk), hs⟩) hm H locs ls hP hS hv)
theorem zs_aload_n (cx : z_cx p R s m args c cc nL own D cA ad adK A) {k : Fin 4} {a : zD × Nat} (hd : decode cc pc = .ok (.aload_n k, 1)) (hk : z_get zl k.val = some (Sum.inr (.inr a))) (h : z_X p l e R s m args below meth c nL D cA ad adK A Qj (pc + 1) zl (.inr (.inr a) :: zs) M) : z_X p l e R s m args below meth c nL D cA ad adK A Qj pc zl zs M := by
  obtain ⟨hx, hb, hml, hown, hts, hK, hinj, hinA, hstr, hroom⟩ := cx
  intro hl hg hs hm H locs ls hP hS hv
  have hmem := z_lv_get (ad := ad) (adK := adK) zl 0 k.val _ hk
  rw [Nat.zero_add] at hmem
  exact lv_aload_n hx hb hd rfl (hv.2.2 _ hmem) (h hl hg (z_gs_c.mpr ⟨hg _ (z_get_mem zl k.val _ hk), hs⟩) hm H locs ls hP hS hv)
theorem zs_st1 {ls : Array Slot} {k : Nat} {u : zU} (hu : z_cat u = 1) (h : lv_has ls nL ((k, z_val ad adK u) :: (z_lv ad adK 0 zl).filter (fun q => !(q.1 == k) && !(q.1 + 1 == k && q.2.category == 2)))) : lv_has ls nL (z_lv ad adK 0 (z_put zl k u)) := by
  refine z_lv_weak h (fun q hq => ?_)
  rcases z_lv_put u zl 0 k q hq with h1 | ⟨h1, h2, h3, -⟩
  · rw [h1, Nat.zero_add]; exact List.mem_cons_self
  · rw [Nat.zero_add] at h2 h3
    refine List.mem_cons_of_mem _ (List.mem_filter.mpr ⟨h1, ?_⟩)
    simp only [Bool.and_eq_true, Bool.not_eq_true', beq_eq_false_iff_ne, Bool.and_eq_false_iff, ne_eq]
    refine ⟨h2, ?_⟩
    by_cases hc : q.1 + 1 = k
    · exact Or.inr (fun c => h3 ⟨hc, c⟩)
    · exact Or.inl hc
theorem zs_st2 {ls : Array Slot} {k : Nat} {u : zU} (hu : z_cat u = 2) (h : lv_has ls nL ((k, z_val ad adK u) :: (z_lv ad adK 0 zl).filter (fun q => !(q.1 == k) && (!(q.1 == k + 1) && !(q.1 + 1 == k && q.2.category == 2))))) : lv_has ls nL (z_lv ad adK 0 (z_put zl k u)) := by
  refine z_lv_weak h (fun q hq => ?_)
  rcases z_lv_put u zl 0 k q hq with h1 | ⟨h1, h2, h3, h4⟩
  · rw [h1, Nat.zero_add]; exact List.mem_cons_self
  · have h4 := h4 hu
    rw [Nat.zero_add] at h2 h3 h4
    refine List.mem_cons_of_mem _ (List.mem_filter.mpr ⟨h1, ?_⟩)
    simp only [Bool.and_eq_true, Bool.not_eq_true', beq_eq_false_iff_ne, Bool.and_eq_false_iff, ne_eq]
    refine ⟨h2, h4, ?_⟩
    by_cases hc : q.1 + 1 = k
    · exact Or.inr (fun c => h3 ⟨hc, c⟩)
    · exact Or.inl hc
theorem zs_istore (cx : z_cx p R s m args c cc nL own D cA ad adK A) {k : Nat} {a : Int} (hd : decode cc pc = .ok (.istore k, 2)) (hk : k < nL) (h : z_X p l e R s m args below meth c nL D cA ad adK A Qj (pc + 2) (z_put zl k (z_i a)) zs M) : z_X p l e R s m args below meth c nL D cA ad adK A Qj pc zl (z_i a :: zs) M := by
  obtain ⟨hx, hb, hml, hown, hts, hK, hinj, hinA, hstr, hroom⟩ := cx
  intro hl hg hs hm H locs ls hP hS hv
  obtain ⟨h1, h2⟩ := z_gs_c.mp hs
  exact lv_istore hx hb hd hv hk rfl (fun ls' hv' => h (by rw [z_put_len]; exact hl) (z_gl_put hg h1) h2 hm H locs ls' hP hS (zs_st1 (u := z_i a) rfl hv'))
theorem zs_istore_n (cx : z_cx p R s m args c cc nL own D cA ad adK A) {k : Fin 4} {a : Int} (hd : decode cc pc = .ok (.istore_n k, 1)) (hk : k.val < nL) (h : z_X p l e R s m args below meth c nL D cA ad adK A Qj (pc + 1) (z_put zl k.val (z_i a)) zs M) : z_X p l e R s m args below meth c nL D cA ad adK A Qj pc zl (z_i a :: zs) M := by
  obtain ⟨hx, hb, hml, hown, hts, hK, hinj, hinA, hstr, hroom⟩ := cx
  intro hl hg hs hm H locs ls hP hS hv
  obtain ⟨h1, h2⟩ := z_gs_c.mp hs
  exact lv_istore_n hx hb hd rfl hv hk rfl (fun ls' hv' => h (by rw [z_put_len]; exact hl) (z_gl_put hg h1) h2 hm H locs ls' hP hS (zs_st1 (u := z_i a) rfl hv'))
theorem zs_lstore (cx : z_cx p R s m args c cc nL own D cA ad adK A) {k : Nat} {a : Int} (hd : decode cc pc = .ok (.lstore k, 2)) (hk : k + 1 < nL) (h : z_X p l e R s m args below meth c nL D cA ad adK A Qj (pc + 2) (z_put zl k (z_l a)) zs M) : z_X p l e R s m args below meth c nL D cA ad adK A Qj pc zl (z_l a :: zs) M := by
  obtain ⟨hx, hb, hml, hown, hts, hK, hinj, hinA, hstr, hroom⟩ := cx
  intro hl hg hs hm H locs ls hP hS hv
  obtain ⟨h1, h2⟩ := z_gs_c.mp hs
  exact lv_lstore hx hb hd hv hk rfl (fun ls' hv' => h (by rw [z_put_len]; exact hl) (z_gl_put hg h1) h2 hm H locs ls' hP hS (zs_st2 (u := z_l a) rfl hv'))
theorem zs_lstore_n (cx : z_cx p R s m args c cc nL own D cA ad adK A) {k : Fin 4} {a : Int} (hd : decode cc pc = .ok (.lstore_n k, 1)) (hk : k.val + 1 < nL) (h : z_X p l e R s m args below meth c nL D cA ad adK A Qj (pc + 1) (z_put zl k.val (z_l a)) zs M) : z_X p l e R s m args below meth c nL D cA ad adK A Qj pc zl (z_l a :: zs) M := by
  obtain ⟨hx, hb, hml, hown, hts, hK, hinj, hinA, hstr, hroom⟩ := cx
  intro hl hg hs hm H locs ls hP hS hv
  obtain ⟨h1, h2⟩ := z_gs_c.mp hs
  exact lv_lstore_n hx hb hd rfl hv hk rfl (fun ls' hv' => h (by rw [z_put_len]; exact hl) (z_gl_put hg h1) h2 hm H locs ls' hP hS (zs_st2 (u := z_l a) rfl hv'))
theorem zs_iinc (cx : z_cx p R s m args c cc nL own D cA ad adK A) {k : Nat} {a v d : Int} (hd : decode cc pc = .ok (.iinc k d, 3)) (hv0 : d = v) (hk : k < nL) (ha : z_get zl k = some (Sum.inl a)) (h : z_X p l e R s m args below meth c nL D cA ad adK A Qj (pc + 3) (z_put zl k (z_i (z_wr (a + v)))) zs M) : z_X p l e R s m args below meth c nL D cA ad adK A Qj pc zl zs M := by
  obtain ⟨hx, hb, hml, hown, hts, hK, hinj, hinA, hstr, hroom⟩ := cx
  intro hl hg hs hm H locs ls hP hS hv
  subst hv0
  have hmem := z_lv_get (ad := ad) (adK := adK) zl 0 k _ ha
  rw [Nat.zero_add] at hmem
  obtain ⟨i, hi⟩ := List.getElem?_of_mem hmem
  exact lv_iinc hx hb hd hv hi (v := Int32.ofInt (z_wr (a + d))) (zn_add a d) hk rfl (fun ls' hv' => h (by rw [z_put_len]; exact hl) (z_gl_put hg (zn_wr_r _)) hs hm H locs ls' hP hS (zs_st1 (u := z_i (z_wr (a + d))) rfl hv'))
theorem zs_iadd (cx : z_cx p R s m args c cc nL own D cA ad adK A) {a b : Int}  (hd : decode cc pc = .ok (.iadd, 1)) (h : z_X p l e R s m args below meth c nL D cA ad adK A Qj (pc + 1) zl (z_i (z_wr (a + b)) :: zs) M) : z_X p l e R s m args below meth c nL D cA ad adK A Qj pc zl (z_i b :: z_i a :: zs) M := by
  obtain ⟨hx, hb, hml, hown, hts, hK, hinj, hinA, hstr, hroom⟩ := cx
  intro hl hg hs hm H locs ls hP hS hv
  obtain ⟨hb1, h2⟩ := z_gs_c.mp hs
  obtain ⟨ha1, h3⟩ := z_gs_c.mp h2
  have hb1 : z_ri b := hb1
  have ha1 : z_ri a := ha1
  have hh := h hl hg (z_gs_c.mpr ⟨zn_wr_r _, h3⟩) hm H locs ls hP hS hv
  refine lv_iadd hx hb hd ?_
  rw [zn_add]
  exact hh
theorem zs_isub (cx : z_cx p R s m args c cc nL own D cA ad adK A) {a b : Int}  (hd : decode cc pc = .ok (.isub, 1)) (h : z_X p l e R s m args below meth c nL D cA ad adK A Qj (pc + 1) zl (z_i (z_wr (a - b)) :: zs) M) : z_X p l e R s m args below meth c nL D cA ad adK A Qj pc zl (z_i b :: z_i a :: zs) M := by
  obtain ⟨hx, hb, hml, hown, hts, hK, hinj, hinA, hstr, hroom⟩ := cx
  intro hl hg hs hm H locs ls hP hS hv
  obtain ⟨hb1, h2⟩ := z_gs_c.mp hs
  obtain ⟨ha1, h3⟩ := z_gs_c.mp h2
  have hb1 : z_ri b := hb1
  have ha1 : z_ri a := ha1
  have hh := h hl hg (z_gs_c.mpr ⟨zn_wr_r _, h3⟩) hm H locs ls hP hS hv
  refine lv_isub hx hb hd ?_
  rw [zn_sub]
  exact hh
theorem zs_imul (cx : z_cx p R s m args c cc nL own D cA ad adK A) {a b : Int}  (hd : decode cc pc = .ok (.imul, 1)) (h : z_X p l e R s m args below meth c nL D cA ad adK A Qj (pc + 1) zl (z_i (z_wr (a * b)) :: zs) M) : z_X p l e R s m args below meth c nL D cA ad adK A Qj pc zl (z_i b :: z_i a :: zs) M := by
  obtain ⟨hx, hb, hml, hown, hts, hK, hinj, hinA, hstr, hroom⟩ := cx
  intro hl hg hs hm H locs ls hP hS hv
  obtain ⟨hb1, h2⟩ := z_gs_c.mp hs
  obtain ⟨ha1, h3⟩ := z_gs_c.mp h2
  have hb1 : z_ri b := hb1
  have ha1 : z_ri a := ha1
  have hh := h hl hg (z_gs_c.mpr ⟨zn_wr_r _, h3⟩) hm H locs ls hP hS hv
  refine lv_imul hx hb hd ?_
  rw [zn_mul]
  exact hh
theorem zs_idiv (cx : z_cx p R s m args c cc nL own D cA ad adK A) {a b : Int} (hne : b ≠ 0) (hd : decode cc pc = .ok (.idiv, 1)) (h : z_X p l e R s m args below meth c nL D cA ad adK A Qj (pc + 1) zl (z_i (z_wr (a.tdiv b)) :: zs) M) : z_X p l e R s m args below meth c nL D cA ad adK A Qj pc zl (z_i b :: z_i a :: zs) M := by
  obtain ⟨hx, hb, hml, hown, hts, hK, hinj, hinA, hstr, hroom⟩ := cx
  intro hl hg hs hm H locs ls hP hS hv
  obtain ⟨hb1, h2⟩ := z_gs_c.mp hs
  obtain ⟨ha1, h3⟩ := z_gs_c.mp h2
  have hb1 : z_ri b := hb1
  have ha1 : z_ri a := ha1
  have hh := h hl hg (z_gs_c.mpr ⟨zn_wr_r _, h3⟩) hm H locs ls hP hS hv
  refine lv_idiv hx hb hd (fun q => hne ((zn_eq hb1 zn_r0).mp q)) ?_
  rw [zn_div ha1 hb1]
  exact hh
theorem zs_irem (cx : z_cx p R s m args c cc nL own D cA ad adK A) {a b : Int} (hne : b ≠ 0) (hd : decode cc pc = .ok (.irem, 1)) (h : z_X p l e R s m args below meth c nL D cA ad adK A Qj (pc + 1) zl (z_i (a.tmod b) :: zs) M) : z_X p l e R s m args below meth c nL D cA ad adK A Qj pc zl (z_i b :: z_i a :: zs) M := by
  obtain ⟨hx, hb, hml, hown, hts, hK, hinj, hinA, hstr, hroom⟩ := cx
  intro hl hg hs hm H locs ls hP hS hv
  obtain ⟨hb1, h2⟩ := z_gs_c.mp hs
  obtain ⟨ha1, h3⟩ := z_gs_c.mp h2
  have hb1 : z_ri b := hb1
  have ha1 : z_ri a := ha1
  have hh := h hl hg (z_gs_c.mpr ⟨zn_tmod_r ha1, h3⟩) hm H locs ls hP hS hv
  refine lv_irem hx hb hd (fun q => hne ((zn_eq hb1 zn_r0).mp q)) ?_
  rw [zn_rem ha1 hb1]
  exact hh
theorem zs_bk (x : Int32) : Int32.ofInt x.toInt = x := Int32.ofInt_toInt x
theorem zs_iand (cx : z_cx p R s m args c cc nL own D cA ad adK A) {a b : Int}  (hd : decode cc pc = .ok (.iand, 1)) (h : z_X p l e R s m args below meth c nL D cA ad adK A Qj (pc + 1) zl (z_i (z_and a b) :: zs) M) : z_X p l e R s m args below meth c nL D cA ad adK A Qj pc zl (z_i b :: z_i a :: zs) M := by
  obtain ⟨hx, hb, hml, hown, hts, hK, hinj, hinA, hstr, hroom⟩ := cx
  intro hl hg hs hm H locs ls hP hS hv
  obtain ⟨hb1, h2⟩ := z_gs_c.mp hs
  obtain ⟨ha1, h3⟩ := z_gs_c.mp h2
  have hb1 : z_ri b := hb1
  have ha1 : z_ri a := ha1
  have hh := h hl hg (z_gs_c.mpr ⟨zn_r _, h3⟩) hm H locs ls hP hS hv
  refine lv_iand hx hb hd ?_
  rw [← zs_bk (Int32.ofInt a &&& Int32.ofInt b)]
  exact hh
theorem zs_ior (cx : z_cx p R s m args c cc nL own D cA ad adK A) {a b : Int}  (hd : decode cc pc = .ok (.ior, 1)) (h : z_X p l e R s m args below meth c nL D cA ad adK A Qj (pc + 1) zl (z_i (z_or a b) :: zs) M) : z_X p l e R s m args below meth c nL D cA ad adK A Qj pc zl (z_i b :: z_i a :: zs) M := by
  obtain ⟨hx, hb, hml, hown, hts, hK, hinj, hinA, hstr, hroom⟩ := cx
  intro hl hg hs hm H locs ls hP hS hv
  obtain ⟨hb1, h2⟩ := z_gs_c.mp hs
  obtain ⟨ha1, h3⟩ := z_gs_c.mp h2
  have hb1 : z_ri b := hb1
  have ha1 : z_ri a := ha1
  have hh := h hl hg (z_gs_c.mpr ⟨zn_r _, h3⟩) hm H locs ls hP hS hv
  refine lv_ior hx hb hd ?_
  rw [← zs_bk (Int32.ofInt a ||| Int32.ofInt b)]
  exact hh
theorem zs_ixor (cx : z_cx p R s m args c cc nL own D cA ad adK A) {a b : Int}  (hd : decode cc pc = .ok (.ixor, 1)) (h : z_X p l e R s m args below meth c nL D cA ad adK A Qj (pc + 1) zl (z_i (z_xor a b) :: zs) M) : z_X p l e R s m args below meth c nL D cA ad adK A Qj pc zl (z_i b :: z_i a :: zs) M := by
  obtain ⟨hx, hb, hml, hown, hts, hK, hinj, hinA, hstr, hroom⟩ := cx
  intro hl hg hs hm H locs ls hP hS hv
  obtain ⟨hb1, h2⟩ := z_gs_c.mp hs
  obtain ⟨ha1, h3⟩ := z_gs_c.mp h2
  have hb1 : z_ri b := hb1
  have ha1 : z_ri a := ha1
  have hh := h hl hg (z_gs_c.mpr ⟨zn_r _, h3⟩) hm H locs ls hP hS hv
  refine lv_ixor hx hb hd ?_
  rw [← zs_bk (Int32.ofInt a ^^^ Int32.ofInt b)]
  exact hh
theorem zs_ishl (cx : z_cx p R s m args c cc nL own D cA ad adK A) {a b : Int}  (hd : decode cc pc = .ok (.ishl, 1)) (h : z_X p l e R s m args below meth c nL D cA ad adK A Qj (pc + 1) zl (z_i (z_shl a b) :: zs) M) : z_X p l e R s m args below meth c nL D cA ad adK A Qj pc zl (z_i b :: z_i a :: zs) M := by
  obtain ⟨hx, hb, hml, hown, hts, hK, hinj, hinA, hstr, hroom⟩ := cx
  intro hl hg hs hm H locs ls hP hS hv
  obtain ⟨hb1, h2⟩ := z_gs_c.mp hs
  obtain ⟨ha1, h3⟩ := z_gs_c.mp h2
  have hb1 : z_ri b := hb1
  have ha1 : z_ri a := ha1
  have hh := h hl hg (z_gs_c.mpr ⟨zn_r _, h3⟩) hm H locs ls hP hS hv
  refine lv_ishl hx hb hd ?_
  rw [← zs_bk (Int32.ofInt a <<< (Int32.ofInt b &&& 31))]
  exact hh
theorem zs_ishr (cx : z_cx p R s m args c cc nL own D cA ad adK A) {a b : Int}  (hd : decode cc pc = .ok (.ishr, 1)) (h : z_X p l e R s m args below meth c nL D cA ad adK A Qj (pc + 1) zl (z_i (z_shr a b) :: zs) M) : z_X p l e R s m args below meth c nL D cA ad adK A Qj pc zl (z_i b :: z_i a :: zs) M := by
  obtain ⟨hx, hb, hml, hown, hts, hK, hinj, hinA, hstr, hroom⟩ := cx
  intro hl hg hs hm H locs ls hP hS hv
  obtain ⟨hb1, h2⟩ := z_gs_c.mp hs
  obtain ⟨ha1, h3⟩ := z_gs_c.mp h2
  have hb1 : z_ri b := hb1
  have ha1 : z_ri a := ha1
  have hh := h hl hg (z_gs_c.mpr ⟨zn_r _, h3⟩) hm H locs ls hP hS hv
  refine lv_ishr hx hb hd ?_
  rw [← zs_bk (Int32.ofInt a >>> (Int32.ofInt b &&& 31))]
  exact hh
theorem zs_iushr (cx : z_cx p R s m args c cc nL own D cA ad adK A) {a b : Int} (hd : decode cc pc = .ok (.iushr, 1)) (h : z_X p l e R s m args below meth c nL D cA ad adK A Qj (pc + 1) zl (z_i (z_ushr a b) :: zs) M) : z_X p l e R s m args below meth c nL D cA ad adK A Qj pc zl (z_i b :: z_i a :: zs) M := by
  obtain ⟨hx, hb, hml, hown, hts, hK, hinj, hinA, hstr, hroom⟩ := cx
  intro hl hg hs hm H locs ls hP hS hv
  obtain ⟨hb1, h2⟩ := z_gs_c.mp hs
  obtain ⟨ha1, h3⟩ := z_gs_c.mp h2
  exact lv_iushr hx hb hd (v := Int32.ofInt (z_ushr a b)) (zs_bk _).symm (h hl hg (z_gs_c.mpr ⟨zn_r _, h3⟩) hm H locs ls hP hS hv)
theorem zs_ineg (cx : z_cx p R s m args c cc nL own D cA ad adK A) {a : Int} (hd : decode cc pc = .ok (.ineg, 1)) (h : z_X p l e R s m args below meth c nL D cA ad adK A Qj (pc + 1) zl (z_i (z_wr (-a)) :: zs) M) : z_X p l e R s m args below meth c nL D cA ad adK A Qj pc zl (z_i a :: zs) M := by
  obtain ⟨hx, hb, hml, hown, hts, hK, hinj, hinA, hstr, hroom⟩ := cx
  intro hl hg hs hm H locs ls hP hS hv
  obtain ⟨ha1, h3⟩ := z_gs_c.mp hs
  have hh := h hl hg (z_gs_c.mpr ⟨zn_wr_r _, h3⟩) hm H locs ls hP hS hv
  refine lv_ineg hx hb hd ?_
  rw [zn_neg]
  exact hh
theorem zs_i2l (cx : z_cx p R s m args c cc nL own D cA ad adK A) {a : Int} (hd : decode cc pc = .ok (.i2l, 1)) (h : z_X p l e R s m args below meth c nL D cA ad adK A Qj (pc + 1) zl (z_l a :: zs) M) : z_X p l e R s m args below meth c nL D cA ad adK A Qj pc zl (z_i a :: zs) M := by
  obtain ⟨hx, hb, hml, hown, hts, hK, hinj, hinA, hstr, hroom⟩ := cx
  intro hl hg hs hm H locs ls hP hS hv
  obtain ⟨ha1, h3⟩ := z_gs_c.mp hs
  have ha1 : z_ri a := ha1
  exact lv_i2l hx hb hd (zn_i2l ha1) (h hl hg (z_gs_c.mpr ⟨by show z_rl a; unfold z_ri at ha1; unfold z_rl; omega, h3⟩) hm H locs ls hP hS hv)
theorem zs_i2b (cx : z_cx p R s m args c cc nL own D cA ad adK A) {a : Int} (hd : decode cc pc = .ok (.i2b, 1)) (h : z_X p l e R s m args below meth c nL D cA ad adK A Qj (pc + 1) zl (z_i (z_i2b a) :: zs) M) : z_X p l e R s m args below meth c nL D cA ad adK A Qj pc zl (z_i a :: zs) M := by
  obtain ⟨hx, hb, hml, hown, hts, hK, hinj, hinA, hstr, hroom⟩ := cx
  intro hl hg hs hm H locs ls hP hS hv
  obtain ⟨ha1, h3⟩ := z_gs_c.mp hs
  exact lv_i2b hx hb hd (v := Int32.ofInt (z_i2b a)) (zs_bk _).symm (h hl hg (z_gs_c.mpr ⟨zn_r _, h3⟩) hm H locs ls hP hS hv)
theorem zs_i2s (cx : z_cx p R s m args c cc nL own D cA ad adK A) {a : Int} (hd : decode cc pc = .ok (.i2s, 1)) (h : z_X p l e R s m args below meth c nL D cA ad adK A Qj (pc + 1) zl (z_i (z_i2s a) :: zs) M) : z_X p l e R s m args below meth c nL D cA ad adK A Qj pc zl (z_i a :: zs) M := by
  obtain ⟨hx, hb, hml, hown, hts, hK, hinj, hinA, hstr, hroom⟩ := cx
  intro hl hg hs hm H locs ls hP hS hv
  obtain ⟨ha1, h3⟩ := z_gs_c.mp hs
  exact lv_i2s hx hb hd (v := Int32.ofInt (z_i2s a)) (zs_bk _).symm (h hl hg (z_gs_c.mpr ⟨zn_r _, h3⟩) hm H locs ls hP hS hv)
theorem zs_ladd (cx : z_cx p R s m args c cc nL own D cA ad adK A) {a b : Int}  (hd : decode cc pc = .ok (.ladd, 1)) (h : z_X p l e R s m args below meth c nL D cA ad adK A Qj (pc + 1) zl (z_l (z_wl (a + b)) :: zs) M) : z_X p l e R s m args below meth c nL D cA ad adK A Qj pc zl (z_l b :: z_l a :: zs) M := by
  obtain ⟨hx, hb, hml, hown, hts, hK, hinj, hinA, hstr, hroom⟩ := cx
  intro hl hg hs hm H locs ls hP hS hv
  obtain ⟨hb1, h2⟩ := z_gs_c.mp hs
  obtain ⟨ha1, h3⟩ := z_gs_c.mp h2
  have hb1 : z_rl b := hb1
  have ha1 : z_rl a := ha1
  have hh := h hl hg (z_gs_c.mpr ⟨zn_wl_r _, h3⟩) hm H locs ls hP hS hv
  refine lv_ladd hx hb hd ?_
  rw [zn_addl]
  exact hh
theorem zs_lmul (cx : z_cx p R s m args c cc nL own D cA ad adK A) {a b : Int}  (hd : decode cc pc = .ok (.lmul, 1)) (h : z_X p l e R s m args below meth c nL D cA ad adK A Qj (pc + 1) zl (z_l (z_wl (a * b)) :: zs) M) : z_X p l e R s m args below meth c nL D cA ad adK A Qj pc zl (z_l b :: z_l a :: zs) M := by
  obtain ⟨hx, hb, hml, hown, hts, hK, hinj, hinA, hstr, hroom⟩ := cx
  intro hl hg hs hm H locs ls hP hS hv
  obtain ⟨hb1, h2⟩ := z_gs_c.mp hs
  obtain ⟨ha1, h3⟩ := z_gs_c.mp h2
  have hb1 : z_rl b := hb1
  have ha1 : z_rl a := ha1
  have hh := h hl hg (z_gs_c.mpr ⟨zn_wl_r _, h3⟩) hm H locs ls hP hS hv
  refine lv_lmul hx hb hd ?_
  rw [zn_mull]
  exact hh
theorem zs_ldiv (cx : z_cx p R s m args c cc nL own D cA ad adK A) {a b : Int} (hne : b ≠ 0) (hd : decode cc pc = .ok (.ldiv, 1)) (h : z_X p l e R s m args below meth c nL D cA ad adK A Qj (pc + 1) zl (z_l (z_wl (a.tdiv b)) :: zs) M) : z_X p l e R s m args below meth c nL D cA ad adK A Qj pc zl (z_l b :: z_l a :: zs) M := by
  obtain ⟨hx, hb, hml, hown, hts, hK, hinj, hinA, hstr, hroom⟩ := cx
  intro hl hg hs hm H locs ls hP hS hv
  obtain ⟨hb1, h2⟩ := z_gs_c.mp hs
  obtain ⟨ha1, h3⟩ := z_gs_c.mp h2
  have hb1 : z_rl b := hb1
  have ha1 : z_rl a := ha1
  have hh := h hl hg (z_gs_c.mpr ⟨zn_wl_r _, h3⟩) hm H locs ls hP hS hv
  refine lv_ldiv hx hb hd (fun q => hne ((zn_eql hb1 (by unfold z_rl; omega)).mp q)) ?_
  rw [zn_divl ha1 hb1]
  exact hh
theorem zs_lrem (cx : z_cx p R s m args c cc nL own D cA ad adK A) {a b : Int} (hne : b ≠ 0) (hd : decode cc pc = .ok (.lrem, 1)) (h : z_X p l e R s m args below meth c nL D cA ad adK A Qj (pc + 1) zl (z_l (a.tmod b) :: zs) M) : z_X p l e R s m args below meth c nL D cA ad adK A Qj pc zl (z_l b :: z_l a :: zs) M := by
  obtain ⟨hx, hb, hml, hown, hts, hK, hinj, hinA, hstr, hroom⟩ := cx
  intro hl hg hs hm H locs ls hP hS hv
  obtain ⟨hb1, h2⟩ := z_gs_c.mp hs
  obtain ⟨ha1, h3⟩ := z_gs_c.mp h2
  have hb1 : z_rl b := hb1
  have ha1 : z_rl a := ha1
  have hh := h hl hg (z_gs_c.mpr ⟨zn_tmodl_r ha1, h3⟩) hm H locs ls hP hS hv
  refine lv_lrem hx hb hd (fun q => hne ((zn_eql hb1 (by unfold z_rl; omega)).mp q)) ?_
  rw [zn_reml ha1 hb1]
  exact hh
theorem zs_lcmp (cx : z_cx p R s m args c cc nL own D cA ad adK A) {a b : Int} (hd : decode cc pc = .ok (.lcmp, 1)) (h : z_X p l e R s m args below meth c nL D cA ad adK A Qj (pc + 1) zl (z_i (z_cmp a b) :: zs) M) : z_X p l e R s m args below meth c nL D cA ad adK A Qj pc zl (z_l b :: z_l a :: zs) M := by
  obtain ⟨hx, hb, hml, hown, hts, hK, hinj, hinA, hstr, hroom⟩ := cx
  intro hl hg hs hm H locs ls hP hS hv
  obtain ⟨hb1, h2⟩ := z_gs_c.mp hs
  obtain ⟨ha1, h3⟩ := z_gs_c.mp h2
  have hb1 : z_rl b := hb1
  have ha1 : z_rl a := ha1
  have hh := h hl hg (z_gs_c.mpr ⟨by show z_ri (z_cmp a b); unfold z_cmp z_ri; split <;> (try split) <;> omega, h3⟩) hm H locs ls hP hS hv
  refine W.lcmp hx hb hd ?_
  have e1 : lg_cmp (Int64.ofInt a) (Int64.ofInt b) = Int32.ofInt (z_cmp a b) := by
    unfold lg_cmp z_cmp
    simp only [gt_iff_lt, zn_ltl hb1 ha1, zn_eql ha1 hb1]
    split
    · rfl
    · split <;> rfl
  rw [e1]
  exact hh
theorem zs_if_eq (cx : z_cx p R s m args c cc nL own D cA ad adK A) {a : Int} {off : Int} {t : Nat} (hd : decode cc pc = .ok (.ifCond .eq off, 3)) (ht : (pc : Int) + off = (t : Int)) (h : (a = 0 → z_X p l e R s m args below meth c nL D cA ad adK A Qj t zl zs M) ∧ (¬ (a = 0) → z_X p l e R s m args below meth c nL D cA ad adK A Qj (pc + 3) zl zs M)) : z_X p l e R s m args below meth c nL D cA ad adK A Qj pc zl (z_i a :: zs) M := by
  obtain ⟨hx, hb, hml, hown, hts, hK, hinj, hinA, hstr, hroom⟩ := cx
  intro hl hg hs hm H locs ls hP hS hv
  obtain ⟨ha1, h3⟩ := z_gs_c.mp hs
  have ha1 : z_ri a := ha1
  exact lv_if_eq hx hb hd ht (fun q => h.1 ((zn_eq ha1 zn_r0).mp q) hl hg h3 hm H locs ls hP hS hv) (fun q => h.2 (fun z => q ((zn_eq ha1 zn_r0).mpr z)) hl hg h3 hm H locs ls hP hS hv)
theorem zs_icmp_eq (cx : z_cx p R s m args c cc nL own D cA ad adK A) {a b : Int} {off : Int} {t : Nat} (hd : decode cc pc = .ok (.if_icmp .eq off, 3)) (ht : (pc : Int) + off = (t : Int)) (h : (a = b → z_X p l e R s m args below meth c nL D cA ad adK A Qj t zl zs M) ∧ (¬ (a = b) → z_X p l e R s m args below meth c nL D cA ad adK A Qj (pc + 3) zl zs M)) : z_X p l e R s m args below meth c nL D cA ad adK A Qj pc zl (z_i b :: z_i a :: zs) M := by
  obtain ⟨hx, hb, hml, hown, hts, hK, hinj, hinA, hstr, hroom⟩ := cx
  intro hl hg hs hm H locs ls hP hS hv
  obtain ⟨hb1, h2⟩ := z_gs_c.mp hs
  obtain ⟨ha1, h3⟩ := z_gs_c.mp h2
  have hb1 : z_ri b := hb1
  have ha1 : z_ri a := ha1
  exact lv_icmp_eq hx hb hd ht (fun q => h.1 ((zn_eq ha1 hb1).mp q) hl hg h3 hm H locs ls hP hS hv) (fun q => h.2 (fun z => q ((zn_eq ha1 hb1).mpr z)) hl hg h3 hm H locs ls hP hS hv)
theorem zs_if_ne (cx : z_cx p R s m args c cc nL own D cA ad adK A) {a : Int} {off : Int} {t : Nat} (hd : decode cc pc = .ok (.ifCond .ne off, 3)) (ht : (pc : Int) + off = (t : Int)) (h : (a ≠ 0 → z_X p l e R s m args below meth c nL D cA ad adK A Qj t zl zs M) ∧ (¬ (a ≠ 0) → z_X p l e R s m args below meth c nL D cA ad adK A Qj (pc + 3) zl zs M)) : z_X p l e R s m args below meth c nL D cA ad adK A Qj pc zl (z_i a :: zs) M := by
  obtain ⟨hx, hb, hml, hown, hts, hK, hinj, hinA, hstr, hroom⟩ := cx
  intro hl hg hs hm H locs ls hP hS hv
  obtain ⟨ha1, h3⟩ := z_gs_c.mp hs
  have ha1 : z_ri a := ha1
  exact lv_if_ne hx hb hd ht (fun q => h.1 ((not_congr (zn_eq ha1 zn_r0)).mp q) hl hg h3 hm H locs ls hP hS hv) (fun q => h.2 (fun z => z ((zn_eq ha1 zn_r0).mp q)) hl hg h3 hm H locs ls hP hS hv)
theorem zs_icmp_ne (cx : z_cx p R s m args c cc nL own D cA ad adK A) {a b : Int} {off : Int} {t : Nat} (hd : decode cc pc = .ok (.if_icmp .ne off, 3)) (ht : (pc : Int) + off = (t : Int)) (h : (a ≠ b → z_X p l e R s m args below meth c nL D cA ad adK A Qj t zl zs M) ∧ (¬ (a ≠ b) → z_X p l e R s m args below meth c nL D cA ad adK A Qj (pc + 3) zl zs M)) : z_X p l e R s m args below meth c nL D cA ad adK A Qj pc zl (z_i b :: z_i a :: zs) M := by
  obtain ⟨hx, hb, hml, hown, hts, hK, hinj, hinA, hstr, hroom⟩ := cx
  intro hl hg hs hm H locs ls hP hS hv
  obtain ⟨hb1, h2⟩ := z_gs_c.mp hs
  obtain ⟨ha1, h3⟩ := z_gs_c.mp h2
  have hb1 : z_ri b := hb1
  have ha1 : z_ri a := ha1
  exact lv_icmp_ne hx hb hd ht (fun q => h.1 ((not_congr (zn_eq ha1 hb1)).mp q) hl hg h3 hm H locs ls hP hS hv) (fun q => h.2 (fun z => z ((zn_eq ha1 hb1).mp q)) hl hg h3 hm H locs ls hP hS hv)
theorem zs_if_lt (cx : z_cx p R s m args c cc nL own D cA ad adK A) {a : Int} {off : Int} {t : Nat} (hd : decode cc pc = .ok (.ifCond .lt off, 3)) (ht : (pc : Int) + off = (t : Int)) (h : (a < 0 → z_X p l e R s m args below meth c nL D cA ad adK A Qj t zl zs M) ∧ (¬ (a < 0) → z_X p l e R s m args below meth c nL D cA ad adK A Qj (pc + 3) zl zs M)) : z_X p l e R s m args below meth c nL D cA ad adK A Qj pc zl (z_i a :: zs) M := by
  obtain ⟨hx, hb, hml, hown, hts, hK, hinj, hinA, hstr, hroom⟩ := cx
  intro hl hg hs hm H locs ls hP hS hv
  obtain ⟨ha1, h3⟩ := z_gs_c.mp hs
  have ha1 : z_ri a := ha1
  exact lv_if_lt hx hb hd ht (fun q => h.1 ((zn_lt ha1 zn_r0).mp q) hl hg h3 hm H locs ls hP hS hv) (fun q => h.2 (fun z => q ((zn_lt ha1 zn_r0).mpr z)) hl hg h3 hm H locs ls hP hS hv)
theorem zs_icmp_lt (cx : z_cx p R s m args c cc nL own D cA ad adK A) {a b : Int} {off : Int} {t : Nat} (hd : decode cc pc = .ok (.if_icmp .lt off, 3)) (ht : (pc : Int) + off = (t : Int)) (h : (a < b → z_X p l e R s m args below meth c nL D cA ad adK A Qj t zl zs M) ∧ (¬ (a < b) → z_X p l e R s m args below meth c nL D cA ad adK A Qj (pc + 3) zl zs M)) : z_X p l e R s m args below meth c nL D cA ad adK A Qj pc zl (z_i b :: z_i a :: zs) M := by
  obtain ⟨hx, hb, hml, hown, hts, hK, hinj, hinA, hstr, hroom⟩ := cx
  intro hl hg hs hm H locs ls hP hS hv
  obtain ⟨hb1, h2⟩ := z_gs_c.mp hs
  obtain ⟨ha1, h3⟩ := z_gs_c.mp h2
  have hb1 : z_ri b := hb1
  have ha1 : z_ri a := ha1
  exact lv_icmp_lt hx hb hd ht (fun q => h.1 ((zn_lt ha1 hb1).mp q) hl hg h3 hm H locs ls hP hS hv) (fun q => h.2 (fun z => q ((zn_lt ha1 hb1).mpr z)) hl hg h3 hm H locs ls hP hS hv)
theorem zs_if_ge (cx : z_cx p R s m args c cc nL own D cA ad adK A) {a : Int} {off : Int} {t : Nat} (hd : decode cc pc = .ok (.ifCond .ge off, 3)) (ht : (pc : Int) + off = (t : Int)) (h : (0 ≤ a → z_X p l e R s m args below meth c nL D cA ad adK A Qj t zl zs M) ∧ (¬ (0 ≤ a) → z_X p l e R s m args below meth c nL D cA ad adK A Qj (pc + 3) zl zs M)) : z_X p l e R s m args below meth c nL D cA ad adK A Qj pc zl (z_i a :: zs) M := by
  obtain ⟨hx, hb, hml, hown, hts, hK, hinj, hinA, hstr, hroom⟩ := cx
  intro hl hg hs hm H locs ls hP hS hv
  obtain ⟨ha1, h3⟩ := z_gs_c.mp hs
  have ha1 : z_ri a := ha1
  exact lv_if_ge hx hb hd ht (fun q => h.1 ((zn_le zn_r0 ha1).mp q) hl hg h3 hm H locs ls hP hS hv) (fun q => h.2 (fun z => q ((zn_le zn_r0 ha1).mpr z)) hl hg h3 hm H locs ls hP hS hv)
theorem zs_icmp_ge (cx : z_cx p R s m args c cc nL own D cA ad adK A) {a b : Int} {off : Int} {t : Nat} (hd : decode cc pc = .ok (.if_icmp .ge off, 3)) (ht : (pc : Int) + off = (t : Int)) (h : (b ≤ a → z_X p l e R s m args below meth c nL D cA ad adK A Qj t zl zs M) ∧ (¬ (b ≤ a) → z_X p l e R s m args below meth c nL D cA ad adK A Qj (pc + 3) zl zs M)) : z_X p l e R s m args below meth c nL D cA ad adK A Qj pc zl (z_i b :: z_i a :: zs) M := by
  obtain ⟨hx, hb, hml, hown, hts, hK, hinj, hinA, hstr, hroom⟩ := cx
  intro hl hg hs hm H locs ls hP hS hv
  obtain ⟨hb1, h2⟩ := z_gs_c.mp hs
  obtain ⟨ha1, h3⟩ := z_gs_c.mp h2
  have hb1 : z_ri b := hb1
  have ha1 : z_ri a := ha1
  exact lv_icmp_ge hx hb hd ht (fun q => h.1 ((zn_le hb1 ha1).mp q) hl hg h3 hm H locs ls hP hS hv) (fun q => h.2 (fun z => q ((zn_le hb1 ha1).mpr z)) hl hg h3 hm H locs ls hP hS hv)
theorem zs_if_gt (cx : z_cx p R s m args c cc nL own D cA ad adK A) {a : Int} {off : Int} {t : Nat} (hd : decode cc pc = .ok (.ifCond .gt off, 3)) (ht : (pc : Int) + off = (t : Int)) (h : (0 < a → z_X p l e R s m args below meth c nL D cA ad adK A Qj t zl zs M) ∧ (¬ (0 < a) → z_X p l e R s m args below meth c nL D cA ad adK A Qj (pc + 3) zl zs M)) : z_X p l e R s m args below meth c nL D cA ad adK A Qj pc zl (z_i a :: zs) M := by
  obtain ⟨hx, hb, hml, hown, hts, hK, hinj, hinA, hstr, hroom⟩ := cx
  intro hl hg hs hm H locs ls hP hS hv
  obtain ⟨ha1, h3⟩ := z_gs_c.mp hs
  have ha1 : z_ri a := ha1
  exact lv_if_gt hx hb hd ht (fun q => h.1 ((zn_lt zn_r0 ha1).mp q) hl hg h3 hm H locs ls hP hS hv) (fun q => h.2 (fun z => q ((zn_lt zn_r0 ha1).mpr z)) hl hg h3 hm H locs ls hP hS hv)
theorem zs_icmp_gt (cx : z_cx p R s m args c cc nL own D cA ad adK A) {a b : Int} {off : Int} {t : Nat} (hd : decode cc pc = .ok (.if_icmp .gt off, 3)) (ht : (pc : Int) + off = (t : Int)) (h : (b < a → z_X p l e R s m args below meth c nL D cA ad adK A Qj t zl zs M) ∧ (¬ (b < a) → z_X p l e R s m args below meth c nL D cA ad adK A Qj (pc + 3) zl zs M)) : z_X p l e R s m args below meth c nL D cA ad adK A Qj pc zl (z_i b :: z_i a :: zs) M := by
  obtain ⟨hx, hb, hml, hown, hts, hK, hinj, hinA, hstr, hroom⟩ := cx
  intro hl hg hs hm H locs ls hP hS hv
  obtain ⟨hb1, h2⟩ := z_gs_c.mp hs
  obtain ⟨ha1, h3⟩ := z_gs_c.mp h2
  have hb1 : z_ri b := hb1
  have ha1 : z_ri a := ha1
  exact lv_icmp_gt hx hb hd ht (fun q => h.1 ((zn_lt hb1 ha1).mp q) hl hg h3 hm H locs ls hP hS hv) (fun q => h.2 (fun z => q ((zn_lt hb1 ha1).mpr z)) hl hg h3 hm H locs ls hP hS hv)
theorem zs_if_le (cx : z_cx p R s m args c cc nL own D cA ad adK A) {a : Int} {off : Int} {t : Nat} (hd : decode cc pc = .ok (.ifCond .le off, 3)) (ht : (pc : Int) + off = (t : Int)) (h : (a ≤ 0 → z_X p l e R s m args below meth c nL D cA ad adK A Qj t zl zs M) ∧ (¬ (a ≤ 0) → z_X p l e R s m args below meth c nL D cA ad adK A Qj (pc + 3) zl zs M)) : z_X p l e R s m args below meth c nL D cA ad adK A Qj pc zl (z_i a :: zs) M := by
  obtain ⟨hx, hb, hml, hown, hts, hK, hinj, hinA, hstr, hroom⟩ := cx
  intro hl hg hs hm H locs ls hP hS hv
  obtain ⟨ha1, h3⟩ := z_gs_c.mp hs
  have ha1 : z_ri a := ha1
  exact lv_if_le hx hb hd ht (fun q => h.1 ((zn_le ha1 zn_r0).mp q) hl hg h3 hm H locs ls hP hS hv) (fun q => h.2 (fun z => q ((zn_le ha1 zn_r0).mpr z)) hl hg h3 hm H locs ls hP hS hv)
theorem zs_icmp_le (cx : z_cx p R s m args c cc nL own D cA ad adK A) {a b : Int} {off : Int} {t : Nat} (hd : decode cc pc = .ok (.if_icmp .le off, 3)) (ht : (pc : Int) + off = (t : Int)) (h : (a ≤ b → z_X p l e R s m args below meth c nL D cA ad adK A Qj t zl zs M) ∧ (¬ (a ≤ b) → z_X p l e R s m args below meth c nL D cA ad adK A Qj (pc + 3) zl zs M)) : z_X p l e R s m args below meth c nL D cA ad adK A Qj pc zl (z_i b :: z_i a :: zs) M := by
  obtain ⟨hx, hb, hml, hown, hts, hK, hinj, hinA, hstr, hroom⟩ := cx
  intro hl hg hs hm H locs ls hP hS hv
  obtain ⟨hb1, h2⟩ := z_gs_c.mp hs
  obtain ⟨ha1, h3⟩ := z_gs_c.mp h2
  have hb1 : z_ri b := hb1
  have ha1 : z_ri a := ha1
  exact lv_icmp_le hx hb hd ht (fun q => h.1 ((zn_le ha1 hb1).mp q) hl hg h3 hm H locs ls hP hS hv) (fun q => h.2 (fun z => q ((zn_le ha1 hb1).mpr z)) hl hg h3 hm H locs ls hP hS hv)
theorem zs_goto (cx : z_cx p R s m args c cc nL own D cA ad adK A) {off : Int} {t : Nat} (hd : decode cc pc = .ok (.goto off, 3)) (ht : (pc : Int) + off = (t : Int)) (h : z_X p l e R s m args below meth c nL D cA ad adK A Qj t zl zs M) : z_X p l e R s m args below meth c nL D cA ad adK A Qj pc zl zs M := by
  obtain ⟨hx, hb, hml, hown, hts, hK, hinj, hinA, hstr, hroom⟩ := cx
  intro hl hg hs hm H locs ls hP hS hv
  exact lv_goto hx hb hd ht (h hl hg hs hm H locs ls hP hS hv)
theorem zs_dup (cx : z_cx p R s m args c cc nL own D cA ad adK A) {u : zU} (hu : z_cat u = 1) (hd : decode cc pc = .ok (.dup, 1)) (h : z_X p l e R s m args below meth c nL D cA ad adK A Qj (pc + 1) zl (u :: u :: zs) M) : z_X p l e R s m args below meth c nL D cA ad adK A Qj pc zl (u :: zs) M := by
  obtain ⟨hx, hb, hml, hown, hts, hK, hinj, hinA, hstr, hroom⟩ := cx
  intro hl hg hs hm H locs ls hP hS hv
  exact lv_dup hx hb hd (by rw [z_cat_val]; exact hu) (h hl hg (z_gs_c.mpr ⟨(z_gs_c.mp hs).1, hs⟩) hm H locs ls hP hS hv)
theorem zs_dup2 (cx : z_cx p R s m args c cc nL own D cA ad adK A) {u w : zU} (hu : z_cat u = 1) (hw : z_cat w = 1) (hd : decode cc pc = .ok (.dup2, 1)) (h : z_X p l e R s m args below meth c nL D cA ad adK A Qj (pc + 1) zl (u :: w :: u :: w :: zs) M) : z_X p l e R s m args below meth c nL D cA ad adK A Qj pc zl (u :: w :: zs) M := by
  obtain ⟨hx, hb, hml, hown, hts, hK, hinj, hinA, hstr, hroom⟩ := cx
  intro hl hg hs hm H locs ls hP hS hv
  obtain ⟨h1, h2⟩ := z_gs_c.mp hs
  exact lv_dup2_11 hx hb hd (by rw [z_cat_val]; exact hu) (by rw [z_cat_val]; exact hw) (h hl hg (z_gs_c.mpr ⟨h1, z_gs_c.mpr ⟨(z_gs_c.mp h2).1, hs⟩⟩) hm H locs ls hP hS hv)
theorem zs_pop (cx : z_cx p R s m args c cc nL own D cA ad adK A) {u : zU} (hu : z_cat u = 1) (hd : decode cc pc = .ok (.pop, 1)) (h : z_X p l e R s m args below meth c nL D cA ad adK A Qj (pc + 1) zl zs M) : z_X p l e R s m args below meth c nL D cA ad adK A Qj pc zl (u :: zs) M := by
  obtain ⟨hx, hb, hml, hown, hts, hK, hinj, hinA, hstr, hroom⟩ := cx
  intro hl hg hs hm H locs ls hP hS hv
  exact lv_pop hx hb hd (by rw [z_cat_val]; exact hu) (h hl hg (z_gs_c.mp hs).2 hm H locs ls hP hS hv)
end
