/-! CELLS THAT ARE BEING MADE: the world of the first k cells; S tells which places of references are set -/
def zn_f1 (base : Nat) (S : Nat → Nat → Bool) (M : zM) (a j : Nat) (q : Nat × Nat) : Value := cond (Nat.beq q.1 1) (cond (S a j) (.ref (base + (a + q.2))) .null) (.int (Int32.ofInt (M a (j : Int))))
def zn_fs (base : Nat) (S : Nat → Nat → Bool) (M : zM) (a : Nat) : Nat → List (Nat × Nat) → List Value
  | _, [] => []
  | j, q :: l => zn_f1 base S M a j q :: zn_fs base S M a (j + 1) l
theorem zn_fs_get {base : Nat} {S : Nat → Nat → Bool} {M : zM} {a : Nat} : ∀ (l : List (Nat × Nat)) (j i : Nat), (zn_fs base S M a j l)[i]? = l[i]?.map (fun q => zn_f1 base S M a (j + i) q)
  | [], _, _ => rfl
  | q :: l, j, 0 => rfl
  | q :: l, j, i + 1 => by
    show (zn_fs base S M a (j + 1) l)[i]? = l[i]?.map _
    rw [zn_fs_get l (j + 1) i, show j + 1 + i = j + (i + 1) by omega]
theorem zn_fs_len {base : Nat} {S : Nat → Nat → Bool} {M : zM} {a : Nat} : ∀ (l : List (Nat × Nat)) (j : Nat), (zn_fs base S M a j l).length = l.length
  | [], _ => rfl
  | _ :: l, j => by
    show (zn_fs base S M a (j + 1) l).length + 1 = l.length + 1
    rw [zn_fs_len l (j + 1)]
def zn_set (S : Nat → Nat → Bool) (a j : Nat) : Nat → Nat → Bool := fun b i => cond (Nat.beq b a && Nat.beq i j) true (S b i)
theorem zn_set_same (S : Nat → Nat → Bool) (a j : Nat) : zn_set S a j a j = true := by simp [zn_set]
theorem zn_set_ne (S : Nat → Nat → Bool) {a j b i : Nat} (h : ¬ (b = a ∧ i = j)) : zn_set S a j b i = S b i := by
  unfold zn_set
  cases h1 : (Nat.beq b a && Nat.beq i j) with
  | false => rfl
  | true =>
    rw [Bool.and_eq_true] at h1
    exact absurd ⟨Nat.eq_of_beq_eq_true h1.1, Nat.eq_of_beq_eq_true h1.2⟩ h
theorem zn_fs_setI {base : Nat} {S : Nat → Nat → Bool} {M : zM} {a i : Nat} {v : Int} {q : Nat × Nat} {l : List (Nat × Nat)} (h : l[i]? = some q) (hq : Nat.beq q.1 1 = false) : (zn_fs base S M a 0 l).set i (.int (Int32.ofInt v)) = zn_fs base S (z_up M a (i : Int) v) a 0 l := by
  apply List.ext_getElem?
  intro n
  rw [List.getElem?_set, zn_fs_get, zn_fs_get, zn_fs_len]
  have hlt : i < l.length := (List.getElem?_eq_some_iff.mp h).1
  by_cases hn : i = n
  · subst hn
    rw [if_pos rfl, if_pos hlt, h]
    simp only [Option.map_some, zn_f1, hq, cond_false, Nat.zero_add, z_up_same]
  · rw [if_neg hn]
    cases l[n]? with
    | none => rfl
    | some r =>
      simp only [Option.map_some, zn_f1, Nat.zero_add]
      rw [z_up_ne]
      intro c
      exact hn (by have := c.2; omega)
theorem zn_fs_setR {base : Nat} {S : Nat → Nat → Bool} {M : zM} {a i off : Nat} {l : List (Nat × Nat)} (h : l[i]? = some (1, off)) : (zn_fs base S M a 0 l).set i (.ref (base + (a + off))) = zn_fs base (zn_set S a i) M a 0 l := by
  apply List.ext_getElem?
  intro n
  rw [List.getElem?_set, zn_fs_get, zn_fs_get, zn_fs_len]
  have hlt : i < l.length := (List.getElem?_eq_some_iff.mp h).1
  by_cases hn : i = n
  · subst hn
    rw [if_pos rfl, if_pos hlt, h]
    simp only [Option.map_some, zn_f1, Nat.zero_add, zn_set_same]
    rfl
  · rw [if_neg hn]
    cases l[n]? with
    | none => rfl
    | some r =>
      simp only [Option.map_some, zn_f1, Nat.zero_add]
      rw [zn_set_ne]
      intro c
      exact hn c.2.symm
def zn_e (base : Nat) (cA : Nat → ClassId) (S : Nat → Nat → Bool) (M : zM) (a : Nat) (k : zD) : va_E :=
  cond (Nat.beq k.1 100) (.inl (cA 0, k.2.toNat, .inl fun j => Int32.ofInt (M a (j : Int))))
  (cond (Nat.beq k.1 101) (.inl (cA 1, k.2.toNat, .inr (.inl fun j => Int64.ofInt (M a (j : Int)))))
  (cond (Nat.beq k.1 102) (.inl (cA 2, k.2.toNat, .inl fun j => Int32.ofInt (M a (j : Int))))
  (cond (Nat.beq k.1 103) (.inl (cA 3, k.2.toNat, .inr (.inr (.inr (.inr fun j => cond (S a j) (some (base + z_el a (j : Int))) none)))))
  (.inr (k.1, zn_fs base S M a 0 (z_ft.getD k.1 []))))))
theorem zn_e_obj {base : Nat} {cA : Nat → ClassId} {S : Nat → Nat → Bool} {M : zM} {a : Nat} {k : zD} (h : k.1 < 12) : zn_e base cA S M a k = .inr (k.1, zn_fs base S M a 0 (z_ft.getD k.1 [])) := by
  unfold zn_e
  rw [show Nat.beq k.1 100 = false from z_beqf (by omega), show Nat.beq k.1 101 = false from z_beqf (by omega), show Nat.beq k.1 102 = false from z_beqf (by omega), show Nat.beq k.1 103 = false from z_beqf (by omega)]
  rfl
def zn_wf (base : Nat) (cA : Nat → ClassId) (S : Nat → Nat → Bool) (M : zM) : Nat → List zD → va_W
  | _, [] => []
  | a, k :: l => (base + a, zn_e base cA S M a k) :: zn_wf base cA S M (a + 1) l
theorem zn_wf_get {base : Nat} {cA : Nat → ClassId} {S : Nat → Nat → Bool} {M : zM} : ∀ (l : List zD) (a i : Nat), (zn_wf base cA S M a l)[i]? = l[i]?.map (fun k => (base + (a + i), zn_e base cA S M (a + i) k))
  | [], _, _ => rfl
  | k :: l, a, 0 => rfl
  | k :: l, a, i + 1 => by
    show (zn_wf base cA S M (a + 1) l)[i]? = l[i]?.map _
    rw [zn_wf_get l (a + 1) i, show a + 1 + i = a + (i + 1) by omega]
def zn_w (base : Nat) (cA : Nat → ClassId) (S : Nat → Nat → Bool) (M : zM) (k : Nat) : va_W := zn_wf base cA S M 0 (z_kt.take k)
theorem zn_w_get {base : Nat} {cA : Nat → ClassId} {S : Nat → Nat → Bool} {M : zM} {k : Nat} (a : Nat) : (zn_w base cA S M k)[a]? = (if a < k then z_kt[a]? else none).map (fun q => (base + a, zn_e base cA S M a q)) := by
  unfold zn_w
  rw [zn_wf_get, Nat.zero_add, List.getElem?_take]
theorem zn_w_at {base : Nat} {cA : Nat → ClassId} {S : Nat → Nat → Bool} {M : zM} {k a : Nat} {q : zD} (h : z_kt[a]? = some q) (hk : a < k) : (zn_w base cA S M k)[a]? = some (base + a, zn_e base cA S M a q) := by
  rw [zn_w_get, if_pos hk, h]; rfl
theorem zn_w_of {base : Nat} {cA : Nat → ClassId} {S : Nat → Nat → Bool} {M : zM} {k a : Nat} {e : Nat × va_E} (h : (zn_w base cA S M k)[a]? = some e) : a < k ∧ ∃ q, z_kt[a]? = some q ∧ e = (base + a, zn_e base cA S M a q) := by
  rw [zn_w_get] at h
  by_cases hk : a < k
  · rw [if_pos hk] at h
    cases hq : z_kt[a]? with
    | none => rw [hq] at h; cases h
    | some q => rw [hq] at h; exact ⟨hk, q, rfl, (Option.some.inj h).symm⟩
  · rw [if_neg hk] at h; cases h
theorem zn_fs_ext {base : Nat} {S S' : Nat → Nat → Bool} {M M' : zM} {a : Nat} (h : M' a = M a) (hS : S' a = S a) : ∀ (l : List (Nat × Nat)) (j : Nat), zn_fs base S' M' a j l = zn_fs base S M a j l
  | [], _ => rfl
  | q :: l, j => by
    show zn_f1 base S' M' a j q :: zn_fs base S' M' a (j + 1) l = zn_f1 base S M a j q :: zn_fs base S M a (j + 1) l
    rw [zn_fs_ext h hS l (j + 1)]
    simp only [zn_f1, h, hS]
theorem zn_e_ext {base : Nat} {cA : Nat → ClassId} {S S' : Nat → Nat → Bool} {M M' : zM} {a : Nat} {k : zD} (h : M' a = M a) (hS : S' a = S a) : zn_e base cA S' M' a k = zn_e base cA S M a k := by
  unfold zn_e
  rw [zn_fs_ext h hS, h, hS]
theorem zn_w_set {base : Nat} {cA : Nat → ClassId} {S S' : Nat → Nat → Bool} {M M' : zM} {k a : Nat} {q : zD} {E : va_E} (h : z_kt[a]? = some q) (hk : a < k) (hE : E = zn_e base cA S' M' a q) (ho : ∀ b, b ≠ a → M' b = M b ∧ S' b = S b) : (zn_w base cA S M k).set a (base + a, E) = zn_w base cA S' M' k := by
  subst hE
  apply List.ext_getElem?
  intro n
  rw [List.getElem?_set, zn_w_get, zn_w_get]
  have hlt : a < (zn_w base cA S M k).length := (List.getElem?_eq_some_iff.mp (zn_w_at (base := base) (cA := cA) (S := S) (M := M) h hk)).1
  by_cases hn : a = n
  · subst hn
    rw [if_pos rfl, if_pos hlt, if_pos hk, h]
    rfl
  · rw [if_neg hn]
    cases (if n < k then z_kt[n]? else none) with
    | none => rfl
    | some r =>
      simp only [Option.map_some]
      obtain ⟨o1, o2⟩ := ho n (fun c => hn c.symm)
      rw [zn_e_ext o1 o2]
theorem zn_w_D {base : Nat} {cA : Nat → ClassId} {S : Nat → Nat → Bool} {M : zM} {k : Nat} : va_D (fun q => base ≤ q) (zn_w base cA S M k) := by
  refine ⟨fun i j p q hp hq he => ?_, fun i q hq => ?_⟩
  · obtain ⟨-, q1, -, e1⟩ := zn_w_of hp
    obtain ⟨-, q2, -, e2⟩ := zn_w_of hq
    have he : base + i = base + j := by rw [e1, e2] at he; exact he
    omega
  · obtain ⟨-, -, -, rfl⟩ := zn_w_of hq
    show base ≤ base + i
    omega
/-- the places behind the last cell are blank -/
def zn_fr (k : Nat) (S : Nat → Nat → Bool) (M : zM) : Prop := ∀ b, k ≤ b → (∀ j, S b j = false) ∧ ∀ j, M b j = 0
def zn_P (base : Nat) (D : va_G) (cA : Nat → ClassId) (S : Nat → Nat → Bool) (M : zM) (k : Nat) (H : Heap) : Prop := H.size = base + k ∧ va_P D z_cl (zn_w base cA S M k) H ∧ zn_fr k S M
theorem zn_fr_1 {k : Nat} {S : Nat → Nat → Bool} {M : zM} (h : zn_fr k S M) : zn_fr (k + 1) S M := fun b hb => h b (by omega)
theorem zn_fr_S {k a j : Nat} {S : Nat → Nat → Bool} {M : zM} (h : zn_fr k S M) (ha : a < k) : zn_fr k (zn_set S a j) M := fun b hb => ⟨fun i => by rw [zn_set_ne S (fun q => by omega)]; exact (h b hb).1 i, (h b hb).2⟩
theorem zn_fr_M {k a : Nat} {j v : Int} {S : Nat → Nat → Bool} {M : zM} (h : zn_fr k S M) (ha : a < k) : zn_fr k S (z_up M a j v) := fun b hb => ⟨(h b hb).1, fun i => by rw [z_up_ne M v (fun q => by omega)]; exact (h b hb).2 i⟩
/-- a new cell behind the others -/
theorem zn_push {base : Nat} {D : va_G} {cA : Nat → ClassId} {S : Nat → Nat → Bool} {M : zM} {k : Nat} {H H1 : Heap} {q : zD} (h : zn_P base D cA S M k H) (hq : z_kt[k]? = some q) (hz : H1.size = H.size + 1) (ho : ∀ i, i < H.size → H1[i]? = H[i]?) (hn : va_at D z_cl (base + k, zn_e base cA S M k q) H1) : zn_P base D cA S M (k + 1) H1 := by
  obtain ⟨h1, h2, h3⟩ := h
  refine ⟨by omega, fun i e he => ?_, zn_fr_1 h3⟩
  obtain ⟨hi, r, hr, rfl⟩ := zn_w_of he
  by_cases hik : i < k
  · exact (h2 i _ (zn_w_at hr hik)).kept (ho _ (by show base + i < H.size; omega))
  · have : i = k := by omega
    subst this
    rw [hq] at hr
    cases hr
    exact hn
theorem zn_def {ci : Nat} {q : vw_C} (hci : ci < 12) (hq : z_cl[ci]? = some q) {j : Nat} (hj : j < q.2.2) : ∃ t, (z_ft.getD ci [])[j]? = some t ∧ defaultValue ((z_tf.getD ci (fun _ => .int)) j) = cond (Nat.beq t.1 1) .null (.int 0) := by
  have h : (List.range 12).all (fun ci => match z_cl[ci]? with
    | some q => (List.range q.2.2).all (fun j => match (z_ft.getD ci [])[j]? with
      | some t => decide (defaultValue ((z_tf.getD ci (fun _ => .int)) j) = cond (Nat.beq t.1 1) .null (.int 0))
      | none => false)
    | none => true) = true := by decide +kernel
  have h1 := List.all_eq_true.mp h ci (List.mem_range.mpr hci)
  rw [hq] at h1
  have h2 := List.all_eq_true.mp h1 j (List.mem_range.mpr hj)
  cases ht : (z_ft.getD ci [])[j]? with
  | none => simp only [ht] at h2; cases h2
  | some t => simp only [ht] at h2; exact ⟨t, rfl, of_decide_eq_true h2⟩
def zn_cx (p : Program) (s : State) (m : MethodId) (args : Array Value) (c : Code) (cc : ByteArray) (nL : Nat) (own : String) (D : va_G) (cA : Nat → ClassId) (base : Nat) : Prop :=
  p.tables.exec = Jvm.exec ∧ c.code = cc ∧ c.maxLocals = nL ∧ s.vm.findClass own = some m.cls ∧ (∀ w ∈ z_tb, w.before args s = true) ∧ va_K D z_cl (z_ty cA) s ∧ base ≤ s.heap.size ∧ z_nest s ∧ va_AO "WaterByLetters$Town" s
section
variable {p : Program} {l : Launch} {e : Env} {R : Room} {s : State} {m : MethodId} {args : Array Value} {below : List Frame} {meth : Method} {c : Code} {cc : ByteArray} {nL : Nat} {own : String} {D : va_G} {cA : Nat → ClassId} {base : Nat} {Qj : State → Prop} {pc : Nat} {S : Nat → Nat → Bool} {M : zM} {k : Nat} {H : Heap} {locs : List Loc} {cells slots : Nat} {ls : Array Slot} {rest : List Value}
theorem zn_S1 {H1 : Heap} (hS : va_S (fun q => base ≤ q) s.heap H locs) (hz : H1.size = H.size + 1) (ho : ∀ i, i < H.size → H1[i]? = H[i]?) : va_S (fun q => base ≤ q) s.heap H1 locs :=
  ⟨Nat.le_trans hS.1 (by omega), fun x h1 h2 => (ho x (Nat.lt_of_lt_of_le h1 hS.1)).trans (hS.2.1 x h1 h2), hS.2.2⟩
theorem zn_new (cx : zn_cx p s m args c cc nL own D cA base) {ci idx N : Nat} {C : String} {T : u_T} (hd : decode cc pc = .ok (.new idx, 3)) (hci : ci < 12) (hcl : z_cl[ci]? = some (C, T, N)) (hkt : z_kt[k]? = some (ci, 0)) (hw1 : Cond.classLink own idx C ∈ z_tb) (hw2 : Cond.instantiable C N ∈ z_tb) (hw3 : Cond.initialized C ∈ z_tb) (hc : cells + 1 ≤ R.cells) (hs : slots + N ≤ R.slots) (hP : zn_P base D cA S M k H) (hS : va_S (fun q => base ≤ q) s.heap H locs)
    (kk : ∀ H1 : Heap, zn_P base D cA S M (k + 1) H1 → va_S (fun q => base ≤ q) s.heap H1 locs → W p l e R s m args below meth c H1 locs (cells + 1) (slots + N) Qj (F0 m (pc + 3) ls (.ref (base + k) :: rest))) : W p l e R s m args below meth c H locs cells slots Qj (F0 m pc ls rest) := by
  obtain ⟨hx, hb, hml, hown, hts, hK, hbs, -⟩ := cx
  have hKn := hK.1 ci _ hcl
  refine W.newcK hx hb hown (hts _ hw1) (hts _ hw2) (hts _ hw3) rfl hd hc hs hKn.2.1 (h := base + k) hP.1 fun H1 kC hkC e1 z1 o1 => ?_
  refine kk H1 (zn_push hP hkt (by rw [z1, hP.1]) (fun i hi => o1 i (by rw [← hP.1]; exact hi)) ?_) (zn_S1 hS (by rw [z1, hP.1]) (fun i hi => o1 i (by rw [← hP.1]; exact hi)))
  rw [zn_e_obj hci]
  refine ⟨_, hcl, (u_born (z_tf.getD ci (fun _ => .int)) hts (z_cl_in hci hcl) hKn hkC e1 (z_cl_ty hci hcl)).to (fun j hj => ?_)⟩
  obtain ⟨t, h1, h2⟩ := zn_def hci hcl hj
  show defaultValue ((z_tf.getD ci (fun _ => .int)) j) = (zn_fs base S M k 0 (z_ft.getD ci [])).getD j .null
  rw [h2, List.getD_eq_getElem?_getD, zn_fs_get, h1]
  obtain ⟨f1, f2⟩ := hP.2.2 k (Nat.le_refl k)
  simp only [Option.map_some, Option.getD_some, zn_f1, Nat.zero_add, f1, f2]
  rfl
theorem zn_newI (cx : zn_cx p s m args c cc nL own D cA base) {N : Nat} {n : Int32} (hd : decode cc pc = .ok (.newarray .int, 2)) (hkt : z_kt[k]? = some (100, (N : Int))) (hn : ¬ n < 0) (hN : n.toNatClampNeg = N) (hN2 : N ≤ 10000) (hw : Cond.arrayClass .int ∈ z_tb) (hc : cells + 1 ≤ R.cells) (hs : slots + N ≤ R.slots) (hP : zn_P base D cA S M k H) (hS : va_S (fun q => base ≤ q) s.heap H locs)
    (kk : ∀ H1 : Heap, zn_P base D cA S M (k + 1) H1 → va_S (fun q => base ≤ q) s.heap H1 locs → W p l e R s m args below meth c H1 locs (cells + 1) (slots + N) Qj (F0 m (pc + 2) ls (.ref (base + k) :: rest))) : W p l e R s m args below meth c H locs cells slots Qj (F0 m pc ls (.int n :: rest)) := by
  obtain ⟨hx, hb, hml, hown, hts, hK, hbs, -⟩ := cx
  refine va_newaK (atype := .int) (h := base + k) hx hb (hts _ hw) rfl hd rfl hn hN (by show N * 4 ≤ _; omega) hc hs hP.1 fun H1 c1 e1 z1 o1 hAr hNm => ?_
  refine kk H1 (zn_push hP hkt (by rw [z1, hP.1]) (fun i hi => o1 i (by rw [← hP.1]; exact hi)) ?_) (zn_S1 hS (by rw [z1, hP.1]) (fun i hi => o1 i (by rw [← hP.1]; exact hi)))
  have hc1 : c1 = cA 0 := Option.some.inj (hNm.symm.trans (hK.2 0 _ rfl).2)
  subst hc1
  show H1[base + k]? = some (vp_cell (cA 0) ((N : Int).toNat, .inl fun j => Int32.ofInt (M k (j : Int))))
  rw [e1, Int.toNat_natCast]
  rw [vp_cell_i]
  congr 2
  funext j
  rw [(hP.2.2 k (Nat.le_refl k)).2]
  rfl
theorem zn_newL (cx : zn_cx p s m args c cc nL own D cA base) {N : Nat} {n : Int32} (hd : decode cc pc = .ok (.newarray .long, 2)) (hkt : z_kt[k]? = some (101, (N : Int))) (hn : ¬ n < 0) (hN : n.toNatClampNeg = N) (hN2 : N ≤ 10000) (hw : Cond.arrayClass .long ∈ z_tb) (hc : cells + 1 ≤ R.cells) (hs : slots + N ≤ R.slots) (hP : zn_P base D cA S M k H) (hS : va_S (fun q => base ≤ q) s.heap H locs)
    (kk : ∀ H1 : Heap, zn_P base D cA S M (k + 1) H1 → va_S (fun q => base ≤ q) s.heap H1 locs → W p l e R s m args below meth c H1 locs (cells + 1) (slots + N) Qj (F0 m (pc + 2) ls (.ref (base + k) :: rest))) : W p l e R s m args below meth c H locs cells slots Qj (F0 m pc ls (.int n :: rest)) := by
  obtain ⟨hx, hb, hml, hown, hts, hK, hbs, -⟩ := cx
  refine va_newaK (atype := .long) (h := base + k) hx hb (hts _ hw) rfl hd rfl hn hN (by show N * 8 ≤ _; omega) hc hs hP.1 fun H1 c1 e1 z1 o1 hAr hNm => ?_
  refine kk H1 (zn_push hP hkt (by rw [z1, hP.1]) (fun i hi => o1 i (by rw [← hP.1]; exact hi)) ?_) (zn_S1 hS (by rw [z1, hP.1]) (fun i hi => o1 i (by rw [← hP.1]; exact hi)))
  have hc1 : c1 = cA 1 := Option.some.inj (hNm.symm.trans (hK.2 1 _ rfl).2)
  subst hc1
  show H1[base + k]? = some (vp_cell (cA 1) ((N : Int).toNat, .inr (.inl fun j => Int64.ofInt (M k (j : Int)))))
  rw [e1, Int.toNat_natCast]
  rw [vp_cell_l]
  congr 2
  funext j
  rw [(hP.2.2 k (Nat.le_refl k)).2]
  rfl
theorem zn_newZ (cx : zn_cx p s m args c cc nL own D cA base) {N : Nat} {n : Int32} (hd : decode cc pc = .ok (.newarray .boolean, 2)) (hkt : z_kt[k]? = some (102, (N : Int))) (hn : ¬ n < 0) (hN : n.toNatClampNeg = N) (hN2 : N ≤ 10000) (hw : Cond.arrayClass .boolean ∈ z_tb) (hc : cells + 1 ≤ R.cells) (hs : slots + N ≤ R.slots) (hP : zn_P base D cA S M k H) (hS : va_S (fun q => base ≤ q) s.heap H locs)
    (kk : ∀ H1 : Heap, zn_P base D cA S M (k + 1) H1 → va_S (fun q => base ≤ q) s.heap H1 locs → W p l e R s m args below meth c H1 locs (cells + 1) (slots + N) Qj (F0 m (pc + 2) ls (.ref (base + k) :: rest))) : W p l e R s m args below meth c H locs cells slots Qj (F0 m pc ls (.int n :: rest)) := by
  obtain ⟨hx, hb, hml, hown, hts, hK, hbs, -⟩ := cx
  refine va_newaK (atype := .boolean) (h := base + k) hx hb (hts _ hw) rfl hd rfl hn hN (by show N * 1 ≤ _; omega) hc hs hP.1 fun H1 c1 e1 z1 o1 hAr hNm => ?_
  refine kk H1 (zn_push hP hkt (by rw [z1, hP.1]) (fun i hi => o1 i (by rw [← hP.1]; exact hi)) ?_) (zn_S1 hS (by rw [z1, hP.1]) (fun i hi => o1 i (by rw [← hP.1]; exact hi)))
  have hc1 : c1 = cA 2 := Option.some.inj (hNm.symm.trans (hK.2 2 _ rfl).2)
  subst hc1
  show H1[base + k]? = some (vp_cell (cA 2) ((N : Int).toNat, .inl fun j => Int32.ofInt (M k (j : Int))))
  rw [e1, Int.toNat_natCast]
  rw [vp_cell_i]
  congr 2
  funext j
  rw [(hP.2.2 k (Nat.le_refl k)).2]
  rfl
theorem zn_newQ (cx : zn_cx p s m args c cc nL own D cA base) {N idx : Nat} {n : Int32} (hd : decode cc pc = .ok (.anewarray idx, 3)) (hkt : z_kt[k]? = some (103, (N : Int))) (hn : ¬ n < 0) (hN : n.toNatClampNeg = N) (hN2 : N ≤ 10000) (hw : Cond.classLink own idx "WaterByLetters$Town" ∈ z_tb) (hc : cells + 1 ≤ R.cells) (hs : slots + N ≤ R.slots) (hP : zn_P base D cA S M k H) (hS : va_S (fun q => base ≤ q) s.heap H locs)
    (kk : ∀ H1 : Heap, zn_P base D cA S M (k + 1) H1 → va_S (fun q => base ≤ q) s.heap H1 locs → W p l e R s m args below meth c H1 locs (cells + 1) (slots + N) Qj (F0 m (pc + 3) ls (.ref (base + k) :: rest))) : W p l e R s m args below meth c H locs cells slots Qj (F0 m pc ls (.int n :: rest)) := by
  obtain ⟨hx, hb, hml, hown, hts, hK, hbs, -, hAO⟩ := cx
  subst hN
  refine W.anew hx hb hown (hts _ hw) (va_AO.use hAO) rfl hd rfl hn (by omega) hc hs fun c1 kA comp f1 f2 f3 f4 => ?_
  generalize hH1 : H.push ({ cls := c1, slots := Array.replicate n.toNatClampNeg .null, vm := .none } : Cell) = H1
  have z1 : H1.size = H.size + 1 := by rw [← hH1, Array.size_push]
  have e1 : H1[H.size]? = some (arrV c1 n.toNatClampNeg (fun _ => .null)) := by rw [← hH1, Array.getElem?_push_size, ← arrV_new]
  have o1 : ∀ q : Nat, q < H.size → H1[q]? = H[q]? := fun q hq => by rw [← hH1, Array.getElem?_push, if_neg (Nat.ne_of_lt hq)]
  have h := kk H1 (zn_push hP hkt z1 o1 ?_) (zn_S1 hS z1 o1)
  · rw [← hP.1] at h
    exact h
  · obtain ⟨kA', comp', -, -, -, g4⟩ := (hK.2 3 _ rfl).2
    have hc1 : c1 = cA 3 := Option.some.inj (f1.symm.trans g4)
    subst hc1
    show H1[base + k]? = some (vp_cell (cA 3) (((n.toNatClampNeg : Nat) : Int).toNat, .inr (.inr (.inr (.inr fun j => cond (S k j) (some (base + z_el k (j : Int))) none)))))
    rw [← hP.1, e1, Int.toNat_natCast]
    rw [vp_cell_q]
    congr 2
    funext j
    rw [(hP.2.2 k (Nat.le_refl k)).1]
    rfl
theorem zn_sz (kk : H.size ≤ s.heap.size + cells → W p l e R s m args below meth c H locs cells slots Qj (F0 m pc ls rest)) : W p l e R s m args below meth c H locs cells slots Qj (F0 m pc ls rest) := by
  intro T hT X
  have h : T.heap.size ≤ s.heap.size + cells := X.same.2.2.1
  rw [hT] at h
  exact kk h T hT X
/-- behind a write: the world, the frame -/
theorem zn_wrote {S' : Nat → Nat → Bool} {M' : zM} {H1 : Heap} {locs1 : List Loc} (hbk : s.heap.size + cells = base + k) (hP : zn_P base D cA S M k H) (hS : va_S (fun q => base ≤ q) s.heap H locs) (hf : zn_fr k S' M') (h1 : va_P D z_cl (zn_w base cA S' M' k) H1) (h2 : va_S (fun q => base ≤ q) H H1 locs1)
    (kk : zn_P base D cA S' M' k H1 → va_S (fun q => base ≤ q) s.heap H1 locs1 → W p l e R s m args below meth c H1 locs1 cells slots Qj (F0 m pc ls rest)) : W p l e R s m args below meth c H1 locs1 cells slots Qj (F0 m pc ls rest) := by
  refine zn_sz (fun hz => kk ⟨?_, h1, hf⟩ ⟨Nat.le_trans hS.1 h2.1, fun q a b => (h2.2.1 q (Nat.lt_of_lt_of_le a hS.1) b).trans (hS.2.1 q a b), h2.2.2⟩)
  have := h2.1
  have := hP.1
  omega
theorem zn_here (hS : va_S (fun q => base ≤ q) s.heap H locs) : va_S (fun q => base ≤ q) H H locs := ⟨Nat.le_refl _, fun _ _ _ => rfl, hS.2.2⟩
theorem zn_putR (cx : zn_cx p s m args c cc nL own D cA base) {a ci idx j off N : Nat} {C : String} {T : u_T} {ty : FieldType} (hd : decode cc pc = .ok (.putfield idx, 3)) (hbk : s.heap.size + cells = base + k) (hak : a < k) (hci : ci < 12) (hcl : z_cl[ci]? = some (C, T, N)) (hkt : z_kt[a]? = some (ci, 0)) (hjN : j < N) (hw : Cond.fieldLink own idx (T j).1 (T j).2.1 (T j).2.2.1 ∈ z_tb) (hfin : (T j).2.2.2 = true) (hin2 : meth.name = "<init>") (hdecl : (T j).1 = own) (hpd : parseFieldDescriptor (T j).2.2.1 = some ty) (hnar : ∀ x : Nat, narrow ty (.ref x) = .ref x) (hfit : ∀ x : Nat, fits ty (.ref x) = true) (hf : (z_ft.getD ci [])[j]? = some (1, off)) (hP : zn_P base D cA S M k H) (hS : va_S (fun q => base ≤ q) s.heap H locs)
    (kk : ∀ (H1 : Heap) (locs1 : List Loc), zn_P base D cA (zn_set S a j) M k H1 → va_S (fun q => base ≤ q) s.heap H1 locs1 → W p l e R s m args below meth c H1 locs1 cells slots Qj (F0 m (pc + 3) ls rest)) : W p l e R s m args below meth c H locs cells slots Qj (F0 m pc ls (.ref (base + (a + off)) :: .ref (base + a) :: rest)) := by
  obtain ⟨hx, hb, hml, hown, hts, hK, hbs, -⟩ := cx
  have ha := zn_w_at (base := base) (cA := cA) (S := S) (M := M) hkt hak
  rw [zn_e_obj hci] at ha
  refine va_putF (H0 := H) hx hb hts (z_cl_in hci hcl) (z_tf.getD ci (fun _ => .int)) (z_cl_ty hci hcl) (z_cl_nm hci hcl) hown hK hP.2.1 zn_w_D (zn_here hS) a ha hcl j hjN (hts _ hw) (fun _ z => z) hfin hin2 hdecl hpd (hnar _) (hfit _) (by rw [zn_fs_len]; exact (List.getElem?_eq_some_iff.mp hf).1) hd (fun H1 locs1 hP1 _ hS1 => ?_)
  rw [zn_w_set (S' := zn_set S a j) (M' := M) hkt hak ?_ (fun b hb => ⟨rfl, by funext i; exact zn_set_ne S (fun q => hb q.1)⟩)] at hP1
  · exact zn_wrote hbk hP hS (zn_fr_S hP.2.2 hak) hP1 hS1 (kk H1 locs1)
  · rw [zn_e_obj hci, zn_fs_setR hf]
theorem zn_putI (cx : zn_cx p s m args c cc nL own D cA base) {a ci idx j N : Nat} {q : Nat × Nat} {v : Int} {C : String} {T : u_T} (hd : decode cc pc = .ok (.putfield idx, 3)) (hbk : s.heap.size + cells = base + k) (hak : a < k) (hci : ci < 12) (hcl : z_cl[ci]? = some (C, T, N)) (hkt : z_kt[a]? = some (ci, 0)) (hjN : j < N) (hw : Cond.fieldLink own idx (T j).1 (T j).2.1 (T j).2.2.1 ∈ z_tb) (hfin : (T j).2.2.2 = false) (hpd : parseFieldDescriptor (T j).2.2.1 = some .int) (hf : (z_ft.getD ci [])[j]? = some q) (hq : Nat.beq q.1 1 = false) (hP : zn_P base D cA S M k H) (hS : va_S (fun q => base ≤ q) s.heap H locs)
    (kk : ∀ (H1 : Heap) (locs1 : List Loc), zn_P base D cA S (z_up M a (j : Int) v) k H1 → va_S (fun q => base ≤ q) s.heap H1 locs1 → W p l e R s m args below meth c H1 locs1 cells slots Qj (F0 m (pc + 3) ls rest)) : W p l e R s m args below meth c H locs cells slots Qj (F0 m pc ls (.int (Int32.ofInt v) :: .ref (base + a) :: rest)) := by
  obtain ⟨hx, hb, hml, hown, hts, hK, hbs, -⟩ := cx
  have ha := zn_w_at (base := base) (cA := cA) (S := S) (M := M) hkt hak
  rw [zn_e_obj hci] at ha
  refine va_put (H0 := H) (ty := .int) hx hb hts (z_cl_in hci hcl) (z_tf.getD ci (fun _ => .int)) (z_cl_ty hci hcl) (z_cl_nm hci hcl) hown hK hP.2.1 zn_w_D (zn_here hS) a ha hcl j hjN (hts _ hw) (fun _ z => z) hfin hpd rfl rfl (by rw [zn_fs_len]; exact (List.getElem?_eq_some_iff.mp hf).1) hd (fun H1 locs1 hP1 _ hS1 => ?_)
  rw [zn_w_set (S' := S) (M' := z_up M a (j : Int) v) hkt hak ?_ (fun b hb => ⟨by funext i; exact z_up_ne M v (fun q => hb q.1), rfl⟩)] at hP1
  · exact zn_wrote hbk hP hS (zn_fr_M hP.2.2 hak) hP1 hS1 (kk H1 locs1)
  · rw [zn_e_obj hci, zn_fs_setI hf hq]
theorem zn_getR (cx : zn_cx p s m args c cc nL own D cA base) {a ci idx j off N : Nat} {C : String} {T : u_T} (hd : decode cc pc = .ok (.getfield idx, 3)) (hak : a < k) (hci : ci < 12) (hcl : z_cl[ci]? = some (C, T, N)) (hkt : z_kt[a]? = some (ci, 0)) (hjN : j < N) (hw : Cond.fieldLink own idx (T j).1 (T j).2.1 (T j).2.2.1 ∈ z_tb) (hf : (z_ft.getD ci [])[j]? = some (1, off)) (hs : S a j = true) (hP : zn_P base D cA S M k H)
    (kk : W p l e R s m args below meth c H locs cells slots Qj (F0 m (pc + 3) ls (.ref (base + (a + off)) :: rest))) : W p l e R s m args below meth c H locs cells slots Qj (F0 m pc ls (.ref (base + a) :: rest)) := by
  obtain ⟨hx, hb, hml, hown, hts, hK, hbs, -⟩ := cx
  have ha := zn_w_at (base := base) (cA := cA) (S := S) (M := M) hkt hak
  rw [zn_e_obj hci] at ha
  refine va_get hx hb hts (z_cl_in hci hcl) hown hK hP.2.1 a ha hcl j hjN (hts _ hw) (fun _ z => z) (v := .ref (base + (a + off))) ?_ hd kk
  show (zn_fs base S M a 0 (z_ft.getD ci []))[j]? = _
  rw [zn_fs_get, hf]
  simp only [Option.map_some, zn_f1, Nat.zero_add, hs]
  rfl
theorem zn_iast (cx : zn_cx p s m args c cc nL own D cA base) {a N i : Nat} {v : Int} (hd : decode cc pc = .ok (.iastore, 1)) (hbk : s.heap.size + cells = base + k) (hak : a < k) (hkt : z_kt[a]? = some (100, (N : Int))) (hi : i < N) (hN : N < 10000) (hP : zn_P base D cA S M k H) (hS : va_S (fun q => base ≤ q) s.heap H locs)
    (kk : ∀ (H1 : Heap) (locs1 : List Loc), zn_P base D cA S (z_up M a (i : Int) v) k H1 → va_S (fun q => base ≤ q) s.heap H1 locs1 → W p l e R s m args below meth c H1 locs1 cells slots Qj (F0 m (pc + 1) ls rest)) : W p l e R s m args below meth c H locs cells slots Qj (F0 m pc ls (.int (Int32.ofInt v) :: .int (nI i) :: .ref (base + a) :: rest)) := by
  obtain ⟨hx, hb, hml, hown, hts, hK, hbs, -⟩ := cx
  have ha := zn_w_at (base := base) (cA := cA) (S := S) (M := M) hkt hak
  have ha : (zn_w base cA S M k)[a]? = some (base + a, .inl (cA 0, (N : Int).toNat, .inl fun j => Int32.ofInt (M a (j : Int)))) := ha
  refine va_iast (H0 := H) hx hb hK hP.2.1 zn_w_D (zn_here hS) a 0 ha rfl (vp_in_nI (by rw [Int.toNat_natCast]; exact hi) (by rw [Int.toNat_natCast]; omega)) hd (fun H1 locs1 hP1 _ hS1 => ?_)
  rw [zn_w_set (S' := S) (M' := z_up M a (i : Int) v) hkt hak ?_ (fun b hb => ⟨by funext i; exact z_up_ne M v (fun q => hb q.1), rfl⟩)] at hP1
  · exact zn_wrote hbk hP hS (zn_fr_M hP.2.2 hak) hP1 hS1 (kk H1 locs1)
  · have e1 : zn_e base cA S (z_up M a (i : Int) v) a (100, (N : Int)) = .inl (cA 0, (N : Int).toNat, .inl fun j => Int32.ofInt (z_up M a (i : Int) v a (j : Int))) := rfl
    rw [e1]
    congr 4
    funext j
    rw [nI_clamp (by omega)]
    show (if j = i then Int32.ofInt v else Int32.ofInt (M a j)) = Int32.ofInt (z_up M a i v a j)
    by_cases hj : j = i
    · rw [if_pos hj, hj, z_up_same]
    · rw [if_neg hj, z_up_ne M v (fun q => hj (by omega))]
theorem zn_ast (cx : zn_cx p s m args c cc nL own D cA base) {a N i : Nat} (hd : decode cc pc = .ok (.aastore, 1)) (hbk : s.heap.size + cells = base + k) (hak : a < k) (hkt : z_kt[a]? = some (103, (N : Int))) (hi : i < N) (hN : N < 10000) (hek : z_el a (i : Int) < k) (het : z_kt[z_el a (i : Int)]? = some (9, 0)) (hP : zn_P base D cA S M k H) (hS : va_S (fun q => base ≤ q) s.heap H locs)
    (kk : ∀ (H1 : Heap) (locs1 : List Loc), zn_P base D cA (zn_set S a i) M k H1 → va_S (fun q => base ≤ q) s.heap H1 locs1 → W p l e R s m args below meth c H1 locs1 cells slots Qj (F0 m (pc + 1) ls rest)) : W p l e R s m args below meth c H locs cells slots Qj (F0 m pc ls (.ref (base + z_el a (i : Int)) :: .int (nI i) :: .ref (base + a) :: rest)) := by
  obtain ⟨hx, hb, hml, hown, hts, hK, hbs, -⟩ := cx
  have ha := zn_w_at (base := base) (cA := cA) (S := S) (M := M) hkt hak
  have ha : (zn_w base cA S M k)[a]? = some (base + a, .inl (cA 3, (N : Int).toNat, .inr (.inr (.inr (.inr fun j => cond (S a j) (some (base + z_el a (j : Int))) none))))) := ha
  have hv := zn_w_at (base := base) (cA := cA) (S := S) (M := M) het hek
  rw [zn_e_obj (by decide)] at hv
  refine va_astq (H0 := H) hx hb hK hP.2.1 zn_w_D (zn_here hS) a 3 (z_el a (i : Int)) 9 (r := ("WaterByLetters$Town", zF9, 7)) ha rfl hv rfl (vp_in_nI (by rw [Int.toNat_natCast]; exact hi) (by rw [Int.toNat_natCast]; omega)) hd (fun H1 locs1 hP1 _ hS1 => ?_)
  rw [zn_w_set (S' := zn_set S a i) (M' := M) hkt hak ?_ (fun b hb => ⟨rfl, by funext i; exact zn_set_ne S (fun q => hb q.1)⟩)] at hP1
  · exact zn_wrote hbk hP hS (zn_fr_S hP.2.2 hak) hP1 hS1 (kk H1 locs1)
  · have e1 : zn_e base cA (zn_set S a i) M a (103, (N : Int)) = .inl (cA 3, (N : Int).toNat, .inr (.inr (.inr (.inr fun j => cond (zn_set S a i a j) (some (base + z_el a (j : Int))) none)))) := rfl
    rw [e1]
    congr 7
    funext j
    rw [nI_clamp (by omega)]
    unfold va_up
    by_cases hj : j = i
    · subst hj
      rw [if_pos rfl, zn_set_same]; rfl
    · rw [if_neg hj, zn_set_ne S (fun q => hj q.2)]
/-- a constructor's end, its start -/
def zn_Q (base : Nat) (D : va_G) (cA : Nat → ClassId) (k : Nat) (S : Nat → Nat → Bool) (M : zM) : Array Value → State → Outcome → State → Prop := fun _ st oc t => (oc = .returned none ∧ zn_P base D cA S M k t.heap) ∧ va_F (fun q => base ≤ q) st t
def zn_B (base : Nat) (D : va_G) (cA : Nat → ClassId) (k : Nat) (S : Nat → Nat → Bool) (M : zM) (U : State) : Prop := zn_P base D cA S M k U.heap ∧ va_K D z_cl (z_ty cA) U ∧ z_nest U ∧ va_AO "WaterByLetters$Town" U
def zn_rm (d mc ms : Nat) : Room := { frames := d, cells := mc, slots := ms, locals := 60 * d }
theorem zn_B_blind {av : List Value} : FrameBlind (va_Pc av (zn_B base D cA k S M)) := by
  intro a U g mk q
  obtain ⟨q0, q1, q2, q3, q4⟩ := q
  exact ⟨q0, q1, va_K.moved (u := U) (U := U.calling g mk a) (Vm.Alike.refl U.vm) q2, fun b i x h hm => va_Nw.same (u := U) (U := U.calling g mk a) rfl rfl (q3 b i x h hm), va_AO.moved (u := U) (U := U.calling g mk a) (Vm.Alike.refl U.vm) q4⟩
theorem zn_run {mc ms k' : Nat} {S' : Nat → Nat → Bool} {M' : zM} {st0 : List Value} {a : Array Value} (hr : va_Run p l e R s m args below meth c H locs cells slots mc ms (F0 m pc ls st0) rest (zn_Q base D cA k' S' M' a) (fun q => base ≤ q)) (hS : va_S (fun q => base ≤ q) s.heap H locs)
    (kk : ∀ (H1 : Heap) (locs1 : List Loc), zn_P base D cA S' M' k' H1 → va_S (fun q => base ≤ q) s.heap H1 locs1 → W p l e R s m args below meth c H1 locs1 (cells + mc) (slots + ms) Qj (F0 m (pc + 3) ls rest)) : W p l e R s m args below meth c H locs cells slots Qj (F0 m pc ls st0) := by
  intro T hT X
  obtain ⟨v, st₀, t, T', L, h0, X', hL, e1, e2, ⟨⟨hv, hP⟩, hz, hk⟩, st⟩ := hr T hT X
  cases hv
  rw [h0] at hz hk
  obtain ⟨t2, a1, b1⟩ := kk T'.heap (locs ++ L) (by rw [e1]; exact hP)
    ⟨Nat.le_trans hS.1 (by rw [e1]; exact hz), fun q h1 h2 => by rw [e1, hk q (Nat.lt_of_lt_of_le h1 hS.1) h2]; exact hS.2.1 q h1 h2, fun q hq => by
      rcases List.mem_append.mp hq with h | h
      · exact hS.2.2 q h
      · exact hL q h⟩ T' rfl X'
  exact ⟨t2, st t2 a1, b1⟩
/-- a constructor's contract: the object is the cell a -/
abbrev zn_M (l : Launch) (base : Nat) (D : va_G) (cA : Nat → ClassId) (y : MethodName) (bytes : ByteArray) (maxL d mc ms a k : Nat) (S : Nat → Nat → Bool) (M : zM) (k' : Nat) (S' : Nat → Nat → Bool) (M' : zM) : Prop :=
  Met l y (Cond.code y bytes maxL none :: z_tb) (zn_rm d mc ms) (va_Pc [.ref (base + a)] (zn_B base D cA k S M)) (zn_Q base D cA k' S' M') mc ms (fun q => base ≤ q)
theorem zn_callI {y : MethodName} {bytes : ByteArray} {maxL d mc ms a k' idx : Nat} {S' : Nat → Nat → Bool} {M' : zM} (cx : zn_cx p s m args c cc nL own D cA base) (hM : zn_M l base D cA y bytes maxL d mc ms a k S M k' S' M') (hd : decode cc pc = .ok (.invokespecial idx, 3)) (hR : d + 1 ≤ R.frames ∧ 8 + (maxL + 11) + 60 * d ≤ R.locals) (hw1 : Cond.methodLink own idx y ∈ z_tb) (hw2 : Cond.instanceMethod y ∈ z_tb) (hw3 : Cond.initialized y.cls ∈ z_tb) (hw4 : Cond.code y bytes maxL none ∈ z_tb) (hdesc : y.cls ≠ "java/lang/invoke/MethodHandle" ∧ y.cls ≠ "java/lang/invoke/VarHandle" ∧ (parseMethodDescriptor y.desc).map (fun d => d.parameters.length) = some 0) (hyn : y.name = "<init>") (hcat : (rest.map fun v => v.category).sum ≤ 8) (hc : cells + mc ≤ R.cells) (hs : slots + ms ≤ R.slots) (hls : ls.size = nL) (hP : zn_P base D cA S M k H) (hS : va_S (fun q => base ≤ q) s.heap H locs)
    (kk : ∀ (H1 : Heap) (locs1 : List Loc), zn_P base D cA S' M' k' H1 → va_S (fun q => base ≤ q) s.heap H1 locs1 → W p l e R s m args below meth c H1 locs1 (cells + mc) (slots + ms) Qj (F0 m (pc + 3) ls rest)) : W p l e R s m args below meth c H locs cells slots Qj (F0 m pc ls (.ref (base + a) :: rest)) := by
  obtain ⟨hx, hb, hml, hown, hts, hK, hbs, hnest, hAO⟩ := cx
  exact zn_run (rest := rest) (va_runI (As := []) (b := base + a) (n := 0) (own := own) (Ts := z_tb) ⟨hx, hb, hml, hown, hts⟩ hM ⟨callB_of (bytes := bytes) (maxL := maxL) (ret := none) 0 hts (z_goodIn hw4) rfl rfl rfl (hts _ hw3) (hts _ hw1) hdesc hR, hyn, hts _ hw2⟩ ⟨zn_B_blind, fun U hU hW => ⟨rfl, by rw [hU]; exact hP, va_K.moved hW.alike hK, fun a i x h hm => va_Nw.warmM hW (hnest a i x h hm), va_AO.moved hW.alike hAO⟩⟩ rfl rfl hls rfl (lv_room hcat) hd ⟨hc, hs⟩) hS kk
theorem zn_callN {y : MethodName} {bytes : ByteArray} {maxL d mc ms a k' idx : Nat} {S' : Nat → Nat → Bool} {M' : zM} (cx : zn_cx p s m args c cc nL own D cA base) (hM : zn_M l base D cA y bytes maxL d mc ms a k S M k' S' M') (hd : decode cc pc = .ok (.invokespecial idx, 3)) (hR : d + 1 ≤ R.frames ∧ 8 + (maxL + 11) + 60 * d ≤ R.locals) (hw1 : Cond.methodLinkNest own idx y "WaterByLetters" ∈ lw_tbl) (hw2 : Cond.instanceMethod y ∈ z_tb) (hw3 : Cond.initialized y.cls ∈ z_tb) (hw4 : Cond.code y bytes maxL none ∈ z_tb) (hdesc : y.cls ≠ "java/lang/invoke/MethodHandle" ∧ y.cls ≠ "java/lang/invoke/VarHandle" ∧ (parseMethodDescriptor y.desc).map (fun d => d.parameters.length) = some 0) (hyn : y.name = "<init>") (hcat : (rest.map fun v => v.category).sum ≤ 8) (hc : cells + mc ≤ R.cells) (hs : slots + ms ≤ R.slots) (hls : ls.size = nL) (hP : zn_P base D cA S M k H) (hS : va_S (fun q => base ≤ q) s.heap H locs)
    (kk : ∀ (H1 : Heap) (locs1 : List Loc), zn_P base D cA S' M' k' H1 → va_S (fun q => base ≤ q) s.heap H1 locs1 → W p l e R s m args below meth c H1 locs1 (cells + mc) (slots + ms) Qj (F0 m (pc + 3) ls rest)) : W p l e R s m args below meth c H locs cells slots Qj (F0 m pc ls (.ref (base + a) :: rest)) := by
  obtain ⟨hx, hb, hml, hown, hts, hK, hbs, hnest, hAO⟩ := cx
  exact zn_run (rest := rest) (va_runIN (As := []) (b := base + a) (n := 0) (own := own) (Ts := z_tb) ⟨hx, hb, hml, hown, hts⟩ hM ⟨va_cnB (host := "WaterByLetters") 0 hts (z_goodIn hw4) rfl rfl rfl (hnest _ _ _ _ hw1) (hts _ hw3) hdesc hR, hyn, hts _ hw2⟩ ⟨zn_B_blind, fun U hU hW => ⟨rfl, by rw [hU]; exact hP, va_K.moved hW.alike hK, fun a i x h hm => va_Nw.warmM hW (hnest a i x h hm), va_AO.moved hW.alike hAO⟩⟩ rfl rfl hls rfl (lv_room hcat) hd ⟨hc, hs⟩) hS kk
theorem zn_obj (cx : zn_cx p s m args c cc nL own D cA base) {a idx : Nat} (hd : decode cc pc = .ok (.invokespecial idx, 3)) (hw1 : Cond.methodLink own idx Lib.objectInit ∈ z_tb) (hw2 : Cond.instanceMethod Lib.objectInit ∈ z_tb) (hw3 : Cond.code Lib.objectInit ⟨#[0xb1]⟩ 1 none ∈ z_tb) (hR : 1 ≤ R.frames ∧ 60 ≤ R.locals) (hls : ls.size = nL)
    (kk : W p l e R s m args below meth c H locs cells slots Qj (F0 m (pc + 3) ls [])) : W p l e R s m args below meth c H locs cells slots Qj (F0 m pc ls [.ref a]) := by
  obtain ⟨hx, hb, hml, hown, hts, hK, hbs, hnest, hAO⟩ := cx
  refine W.objInit hx hb hown (hts _ hw1) (hts _ hw2) (hts _ hw3) rfl (by rw [hml]; exact hls) rfl hd hR.1 (Nat.le_trans (Nat.le_of_ble_eq_true rfl) hR.2) ?_
  exact W.eq (g2 := F0 m (pc + 3) ls []) rfl kk
end
theorem zn_body {l : Launch} {base : Nat} {D : va_G} {cA : Nat → ClassId} {y : MethodName} {bytes : ByteArray} {maxL d mc ms a k k' : Nat} {S S' : Nat → Nat → Bool} {M M' : zM} (hy : plainName y.cls = true) (hyn : y.name = "<init>") (hml0 : 1 ≤ maxL)
    (body : ∀ (p : Program) (e : Env) (s : State) (m : MethodId) (below : List Frame) (meth : Method) (c : Code) (ls : Array Slot), zn_cx p s m #[.ref (base + a)] c bytes maxL y.cls D cA base → meth.name = "<init>" → meth.sig.returnType = none → meth.locks = false → s.heap.size = base + k → zn_P base D cA S M k s.heap → va_S (fun q => base ≤ q) s.heap s.heap [] → lv_has ls maxL [(0, .ref (base + a))] → W p l e (zn_rm d mc ms) s m #[.ref (base + a)] below meth c s.heap [] 0 0 (MQ below (zn_Q base D cA k' S' M') #[.ref (base + a)] s mc ms (fun q => base ≤ q)) (F0 m 0 ls [])) :
    zn_M l base D cA y bytes maxL d mc ms a k S M k' S' M' := by
  refine Met.ofW (cc := bytes) (maxL := maxL) (ret := none) hy rfl ?_
  intro p e s m args below meth c s₁ B hml hv
  obtain ⟨rfl, hP, hK, hN, hAO⟩ := hv
  have hts0 := atoms_spec (ws := Cond.code y bytes maxL none :: z_tb) B.pre
  have hts : ∀ w ∈ z_tb, w.before #[.ref (base + a)] s = true := fun w hw => hts0 w (List.mem_cons_of_mem _ hw)
  have hown : s.vm.findClass y.cls = some m.cls := findClass_of_methodNamed B.named
  have hin : meth.name = "<init>" := (name_of_methodNamed B.named B.method).1.trans hyn
  have hl := lv_entry ([.ref (base + a)] : List Value) (n := maxL) hml0
  rw [lg_entry_eq]
  exact body p e s m below meth c _ ⟨B.exec, B.bytes, hml, hown, hts, hK, by have := hP.1; omega, hN, hAO⟩ hin B.returns B.notSynchronized hP.1 hP va_S.rf hl
theorem zn_nI (i : Nat) : nI i = Int32.ofInt (i : Int) := by
  unfold nI
  rfl
def zn_idm (M : zM) (b : Nat) : Nat → zM
  | 0 => M
  | i + 1 => z_up (zn_idm M b i) b (i : Int) (i : Int)
theorem zn_cs {p : Program} {l : Launch} {e : Env} {R : Room} {s : State} {m : MethodId} {args : Array Value} {below : List Frame} {meth : Method} {c : Code} {H : Heap} {locs : List Loc} {cells slots cells' slots' : Nat} {Q : State → Prop} {g : JFrame} (hc : cells = cells') (hs : slots = slots') (h : W p l e R s m args below meth c H locs cells' slots' Q g) : W p l e R s m args below meth c H locs cells slots Q g := by
  subst hc; subst hs; exact h
