/-! ONE INSTRUCTION: the check and z_step give the machine's step -/
theorem z_cl_w : ∀ ci, ci < 12 → ∀ q, z_cl[ci]? = some q → ∀ k, k < q.2.2 → z_has ((z_lw.getD ci [])[k]?) (u_lay q.1 q.2.1 k) = true := by
  have h : (List.range 12).all (fun ci => match z_cl[ci]? with
    | some q => (List.range q.2.2).all (fun k => z_has ((z_lw.getD ci [])[k]?) (u_lay q.1 q.2.1 k))
    | none => true) = true := by decide +kernel
  intro ci hci q hq k hk
  have h1 := List.all_eq_true.mp h ci (List.mem_range.mpr hci)
  rw [hq] at h1
  exact List.all_eq_true.mp h1 k (List.mem_range.mpr hk)
theorem z_cl_in {ci : Nat} {q : vw_C} (hci : ci < 12) (hq : z_cl[ci]? = some q) : ∀ w ∈ u_ws q.1 q.2.1 q.2.2, w ∈ z_tb := by
  intro w hw
  obtain ⟨k, hk, rfl⟩ := List.mem_map.mp hw
  refine z_has_tb (z_cl_w ci hci q hq k (List.mem_range.mp hk)) ?_
  unfold u_lay
  split <;> rfl
theorem z_cl_ty {ci : Nat} {q : vw_C} (hci : ci < 12) (hq : z_cl[ci]? = some q) : ∀ k, k < q.2.2 → parseFieldDescriptor (q.2.1 k).2.2.1 = some ((z_tf.getD ci (fun _ => .int)) k) := by
  have h : (List.range 12).all (fun ci => match z_cl[ci]? with
    | some q => (List.range q.2.2).all (fun k => decide (parseFieldDescriptor (q.2.1 k).2.2.1 = some ((z_tf.getD ci (fun _ => .int)) k)))
    | none => true) = true := by decide +kernel
  have h1 := List.all_eq_true.mp h ci (List.mem_range.mpr hci)
  rw [hq] at h1
  exact fun k hk => of_decide_eq_true (List.all_eq_true.mp h1 k (List.mem_range.mpr hk))
theorem z_cl_nm {ci : Nat} {q : vw_C} (hci : ci < 12) (hq : z_cl[ci]? = some q) : ∀ a, a < q.2.2 → ∀ b, b < q.2.2 → a ≠ b → (q.2.1 a).2.1 ≠ (q.2.1 b).2.1 := by
  have h : (List.range 12).all (fun ci => match z_cl[ci]? with
    | some q => (List.range q.2.2).all (fun a => (List.range a).all (fun b => decide ((q.2.1 a).2.1 ≠ (q.2.1 b).2.1)))
    | none => true) = true := by decide +kernel
  have h1 := List.all_eq_true.mp h ci (List.mem_range.mpr hci)
  rw [hq] at h1
  have h2 : ∀ a, a < q.2.2 → ∀ b, b < a → (q.2.1 a).2.1 ≠ (q.2.1 b).2.1 := fun a ha b hb => of_decide_eq_true (List.all_eq_true.mp (List.all_eq_true.mp h1 a (List.mem_range.mpr ha)) b (List.mem_range.mpr hb))
  intro a ha b hb hab
  rcases Nat.lt_or_gt_of_ne hab with h3 | h3
  · exact fun e => h2 b hb a h3 e.symm
  · exact h2 a ha b h3
theorem z_fk_ok {a ci j off kc kl : Nat} {k : zD} (hk : z_kt[a]? = some k) (hci : k.1 = ci) (hf : (z_fk.getD ci [])[j]? = some (off, kc, kl)) (hkc : kc ≠ 999) : z_kt[a + off]? = some (kc, (kl : Int)) := by
  have h : (List.range z_kt.length).all (fun a => match z_kt[a]? with
    | some k => (z_fk.getD k.1 []).all (fun q => Nat.beq q.2.1 999 || decide (z_kt[a + q.1]? = some (q.2.1, (q.2.2 : Int))))
    | none => true) = true := by decide +kernel
  have h1 := List.all_eq_true.mp h a (List.mem_range.mpr (z_kt_lt hk))
  rw [hk] at h1
  simp only [hci] at h1
  have h2 := List.all_eq_true.mp h1 _ (List.mem_of_getElem? hf)
  simp only [Bool.or_eq_true] at h2
  rcases h2 with h2 | h2
  · exact absurd (Nat.eq_of_beq_eq_true h2) hkc
  · exact of_decide_eq_true h2
theorem z_fk_999 {ci j off : Nat} {q : Nat × Nat × Nat} (hci : ci < 12) (hf : (z_ft.getD ci [])[j]? = some (1, off)) (hk : (z_fk.getD ci [])[j]? = some q) : q.2.1 ≠ 999 := by
  have h : (List.range 12).all (fun ci => ((z_ft.getD ci []).zip (z_fk.getD ci [])).all (fun q => !(Nat.beq q.1.1 1) || !(Nat.beq q.2.2.1 999))) = true := by decide +kernel
  have h1 := List.all_eq_true.mp h ci (List.mem_range.mpr hci)
  have h2 : ((z_ft.getD ci []).zip (z_fk.getD ci []))[j]? = some ((1, off), q) := by
    rw [List.getElem?_zip_eq_some]
    exact ⟨hf, hk⟩
  have h3 := List.all_eq_true.mp h1 _ (List.mem_of_getElem? h2)
  intro e
  simp [e] at h3
theorem z_gw_ok : z_has z_gw[0]? (.static Lib.Math.min.name) = true ∧ z_has z_gw[1]? (.initialized "java/lang/Math") = true ∧ z_has z_gw[2]? (.code Lib.Math.min.name Lib.Math.min.code 2 (some .int)) = true ∧ z_has z_gw[3]? (.static Lib.Math.max.name) = true ∧ z_has z_gw[5]? (.code Lib.Math.max.name Lib.Math.max.code 2 (some .int)) = true ∧ z_has z_gw[6]? (.native arraycopyName) = true ∧ z_has z_gw[7]? (.static arraycopyName) = true ∧ z_has z_gw[8]? (.initialized "java/lang/System") = true := by
  refine ⟨by decide +kernel, by decide +kernel, by decide +kernel, by decide +kernel, by decide +kernel, by decide +kernel, by decide +kernel, by decide +kernel⟩
theorem z_mt_cls {y : Nat} {Y : zY} (h : z_mt[y]? = some Y) : Y.1.cls ≠ "java/lang/invoke/MethodHandle" ∧ Y.1.cls ≠ "java/lang/invoke/VarHandle" ∧ plainName Y.1.cls = true := by
  have h1 : z_mt.all (fun Y => decide (Y.1.cls ≠ "java/lang/invoke/MethodHandle") && (decide (Y.1.cls ≠ "java/lang/invoke/VarHandle") && plainName Y.1.cls)) = true := by decide +kernel
  have h2 := List.all_eq_true.mp h1 Y (List.mem_of_getElem? h)
  simp only [Bool.and_eq_true, decide_eq_true_eq] at h2
  exact h2
theorem z_fd_ok {own : String} {idx ci j : Nat} {w : Option (Nat × Nat)} (h : z_fd own idx ci j w = true) : ∃ q : vw_C, z_cl[ci]? = some q ∧ ci < 12 ∧ j < q.2.2 ∧ Cond.fieldLink own idx (q.2.1 j).1 (q.2.1 j).2.1 (q.2.1 j).2.2.1 ∈ z_tb := by
  unfold z_fd at h
  cases hq : z_cl[ci]? with
  | none => rw [hq] at h; cases h
  | some q =>
    rw [hq] at h
    simp only [Bool.and_eq_true, decide_eq_true_eq] at h
    exact ⟨q, rfl, h.1, h.2.1, z_has_tb h.2.2 rfl⟩
theorem z_nr_ok {ci j : Nat} (h : z_nr ci j = true) : ∃ q : Nat × Nat, (z_ft.getD ci [])[j]? = some q ∧ Nat.beq q.1 1 = false := by
  unfold z_nr at h
  cases hq : (z_ft.getD ci [])[j]? with
  | none => rw [hq] at h; cases h
  | some q =>
    rw [hq] at h
    exact ⟨q, rfl, by simpa using h⟩
theorem z_cm_ok {y na : Nat} {f : zY → Bool} (h : z_cm y na f = true) : ∃ Y : zY, z_mt[y]? = some Y ∧ Y.2.2.1 ≤ 41 ∧ (parseMethodDescriptor Y.1.desc).map (fun d => d.parameters.length) = some na ∧ f Y = true := by
  unfold z_cm at h
  cases hq : z_mt[y]? with
  | none => rw [hq] at h; cases h
  | some Y =>
    rw [hq] at h
    simp only [Bool.and_eq_true, decide_eq_true_eq] at h
    exact ⟨Y, rfl, h.1, h.2.1, h.2.2⟩
theorem z_tg_ok {pc : Nat} {off : Int} {x : List Nat} (h : z_tg pc off x = true) : ∃ t : Nat, x = [t] ∧ (pc : Int) + off = (t : Int) := by
  unfold z_tg at h
  split at h
  · exact ⟨_, rfl, of_decide_eq_true h⟩
  · cases h
section
variable {p : Program} {l : Launch} {e : Env} {R : Room} {s : State} {m : MethodId} {args : Array Value} {below : List Frame} {meth : Method} {c : Code} {cc : ByteArray} {nL : Nat} {own : String} {D : va_G} {cA : Nat → ClassId} {ad adK adV : Nat → Nat} {A : Nat → Prop} {pc : Nat} {zl : List zV} {zs : List zU} {M : zM} {Q : Option zU → zM → Prop}
set_option maxHeartbeats 4000000 in
theorem z_sim1 {rm : Room} {C : Nat → List zU → zM → (Option zU → zM → Prop) → Prop} {rt : Option FieldType} (cx : z_cx p R s m args c cc nL own D cA ad adK A) (cy : z_cy R s adK adV A rm) (hC : z_HC l D cA ad adK adV rm C) (hr : meth.sig.returnType = rt) (hlocks : meth.locks = false) {i : Instr} {n : Nat} {x : List Nat} {v : Int} {w : List (Nat × Nat)}
    (hd : decode cc pc = .ok (i, n)) (hce : z_ce own nL rt pc i n x v w = true) (h : z_step (z_X p l e R s m args below meth c nL D cA ad adK A (MQ below (z_Qg D cA ad adK Q A) args s 0 0 A)) Q C pc i n x v zl zs M) : z_X p l e R s m args below meth c nL D cA ad adK A (MQ below (z_Qg D cA ad adK Q A) args s 0 0 A) pc zl zs M := by
  cases i with
  | iconst k =>
    simp only [z_ce, Bool.and_eq_true, decide_eq_true_eq] at hce
    obtain ⟨rfl, h1, h2⟩ := hce
    exact zs_iconst cx hd h1 h2 h
  | bipush k =>
    simp only [z_ce, Bool.and_eq_true, decide_eq_true_eq] at hce
    obtain ⟨rfl, h1, h2⟩ := hce
    exact zs_bipush cx hd h1 h2 h
  | sipush k =>
    simp only [z_ce, Bool.and_eq_true, decide_eq_true_eq] at hce
    obtain ⟨rfl, h1, h2⟩ := hce
    exact zs_sipush cx hd h1 h2 h
  | lconst k =>
    simp only [z_ce, Bool.and_eq_true, decide_eq_true_eq] at hce
    obtain ⟨rfl, h1⟩ := hce
    exact zs_lconst cx hd h1 h
  | ldc2_w k =>
    simp only [z_ce, Bool.and_eq_true, decide_eq_true_eq] at hce
    obtain ⟨rfl, h1, h2⟩ := hce
    exact zs_ldc2 cx hd h1 (z_has_tb h2 rfl) h
  | ldc k =>
    simp only [z_ce, Bool.and_eq_true, decide_eq_true_eq] at hce
    obtain ⟨rfl, h1⟩ := hce
    split at h1
    · simp only [Bool.and_eq_true, decide_eq_true_eq] at h1
      obtain ⟨h2, h3⟩ := h1
      rename_i j len
      cases hq : z_st[j]? with
      | none => rw [hq] at h2; cases h2
      | some q =>
        rw [hq] at h2
        obtain ⟨q1, q2, q3⟩ := q
        cases h2
        exact zs_ldcS cx hd hq h3 h
    · simp only [Bool.and_eq_true, decide_eq_true_eq] at h1
      exact zs_ldc cx hd h1.1 (z_has_tb h1.2 rfl) h
    · cases h1
  | ldc_w k =>
    simp only [z_ce, Bool.and_eq_true, decide_eq_true_eq] at hce
    obtain ⟨rfl, h1⟩ := hce
    split at h1
    · simp only [Bool.and_eq_true, decide_eq_true_eq] at h1
      obtain ⟨h2, h3⟩ := h1
      rename_i j len
      cases hq : z_st[j]? with
      | none => rw [hq] at h2; cases h2
      | some q =>
        rw [hq] at h2
        obtain ⟨q1, q2, q3⟩ := q
        cases h2
        exact zs_ldcwS cx hd hq h3 h
    · simp only [Bool.and_eq_true, decide_eq_true_eq] at h1
      exact zs_ldcw cx hd h1.1 (z_has_tb h1.2 rfl) h
    · cases h1
  | iload k =>
    simp only [z_ce, decide_eq_true_eq] at hce
    subst hce
    simp only [z_step] at h
    split at h
    · rename_i hk
      exact zs_iload cx hd hk h
    · exact h.elim
  | lload k =>
    simp only [z_ce, decide_eq_true_eq] at hce
    subst hce
    simp only [z_step] at h
    split at h
    · rename_i hk
      exact zs_lload cx hd hk h
    · exact h.elim
  | aload k =>
    simp only [z_ce, decide_eq_true_eq] at hce
    subst hce
    simp only [z_step] at h
    split at h
    · rename_i hk
      exact zs_aload cx hd hk h
    · exact h.elim
  | iload_n k =>
    simp only [z_ce, decide_eq_true_eq] at hce
    subst hce
    simp only [z_step] at h
    split at h
    · rename_i hk
      exact zs_iload_n cx hd hk h
    · exact h.elim
  | lload_n k =>
    simp only [z_ce, decide_eq_true_eq] at hce
    subst hce
    simp only [z_step] at h
    split at h
    · rename_i hk
      exact zs_lload_n cx hd hk h
    · exact h.elim
  | aload_n k =>
    simp only [z_ce, decide_eq_true_eq] at hce
    subst hce
    simp only [z_step] at h
    split at h
    · rename_i hk
      exact zs_aload_n cx hd hk h
    · exact h.elim
  | istore k =>
    simp only [z_ce, Bool.and_eq_true, decide_eq_true_eq] at hce
    obtain ⟨rfl, h1⟩ := hce
    simp only [z_step] at h
    split at h
    · exact zs_istore cx hd h1 h
    · exact h.elim
  | istore_n k =>
    simp only [z_ce, Bool.and_eq_true, decide_eq_true_eq] at hce
    obtain ⟨rfl, h1⟩ := hce
    simp only [z_step] at h
    split at h
    · exact zs_istore_n cx hd h1 h
    · exact h.elim
  | lstore k =>
    simp only [z_ce, Bool.and_eq_true, decide_eq_true_eq] at hce
    obtain ⟨rfl, h1⟩ := hce
    simp only [z_step] at h
    split at h
    · exact zs_lstore cx hd h1 h
    · exact h.elim
  | lstore_n k =>
    simp only [z_ce, Bool.and_eq_true, decide_eq_true_eq] at hce
    obtain ⟨rfl, h1⟩ := hce
    simp only [z_step] at h
    split at h
    · exact zs_lstore_n cx hd h1 h
    · exact h.elim
  | iinc k d =>
    simp only [z_ce, Bool.and_eq_true, decide_eq_true_eq] at hce
    obtain ⟨rfl, h1, h2⟩ := hce
    simp only [z_step] at h
    split at h
    · rename_i hk
      exact zs_iinc cx hd h1 h2 hk h
    · exact h.elim
  | iadd => simp only [z_ce, decide_eq_true_eq] at hce; subst hce; simp only [z_step] at h; split at h; exact zs_iadd cx hd h; exact h.elim
  | isub => simp only [z_ce, decide_eq_true_eq] at hce; subst hce; simp only [z_step] at h; split at h; exact zs_isub cx hd h; exact h.elim
  | imul => simp only [z_ce, decide_eq_true_eq] at hce; subst hce; simp only [z_step] at h; split at h; exact zs_imul cx hd h; exact h.elim
  | idiv => simp only [z_ce, decide_eq_true_eq] at hce; subst hce; simp only [z_step] at h; split at h; exact zs_idiv cx h.1 hd h.2; exact h.elim
  | irem => simp only [z_ce, decide_eq_true_eq] at hce; subst hce; simp only [z_step] at h; split at h; exact zs_irem cx h.1 hd h.2; exact h.elim
  | ineg => simp only [z_ce, decide_eq_true_eq] at hce; subst hce; simp only [z_step] at h; split at h; exact zs_ineg cx hd h; exact h.elim
  | iand => simp only [z_ce, decide_eq_true_eq] at hce; subst hce; simp only [z_step] at h; split at h; exact zs_iand cx hd h; exact h.elim
  | ior => simp only [z_ce, decide_eq_true_eq] at hce; subst hce; simp only [z_step] at h; split at h; exact zs_ior cx hd h; exact h.elim
  | ixor => simp only [z_ce, decide_eq_true_eq] at hce; subst hce; simp only [z_step] at h; split at h; exact zs_ixor cx hd h; exact h.elim
  | ishl => simp only [z_ce, decide_eq_true_eq] at hce; subst hce; simp only [z_step] at h; split at h; exact zs_ishl cx hd h; exact h.elim
  | ishr => simp only [z_ce, decide_eq_true_eq] at hce; subst hce; simp only [z_step] at h; split at h; exact zs_ishr cx hd h; exact h.elim
  | iushr => simp only [z_ce, decide_eq_true_eq] at hce; subst hce; simp only [z_step] at h; split at h; exact zs_iushr cx hd h; exact h.elim
  | i2l => simp only [z_ce, decide_eq_true_eq] at hce; subst hce; simp only [z_step] at h; split at h; exact zs_i2l cx hd h; exact h.elim
  | i2b => simp only [z_ce, decide_eq_true_eq] at hce; subst hce; simp only [z_step] at h; split at h; exact zs_i2b cx hd h; exact h.elim
  | i2s => simp only [z_ce, decide_eq_true_eq] at hce; subst hce; simp only [z_step] at h; split at h; exact zs_i2s cx hd h; exact h.elim
  | ladd => simp only [z_ce, decide_eq_true_eq] at hce; subst hce; simp only [z_step] at h; split at h; exact zs_ladd cx hd h; exact h.elim
  | lmul => simp only [z_ce, decide_eq_true_eq] at hce; subst hce; simp only [z_step] at h; split at h; exact zs_lmul cx hd h; exact h.elim
  | ldiv => simp only [z_ce, decide_eq_true_eq] at hce; subst hce; simp only [z_step] at h; split at h; exact zs_ldiv cx h.1 hd h.2; exact h.elim
  | lrem => simp only [z_ce, decide_eq_true_eq] at hce; subst hce; simp only [z_step] at h; split at h; exact zs_lrem cx h.1 hd h.2; exact h.elim
  | lcmp => simp only [z_ce, decide_eq_true_eq] at hce; subst hce; simp only [z_step] at h; split at h; exact zs_lcmp cx hd h; exact h.elim
  | ifCond cd off =>
    simp only [z_ce, Bool.and_eq_true, decide_eq_true_eq] at hce
    obtain ⟨rfl, h1⟩ := hce
    obtain ⟨t, rfl, ht⟩ := z_tg_ok h1
    simp only [z_step] at h
    split at h
    · rename_i hx
      cases hx
      cases cd
      · exact zs_if_eq cx hd ht h
      · exact zs_if_ne cx hd ht h
      · exact zs_if_lt cx hd ht h
      · exact zs_if_ge cx hd ht h
      · exact zs_if_gt cx hd ht h
      · exact zs_if_le cx hd ht h
    · exact h.elim
  | if_icmp cd off =>
    simp only [z_ce, Bool.and_eq_true, decide_eq_true_eq] at hce
    obtain ⟨rfl, h1⟩ := hce
    obtain ⟨t, rfl, ht⟩ := z_tg_ok h1
    simp only [z_step] at h
    split at h
    · rename_i hx
      cases hx
      cases cd
      · exact zs_icmp_eq cx hd ht h
      · exact zs_icmp_ne cx hd ht h
      · exact zs_icmp_lt cx hd ht h
      · exact zs_icmp_ge cx hd ht h
      · exact zs_icmp_gt cx hd ht h
      · exact zs_icmp_le cx hd ht h
    · exact h.elim
  | goto off =>
    simp only [z_ce, Bool.and_eq_true, decide_eq_true_eq] at hce
    obtain ⟨rfl, h1⟩ := hce
    obtain ⟨t, rfl, ht⟩ := z_tg_ok h1
    exact zs_goto cx hd ht h
  | tableswitch d lo hi offs =>
    cases x with
    | nil => simp [z_ce] at hce
    | cons dt ts =>
      simp only [z_ce, Bool.and_eq_true, decide_eq_true_eq] at hce
      obtain ⟨h1, h2, h3, rfl⟩ := hce
      simp only [z_step] at h
      split at h
      · rename_i hx
        cases hx
        exact zs_table cx hd h1 h2 h3 h
      · exact h.elim
  | lookupswitch d ps =>
    cases x with
    | nil => simp [z_ce] at hce
    | cons dt ts =>
      simp only [z_ce, Bool.and_eq_true, decide_eq_true_eq] at hce
      obtain ⟨h1, h2, h3⟩ := hce
      simp only [z_step] at h
      split at h
      · rename_i hx
        cases hx
        exact zs_lookup cx hd h1 h2 h3 h
      · exact h.elim
  | getfield idx =>
    simp only [z_ce, Bool.and_eq_true, decide_eq_true_eq] at hce
    obtain ⟨rfl, h1⟩ := hce
    split at h1
    · simp only [Bool.and_eq_true] at h1
      obtain ⟨q, hcl, hci, hj, hw⟩ := z_fd_ok h1.1
      obtain ⟨f, hf, hq⟩ := z_nr_ok h1.2
      simp only [z_step] at h
      split at h
      · rename_i hx
        cases hx
        cases hb : Nat.beq _ _ with
        | true =>
          rw [hb] at h
          exact zs_getI cx hd (Nat.eq_of_beq_eq_true hb) hci hcl hj (z_cl_in hci hcl) hw hf hq h
        | false => rw [hb] at h; exact h.elim
      · rename_i hx; cases hx
      · exact h.elim
    · simp only [Bool.and_eq_true, decide_eq_true_eq] at h1
      obtain ⟨g1, g2, g3, g4⟩ := h1
      obtain ⟨q, hcl, hci, hj, hw⟩ := z_fd_ok g1
      simp only [z_step] at h
      split at h
      · rename_i hx; cases hx
      · rename_i hx
        cases hx
        cases hb : Nat.beq _ _ with
        | true =>
          rw [hb] at h
          have hk9 := Nat.eq_of_beq_eq_true hb
          exact zs_getR cx hd hk9 hci hcl hj (z_cl_in hci hcl) hw g2 g4 (fun hk => z_fk_ok hk hk9 g3 (z_fk_999 hci g2 g3)) h
        | false => rw [hb] at h; exact h.elim
      · exact h.elim
    · cases h1
  | putfield idx =>
    simp only [z_ce, Bool.and_eq_true, decide_eq_true_eq] at hce
    obtain ⟨rfl, h1⟩ := hce
    split at h1
    · simp only [Bool.and_eq_true] at h1
      obtain ⟨g1, g2, g3⟩ := h1
      obtain ⟨q, hcl, hci, hj, hw⟩ := z_fd_ok g1
      obtain ⟨f, hf, hq⟩ := z_nr_ok g2
      unfold z_pf at g3
      rw [hcl] at g3
      simp only [Bool.and_eq_true, decide_eq_true_eq, Bool.not_eq_true'] at g3
      simp only [z_step] at h
      split at h
      · rename_i hx
        cases hx
        cases hb : Nat.beq _ _ with
        | true =>
          rw [hb] at h
          exact zs_put cx hd (Nat.eq_of_beq_eq_true hb) hci hcl hj (z_cl_in hci hcl) _ (z_cl_ty hci hcl) (z_cl_nm hci hcl) hw hf hq g3.1 (ty := .int) (by rw [g3.2]; rfl) rfl rfl h
        | false => rw [hb] at h; exact h.elim
      · rename_i hx; cases hx
      · exact h.elim
    · simp only [Bool.and_eq_true] at h1
      obtain ⟨g1, g2, g3⟩ := h1
      obtain ⟨q, hcl, hci, hj, hw⟩ := z_fd_ok g1
      obtain ⟨f, hf, hq⟩ := z_nr_ok g2
      unfold z_pf at g3
      rw [hcl] at g3
      simp only [Bool.and_eq_true, decide_eq_true_eq, Bool.not_eq_true'] at g3
      simp only [z_step] at h
      split at h
      · rename_i hx; cases hx
      · rename_i hx
        cases hx
        cases hb : Nat.beq _ _ with
        | true =>
          rw [hb] at h
          obtain ⟨h0, h⟩ := h
          exact zs_put cx hd (Nat.eq_of_beq_eq_true hb) hci hcl hj (z_cl_in hci hcl) _ (z_cl_ty hci hcl) (z_cl_nm hci hcl) hw hf hq g3.1 (ty := .boolean) (by rw [g3.2]; rfl) (by rcases h0 with rfl | rfl <;> rfl) (by rcases h0 with rfl | rfl <;> rfl) h
        | false => rw [hb] at h; exact h.elim
      · exact h.elim
    · cases h1
  | iaload =>
    simp only [z_ce, decide_eq_true_eq] at hce
    subst hce
    simp only [z_step] at h
    split at h
    · rename_i j k a st
      cases hb : Nat.beq k.1 100 with
      | true => rw [hb] at h; exact zs_iaload cx hd (Nat.eq_of_beq_eq_true hb) h.1 h.2
      | false => rw [hb] at h; (cases hb2 : Nat.beq k.1 105 with
        | true =>
          intro a1 a2 a3
          have hg := (z_gs_c.mp (z_gs_c.mp a3).2).1
          have hk5 : k.1 = 105 := Nat.eq_of_beq_eq_true hb2
          have hkt := z_good_ref hg (by omega)
          exact absurd hk5 (z_kt_ok a (z_kt_lt hkt) k hkt).2.2.1
        | false => rw [hb2] at h; exact h.elim)
    · exact h.elim
  | laload =>
    simp only [z_ce, decide_eq_true_eq] at hce
    subst hce
    simp only [z_step] at h
    split at h
    · rename_i j k a st
      cases hb : Nat.beq k.1 101 with
      | true => rw [hb] at h; exact zs_laload cx hd (Nat.eq_of_beq_eq_true hb) h.1 h.2
      | false => rw [hb] at h; exact h.elim
    · exact h.elim
  | baload =>
    simp only [z_ce, decide_eq_true_eq] at hce
    subst hce
    simp only [z_step] at h
    split at h
    · rename_i j k a st
      cases hb : Nat.beq k.1 102 with
      | true => rw [hb] at h; exact zs_baload cx hd (Nat.eq_of_beq_eq_true hb) h.1 h.2
      | false => rw [hb] at h; exact h.elim
    · exact h.elim
  | aaload =>
    simp only [z_ce, decide_eq_true_eq] at hce
    subst hce
    simp only [z_step] at h
    split at h
    · rename_i j k a st
      cases hb : Nat.beq k.1 103 with
      | true => rw [hb] at h; exact zs_aaload cx hd (Nat.eq_of_beq_eq_true hb) h.1 h.2
      | false => rw [hb] at h; exact h.elim
    · exact h.elim
  | iastore =>
    simp only [z_ce, decide_eq_true_eq] at hce
    subst hce
    simp only [z_step] at h
    split at h
    · rename_i w j k a st
      cases hb : Nat.beq k.1 100 with
      | true => rw [hb] at h; exact zs_iastore cx hd (Nat.eq_of_beq_eq_true hb) h.1 h.2
      | false => rw [hb] at h; exact h.elim
    · exact h.elim
  | lastore =>
    simp only [z_ce, decide_eq_true_eq] at hce
    subst hce
    simp only [z_step] at h
    split at h
    · rename_i w j k a st
      cases hb : Nat.beq k.1 101 with
      | true => rw [hb] at h; exact zs_lastore cx hd (Nat.eq_of_beq_eq_true hb) h.1 h.2
      | false => rw [hb] at h; exact h.elim
    · exact h.elim
  | bastore =>
    simp only [z_ce, decide_eq_true_eq] at hce
    subst hce
    simp only [z_step] at h
    split at h
    · rename_i w j k a st
      cases hb : Nat.beq k.1 102 with
      | true => rw [hb] at h; exact zs_bastore cx hd (Nat.eq_of_beq_eq_true hb) h.1 h.2.1 h.2.2
      | false => rw [hb] at h; exact h.elim
    · exact h.elim
  | arraylength =>
    simp only [z_ce, decide_eq_true_eq] at hce
    subst hce
    simp only [z_step] at h
    split at h
    · rename_i k a st
      cases hb : Nat.beq k.1 100 with
      | true => rw [hb] at h; exact zs_alen cx hd (Nat.eq_of_beq_eq_true hb) h
      | false =>
        rw [hb] at h
        cases hb2 : Nat.beq k.1 105 with
        | true =>
          intro a1 a2 a3
          have hg := (z_gs_c.mp a3).1
          have hk5 : k.1 = 105 := Nat.eq_of_beq_eq_true hb2
          have hkt := z_good_ref hg (by omega)
          exact absurd hk5 (z_kt_ok a (z_kt_lt hkt) k hkt).2.2.1
        | false => rw [hb2] at h; exact h.elim
    · exact h.elim
  | dup =>
    simp only [z_ce, decide_eq_true_eq] at hce
    subst hce
    simp only [z_step] at h
    split at h
    · exact zs_dup cx rfl hd h
    · exact zs_dup cx rfl hd h
    · exact h.elim
  | dup2 =>
    simp only [z_ce, decide_eq_true_eq] at hce
    subst hce
    simp only [z_step] at h
    split at h
    · exact zs_dup2 cx rfl rfl hd h
    · exact h.elim
  | pop =>
    simp only [z_ce, decide_eq_true_eq] at hce
    subst hce
    simp only [z_step] at h
    split at h
    · exact zs_pop cx rfl hd h
    · exact h.elim
  | invokestatic idx =>
    obtain ⟨w0, w1, w2, w3, w5, w6, w7, w8⟩ := z_gw_ok
    simp only [z_ce, Bool.and_eq_true, decide_eq_true_eq] at hce
    obtain ⟨rfl, h1⟩ := hce
    split at h1
    · simp only [z_step] at h
      split at h
      · cases hb : Nat.ble _ _ with
        | true => rw [hb] at h; exact zs_min cx hd (Nat.le_of_ble_eq_true hb) (z_has_tb h1 rfl) (z_has_tb w0 rfl) (z_has_tb w1 rfl) (z_has_tb w2 rfl) h
        | false => rw [hb] at h; exact h.elim
      · exact h.elim
    · simp only [z_step] at h
      split at h
      · cases hb : Nat.ble _ _ with
        | true => rw [hb] at h; exact zs_max cx hd (Nat.le_of_ble_eq_true hb) (z_has_tb h1 rfl) (z_has_tb w3 rfl) (z_has_tb w1 rfl) (z_has_tb w5 rfl) h
        | false => rw [hb] at h; exact h.elim
      · exact h.elim
    · simp only [z_step] at h
      split at h
      · cases hb : (Nat.beq _ 100 && (Nat.beq _ 100 && Nat.ble _ _)) with
        | true =>
          rw [hb] at h
          simp only [Bool.and_eq_true] at hb
          exact zs_copy cx hd (Nat.le_of_ble_eq_true hb.2.2) (Nat.eq_of_beq_eq_true hb.1) (Nat.eq_of_beq_eq_true hb.2.1) h.1 (z_has_tb h1 rfl) (z_has_tb w6 rfl) (z_has_tb w7 rfl) (z_has_tb w8 rfl) h.2
        | false => rw [hb] at h; exact h.elim
      · exact h.elim
    · rename_i y na
      obtain ⟨Y, hmt, hml9, hds, hf⟩ := z_cm_ok h1
      simp only [Bool.and_eq_true] at hf
      obtain ⟨f1, f2, f3, f4⟩ := hf
      obtain ⟨n1, n2, -⟩ := z_mt_cls hmt
      simp only [z_step] at h
      cases hz : z_take na zs with
      | none => rw [hz] at h; exact h.elim
      | some q =>
        obtain ⟨a, st⟩ := q
        rw [hz] at h
        simp only at h
        obtain ⟨e1, e2⟩ := z_take_ok na zs a st hz
        subst e1
        rw [z_rev_eq, List.append_nil] at h
        cases hb : Nat.ble (z_cats st) 8 with
        | true => rw [hb] at h; exact zs_callS cx cy hC hmt hml9 hd e2 (Nat.le_of_ble_eq_true hb) (z_has_tb f1 rfl) (z_has_tb f2 rfl) (z_has_tb f3 rfl) (z_has_tb f4 rfl) ⟨n1, n2, hds⟩ h
        | false => rw [hb] at h; exact h.elim
    · rename_i y na
      obtain ⟨Y, hmt, hml9, hds, hf⟩ := z_cm_ok h1
      simp only [Bool.and_eq_true] at hf
      obtain ⟨f1, f2, f3, f4⟩ := hf
      obtain ⟨n1, n2, -⟩ := z_mt_cls hmt
      simp only [z_step] at h
      cases hz : z_take na zs with
      | none => rw [hz] at h; exact h.elim
      | some q =>
        obtain ⟨a, st⟩ := q
        rw [hz] at h
        simp only at h
        obtain ⟨e1, e2⟩ := z_take_ok na zs a st hz
        subst e1
        rw [z_rev_eq, List.append_nil] at h
        cases hb : Nat.ble (z_cats st) 8 with
        | true => rw [hb] at h; exact zs_callSN cx cy hC hmt hml9 hd e2 (Nat.le_of_ble_eq_true hb) (z_has_tbl f1) (z_has_tb f2 rfl) (z_has_tb f3 rfl) (z_has_tb f4 rfl) ⟨n1, n2, hds⟩ h
        | false => rw [hb] at h; exact h.elim
    · cases h1
  | invokevirtual idx =>
    simp only [z_ce, Bool.and_eq_true, decide_eq_true_eq] at hce
    obtain ⟨rfl, h1⟩ := hce
    split at h1
    · rename_i y na
      simp only [Bool.and_eq_true, decide_eq_true_eq] at h1
      obtain ⟨h9, h1⟩ := h1
      obtain ⟨Y, hmt, hml9, hds, hf⟩ := z_cm_ok h1
      simp only [Bool.and_eq_true] at hf
      obtain ⟨f0, f1, f2, f5, f3, f4⟩ := hf
      simp only [z_rc, Bool.or_eq_true, Bool.and_eq_true, decide_eq_true_eq] at f0
      obtain ⟨n1, n2, -⟩ := z_mt_cls hmt
      simp only [z_step] at h
      cases hz : z_take (na + 1) zs with
      | none => rw [hz] at h; exact h.elim
      | some q =>
        obtain ⟨a, st⟩ := q
        rw [hz] at h
        simp only at h
        obtain ⟨e1, e2⟩ := z_take_ok (na + 1) zs a st hz
        subst e1
        rw [z_rev_eq, List.append_nil] at h
        cases hb : Nat.ble (z_cats st) 8 with
        | true => rw [hb] at h; exact zs_callV cx cy hC hmt hml9 rfl h9 f0 hd e2 (Nat.le_of_ble_eq_true hb) (z_has_tb f1 rfl) (z_has_tb f2 rfl) (z_has_tb f5 rfl) (z_has_tb f3 rfl) (z_has_tb f4 rfl) ⟨n1, n2, hds⟩ h
        | false => rw [hb] at h; exact h.elim
    · cases h1
  | ireturn =>
    simp only [z_ce, Bool.and_eq_true, decide_eq_true_eq] at hce
    obtain ⟨rfl, h1⟩ := hce
    simp only [z_step] at h
    split at h
    · cases hb : Nat.beq v.toNat 1 with
      | true =>
        rw [hb] at h h1
        exact zs_zret cx (by rw [hr]; exact of_decide_eq_true h1) hlocks hd h.1 h.2
      | false =>
        rw [hb] at h h1
        exact zs_iret cx (by rw [hr]; exact of_decide_eq_true h1) hlocks hd h
    · exact h.elim
  | lreturn =>
    simp only [z_ce, Bool.and_eq_true, decide_eq_true_eq] at hce
    obtain ⟨rfl, h1⟩ := hce
    simp only [z_step] at h
    split at h
    · exact zs_lret cx (by rw [hr]; exact h1) hlocks hd h
    · exact h.elim
  | return_ =>
    simp only [z_ce, Bool.and_eq_true, decide_eq_true_eq] at hce
    obtain ⟨rfl, h1⟩ := hce
    simp only [z_step] at h
    split at h
    · exact zs_vret cx (by rw [hr]; exact h1) hlocks hd h
    · exact h.elim
  | _ => exact h.elim
end
