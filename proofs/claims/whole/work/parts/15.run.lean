/-! RUNS OF THE ABSTRACT MACHINE: what a call comes to, and that the machine follows -/
theorem z_cond_mono {b : Bool} {P P' : Prop} (f : P → P') (h : cond b P False) : cond b P' False := by
  cases b
  · exact h
  · exact f h
theorem z_ts_mono {a lo : Int} {K K' : Nat → Prop} (hK : ∀ t, K t → K' t) {dflt : Nat} : ∀ (ts : List Nat) (k : Int), z_ts a K dflt lo ts k → z_ts a K' dflt lo ts k
  | [], _, h => fun q => hK _ (h q)
  | _ :: ts, k, h => ⟨fun q => hK _ (h.1 q), z_ts_mono hK ts (k + 1) h.2⟩
theorem z_ls_mono {a : Int} {K K' : Nat → Prop} (hK : ∀ t, K t → K' t) {dflt : Nat} : ∀ (ts : List Nat), z_ls a K dflt ts → z_ls a K' dflt ts
  | [], h => hK _ h
  | [_], h => hK _ h
  | _ :: _ :: ts, h => ⟨fun q => hK _ (h.1 q), fun q => z_ls_mono hK ts (h.2 q)⟩
def z_CM (C : Nat → List zU → zM → (Option zU → zM → Prop) → Prop) : Prop := ∀ y as M R R', (∀ r M, R r M → R' r M) → C y as M R → C y as M R'
set_option maxHeartbeats 4000000 in
theorem z_step_mono {K K' : Nat → List zV → List zU → zM → Prop} {Q Q' : Option zU → zM → Prop} {C : Nat → List zU → zM → (Option zU → zM → Prop) → Prop} (hK : ∀ pc ls st M, K pc ls st M → K' pc ls st M) (hQ : ∀ r M, Q r M → Q' r M) (hC : z_CM C) {pc : Nat} {i : Instr} {n : Nat} {x : List Nat} {v : Int} {ls : List zV} {st : List zU} {M : zM} (h : z_step K Q C pc i n x v ls st M) : z_step K' Q' C pc i n x v ls st M := by
  cases i
  case ldc k =>
    rcases x with _ | ⟨x1, _ | ⟨x2, _ | ⟨x3, x⟩⟩⟩ <;> exact hK _ _ _ _ h
  case ldc_w k =>
    rcases x with _ | ⟨x1, _ | ⟨x2, _ | ⟨x3, x⟩⟩⟩ <;> exact hK _ _ _ _ h
  case tableswitch a b c d =>
    simp only [z_step] at h ⊢
    split at h
    · exact z_ts_mono (fun t q => hK _ _ _ _ q) _ _ h
    · exact h.elim
  case lookupswitch a b =>
    simp only [z_step] at h ⊢
    split at h
    · exact z_ls_mono (fun t q => hK _ _ _ _ q) _ h
    · exact h.elim
  case iaload =>
    simp only [z_step] at h ⊢
    split at h
    · rename_i j k a st
      show cond (Nat.beq k.1 100) _ (cond (Nat.beq k.1 105) _ False)
      cases hb : Nat.beq k.1 100 with
      | true => rw [hb] at h; exact ⟨h.1, hK _ _ _ _ h.2⟩
      | false => rw [hb] at h; exact z_cond_mono (fun q => ⟨q.1, hK _ _ _ _ q.2⟩) h
    · exact h.elim
  case putfield idx =>
    simp only [z_step] at h ⊢
    split at h
    · exact z_cond_mono (fun q => hK _ _ _ _ q) h
    · exact z_cond_mono (fun q => ⟨q.1, hK _ _ _ _ q.2⟩) h
    · exact h.elim
  case ireturn =>
    simp only [z_step] at h ⊢
    split at h
    · cases hb : Nat.beq v.toNat 1 with
      | true => rw [hb] at h; exact ⟨h.1, hQ _ _ h.2⟩
      | false => rw [hb] at h; exact hQ _ _ h
    · exact h.elim
  case invokestatic idx =>
    simp only [z_step] at h ⊢
    split at h
    · split at h
      · exact z_cond_mono (fun q => hK _ _ _ _ q) h
      · exact h.elim
    · split at h
      · exact z_cond_mono (fun q => hK _ _ _ _ q) h
      · exact h.elim
    · split at h
      · exact z_cond_mono (fun q => ⟨q.1, hK _ _ _ _ q.2⟩) h
      · exact h.elim
    · rename_i y na
      cases hz : z_take na st with
      | none => rw [hz] at h; exact h.elim
      | some q =>
        rw [hz] at h
        exact z_cond_mono (fun q => hC _ _ _ _ _ (fun r M q => hK _ _ _ _ q) q) h
    · exact h.elim
  case invokevirtual idx =>
    simp only [z_step] at h ⊢
    split at h
    · rename_i y na
      cases hz : z_take (na + 1) st with
      | none => rw [hz] at h; exact h.elim
      | some q =>
        rw [hz] at h
        exact z_cond_mono (fun q => hC _ _ _ _ _ (fun r M q => hK _ _ _ _ q) q) h
    · exact h.elim
  all_goals first
    | exact h.elim
    | exact hK _ _ _ _ h
    | (simp only [z_step] at h ⊢
       split at h <;> first
        | exact h.elim
        | exact hK _ _ _ _ h
        | exact ⟨h.1, hK _ _ _ _ h.2⟩
        | exact ⟨fun q => hK _ _ _ _ (h.1 q), fun q => hK _ _ _ _ (h.2 q)⟩
        | exact z_cond_mono (fun q => hK _ _ _ _ q) h
        | exact z_cond_mono (fun q => ⟨q.1, hK _ _ _ _ q.2⟩) h
        | exact z_cond_mono (fun q => ⟨q.1, q.2.1, hK _ _ _ _ q.2.2⟩) h
        | exact hQ _ _ h)
/-- closed under the code's steps -/
def z_D (L : List zE) (Q : Option zU → zM → Prop) (C : Nat → List zU → zM → (Option zU → zM → Prop) → Prop) (X : Nat → List zV → List zU → zM → Prop) : Prop :=
  ∀ (pc : Nat) (ls : List zV) (st : List zU) (M : zM) (i : Instr) (n : Nat) (x : List Nat) (v : Int), z_fetch L pc = some (i, n, x, v) → z_step X Q C pc i n x v ls st M → X pc ls st M
theorem z_D_go {L : List zE} {Q : Option zU → zM → Prop} {C : Nat → List zU → zM → (Option zU → zM → Prop) → Prop} {X : Nat → List zV → List zU → zM → Prop} (hX : z_D L Q C X) (hC : z_CM C) (cuts : List Nat) : ∀ (k pc : Nat) (ls : List zV) (st : List zU) (M : zM), z_go L cuts X Q C k pc ls st M → X pc ls st M
  | 0, _, _, _, _, h => h.elim
  | k + 1, pc, ls, st, M, h => by
    unfold z_go at h
    cases hc : cuts.any (fun c => Nat.beq c pc) with
    | true => rw [hc] at h; exact h
    | false =>
      rw [hc] at h
      cases hf : z_fetch L pc with
      | none => rw [hf] at h; exact h.elim
      | some q =>
        obtain ⟨i, n, x, v⟩ := q
        rw [hf] at h
        exact hX pc ls st M i n x v hf (z_step_mono (fun pc ls st M q => z_D_go hX hC cuts k pc ls st M q) (fun _ _ q => q) hC h)
theorem z_D_wp {L : List zE} {Q : Option zU → zM → Prop} {C : Nat → List zU → zM → (Option zU → zM → Prop) → Prop} {X : Nat → List zV → List zU → zM → Prop} (hX : z_D L Q C X) (hC : z_CM C) (cuts : List Nat) (k : Nat) {pc : Nat} {ls : List zV} {st : List zU} {M : zM} (h : z_wp L cuts X Q C k pc ls st M) : X pc ls st M := by
  unfold z_wp at h
  cases hf : z_fetch L pc with
  | none => rw [hf] at h; exact h.elim
  | some q =>
    obtain ⟨i, n, x, v⟩ := q
    rw [hf] at h
    exact hX pc ls st M i n x v hf (z_step_mono (fun pc ls st M q => z_D_go hX hC cuts k pc ls st M q) (fun _ _ q => q) hC h)
/-- the locals at a method's entry -/
def z_es : List zU → List zV
  | [] => []
  | .inr (.inl a) :: l => some (z_l a) :: none :: z_es l
  | u :: l => some u :: z_es l
def z_fill : Nat → List zV → List zV
  | 0, _ => []
  | n + 1, [] => none :: z_fill n []
  | n + 1, v :: l => v :: z_fill n l
abbrev z_ent (ml : Nat) (as : List zU) : List zV := z_fill ml (z_es as)
/-- the sign at a place of a literal -/
def z_chr (a : Nat) (j : Int) : Int := ((z_sb.getD a []).getD j.toNat 0).toInt
/-- a call of method y, at most d frames deep -/
def z_C : Nat → Nat → List zU → zM → (Option zU → zM → Prop) → Prop
  | 0, _, _, _, _ => False
  | d + 1, y, as, M, Q => match z_mt[y]? with
    | none => False
    | some Y => z_rck (z_rv.getD y 99) as = true ∧ Nat.ble (z_es as).length Y.2.2.1 = true ∧
      cond (Nat.beq y 257) (6 ≤ d ∧ (match as with
        | [.inr (.inr (k, _))] => Q (some (z_i k.2)) M
        | _ => False))
      (cond (Nat.beq y 258) (6 ≤ d ∧ (match as with
        | [.inr (.inr (k, a)), .inl j] => (0 ≤ j ∧ j < k.2) ∧ Q (some (z_i (z_chr a j))) M
        | _ => False))
      (∀ X, z_D Y.2.2.2.2.1 Q (z_C d) X → X 0 (z_ent Y.2.2.1 as) [] M))
theorem z_C_mono : ∀ d, z_CM (z_C d)
  | 0 => fun _ _ _ _ _ _ h => h.elim
  | d + 1 => by
    intro y as M R R' hR h
    unfold z_C at h ⊢
    cases hy : z_mt[y]? with
    | none => rw [hy] at h; exact h.elim
    | some Y =>
      rw [hy] at h
      obtain ⟨h1, h2, h3⟩ := h
      refine ⟨h1, h2, ?_⟩
      cases h7 : Nat.beq y 257 with
      | true =>
        rw [h7] at h3
        obtain ⟨h4, h5⟩ := h3
        refine ⟨h4, ?_⟩
        split at h5
        · exact hR _ _ h5
        · exact h5.elim
      | false =>
        rw [h7] at h3
        cases h8 : Nat.beq y 258 with
        | true =>
          rw [h8] at h3
          obtain ⟨h4, h5⟩ := h3
          refine ⟨h4, ?_⟩
          split at h5
          · exact ⟨h5.1, hR _ _ h5.2⟩
          · exact h5.elim
        | false =>
          rw [h8] at h3
          intro X hX
          exact h3 X (fun pc ls st M i n x v hf hs => hX pc ls st M i n x v hf (z_step_mono (fun _ _ _ _ q => q) hR (z_C_mono d) hs))
theorem z_enter {d y ml : Nat} {L : List zE} {as : List zU} {M : zM} {Q : Option zU → zM → Prop} (hY : z_mt[y]?.map (fun Y => (Y.2.2.1, Y.2.2.2.2.1)) = some (ml, L)) (hr : z_rck (z_rv.getD y 99) as = true) (hl : Nat.ble (z_es as).length ml = true) (h7 : Nat.beq y 257 = false) (h8 : Nat.beq y 258 = false) (h : ∀ X, z_D L Q (z_C d) X → X 0 (z_ent ml as) [] M) : z_C (d + 1) y as M Q := by
  unfold z_C
  cases hy : z_mt[y]? with
  | none => rw [hy] at hY; cases hY
  | some Y =>
    rw [hy] at hY
    have e := Option.some.inj hY
    have e1 : Y.2.2.1 = ml := congrArg Prod.fst e
    have e2 : Y.2.2.2.2.1 = L := congrArg Prod.snd e
    refine ⟨hr, by rw [e1]; exact hl, ?_⟩
    rw [h7, h8, e1, e2]
    exact h
theorem z_fill_len : ∀ (n : Nat) (l : List zV), (z_fill n l).length = n
  | 0, _ => rfl
  | n + 1, [] => by
    show (z_fill n []).length + 1 = n + 1
    rw [z_fill_len n []]
  | n + 1, v :: l => by
    show (z_fill n l).length + 1 = n + 1
    rw [z_fill_len n l]
theorem z_fill_mem : ∀ (n : Nat) (l : List zV) (u : zU), some u ∈ z_fill n l → some u ∈ l
  | 0, _, _, h => by cases h
  | n + 1, [], u, h => by
    rcases List.mem_cons.mp h with h | h
    · cases h
    · exact z_fill_mem n [] u h
  | n + 1, v :: l, u, h => by
    rcases List.mem_cons.mp h with h | h
    · rw [h]; exact List.mem_cons_self
    · exact List.mem_cons_of_mem _ (z_fill_mem n l u h)
theorem z_es_mem : ∀ (as : List zU) (u : zU), some u ∈ z_es as → u ∈ as
  | [], _, h => by cases h
  | .inr (.inl a) :: l, u, h => by
    rcases List.mem_cons.mp h with h | h
    · cases h; exact List.mem_cons_self
    · rcases List.mem_cons.mp h with h | h
      · cases h
      · exact List.mem_cons_of_mem _ (z_es_mem l u h)
  | .inl a :: l, u, h => by
    rcases List.mem_cons.mp h with h | h
    · cases h; exact List.mem_cons_self
    · exact List.mem_cons_of_mem _ (z_es_mem l u h)
  | .inr (.inr a) :: l, u, h => by
    rcases List.mem_cons.mp h with h | h
    · cases h; exact List.mem_cons_self
    · exact List.mem_cons_of_mem _ (z_es_mem l u h)
theorem z_lv_fill {ad adK : Nat → Nat} : ∀ (n : Nat) (l : List zV) (j : Nat) (q : Nat × Value), q ∈ z_lv ad adK j (z_fill n l) → q ∈ z_lv ad adK j l
  | 0, _, _, _, h => by cases h
  | n + 1, [], j, q, h => by
    have h1 : q ∈ z_lv ad adK (j + 1) (z_fill n []) := h
    have := z_lv_fill n [] (j + 1) q h1
    cases this
  | n + 1, none :: l, j, q, h => by
    have h1 : q ∈ z_lv ad adK (j + 1) (z_fill n l) := h
    exact z_lv_fill n l (j + 1) q h1
  | n + 1, some u :: l, j, q, h => by
    have h1 : q ∈ (j, z_val ad adK u) :: z_lv ad adK (j + 1) (z_fill n l) := h
    rcases List.mem_cons.mp h1 with h2 | h2
    · rw [h2]; exact List.mem_cons_self
    · exact List.mem_cons_of_mem _ (z_lv_fill n l (j + 1) q h2)
theorem z_lv_es {ad adK : Nat → Nat} : ∀ (as : List zU) (j : Nat), z_lv ad adK j (z_es as) = lv_args j (as.map (z_val ad adK))
  | [], _ => rfl
  | .inl a :: l, j => by
    show (j, Value.int (Int32.ofInt a)) :: z_lv ad adK (j + 1) (z_es l) = (j, Value.int (Int32.ofInt a)) :: lv_args (j + 1) (l.map (z_val ad adK))
    rw [z_lv_es l (j + 1)]
  | .inr (.inl a) :: l, j => by
    show (j, Value.long (Int64.ofInt a)) :: z_lv ad adK (j + 2) (z_es l) = (j, Value.long (Int64.ofInt a)) :: lv_args (j + 2) (l.map (z_val ad adK))
    rw [z_lv_es l (j + 2)]
  | .inr (.inr (k, a)) :: l, j => by
    show (j, z_val ad adK (.inr (.inr (k, a)))) :: z_lv ad adK (j + 1) (z_es l) = (j, z_val ad adK (.inr (.inr (k, a)))) :: lv_args (j + 1) (l.map (z_val ad adK))
    rw [z_lv_es l (j + 1)]
theorem z_es_len {ad adK : Nat → Nat} : ∀ (as : List zU), (lg_sl (as.map (z_val ad adK))).length = (z_es as).length
  | [] => rfl
  | .inl a :: l => by
    show ([Slot.val (Value.int (Int32.ofInt a))] ++ lg_sl (l.map (z_val ad adK))).length = (z_es l).length + 1
    rw [List.length_append, z_es_len l, List.length_singleton]; omega
  | .inr (.inl a) :: l => by
    show ([Slot.val (Value.long (Int64.ofInt a)), Slot.second] ++ lg_sl (l.map (z_val ad adK))).length = (z_es l).length + 1 + 1
    rw [List.length_append, z_es_len l]; simp; omega
  | .inr (.inr (k, a)) :: l => by
    show ([Slot.val (z_val ad adK (.inr (.inr (k, a))))] ++ lg_sl (l.map (z_val ad adK))).length = (z_es l).length + 1
    rw [List.length_append, z_es_len l, List.length_singleton]; omega
theorem z_fetch_mem : ∀ (L : List zE) (K : List (List (Nat × Nat))) (f : zE → List (Nat × Nat) → Bool), L.length = K.length → (L.zip K).all (fun q => f q.1 q.2) = true → ∀ (pc : Nat) (q : Instr × Nat × List Nat × Int), z_fetch L pc = some q → ∃ w, f (pc, q) w = true
  | [], _, _, _, _, _, _, h => by cases h
  | e :: L, [], _, hl, _, _, _, _ => by cases hl
  | e :: L, w :: K, f, hl, ha, pc, q, h => by
    rw [List.zip_cons_cons, List.all_cons, Bool.and_eq_true] at ha
    unfold z_fetch at h
    cases hb : Nat.beq e.1 pc with
    | true =>
      rw [hb] at h
      have h1 := Option.some.inj h
      have h2 := Nat.eq_of_beq_eq_true hb
      refine ⟨w, ?_⟩
      rw [← h1, ← h2]
      exact ha.1
    | false =>
      rw [hb] at h
      exact z_fetch_mem L K f (by simpa using hl) ha.2 pc q h
def z_rm (d : Nat) : Room := { frames := d, cells := 0, slots := 0, locals := 60 * d }
