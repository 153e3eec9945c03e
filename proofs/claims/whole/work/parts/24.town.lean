/-! TOWNS, ROWS: copies; what can be undone -/
theorem zf_r {S : List Nat} {J : List (Nat × Int)} {M M' : zM} (h : zf S J M M') (lo hi : Nat) (hd : (S.all (fun c => Nat.blt c lo || Nat.blt hi c) && J.all (fun q => Nat.blt q.1 lo || Nat.blt hi q.1)) = true) : ∀ b, lo ≤ b → b ≤ hi → M' b = M b := by
  rw [Bool.and_eq_true] at hd
  intro b h1 h2
  funext j
  refine h b j (fun q => ?_) (fun q => ?_)
  · have := List.all_eq_true.mp hd.1 b q
    rw [Bool.or_eq_true] at this
    rcases this with z | z
    · have := Nat.le_of_ble_eq_true z; omega
    · have := Nat.le_of_ble_eq_true z; omega
  · have := List.all_eq_true.mp hd.2 _ q
    rw [Bool.or_eq_true] at this
    rcases this with z | z
    · have := Nat.le_of_ble_eq_true z; omega
    · have := Nat.le_of_ble_eq_true z; omega
theorem zrg_r {nx sz j : Int} (h1 : 0 ≤ nx ∧ nx < 15) (h2 : 0 ≤ sz ∧ sz ≤ 15) (h3 : 0 ≤ j ∧ j < sz) : 0 ≤ zrg nx sz j ∧ zrg nx sz j < 15 := by
  unfold zrg; split <;> omega
theorem iP_c {n c : Int} {M M' : zM} (h : iP n c M) (h1 : M' 49 1 = M 49 1) (h2 : M' 49 2 = M 49 2) (h3 : M' 179 33 = M 179 33) (h4 : M' 201 = M 201) (h5 : ∀ b, 51 ≤ b → b ≤ 140 → M' b = M b) : iP n c M' := by
  obtain ⟨q1, q2, q3, q4⟩ := h
  unfold iP
  rw [h1, h2, h3]
  refine ⟨q1, q2, q3, fun j a0 a1 => ?_⟩
  have hb := zrg_r q2 q3 ⟨a0, a1⟩
  exact tR_c (q4 j a0 a1) (congrFun (h5 _ (by omega) (by omega)) 5) (congrFun (h5 _ (by omega) (by omega)) 6) (h5 _ (by omega) (by omega)) (h5 _ (by omega) (by omega)) (h5 _ (by omega) (by omega)) (h5 _ (by omega) (by omega)) (h5 _ (by omega) (by omega)) h4
theorem iK_c {n c : Int} {M M' : zM} (h : iK n c M) (h1 : M' 0 11 = M 0 11) (h2 : M' 179 4 = M 179 4) (h3 : M' 219 = M 219) (h4 : M' 220 = M 220) (h6 : M' 221 = M 221) (h5 : ∀ b, 161 ≤ b → b ≤ 178 → M' b = M b) : iK n c M' := by
  obtain ⟨q1, q2, q3, q4⟩ := h
  unfold iK
  rw [h1, h2, h3, h4]
  refine ⟨q1, q2, q3, fun j a0 a1 hz => ?_⟩
  exact tR_c (q4 j a0 a1 hz) (congrFun (h5 _ (by omega) (by omega)) 5) (congrFun (h5 _ (by omega) (by omega)) 6) (h5 _ (by omega) (by omega)) (h5 _ (by omega) (by omega)) (h5 _ (by omega) (by omega)) (h5 _ (by omega) (by omega)) (h5 _ (by omega) (by omega)) h6
/-- the town a' (in M') is as the town a (in M) -/
def tQ (M : zM) (a : Nat) (M' : zM) (a' : Nat) : Prop := M' a' 5 = M a 5 ∧ M' a' 6 = M a 6 ∧ (∀ i, 0 ≤ i → i < 8 → M' (a' + 1) i = M (a + 1) i) ∧ (∀ i, 0 ≤ i → i < 48 → M' (a' + 2) i = M (a + 2) i) ∧ (∀ i, 0 ≤ i → i < 8 → M' (a' + 3) i = M (a + 3) i) ∧ (∀ i, 0 ≤ i → i < 8 → M' (a' + 4) i = M (a + 4) i) ∧ (∀ i, 0 ≤ i → i < 8 → M' (a' + 5) i = M (a + 5) i)
def rQ (M : zM) (q : Nat) (o : Int) (M' : zM) (q' : Nat) (o' : Int) : Prop := ∀ k, 0 ≤ k → k < 81 → M' q' (o' + k) = M q (o + k)
theorem tQ_tr {M M' M'' : zM} {a b c : Nat} (h1 : tQ M a M' b) (h2 : tQ M' b M'' c) : tQ M a M'' c := by
  obtain ⟨a1, a2, a3, a4, a5, a6, a7⟩ := h1
  obtain ⟨b1, b2, b3, b4, b5, b6, b7⟩ := h2
  exact ⟨b1.trans a1, b2.trans a2, fun i h h' => (b3 i h h').trans (a3 i h h'), fun i h h' => (b4 i h h').trans (a4 i h h'), fun i h h' => (b5 i h h').trans (a5 i h h'), fun i h h' => (b6 i h h').trans (a6 i h h'), fun i h h' => (b7 i h h').trans (a7 i h h')⟩
theorem tQ_c {M M' : zM} {a : Nat} (h5 : M' a 5 = M a 5) (h6 : M' a 6 = M a 6) (h : ∀ b, a + 1 ≤ b → b ≤ a + 5 → M' b = M b) : tQ M a M' a :=
  ⟨h5, h6, fun i _ _ => by rw [h _ (by omega) (by omega)], fun i _ _ => by rw [h _ (by omega) (by omega)], fun i _ _ => by rw [h _ (by omega) (by omega)], fun i _ _ => by rw [h _ (by omega) (by omega)], fun i _ _ => by rw [h _ (by omega) (by omega)]⟩
theorem tW_c {n c day day' : Int} {ord nam len dry had ord' nam' len' dry' had' : Int → Int} (h : tW n c day ord nam len dry had) (e0 : day' = day) (e1 : ∀ i, 0 ≤ i → i < 8 → ord' i = ord i) (e2 : ∀ i, 0 ≤ i → i < 48 → nam' i = nam i) (e3 : ∀ i, 0 ≤ i → i < 8 → len' i = len i) (e4 : ∀ i, 0 ≤ i → i < 8 → dry' i = dry i) (e5 : ∀ i, 0 ≤ i → i < 8 → had' i = had i) : tW n c day' ord' nam' len' dry' had' := by
  obtain ⟨h1, h2, h3, h4, h5, h6, h7, h8⟩ := h
  refine ⟨h1, by rw [e0]; exact h2, fun i a b => by rw [e1 i a b]; exact h3 i a b, fun i j a b a' b' e => h4 i j a b a' b' (by rw [← e1 i a b, ← e1 j a' b']; exact e), fun k a b => by rw [e2 k a b]; exact h5 k a b, fun h a b => by rw [e3 h a (by omega)]; exact h6 h a b, fun h a b => by rw [e3 h (by omega) b, e4 h (by omega) b, e5 h (by omega) b]; exact h7 h a b, fun h a b => by rw [e4 h a b, e5 h a b, e0]; exact h8 h a b⟩
theorem tE_c {n c day day' : Int} {ord nam len dry had ord' nam' len' dry' had' r r' : Int → Int} (hw : tW n c day ord nam len dry had) (h : tE c day ord nam len dry had r) (e0 : day' = day) (e1 : ∀ i, 0 ≤ i → i < 8 → ord' i = ord i) (e2 : ∀ i, 0 ≤ i → i < 48 → nam' i = nam i) (e3 : ∀ i, 0 ≤ i → i < 8 → len' i = len i) (e4 : ∀ i, 0 ≤ i → i < 8 → dry' i = dry i) (e5 : ∀ i, 0 ≤ i → i < 8 → had' i = had i) (er : ∀ k, 0 ≤ k → k < 81 → r' k = r k) : tE c day' ord' nam' len' dry' had' r' := by
  obtain ⟨h1, h2, h3, h4, h5, h6⟩ := h
  obtain ⟨w1, w2, w3, w4, w5, w6, w7, w8⟩ := hw
  refine ⟨fun i a b => by rw [e1 i a b, er i a (by omega)]; exact h1 i a b, fun i a b => by rw [e3 i a b, er _ (by omega) (by omega)]; exact h2 i a b, fun h i a b a' b' => ?_, fun i a b => by rw [e4 i a b, er _ (by omega) (by omega)]; exact h4 i a b, fun i a b => by rw [e5 i a b, er _ (by omega) (by omega)]; exact h5 i a b, by rw [e0, er _ (by omega) (by omega)]; exact h6⟩
  rw [e3 h a (by omega)] at b'
  have := w6 h a b
  rw [e2 _ (by omega) (by omega), er _ (by omega) (by omega)]
  exact h3 h i a b a' b'
theorem tR_Q {n c : Int} {M M' : zM} {a a' q q' : Nat} {o o' : Int} (h : tR n c M a q o) (ht : tQ M a M' a') (hr : rQ M q o M' q' o') : tR n c M' a' q' o' := by
  obtain ⟨h1, h2, h3⟩ := h
  obtain ⟨a1, a2, a3, a4, a5, a6, a7⟩ := ht
  exact ⟨a1.trans h1, tW_c h2 a2 a3 a4 a5 a6 a7, tE_c h2 h3 a2 a3 a4 a5 a6 a7 hr⟩
theorem s_Town_become {d a0 a1 : Nat} {M : zM} {F : zM → Prop} (hap : a0 + 6 ≤ a1 ∨ a1 + 6 ≤ a0) (h : ∀ M', zf [a0 + 1, a0 + 2, a0 + 3, a0 + 4, a0 + 5] [(a0, 5), (a0, 6)] M M' → tQ M a1 M' a0 → F M') : zCv (d + 1) 31 [z_r (9, 0) a0, z_r (9, 0) a1] M F := by
  refine e_Town_become ⟨by decide, by decide, by decide, by decide, by decide, ?_⟩
  refine h _ ?_ ?_
  · refine zf_uj (zf_uj (zf_cp (zf_cp (zf_cp (zf_cp (zf_cp zf_rf ?_) ?_) ?_) ?_) ?_) ?_) ?_ <;> simp
  · refine ⟨?_, ?_, fun i x y => ?_, fun i x y => ?_, fun i x y => ?_, fun i x y => ?_, fun i x y => ?_⟩
    · simp (disch := omega) only [zu_i, zu_s, zc_c]
    · simp (disch := omega) only [zu_s, zu_c, zc_c]
    · simp (disch := omega) only [zu_c, zc_c, zc_in]; congr 1; omega
    · simp (disch := omega) only [zu_c, zc_c, zc_in]; congr 1; omega
    · simp (disch := omega) only [zu_c, zc_c, zc_in]; congr 1; omega
    · simp (disch := omega) only [zu_c, zc_c, zc_in]; congr 1; omega
    · simp (disch := omega) only [zu_c, zc_c, zc_in]; congr 1; omega
theorem z_el50 (i : Int) : z_el 50 i = 51 + 6 * i.toNat := rfl
theorem z_el141 (i : Int) : z_el 141 i = 161 + 6 * i.toNat := rfl
def zPast : List Nat := (List.range 90).map (fun k => k + 51)
theorem zPast_mem {b : Nat} (h1 : 51 ≤ b) (h2 : b ≤ 140) : b ∈ zPast := List.mem_map.mpr ⟨b - 51, List.mem_range.mpr (by omega), by omega⟩
theorem s_Past_push {d a1 : Nat} {M : zM} {F : zM → Prop} (ha : a1 + 6 ≤ 51) (h1 : 0 ≤ M 49 1 ∧ M 49 1 < 15) (h2 : 0 ≤ M 49 2 ∧ M 49 2 ≤ 15)
    (h : ∀ M', zf zPast [(49, 1), (49, 2)] M M' → M' 49 1 = (if M 49 1 + 1 < 15 then M 49 1 + 1 else 0) → M' 49 2 = (if M 49 2 < 15 then M 49 2 + 1 else 15) → tQ M a1 M' (51 + 6 * (M 49 1).toNat) → (∀ b, 51 ≤ b → b ≤ 140 → (b < 51 + 6 * (M 49 1).toNat ∨ 51 + 6 * (M 49 1).toNat + 6 ≤ b) → M' b = M b) → F M') : zCv (d + 2) 30 [z_r (3, 0) 49, z_r (9, 0) a1] M F := by
  refine e_Past_push ⟨h1, ?_⟩
  rw [z_el50]
  refine s_Town_become (by omega) (fun M1 f1 t1 => ?_)
  have f1' : zf zPast [(49, 1), (49, 2)] M M1 := by
    refine zf_w f1 (fun b hb => ?_) (fun q hq => Or.inl ?_)
    · simp only [List.mem_cons, List.not_mem_nil, or_false] at hb
      exact zPast_mem (by omega) (by omega)
    · simp only [List.mem_cons, List.not_mem_nil, or_false] at hq
      rcases hq with rfl | rfl <;> exact zPast_mem (by show 51 ≤ 51 + _; omega) (by show 51 + _ ≤ 140; omega)
  have ne : ∀ b : Nat, (b < 51 + 6 * (M 49 1).toNat ∨ 51 + 6 * (M 49 1).toNat + 6 ≤ b) → M1 b = M b := by
    intro b hb
    funext j
    refine f1 b j (fun q => ?_) (fun q => ?_)
    · simp only [List.mem_cons, List.not_mem_nil, or_false] at q; omega
    · simp only [List.mem_cons, List.not_mem_nil, or_false, Prod.mk.injEq] at q; omega
  have e1 : M1 49 = M 49 := ne 49 (by omega)
  rw [e1]
  have fin : ∀ x y : Int, x = (if M 49 1 + 1 < 15 then M 49 1 + 1 else 0) → y = (if M 49 2 < 15 then M 49 2 + 1 else 15) → F (z_up (z_up M1 49 1 x) 49 2 y) := by
    intro x y hx hy
    refine h _ (zf_uj (zf_uj f1' (by decide)) (by decide)) (by rw [zu_i (by decide), zu_s]; exact hx) (by rw [zu_s]; exact hy) ?_ (fun b b1 b2 b3 => by rw [zu_f (by omega), zu_f (by omega)]; exact ne b b3)
    refine tQ_tr t1 (tQ_c ?_ ?_ (fun b b1 b2 => by rw [zu_f (by omega), zu_f (by omega)]))
    · rw [zu_c (by omega), zu_c (by omega)]
    · rw [zu_c (by omega), zu_c (by omega)]
  rw [zw (x := M 49 1 + 1) (by omega) (by omega)]
  refine ⟨fun q => fin _ _ ?_ ?_, fun q => fin _ _ ?_ ?_⟩
  · rw [if_neg (by omega)]
  · rw [zu_i (by decide), e1, zw (x := M 49 2 + 1) (by omega) (by omega)]
    split <;> split <;> omega
  · rw [if_pos (by omega)]
  · rw [zu_i (by decide), e1, zw (x := M 49 2 + 1) (by omega) (by omega)]
    split <;> split <;> omega
theorem s_M_putsBy {d : Nat} {M : zM} {F : zM → Prop} (h1 : 0 ≤ M 179 33 ∧ M 179 33 ≤ 15) (h : ∀ M', zf [201] [] M M' → (∀ k, (k < 81 * M 179 33 ∨ 81 * M 179 33 + 81 ≤ k) → M' 201 k = M 201 k) → (∀ k, 0 ≤ k → k < 81 → M' 201 (81 * M 179 33 + k) = M 183 k) → F M') : zCv (d + 1) 193 [z_r (11, 0) 179] M F := by
  refine e_M_putsBy (fun P hP => ?_)
  have loop : ∀ (n : Nat) (i : Int) (M1 : zM), i + n = 81 → 0 ≤ i → zf [201] [] M M1 → (∀ k, (k < 81 * M 179 33 ∨ 81 * M 179 33 + 81 ≤ k) → M1 201 k = M 201 k) → (∀ k, 0 ≤ k → k < i → M1 201 (81 * M 179 33 + k) = M 183 k) → P i M1 := by
    intro n
    induction n with
    | zero =>
      intro i M1 hi h0 g1 g2 g3
      have : i = 81 := by omega
      subst this
      exact hP _ _ ⟨fun _ => h M1 g1 g2 g3, fun c => absurd (by decide) c⟩
    | succ n ih =>
      intro i M1 hi h0 g1 g2 g3
      have e1 : M1 179 33 = M 179 33 := zf_a g1 179 33 rfl
      have e2 : M1 183 = M 183 := zf_c g1 183 rfl
      refine hP _ _ ⟨fun c => absurd c (by omega), fun _ => ⟨by omega, ?_⟩⟩
      rw [e1, e2, zw (x := 81 * M 179 33) (by omega) (by omega), zw (x := 81 * M 179 33 + i) (by omega) (by omega), zw (x := i + 1) (by omega) (by omega)]
      refine ⟨by omega, ih (i + 1) _ (by omega) (by omega) (zf_us g1 (by decide)) (fun k hk => ?_) (fun k k0 k1 => ?_)⟩
      · rw [zu_i (by omega)]; exact g2 k hk
      · by_cases hc : k = i
        · subst hc; rw [zu_s]
        · rw [zu_i (by omega)]; exact g3 k k0 (by omega)
  exact loop 81 0 M (by omega) (by omega) zf_rf (fun _ _ => rfl) (fun k k0 k1 => by omega)
theorem s_M_adds {d : Nat} {x : Int} {M : zM} {F : Int → zM → Prop} (h1 : 0 ≤ M 179 33 ∧ M 179 33 ≤ 15) (h : ∀ M', zf [201] [(179, 33)] M M' → M' 179 33 = (if M 179 33 < 15 then M 179 33 + 1 else 15) → (∀ k, 0 ≤ k → k < 1215 → M' 201 k = M 201 (if M 179 33 < 15 then k else k + 81)) → F x M') : zCi (d + 1) 194 [z_r (11, 0) 179, z_i x] M F := by
  refine e_M_adds (fun P hP => ?_)
  rw [zu_s, zw (x := M 179 33 + 1) (by omega) (by omega)]
  refine ⟨fun q => ?_, fun q => ?_⟩
  · refine h _ (zf_uj zf_rf (by decide)) ?_ (fun k k0 k1 => ?_)
    · rw [zu_s, if_pos (by omega)]
    · rw [zu_c (by decide), if_pos (by omega)]
  · have e15 : M 179 33 = 15 := by omega
    have loop : ∀ (n : Nat) (i : Int) (M1 : zM), i + n = 1215 → 0 ≤ i → zf [201] [(179, 33)] M M1 → M1 179 33 = 16 → (∀ k, 0 ≤ k → k < i → M1 201 k = M 201 (k + 81)) → (∀ k, i ≤ k → M1 201 k = M 201 k) → P x i M1 := by
      intro n
      induction n with
      | zero =>
        intro i M1 hi h0 g1 g2 g3 g4
        have : i = 1215 := by omega
        subst this
        refine hP _ _ _ ⟨fun _ => ?_, fun c => absurd (by decide) c⟩
        rw [g2]
        refine h _ (zf_uj g1 (by decide)) ?_ (fun k k0 k1 => ?_)
        · rw [zu_s, if_neg (by omega)]; rfl
        · rw [zu_c (by decide), if_neg (by omega)]; exact g3 k k0 k1
      | succ n ih =>
        intro i M1 hi h0 g1 g2 g3 g4
        refine hP _ _ _ ⟨fun c => absurd c (by omega), fun _ => ?_⟩
        rw [zw (x := i + 81) (by omega) (by omega), zw (x := i + 1) (by omega) (by omega)]
        refine ⟨by omega, by omega, ih (i + 1) _ (by omega) (by omega) (zf_us g1 (by decide)) (by rw [zu_c (by decide)]; exact g2) (fun k k0 k1 => ?_) (fun k k0 => ?_)⟩
        · by_cases hc : k = i
          · subst hc; rw [zu_s]; exact g4 _ (by omega)
          · rw [zu_i (by omega)]; exact g3 k k0 (by omega)
        · rw [zu_i (by omega)]; exact g4 k (by omega)
    refine loop 1215 0 _ (by omega) (by omega) (zf_uj zf_rf (by decide)) (by rw [zu_s]; omega) (fun k k0 k1 => by omega) (fun k _ => by rw [zu_c (by decide)])
/-- the ring and the pile when the town as it was is put by -/
theorem iP_push {n c : Int} {M M' : zM} (h : iP n c M) (ht : tR n c M 23 183 0) (h1 : M' 49 1 = (if M 49 1 + 1 < 15 then M 49 1 + 1 else 0)) (h2 : M' 49 2 = (if M 49 2 < 15 then M 49 2 + 1 else 15)) (h3 : M' 179 33 = (if M 179 33 < 15 then M 179 33 + 1 else 15)) (h4 : tQ M 23 M' (51 + 6 * (M 49 1).toNat)) (h5 : ∀ b, 51 ≤ b → b ≤ 140 → (b < 51 + 6 * (M 49 1).toNat ∨ 51 + 6 * (M 49 1).toNat + 6 ≤ b) → M' b = M b)
    (h6 : ∀ j k, 0 ≤ j → j < M' 49 2 → 0 ≤ k → k < 81 → M' 201 (81 * j + k) = (if j = M' 49 2 - 1 then M 183 k else M 201 (81 * (if M 49 2 < 15 then j else j + 1) + k))) : iP n c M' := by
  obtain ⟨q1, q2, q3, q4⟩ := h
  refine ⟨by rw [h2, h3, ← q1], by rw [h1]; split <;> omega, by rw [h2]; split <;> omega, fun j j0 j1 => ?_⟩
  by_cases hc : j = M' 49 2 - 1
  · have e : zrg (M' 49 1) (M' 49 2) j = M 49 1 := by
      rw [hc]; unfold zrg
      rw [h1]
      split <;> split <;> omega
    rw [e]
    refine tR_Q ht h4 (fun k k0 k1 => ?_)
    rw [h6 j k j0 j1 k0 k1, if_pos hc, Int.zero_add]
  · have hj2 : 0 ≤ (if M 49 2 < 15 then j else j + 1) ∧ (if M 49 2 < 15 then j else j + 1) < M 49 2 := by
      rw [h2] at hc j1
      split at hc <;> rename_i z
      · rw [if_pos z]; rw [if_pos z] at j1; omega
      · rw [if_neg z]; rw [if_neg z] at j1; omega
    have e : zrg (M' 49 1) (M' 49 2) j = zrg (M 49 1) (M 49 2) (if M 49 2 < 15 then j else j + 1) := by
      unfold zrg
      rw [h1, h2]
      rw [h2] at hc j1
      by_cases z : M 49 2 < 15
      · simp only [if_pos z] at *
        by_cases z2 : M 49 1 + 1 < 15
        · simp only [if_pos z2]
          split <;> split <;> omega
        · simp only [if_neg z2]
          split <;> split <;> omega
      · simp only [if_neg z] at *
        by_cases z2 : M 49 1 + 1 < 15
        · simp only [if_pos z2]
          split <;> split <;> omega
        · simp only [if_neg z2]
          split <;> split <;> omega
    have hne : zrg (M 49 1) (M 49 2) (if M 49 2 < 15 then j else j + 1) ≠ M 49 1 ∨ M 49 2 = 15 := by
      by_cases z : M 49 2 = 15
      · exact Or.inr z
      · left
        unfold zrg
        split <;> omega
    have hb := zrg_r q2 q3 hj2
    have hne2 : zrg (M 49 1) (M 49 2) (if M 49 2 < 15 then j else j + 1) ≠ M 49 1 := by
      rcases hne with z | z
      · exact z
      · rw [h2, if_neg (by omega)] at hc j1
        rw [if_neg (by omega)]
        unfold zrg
        split <;> omega
    rw [e]
    have hh := q4 _ hj2.1 hj2.2
    refine tR_Q hh (tQ_c ?_ ?_ (fun b b1 b2 => h5 b (by omega) (by omega) (by omega))) (fun k k0 k1 => ?_)
    · exact congrFun (h5 _ (by omega) (by omega) (by omega)) 5
    · exact congrFun (h5 _ (by omega) (by omega) (by omega)) 6
    · rw [h6 j k j0 j1 k0 k1, if_neg hc]
