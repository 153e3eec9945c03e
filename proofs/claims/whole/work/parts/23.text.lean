/-! sign, end, forget, saw -/
def zQ (d yW yM : Nat) (as bs : List zU) (n : Int) (M : zM) : Prop := zCi d yW as M (fun v M1 => zCi d yM bs M1 (fun v' M2 => v = v' ∧ zI (n + 1) M2))
theorem zb_byte_u (v : Int) (s : Int) (k : Nat) (hk : (((Int32.ofInt s).toUInt32 &&& Int32.toUInt32 31).toBitVec % 32).toNat = k) : z_and (z_ushr v s) 255 = (((Int32.ofInt v).toBitVec.toNat / 2 ^ k % 256 : Nat) : Int) := by
  unfold z_and z_ushr
  rw [Int32.ofInt_toInt, show Int32.ofInt 255 = 255 from rfl, pk_and _ 8 (by decide), pk_ushr _ _ k hk]
  rw [nI_toInt (by omega)]
theorem zb_byte_s (v : Int) (s : Int) (k : Nat) (hk : ((Int32.ofInt s &&& 31).toBitVec.smod 32).toNat = k) : z_and (z_shr v s) 255 = ((Int32.ofInt v).toInt >>> k) % 256 := by
  unfold z_and z_shr
  rw [Int32.ofInt_toInt, show Int32.ofInt 255 = 255 from rfl, pk_and _ 8 (by decide)]
  rw [nI_toInt (by omega)]
  have h := pk_shr (Int32.ofInt v) (Int32.ofInt s &&& 31) k hk
  rw [← h]
  have h2 : ∀ x : Int32, ((x.toBitVec.toNat % 2 ^ 8 : Nat) : Int) = x.toInt % 256 := by
    intro x
    have h3 : x.toInt = x.toBitVec.toInt := rfl
    rw [h3, BitVec.toInt_eq_toNat_cond]
    have := x.toBitVec.isLt
    split <;> omega
  exact h2 _
theorem zb_toInt (x : Int32) : x.toInt = x.toBitVec.toNat ∨ x.toInt = x.toBitVec.toNat - 4294967296 := by
  have h3 : x.toInt = x.toBitVec.toInt := rfl
  rw [h3, BitVec.toInt_eq_toNat_cond]
  split
  · exact Or.inl rfl
  · exact Or.inr rfl
/-- the byte of v at s = 24, 16, 8, 0 -/
def zby (v s : Int) : Int := z_and (z_ushr v s) 255
theorem zby_r (v : Int) {s : Int} (hs : s = 24 ∨ s = 16 ∨ s = 8 ∨ s = 0) : 0 ≤ zby v s ∧ zby v s ≤ 255 := by
  unfold zby
  rcases hs with rfl | rfl | rfl | rfl
  · rw [zb_byte_u v 24 24 (by decide)]; omega
  · rw [zb_byte_u v 16 16 (by decide)]; omega
  · rw [zb_byte_u v 8 8 (by decide)]; omega
  · rw [zb_byte_u v 0 0 (by decide)]; omega
theorem zby_s (v : Int) {s : Int} (hs : s = 24 ∨ s = 16 ∨ s = 8 ∨ s = 0) : z_and (z_shr v s) 255 = zby v s := by
  unfold zby
  have h := zb_toInt (Int32.ofInt v)
  rcases hs with rfl | rfl | rfl | rfl
  · rw [zb_byte_u v 24 24 (by decide), zb_byte_s v 24 24 (by decide), Int.shiftRight_eq_div_pow]; omega
  · rw [zb_byte_u v 16 16 (by decide), zb_byte_s v 16 16 (by decide), Int.shiftRight_eq_div_pow]; omega
  · rw [zb_byte_u v 8 8 (by decide), zb_byte_s v 8 8 (by decide), Int.shiftRight_eq_div_pow]; omega
  · rw [zb_byte_u v 0 0 (by decide), zb_byte_s v 0 0 (by decide), Int.shiftRight_eq_div_pow]; omega
theorem s_W_sign {d : Nat} {v : Int} {M : zM} {F : Int → zM → Prop} (h0 : 0 ≤ M 1 1 ∧ M 1 1 ≤ 80)
    (h : M 1 1 ≤ 76 → ∀ M', zf [2] [(1, 1)] M M' → M' 1 1 = M 1 1 + 4 → (∀ p, p < M 1 1 → M' 2 p = M 2 p) → (∀ k, 0 ≤ k → k < 4 → M' 2 (M 1 1 + k) = zby v (24 - 8 * k)) → F (M 1 1 + 4) M') (hn : ¬ M 1 1 ≤ 76 → F (-1) M) : zCi (d + 2) 0 [z_r (10, 0) 0, z_i v] M F := by
  refine e_W_sign (e_Text_add (fun P hP => ⟨fun q => ?_, fun q => ?_⟩))
  · rw [zw (by omega) (by omega)] at q
    have loop : ∀ (n : Nat) (k : Int) (M1 : zM), k + n = 4 → 0 ≤ k → zf [2] [(1, 1)] M M1 → M1 1 1 = M 1 1 + k → (∀ p, p < M 1 1 → M1 2 p = M 2 p) → (∀ j, 0 ≤ j → j < k → M1 2 (M 1 1 + j) = zby v (24 - 8 * j)) → P v (24 - 8 * k) M1 := by
      intro n
      induction n with
      | zero =>
        intro k M1 hk hk0 g1 g2 g3 g4
        have : k = 4 := by omega
        subst this
        refine hP _ _ _ ⟨fun _ => ⟨fun c => absurd c (by decide), fun _ => ?_⟩, fun c => absurd (show (24 : Int) - 8 * 4 < 0 by decide) c⟩
        rw [g2]
        exact h (by omega) M1 g1 g2 g3 g4
      | succ n ih =>
        intro k M1 hk hk0 g1 g2 g3 g4
        refine hP _ _ _ ⟨fun c => absurd c (by omega), fun _ => ⟨by omega, ?_⟩⟩
        rw [zw (x := 24 - 8 * k + (-8)) (by omega) (by omega), show 24 - 8 * k + (-8) = 24 - 8 * (k + 1) by omega]
        rw [zu_c (by decide), zw (by omega) (by omega)]
        refine ih (k + 1) _ (by omega) (by omega) (zf_uj (zf_us g1 (by decide)) (by decide)) ?_ ?_ ?_
        · rw [zu_s]; omega
        · intro p hp
          rw [zu_c (by decide), zu_i (by omega)]
          exact g3 p hp
        · intro j hj0 hj
          rw [zu_c (by decide)]
          by_cases hc : j = k
          · subst hc
            rw [zu_e (by omega)]
            rfl
          · rw [zu_i (by omega)]
            exact g4 j hj0 (by omega)
    exact loop 4 0 M (by omega) (by omega) zf_rf (by omega) (fun _ _ => rfl) (fun j h1 h2 => by omega)
  · rw [zw (by omega) (by omega)] at q
    exact ⟨fun _ => hn (by omega), fun c => absurd rfl c⟩
theorem s_M_sign {d : Nat} {v : Int} {M : zM} {F : Int → zM → Prop} (h0 : 0 ≤ M 179 11 ∧ M 179 11 ≤ 80)
    (h : M 179 11 ≤ 76 → ∀ M', zf [185] [(179, 0), (179, 11)] M M' → M' 179 11 = M 179 11 + 4 → (∀ p, p < M 179 11 → M' 185 p = M 185 p) → (∀ k, 0 ≤ k → k < 4 → M' 185 (M 179 11 + k) = zby v (24 - 8 * k)) → F (M 179 11 + 4) M') (hn : ¬ M 179 11 ≤ 76 → F (-1) (z_up M 179 0 0)) : zCi (d + 1) 149 [z_r (11, 0) 179, z_i v] M F := by
  refine e_M_sign (fun P hP => ?_)
  rw [zu_i (by decide)]
  refine ⟨fun q => ?_, hn⟩
  have loop : ∀ (n : Nat) (k : Int) (M1 : zM), k + n = 4 → 0 ≤ k → zf [185] [(179, 0), (179, 11)] M M1 → M1 179 11 = M 179 11 → (∀ p, p < M 179 11 → M1 185 p = M 185 p) → (∀ j, 0 ≤ j → j < k → M1 185 (M 179 11 + j) = zby v (24 - 8 * j)) → P v k M1 := by
    intro n
    induction n with
    | zero =>
      intro k M1 hk hk0 g1 g2 g3 g4
      have : k = 4 := by omega
      subst this
      refine hP _ _ _ ⟨fun _ => ?_, fun c => absurd (by decide) c⟩
      rw [zu_s, g2, zw (by omega) (by omega)]
      exact h (by omega) _ (zf_uj g1 (by decide)) (by rw [zu_s]) (fun p hp => by rw [zu_c (by decide)]; exact g3 p hp) (fun j h1 h2 => by rw [zu_c (by decide)]; exact g4 j h1 h2)
    | succ n ih =>
      intro k M1 hk hk0 g1 g2 g3 g4
      refine hP _ _ _ ⟨fun c => absurd c (by omega), fun _ => ?_⟩
      rw [g2, zw (x := M 179 11 + k) (by omega) (by omega), zw (x := 8 * k) (by omega) (by omega), zw (x := 24 - 8 * k) (by omega) (by omega), zw (x := k + 1) (by omega) (by omega), zby_s v (by omega)]
      refine ⟨by omega, ih (k + 1) _ (by omega) (by omega) (zf_us g1 (by decide)) ?_ ?_ ?_⟩
      · rw [zu_c (by decide)]; exact g2
      · intro p hp
        rw [zu_i (by omega)]
        exact g3 p hp
      · intro j hj0 hj
        by_cases hc : j = k
        · subst hc
          rw [zu_s]
        · rw [zu_i (by omega)]
          exact g4 j hj0 (by omega)
  exact loop 4 0 _ (by omega) (by omega) (zf_uj zf_rf (by decide)) (by rw [zu_i (by decide)]) (fun _ _ => by rw [zu_c (by decide)]) (fun j h1 h2 => by omega)
theorem p_sign {d : Nat} {v n : Int} {M : zM} (hI : zI n M) (hn : n < 512) : zQ (d + 2) 0 149 [z_r (10, 0) 0, z_i v] [z_r (11, 0) 179, z_i v] n M := by
  obtain ⟨hb, ⟨t1, t2, t3, t4⟩, hR, hJ⟩ := hI
  unfold zQ
  refine s_W_sign ⟨t2, t3⟩ (fun hq M1 f1 a1 a2 a3 => ?_) (fun hq => ?_)
  · have e11 : M1 179 11 = M 179 11 := zf_a f1 179 11 rfl
    refine s_M_sign (by rw [e11, ← t1]; exact ⟨t2, t3⟩) (fun _ M2 f2 b1 b2 b3 => ?_) (fun c => absurd (by rw [e11, ← t1]; exact hq) c)
    refine ⟨by rw [e11, t1], ⟨by omega, by omega⟩, ?_, ?_, ?_⟩
    · have c1 : M2 1 1 = M1 1 1 := zf_a f2 1 1 rfl
      have c2 : M2 2 = M1 2 := zf_c f2 2 rfl
      have c3 : M1 185 = M 185 := zf_c f1 185 rfl
      rw [c1, c2]
      refine ⟨by rw [a1, b1, e11, t1], by omega, by omega, fun p h0 h1 => ?_⟩
      rw [a1] at h1
      by_cases hp : p < M 1 1
      · rw [a2 p hp, b2 p (by rw [e11, ← t1]; exact hp), c3]
        exact t4 p h0 hp
      · have e1 := a3 (p - M 1 1) (by omega) (by omega)
        have e2 := b3 (p - M 1 1) (by omega) (by omega)
        rw [show M 1 1 + (p - M 1 1) = p by omega] at e1
        rw [e11, ← t1, show M 1 1 + (p - M 1 1) = p by omega] at e2
        rw [e1, e2]
        exact ⟨rfl, zby_r v (by omega)⟩
    · have f := zf_tr f1 f2
      rw [zf_a f 3 1 rfl, zf_c f 4 rfl, zf_a f 179 1 rfl, zf_c f 180 rfl]
      exact hR
    · exact zJ_n (zJ_f hJ (zf_tr f1 f2) rfl) (by omega)
  · refine s_M_sign (by rw [← t1]; exact ⟨t2, t3⟩) (fun c => absurd (by rw [t1]; exact c) hq) (fun _ => ?_)
    have f : zf [] [(179, 0)] M (z_up M 179 0 0) := zf_uj zf_rf (by decide)
    refine ⟨rfl, ⟨by omega, by omega⟩, ?_, ?_, zJ_n (zJ_f hJ f rfl) (by omega)⟩
    · rw [zf_a f 1 1 rfl, zf_c f 2 rfl, zf_a f 179 11 rfl, zf_c f 185 rfl]
      exact ⟨t1, t2, t3, t4⟩
    · rw [zf_a f 3 1 rfl, zf_c f 4 rfl, zf_a f 179 1 rfl, zf_c f 180 rfl]
      exact hR
/-- what p_ theorems end with where THE TEXT and the ROW are as they were -/
theorem zI_f {n : Int} {S : List Nat} {J : List (Nat × Int)} {M M' : zM} (hI : zI n M) (hn : n < 512) (f : zf S J M M') (hd : zJS S J = true) (ht : (S.all (fun c => !(Nat.beq c 2 || Nat.beq c 185 || Nat.beq c 4 || Nat.beq c 180 || Nat.beq c 1 || Nat.beq c 3)) && J.all (fun q => !(Nat.beq q.1 2 || Nat.beq q.1 185 || Nat.beq q.1 4 || Nat.beq q.1 180 || Nat.beq q.1 1 || Nat.beq q.1 3 || (Nat.beq q.1 179 && (decide (q.2 = 11) || decide (q.2 = 1)))))) = true) : zI (n + 1) M' := by
  obtain ⟨hb, hT, hR, hJ⟩ := hI
  have hno : ∀ c, c ∈ S → ¬ (c = 2 ∨ c = 185 ∨ c = 4 ∨ c = 180 ∨ c = 1 ∨ c = 3) := by
    rw [Bool.and_eq_true] at ht
    intro c hc q
    have h1 := List.all_eq_true.mp ht.1 c hc
    rcases q with rfl | rfl | rfl | rfl | rfl | rfl <;> simp at h1
  have hnj : ∀ q, q ∈ J → ¬ (q.1 = 2 ∨ q.1 = 185 ∨ q.1 = 4 ∨ q.1 = 180 ∨ q.1 = 1 ∨ q.1 = 3) ∧ ¬ (q.1 = 179 ∧ (q.2 = 11 ∨ q.2 = 1)) := by
    rw [Bool.and_eq_true] at ht
    intro q hq
    have h1 := List.all_eq_true.mp ht.2 q hq
    obtain ⟨a, b⟩ := q
    refine ⟨fun z => ?_, fun z => ?_⟩
    · rcases z with z | z | z | z | z | z <;> (have z : a = _ := z; subst z; simp at h1)
    · obtain ⟨z1, z2⟩ := z
      have z1 : a = 179 := z1
      subst z1
      rcases z2 with z | z <;> (have z : b = _ := z; subst z; simp at h1)
  have h181 : 179 ∉ S := by
    unfold zJS at hd
    rw [Bool.and_eq_true] at hd
    intro q
    have := List.all_eq_true.mp hd.1 179 q
    simp [zJa, zJo] at this
  have hc : ∀ c, (c = 2 ∨ c = 185 ∨ c = 4 ∨ c = 180 ∨ c = 1 ∨ c = 3) → M' c = M c := fun c hc => by
    funext j
    exact f c j (fun q => hno c q hc) (fun q => (hnj _ q).1 hc)
  have e1 : M' 179 11 = M 179 11 := f 179 11 h181 (fun q => (hnj _ q).2 ⟨rfl, Or.inl rfl⟩)
  have e2 : M' 179 1 = M 179 1 := f 179 1 h181 (fun q => (hnj _ q).2 ⟨rfl, Or.inr rfl⟩)
  refine ⟨⟨by omega, by omega⟩, ?_, ?_, zJ_n (zJ_f hJ f hd) (by omega)⟩
  · rw [hc 1 (by omega), hc 2 (by omega), hc 185 (by omega), e1]; exact hT
  · rw [hc 3 (by omega), hc 4 (by omega), hc 180 (by omega), e2]; exact hR
theorem p_end {d : Nat} {v n : Int} {M : zM} (hI : zI n M) (hn : n < 512) : zQ (d + 2) 2 150 [z_r (10, 0) 0, z_i v] [z_r (11, 0) 179, z_i v] n M := by
  have hI0 := hI
  obtain ⟨hb, ⟨t1, t2, t3, t4⟩, hR, hJ⟩ := hI
  unfold zQ
  have mend : ∀ {M1 : zM} {F : Int → zM → Prop}, (0 ≤ v → v ≤ M1 179 11 → F 1 (z_up (z_up M1 179 0 0) 179 11 v)) → (¬ (0 ≤ v ∧ v ≤ M1 179 11) → F 0 (z_up M1 179 0 0)) → zCi (d + 2) 150 [z_r (11, 0) 179, z_i v] M1 F := by
    intro M1 F h1 h0
    refine e_M_end (s_M_in ?_)
    rw [zu_i (by decide)]
    by_cases hc : 0 ≤ v ∧ v ≤ M1 179 11
    · rw [if_pos hc]
      exact ⟨fun _ => h1 hc.1 hc.2, fun q => absurd (by decide) q⟩
    · rw [if_neg hc]
      exact ⟨fun q => absurd rfl q, fun _ => h0 hc⟩
  have no : ¬ (0 ≤ v ∧ v ≤ M 1 1) → zCi (d + 2) 150 [z_r (11, 0) 179, z_i v] M (fun v' M2 => 0 = v' ∧ zI (n + 1) M2) := fun hc =>
    mend (fun a b => absurd ⟨a, by rw [t1]; exact b⟩ hc) (fun _ => ⟨rfl, zI_f hI0 hn (S := []) (J := [(179, 0)]) (zf_uj zf_rf (by decide)) rfl rfl⟩)
  refine e_W_end ⟨fun q => no (by omega), fun q => ⟨fun q2 => ?_, fun q2 => no (by omega)⟩⟩
  refine mend (fun _ _ => ⟨rfl, ⟨by omega, by omega⟩, ?_, ?_, ?_⟩) (fun c => absurd ⟨by omega, by rw [zu_c (by decide), ← t1]; exact q2⟩ c)
  · rw [zu_c (by decide), zu_c (by decide), zu_s, zu_s, zu_f (by decide), zu_f (by decide), zu_f (by decide), zu_f (by decide), zu_f (by decide), zu_f (by decide)]
    exact ⟨rfl, by omega, by omega, fun p h0 h1 => t4 p h0 (by omega)⟩
  · have f : zf [] [(1, 1), (179, 0), (179, 11)] M (z_up (z_up (z_up M 1 1 v) 179 0 0) 179 11 v) := zf_uj (zf_uj (zf_uj zf_rf (by decide)) (by decide)) (by decide)
    rw [zf_a f 3 1 rfl, zf_c f 4 rfl, zf_a f 179 1 rfl, zf_c f 180 rfl]
    exact hR
  · have f : zf [] [(1, 1), (179, 0), (179, 11)] M (z_up (z_up (z_up M 1 1 v) 179 0 0) 179 11 v) := zf_uj (zf_uj (zf_uj zf_rf (by decide)) (by decide)) (by decide)
    exact zJ_n (zJ_f hJ f rfl) (by omega)
/-- nothing of zJ changes but what was seen, of which nothing is left -/
theorem zJ_seen {n : Int} {S : List Nat} {J : List (Nat × Int)} {M M' : zM} (hJ : zJ n M) (f : zf S J M M') (hd : zJS S (J.filter (fun q => !(decide (q = (0, 14)) || decide (q = (179, 57))))) = true) (h1 : M' 0 14 = 0) (h2 : M' 179 57 = 0) : zJ n M' := by
  have f2 : zf S (J.filter (fun q => !(decide (q = (0, 14)) || decide (q = (179, 57))))) M (z_up (z_up M' 0 14 (M 0 14)) 179 57 (M 179 57)) := by
    intro b j hb hj
    by_cases c1 : b = 179 ∧ j = 57
    · rw [c1.1, c1.2, zu_s]
    · rw [z_up_ne _ _ c1]
      by_cases c2 : b = 0 ∧ j = 14
      · rw [c2.1, c2.2, zu_s]
      · rw [z_up_ne _ _ c2]
        refine f b j hb (fun q => hj (List.mem_filter.mpr ⟨q, ?_⟩))
        simp only [Prod.mk.injEq, Bool.not_eq_true', Bool.or_eq_false_iff, decide_eq_false_iff_not]
        exact ⟨c2, c1⟩
  obtain ⟨k1, k2, k3, k4, k5, k6, k7, k8⟩ := zJ_f hJ f2 hd
  have e : ∀ b, b ≠ 0 → b ≠ 179 → z_up (z_up M' 0 14 (M 0 14)) 179 57 (M 179 57) b = M' b := fun b h0 h1 => by rw [zu_f h1, zu_f h0]
  have e0 : ∀ j, j ≠ 14 → z_up (z_up M' 0 14 (M 0 14)) 179 57 (M 179 57) 0 j = M' 0 j := fun j hj => by rw [zu_c (by decide), zu_i hj]
  have e1 : ∀ j, j ≠ 57 → z_up (z_up M' 0 14 (M 0 14)) 179 57 (M 179 57) 179 j = M' 179 j := fun j hj => by rw [zu_i hj, zu_c (by decide)]
  rw [e1 3 (by decide)] at k1 k2 k5 k6
  refine ⟨?_, ?_, ?_, ?_, ?_, ?_, ?_, ?_⟩
  · unfold tR at k1 ⊢
    simp only [e _ (show (23 : Nat) ≠ 0 by decide) (by decide), e _ (show (23 + 1 : Nat) ≠ 0 by decide) (by decide), e _ (show (23 + 2 : Nat) ≠ 0 by decide) (by decide), e _ (show (23 + 3 : Nat) ≠ 0 by decide) (by decide), e _ (show (23 + 4 : Nat) ≠ 0 by decide) (by decide), e _ (show (23 + 5 : Nat) ≠ 0 by decide) (by decide), e _ (show (183 : Nat) ≠ 0 by decide) (by decide)] at k1
    exact k1
  · rw [e 46 (by decide) (by decide), e 182 (by decide) (by decide)] at k2; exact k2
  · rw [e 45 (by decide) (by decide), e 47 (by decide) (by decide), e 181 (by decide) (by decide), e1 5 (by decide)] at k3; exact k3
  · rw [e 5 (by decide) (by decide), e 6 (by decide) (by decide), e 190 (by decide) (by decide), e1 22 (by decide)] at k4; exact k4
  · unfold iP at k5 ⊢
    rw [e 49 (by decide) (by decide), e1 33 (by decide)] at k5
    refine ⟨k5.1, k5.2.1, k5.2.2.1, fun j h0 h1 => ?_⟩
    have hb : (zrg (M' 49 1) (M' 49 2) j).toNat < 15 := by
      have := k5.2.1; have := k5.2.2.1
      unfold zrg; split <;> omega
    have hC : ∀ k, k < 6 → M' (51 + 6 * (zrg (M' 49 1) (M' 49 2) j).toNat + k) = z_up (z_up M' 0 14 (M 0 14)) 179 57 (M 179 57) (51 + 6 * (zrg (M' 49 1) (M' 49 2) j).toNat + k) := fun k hk => (e _ (by omega) (by omega)).symm
    exact tR_c (k5.2.2.2 j h0 h1) (congrFun (hC 0 (by omega)) 5) (congrFun (hC 0 (by omega)) 6) (hC 1 (by omega)) (hC 2 (by omega)) (hC 3 (by omega)) (hC 4 (by omega)) (hC 5 (by omega)) (e 201 (by decide) (by decide)).symm
  · unfold iK at k6 ⊢
    rw [e0 11 (by decide), e1 4 (by decide), e 219 (by decide) (by decide), e 220 (by decide) (by decide)] at k6
    refine ⟨k6.1, k6.2.1, k6.2.2.1, fun j h0 h1 hz => ?_⟩
    have hC : ∀ k, k < 6 → M' (161 + 6 * j.toNat + k) = z_up (z_up M' 0 14 (M 0 14)) 179 57 (M 179 57) (161 + 6 * j.toNat + k) := fun k hk => (e _ (by omega) (by omega)).symm
    exact tR_c (k6.2.2.2 j h0 h1 hz) (congrFun (hC 0 (by omega)) 5) (congrFun (hC 0 (by omega)) 6) (hC 1 (by omega)) (hC 2 (by omega)) (hC 3 (by omega)) (hC 4 (by omega)) (hC 5 (by omega)) (e 221 (by decide) (by decide)).symm
  · rw [h1, h2]
    exact ⟨rfl, by omega, by omega, fun i h0 h1 => by omega⟩
  · rw [e 159 (by decide) (by decide), e 154 (by decide) (by decide)] at k8; exact k8
theorem p_forget {d : Nat} {n : Int} {M : zM} (hI : zI n M) (hn : n < 512) : zQ (d + 1) 120 237 [z_r (10, 0) 0] [z_r (11, 0) 179] n M := by
  obtain ⟨hb, hT, hR, j1, j2, j3, j4, j5, j6, ⟨s1, s2⟩, j8⟩ := hI
  unfold zQ
  refine e_W_forget (e_M_forget ?_)
  have f : zf [] [(0, 14), (179, 0), (179, 57)] M (z_up (z_up (z_up M 0 14 0) 179 0 0) 179 57 0) := zf_uj (zf_uj (zf_uj zf_rf (by decide)) (by decide)) (by decide)
  refine ⟨by rw [zu_i (by decide), zu_c (by decide)]; exact s1, ⟨by omega, by omega⟩, ?_, ?_, ?_⟩
  · rw [zf_a f 1 1 rfl, zf_c f 2 rfl, zf_a f 179 11 rfl, zf_c f 185 rfl]; exact hT
  · rw [zf_a f 3 1 rfl, zf_c f 4 rfl, zf_a f 179 1 rfl, zf_c f 180 rfl]; exact hR
  · -- only what was seen changes
    have hJ2 : zJ (n + 1) M := zJ_n ⟨j1, j2, j3, j4, j5, j6, ⟨s1, s2⟩, j8⟩ (by omega)
    exact zJ_seen hJ2 f rfl (by rw [zu_i (by decide), zu_i (by decide), zu_s]) (by rw [zu_s])
