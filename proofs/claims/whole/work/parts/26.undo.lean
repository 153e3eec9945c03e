/-! keep, again, undo -/
theorem zbs_lt8 {s i : Int} (hs : 0 ≤ s ∧ s < 8) (hi : 0 ≤ i ∧ i < 3) : 0 ≤ zbs s i ∧ zbs s i < 8 := by
  rw [zbs_n ⟨hs.1, by omega⟩ ⟨hi.1, by omega⟩]
  have h2 : s.toNat ||| 2 ^ i.toNat < 2 ^ 3 := Nat.or_lt_two_pow (by omega) (Nat.pow_lt_pow_right (by omega) (by omega))
  exact ⟨Int.natCast_nonneg _, by omega⟩
theorem s_M_keep {d : Nat} {i : Int} {M : zM} {F : Int → zM → Prop} (h1 : 0 ≤ i → i < 3 → ∀ M', zf [219, 220, 221] [(179, 0)] M M' → (∀ j, M' 219 j = if j = i then 1 else M 219 j) → (∀ j, M' 220 j = if j = i then M 179 4 else M 220 j) → (∀ k, (k < 81 * i ∨ 81 * i + 81 ≤ k) → M' 221 k = M 221 k) → (∀ k, 0 ≤ k → k < 81 → M' 221 (81 * i + k) = M 183 k) → F 1 M') (h0 : ¬ (0 ≤ i ∧ i < 3) → F 0 (z_up M 179 0 0)) : zCi (d + 2) 251 [z_r (11, 0) 179, z_i i] M F := by
  refine e_M_keep (fun P hP => s_M_in ?_)
  by_cases hc : 0 ≤ i ∧ i < 3
  · rw [if_pos (by omega)]
    refine ⟨fun _ => ⟨hc, hc, ?_⟩, fun q => absurd (by decide) q⟩
    have loop : ∀ (n : Nat) (k : Int) (M1 : zM), k + n = 81 → 0 ≤ k → zf [219, 220, 221] [(179, 0)] M M1 → (∀ j, M1 219 j = if j = i then 1 else M 219 j) → (∀ j, M1 220 j = if j = i then M 179 4 else M 220 j) → (∀ k, (k < 81 * i ∨ 81 * i + 81 ≤ k) → M1 221 k = M 221 k) → (∀ q, 0 ≤ q → q < k → M1 221 (81 * i + q) = M 183 q) → P i k M1 := by
      intro n
      induction n with
      | zero =>
        intro k M1 hk k0 g1 g2 g3 g4 g5
        have : k = 81 := by omega
        subst this
        exact hP _ _ _ ⟨fun _ => h1 hc.1 hc.2 M1 g1 g2 g3 g4 g5, fun c => absurd (by decide) c⟩
      | succ n ih =>
        intro k M1 hk k0 g1 g2 g3 g4 g5
        refine hP _ _ _ ⟨fun c => absurd c (by omega), fun _ => ⟨by omega, ?_⟩⟩
        rw [zw (x := 81 * i) (by omega) (by omega), zw (x := 81 * i + k) (by omega) (by omega), zw (x := k + 1) (by omega) (by omega)]
        refine ⟨by omega, ih (k + 1) _ (by omega) (by omega) (zf_us g1 (by decide)) (fun j => by rw [zu_c (by decide)]; exact g2 j) (fun j => by rw [zu_c (by decide)]; exact g3 j) (fun q hq => by rw [zu_i (by omega)]; exact g4 q hq) (fun q q0 q1 => ?_)⟩
        by_cases hq : q = k
        · subst hq; rw [zu_s, zf_c g1 183 rfl]
        · rw [zu_i (by omega)]; exact g5 q q0 (by omega)
    refine loop 81 0 _ (by omega) (by omega) (zf_us (zf_us (zf_uj zf_rf (by decide)) (by decide)) (by decide)) (fun j => ?_) (fun j => ?_) (fun k _ => by rw [zu_c (by decide), zu_c (by decide), zu_c (by decide)]) (fun q q0 q1 => by omega)
    · rw [zu_c (by decide)]
      by_cases hj : j = i
      · rw [if_pos hj, hj, zu_s]
      · rw [if_neg hj, zu_i hj, zu_c (by decide)]
    · by_cases hj : j = i
      · rw [if_pos hj, hj, zu_s, zu_c (by decide), zu_i (by decide)]
      · rw [if_neg hj, zu_i hj, zu_c (by decide), zu_c (by decide)]
  · rw [if_neg (by omega)]
    exact ⟨fun q => absurd rfl q, fun _ => h0 hc⟩
theorem p_keep {d : Nat} {i n : Int} {M : zM} (hI : zI n M) (hn : n < 512) : zQ (d + 2) 141 251 [z_r (10, 0) 0, z_i i] [z_r (11, 0) 179, z_i i] n M := by
  have hI0 := hI
  obtain ⟨hb, hT, hR, hJ⟩ := hI
  obtain ⟨j1, j2, j3, j4, j5, ⟨k1, k2, k3, k4⟩, j7, j8⟩ := hJ
  unfold zQ
  have no : ¬ (0 ≤ i ∧ i < 3) → zCi (d + 2) 251 [z_r (11, 0) 179, z_i i] M (fun v' M2 => 0 = v' ∧ zI (n + 1) M2) := fun hc =>
    s_M_keep (fun a b => absurd ⟨a, b⟩ hc) (fun _ => ⟨rfl, zI_f hI0 hn (S := []) (J := [(179, 0)]) (zf_uj zf_rf (by decide)) rfl rfl⟩)
  refine e_W_keep ⟨fun q => no (by omega), fun q => ⟨fun q2 => ⟨by omega, ?_⟩, fun q2 => no (by omega)⟩⟩
  have hi : 0 ≤ i ∧ i < 3 := ⟨by omega, q2⟩
  rw [z_el141]
  refine s_Town_become (by omega) (fun M1 f1 t1 => ?_)
  have ne : ∀ b : Nat, (b < 161 + 6 * i.toNat ∨ 161 + 6 * i.toNat + 6 ≤ b) → M1 b = M b := by
    intro b hb
    funext j
    refine f1 b j (fun q => ?_) (fun q => ?_)
    · simp only [List.mem_cons, List.not_mem_nil, or_false] at q; omega
    · simp only [List.mem_cons, List.not_mem_nil, or_false, Prod.mk.injEq] at q; omega
  refine s_M_keep (fun _ _ M2 f2 b1 b2 b3 b4 => ?_) (fun c => absurd hi c)
  rw [show z_or (M1 0 11) (z_shl 1 i) = zbs (M1 0 11) i from rfl, ne 0 (by omega)] at *
  have e : ∀ b : Nat, b ≠ 0 → b ≠ 179 → b ≠ 219 → b ≠ 220 → b ≠ 221 → (b < 161 + 6 * i.toNat ∨ 161 + 6 * i.toNat + 6 ≤ b) → M2 b = M b := by
    intro b c0 c1 c2 c3 c4 c5
    rw [zf_c f2 b (by simp [z_beqf c2, z_beqf c3, z_beqf c4, z_beqf c1]), zu_f c0]
    exact ne b c5
  have e1 : ∀ j, j ≠ 0 → M2 179 j = M 179 j := by
    intro j hj
    rw [f2 179 j (by decide) (by simp [hj]), zu_c (by decide), ne 179 (by omega)]
  have e0 : ∀ j, j ≠ 11 → M2 0 j = M 0 j := by
    intro j hj
    rw [zf_c f2 0 rfl, zu_i hj, ne 0 (by omega)]
  have e11 : M2 0 11 = zbs (M 0 11) i := by rw [zf_c f2 0 rfl, zu_s]
  refine ⟨rfl, ⟨by omega, by omega⟩, ?_, ?_, ?_⟩
  · rw [e 1 (by omega) (by omega) (by omega) (by omega) (by omega) (by omega), e 2 (by omega) (by omega) (by omega) (by omega) (by omega) (by omega), e1 11 (by decide), e 185 (by omega) (by omega) (by omega) (by omega) (by omega) (by omega)]; exact hT
  · rw [e 3 (by omega) (by omega) (by omega) (by omega) (by omega) (by omega), e 4 (by omega) (by omega) (by omega) (by omega) (by omega) (by omega), e1 1 (by decide), e 180 (by omega) (by omega) (by omega) (by omega) (by omega) (by omega)]; exact hR
  · have E : ∀ b : Nat, 0 < b → b ≤ 160 → M2 b = M b := fun b h0 h1 => e b (by omega) (by omega) (by omega) (by omega) (by omega) (by omega)
    have E2 : ∀ b : Nat, 180 ≤ b → b ≤ 218 → M2 b = M b := fun b h0 h1 => e b (by omega) (by omega) (by omega) (by omega) (by omega) (by omega)
    refine zJ_n (n := n) ⟨?_, ?_, ?_, ?_, ?_, ?_, ?_, ?_⟩ (by omega)
    · rw [e1 3 (by decide)]
      exact tR_c j1 (by rw [E 23 (by omega) (by omega)]) (by rw [E 23 (by omega) (by omega)]) (E 24 (by omega) (by omega)) (E 25 (by omega) (by omega)) (E 26 (by omega) (by omega)) (E 27 (by omega) (by omega)) (E 28 (by omega) (by omega)) (E2 183 (by omega) (by omega))
    · rw [e1 3 (by decide), E 46 (by omega) (by omega), E2 182 (by omega) (by omega)]; exact j2
    · rw [E 45 (by omega) (by omega), E 47 (by omega) (by omega), e1 5 (by decide), E2 181 (by omega) (by omega)]; exact j3
    · rw [E 5 (by omega) (by omega), E 6 (by omega) (by omega), e1 22 (by decide), E2 190 (by omega) (by omega)]; exact j4
    · rw [e1 3 (by decide)]
      exact iP_c j5 (by rw [E 49 (by omega) (by omega)]) (by rw [E 49 (by omega) (by omega)]) (e1 33 (by decide)) (E2 201 (by omega) (by omega)) (fun b h0 h1 => E b (by omega) (by omega))
    · rw [e1 3 (by decide)]
      unfold iK
      rw [e11, e1 4 (by decide)]
      have hz : ∀ j, 0 ≤ j → zb (zbs (M 0 11) i) j = (zb (M 0 11) j || decide (i = j)) := fun j hj => zb_zbs ⟨k1.1, by omega⟩ ⟨hi.1, by omega⟩ hj
      have m4 : M1 179 4 = M 179 4 := by rw [ne 179 (by omega)]
      have m21 : M1 219 = M 219 := ne 219 (by omega)
      have m22 : M1 220 = M 220 := ne 220 (by omega)
      refine ⟨zbs_lt8 k1 hi, k2, fun j h0 h1 => ?_, fun j h0 h1 hb => ?_⟩
      · rw [b1 j, b2 j, zu_c (by decide), zu_c (by decide), zu_c (by decide), m4, m21, m22, hz j h0]
        obtain ⟨q1, q2, q3⟩ := k3 j h0 h1
        by_cases hj : j = i
        · subst hj
          rw [if_pos rfl, if_pos rfl]
          exact ⟨Or.inr rfl, ⟨k2.1, Int.le_refl _⟩, by simp⟩
        · rw [if_neg hj, if_neg hj, decide_eq_false (fun z => hj z.symm), Bool.or_false]
          exact ⟨q1, q2, q3⟩
      · by_cases hj : j = i
        · subst hj
          refine tR_Q j1 (tQ_tr t1 (tQ_c ?_ ?_ ?_)) (fun k h2 h3 => ?_)
          · rw [zf_c f2 _ (by simp [z_beqf (show 161 + 6 * j.toNat ≠ 219 by omega), z_beqf (show 161 + 6 * j.toNat ≠ 220 by omega), z_beqf (show 161 + 6 * j.toNat ≠ 221 by omega), z_beqf (show 161 + 6 * j.toNat ≠ 179 by omega)]), zu_c (by omega)]
          · rw [zf_c f2 _ (by simp [z_beqf (show 161 + 6 * j.toNat ≠ 219 by omega), z_beqf (show 161 + 6 * j.toNat ≠ 220 by omega), z_beqf (show 161 + 6 * j.toNat ≠ 221 by omega), z_beqf (show 161 + 6 * j.toNat ≠ 179 by omega)]), zu_c (by omega)]
          · intro b h0 h1
            rw [zf_c f2 b (by simp [z_beqf (show b ≠ 219 by omega), z_beqf (show b ≠ 220 by omega), z_beqf (show b ≠ 221 by omega), z_beqf (show b ≠ 179 by omega)]), zu_f (by omega)]
          · rw [b4 k h2 h3, zu_c (by decide), ne 183 (by omega), Int.zero_add]
        · rw [hz j h0, decide_eq_false (fun z => hj z.symm), Bool.or_false] at hb
          have hC : ∀ k, k < 6 → M2 (161 + 6 * j.toNat + k) = M (161 + 6 * j.toNat + k) := fun k hk => e _ (by omega) (by omega) (by omega) (by omega) (by omega) (by omega)
          refine tR_Q (k4 j h0 h1 hb) (tQ_c (congrFun (hC 0 (by omega)) 5) (congrFun (hC 0 (by omega)) 6) (fun b h2 h3 => e b (by omega) (by omega) (by omega) (by omega) (by omega) (by omega))) (fun k h2 h3 => ?_)
          rw [b3 _ (by omega), zu_c (by decide), ne 221 (by omega)]
    · rw [e1 3 (by decide), e0 14 (by decide), E 142 (by omega) (by omega), E 143 (by omega) (by omega), e1 57 (by decide), E2 216 (by omega) (by omega), E2 217 (by omega) (by omega)]; exact j7
    · rw [E 159 (by omega) (by omega), E 154 (by omega) (by omega)]; exact j8
