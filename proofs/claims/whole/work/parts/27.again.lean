/-! again, undo -/
theorem s_M_again {d : Nat} {i : Int} {M : zM} {F : Int → zM → Prop} (h1 : 0 ≤ i → i < 3 → M 219 i ≠ 0 → M 220 i = M 179 4 → ∀ M', zf [183] [(179, 0), (179, 33)] M M' → M' 179 33 = 0 → rQ M 221 (81 * i) M' 183 0 → F 1 M') (h0 : ¬ ((0 ≤ i ∧ i < 3) ∧ M 219 i ≠ 0 ∧ M 220 i = M 179 4) → F 0 (z_up M 179 0 0)) : zCi (d + 2) 252 [z_r (11, 0) 179, z_i i] M F := by
  refine e_M_again (fun P hP => s_M_in ?_)
  by_cases hc : 0 ≤ i ∧ i < 3
  · rw [if_pos (by omega)]
    refine ⟨fun q => absurd q (by decide), fun _ => ⟨hc, ?_⟩⟩
    rw [zu_c (by decide)]
    refine ⟨fun q => h0 (fun z => z.2.1 q), fun q => ⟨hc, ?_⟩⟩
    rw [zu_c (by decide), zu_i (by decide)]
    refine ⟨fun q2 => ?_, fun q2 => h0 (fun z => q2 z.2.2)⟩
    have loop : ∀ (n : Nat) (k : Int) (M1 : zM), k + n = 81 → 0 ≤ k → zf [183] [(179, 0), (179, 33)] M M1 → (∀ q, 0 ≤ q → q < k → M1 183 q = M 221 (81 * i + q)) → P i k M1 := by
      intro n
      induction n with
      | zero =>
        intro k M1 hk k0 g1 g2
        have : k = 81 := by omega
        subst this
        refine hP _ _ _ ⟨fun _ => h1 hc.1 hc.2 q q2 _ (zf_uj g1 (by decide)) (by rw [zu_s]) (fun k h2 h3 => ?_), fun c => absurd (by decide) c⟩
        rw [zu_c (by decide), Int.zero_add]
        exact g2 k h2 h3
      | succ n ih =>
        intro k M1 hk k0 g1 g2
        refine hP _ _ _ ⟨fun c => absurd c (by omega), fun _ => ?_⟩
        rw [zw (x := 81 * i) (by omega) (by omega), zw (x := 81 * i + k) (by omega) (by omega), zw (x := k + 1) (by omega) (by omega)]
        refine ⟨by omega, by omega, ih (k + 1) _ (by omega) (by omega) (zf_us g1 (by decide)) (fun q q0 q1 => ?_)⟩
        by_cases hq : q = k
        · subst hq; rw [zu_s, zf_c g1 221 rfl]
        · rw [zu_i (by omega)]; exact g2 q q0 (by omega)
    exact loop 81 0 _ (by omega) (by omega) (zf_uj zf_rf (by decide)) (fun q q0 q1 => by omega)
  · rw [if_neg (by omega)]
    exact ⟨fun _ => h0 (fun z => hc z.1), fun q => absurd rfl q⟩
theorem p_again {d : Nat} {i n : Int} {M : zM} (hI : zI n M) (hn : n < 512) : zQ (d + 2) 142 252 [z_r (10, 0) 0, z_i i] [z_r (11, 0) 179, z_i i] n M := by
  have hI0 := hI
  obtain ⟨hb, hT, hR, hJ⟩ := hI
  obtain ⟨j1, j2, j3, j4, ⟨q1, q2, q3, q4⟩, hK, j7, j8⟩ := hJ
  have hK0 := hK
  obtain ⟨k1, k2, k3, k4⟩ := hK
  unfold zQ
  have no : ¬ ((0 ≤ i ∧ i < 3) ∧ zb (M 0 11) i = true) → zCi (d + 2) 252 [z_r (11, 0) 179, z_i i] M (fun v' M2 => 0 = v' ∧ zI (n + 1) M2) := fun hc =>
    s_M_again (fun a b c e => absurd ⟨⟨a, b⟩, (k3 i a b).2.2.mpr ⟨by rcases (k3 i a b).1 with z | z; exact absurd z c; exact z, e⟩⟩ hc) (fun _ => ⟨rfl, zI_f hI0 hn (S := []) (J := [(179, 0)]) (zf_uj zf_rf (by decide)) rfl rfl⟩)
  refine e_W_again ⟨fun q => no (by omega), fun q => ⟨fun q9 => no (by omega), fun q9 => s_W_isIn ⟨k1.1, by omega⟩ ⟨by omega, by omega⟩ ?_⟩⟩
  have hi : 0 ≤ i ∧ i < 3 := ⟨by omega, by omega⟩
  by_cases hz : zb (M 0 11) i = true
  · rw [if_pos hz]
    refine ⟨fun _ => ⟨hi, ?_⟩, fun q => absurd (by decide) q⟩
    rw [z_el141]
    refine s_Town_become (by omega) (fun M1 f1 t1 => ?_)
    obtain ⟨z1, z2⟩ := (k3 i hi.1 hi.2).2.2.mp hz
    have f1' : zf [24, 25, 26, 27, 28] [(23, 5), (23, 6), (49, 2)] M (z_up M1 49 2 0) := zf_uj (zf_w f1 (fun b hb => hb) (fun q hq => Or.inr (by simp only [List.mem_cons, List.not_mem_nil, or_false] at hq ⊢; rcases hq with z | z; exact Or.inl z; exact Or.inr (Or.inl z)))) (by decide)
    generalize hM1 : z_up M1 49 2 0 = M2 at f1'
    refine s_M_again (fun _ _ _ _ M3 f2 b1 b2 => ?_) (fun c => absurd ⟨hi, by rw [zf_c f1' 219 rfl, z1]; decide, by rw [zf_c f1' 220 rfl, zf_c f1' 179 rfl]; exact z2⟩ c)
    have f := zf_tr f1' f2
    have hmain : tR n (M 179 3) M3 23 183 0 := by
      refine tR_Q (k4 i hi.1 hi.2 hz) (tQ_tr t1 (tQ_c ?_ ?_ (fun b h0 h1 => ?_))) (fun k h2 h3 => ?_)
      · rw [zf_a f2 23 5 rfl, ← hM1, zu_c (by decide)]
      · rw [zf_a f2 23 6 rfl, ← hM1, zu_c (by decide)]
      · rw [zf_r f2 24 28 rfl b h0 h1, ← hM1, zu_f (by omega)]
      · rw [b2 k h2 h3, zf_c f1' 221 rfl]
    refine ⟨rfl, ⟨by omega, by omega⟩, iT_f hT f rfl, iR_f hR f rfl, zJ_n (n := n) ⟨?_, ?_, ?_, ?_, ?_, ?_, ?_, ?_⟩ (by omega)⟩
    · rw [zf_a f 179 3 rfl]; exact hmain
    · rw [zf_a f 179 3 rfl, zf_c f 46 rfl, zf_c f 182 rfl]; exact j2
    · rw [zf_a f 45 2 rfl, zf_c f 47 rfl, zf_a f 179 5 rfl, zf_c f 181 rfl]; exact j3
    · rw [zf_a f 5 1 rfl, zf_c f 6 rfl, zf_a f 179 22 rfl, zf_c f 190 rfl]; exact j4
    · have e2 : M3 49 2 = 0 := by rw [zf_a f2 49 2 rfl, ← hM1, zu_s]
      refine ⟨by rw [e2, b1], by rw [zf_a f 49 1 rfl]; exact q2, by rw [e2]; omega, fun j h0 h1 => by rw [e2] at h1; omega⟩
    · rw [zf_a f 179 3 rfl]
      exact iK_c hK0 (zf_a f 0 11 rfl) (zf_a f 179 4 rfl) (zf_c f 219 rfl) (zf_c f 220 rfl) (zf_c f 221 rfl) (zf_r f 161 178 rfl)
    · rw [zf_a f 179 3 rfl, zf_a f 0 14 rfl, zf_c f 142 rfl, zf_c f 143 rfl, zf_a f 179 57 rfl, zf_c f 216 rfl, zf_c f 217 rfl]; exact j7
    · rw [zf_a f 159 0 rfl, zf_a f 154 0 rfl]; exact j8
  · rw [if_neg hz]
    exact ⟨fun q => absurd rfl q, fun _ => no (fun z => hz z.2)⟩
theorem s_M_undo {d : Nat} {M : zM} {F : Int → zM → Prop} (hu : 0 ≤ M 179 33 ∧ M 179 33 ≤ 15) (h1 : M 179 33 ≠ 0 → ∀ M', zf [183] [(179, 0), (179, 33)] M M' → M' 179 33 = M 179 33 - 1 → rQ M 201 (81 * (M 179 33 - 1)) M' 183 0 → F (M 179 33 - 1) M') (h0 : M 179 33 = 0 → F (-1) (z_up M 179 0 0)) : zCi (d + 1) 189 [z_r (11, 0) 179] M F := by
  refine e_M_undo (fun P hP => ?_)
  rw [zu_i (by decide)]
  refine ⟨fun q => ?_, fun q => h0 (by omega)⟩
  rw [zw (by omega) (by omega)]
  have loop : ∀ (n : Nat) (k : Int) (M1 : zM), k + n = 81 → 0 ≤ k → zf [183] [(179, 0), (179, 33)] M M1 → M1 179 33 = M 179 33 - 1 → (∀ q, 0 ≤ q → q < k → M1 183 q = M 201 (81 * (M 179 33 - 1) + q)) → P k M1 := by
    intro n
    induction n with
    | zero =>
      intro k M1 hk k0 g1 g2 g3
      have : k = 81 := by omega
      subst this
      refine hP _ _ ⟨fun _ => ?_, fun c => absurd (by decide) c⟩
      rw [g2]
      exact h1 q M1 g1 g2 (fun k h2 h3 => by rw [Int.zero_add]; exact g3 k h2 h3)
    | succ n ih =>
      intro k M1 hk k0 g1 g2 g3
      refine hP _ _ ⟨fun c => absurd c (by omega), fun _ => ?_⟩
      rw [g2, zw (x := 81 * (M 179 33 - 1)) (by omega) (by omega), zw (x := 81 * (M 179 33 - 1) + k) (by omega) (by omega), zw (x := k + 1) (by omega) (by omega)]
      refine ⟨by omega, by omega, ih (k + 1) _ (by omega) (by omega) (zf_us g1 (by decide)) (by rw [zu_c (by decide)]; exact g2) (fun q q0 q1 => ?_)⟩
      by_cases hq : q = k
      · subst hq; rw [zu_s, zf_c g1 201 rfl]
      · rw [zu_i (by omega)]; exact g3 q q0 (by omega)
  exact loop 81 0 _ (by omega) (by omega) (zf_uj (zf_uj zf_rf (by decide)) (by decide)) (by rw [zu_s]) (fun q q0 q1 => by omega)
theorem p_undo {d : Nat} {n : Int} {M : zM} (hI : zI n M) (hn : n < 512) : zQ (d + 3) 66 189 [z_r (10, 0) 0] [z_r (11, 0) 179] n M := by
  have hI0 := hI
  obtain ⟨hb, hT, hR, hJ⟩ := hI
  obtain ⟨j1, j2, j3, j4, ⟨q1, q2, q3, q4⟩, hK, j7, j8⟩ := hJ
  unfold zQ
  have main : ∀ nx : Int, nx = (if 0 < M 49 1 then M 49 1 - 1 else 14) → M 49 2 ≠ 0 → zCv (d + 1) 31 [z_r (9, 0) 23, z_r (9, 0) (51 + 6 * nx.toNat)] (z_up (z_up M 49 1 nx) 49 2 (M 49 2 - 1)) (fun M3 => ((1 : Int) = 0 → zCi (d + 3) 189 [z_r (11, 0) 179] M3 (fun v' M2 => -1 = v' ∧ zI (n + 1) M2)) ∧ (¬ ((1 : Int) = 0) → zCi (d + 3) 189 [z_r (11, 0) 179] M3 (fun v' M2 => M3 49 2 = v' ∧ zI (n + 1) M2))) := by
    intro nx hnx h2
    have hnr : 0 ≤ nx ∧ nx < 15 := by rw [hnx]; split <;> omega
    refine s_Town_become (by omega) (fun M3 f1 t1 => ⟨fun q => absurd q (by decide), fun _ => ?_⟩)
    have f3 : zf [24, 25, 26, 27, 28] [(49, 1), (49, 2), (23, 5), (23, 6)] M M3 := by
      refine zf_w (zf_tr (zf_uj (zf_uj (zf_rf (S := []) (J := [(49, 1), (49, 2)])) (by decide)) (by decide)) f1) (fun b hb => by simpa using hb) (fun q hq => Or.inr (by simpa using hq))
    have e2 : M3 49 2 = M 49 2 - 1 := by rw [zf_a f1 49 2 rfl, zu_s]
    have e1 : M3 49 1 = nx := by rw [zf_a f1 49 1 rfl, zu_i (by decide), zu_s]
    have e33 : M3 179 33 = M 179 33 := zf_a f3 179 33 rfl
    refine s_M_undo (by rw [e33, ← q1]; exact q3) (fun _ M4 f2 b1 b2 => ?_) (fun c => absurd (by rw [e33, ← q1] at c; exact c) h2)
    rw [e33] at b1 b2 ⊢
    have f := zf_tr f3 f2
    have hold := q4 (M 49 2 - 1) (by omega) (by omega)
    have er : zrg (M 49 1) (M 49 2) (M 49 2 - 1) = nx := by unfold zrg; rw [hnx]; split <;> split <;> omega
    rw [er] at hold
    have hmain : tR n (M 179 3) M4 23 183 0 := by
      refine tR_Q hold (tQ_tr (tQ_tr (tQ_c ?_ ?_ (fun b h0 h1 => ?_)) t1) (tQ_c ?_ ?_ (fun b h0 h1 => ?_))) (fun k h2 h3 => ?_)
      · rw [zu_c (by omega), zu_c (by omega)]
      · rw [zu_c (by omega), zu_c (by omega)]
      · rw [zu_f (by omega), zu_f (by omega)]
      · exact zf_a f2 23 5 rfl
      · exact zf_a f2 23 6 rfl
      · exact zf_r f2 24 28 rfl b h0 h1
      · rw [b2 k h2 h3, zf_c f3 201 rfl, q1]
    refine ⟨by rw [e2, q1], ⟨by omega, by omega⟩, iT_f hT f rfl, iR_f hR f rfl, zJ_n (n := n) ⟨?_, ?_, ?_, ?_, ?_, ?_, ?_, ?_⟩ (by omega)⟩
    · rw [zf_a f 179 3 rfl]; exact hmain
    · rw [zf_a f 179 3 rfl, zf_c f 46 rfl, zf_c f 182 rfl]; exact j2
    · rw [zf_a f 45 2 rfl, zf_c f 47 rfl, zf_a f 179 5 rfl, zf_c f 181 rfl]; exact j3
    · rw [zf_a f 5 1 rfl, zf_c f 6 rfl, zf_a f 179 22 rfl, zf_c f 190 rfl]; exact j4
    · have x1 : M4 49 1 = nx := by rw [zf_a f2 49 1 rfl]; exact e1
      have x2 : M4 49 2 = M 49 2 - 1 := by rw [zf_a f2 49 2 rfl]; exact e2
      rw [zf_a f 179 3 rfl]
      unfold iP
      rw [x1, x2, b1]
      refine ⟨by rw [q1], hnr, by omega, fun j h0 h1 => ?_⟩
      have ez : zrg nx (M 49 2 - 1) j = zrg (M 49 1) (M 49 2) j := by unfold zrg; rw [hnx]; split <;> split <;> split <;> omega
      rw [ez]
      have hh := q4 j h0 (by omega)
      have hb := zrg_r q2 q3 ⟨h0, show j < M 49 2 by omega⟩
      have hC : ∀ b, 51 ≤ b → b ≤ 140 → M4 b = M b := zf_r f 51 140 rfl
      exact tR_Q hh (tQ_c (congrFun (hC _ (by omega) (by omega)) 5) (congrFun (hC _ (by omega) (by omega)) 6) (fun b h2 h3 => hC b (by omega) (by omega))) (fun k h2 h3 => by rw [zf_c f 201 rfl])
    · rw [zf_a f 179 3 rfl]
      exact iK_c hK (zf_a f 0 11 rfl) (zf_a f 179 4 rfl) (zf_c f 219 rfl) (zf_c f 220 rfl) (zf_c f 221 rfl) (zf_r f 161 178 rfl)
    · rw [zf_a f 179 3 rfl, zf_a f 0 14 rfl, zf_c f 142 rfl, zf_c f 143 rfl, zf_a f 179 57 rfl, zf_c f 216 rfl, zf_c f 217 rfl]; exact j7
    · rw [zf_a f 159 0 rfl, zf_a f 154 0 rfl]; exact j8
  refine e_W_undo (e_Past_pop ⟨fun h2 => ⟨fun h1 => ?_, fun h1 => ?_⟩, fun h2 => ⟨fun _ => ?_, fun q => absurd rfl q⟩⟩)
  · rw [zu_i (by decide), zu_s, zu_i (by decide), zw (by omega) (by omega), z_el50]
    exact ⟨by decide, main 14 (by rw [if_neg (by omega)]) h2⟩
  · rw [zu_i (by decide), zu_s, zu_i (by decide), zw (x := M 49 2 - 1) (by omega) (by omega), zw (x := M 49 1 - 1) (by omega) (by omega), z_el50]
    exact ⟨by omega, main _ (by rw [if_pos (by omega)]) h2⟩
  · refine s_M_undo (by rw [← q1]; exact q3) (fun c => absurd (by rw [← q1]; omega) c) (fun _ => ⟨rfl, zI_f hI0 hn (S := []) (J := [(179, 0)]) (zf_uj zf_rf (by decide)) rfl rfl⟩)
