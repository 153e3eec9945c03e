/-! stops(), house() -/
theorem zfirst (q : Int → Bool) : ∀ n : Nat, (∀ k : Int, 0 ≤ k → k < n → q k = false) ∨ ∃ k : Int, (0 ≤ k ∧ k < n) ∧ q k = true ∧ ∀ j : Int, 0 ≤ j → j < k → q j = false
  | 0 => Or.inl (fun k a b => by omega)
  | n + 1 => by
    rcases zfirst q n with h | ⟨k, hk, h1, h2⟩
    · by_cases c : q (n : Int) = true
      · exact Or.inr ⟨n, by omega, c, fun j a b => h j a b⟩
      · refine Or.inl (fun k a b => ?_)
        by_cases e : k = n
        · rw [e]; simpa using c
        · exact h k a (by omega)
    · exact Or.inr ⟨k, by omega, h1, h2⟩
theorem p_stops {d : Nat} {n : Int} {M : zM} (hI : zI n M) (hn : n < 512) : zQ (d + 7) 71 211 [z_r (10, 0) 0] [z_r (11, 0) 179] n M := by
  have hI0 := hI
  obtain ⟨hb, hT, hR, hJ⟩ := hI
  obtain ⟨i1, i2, i3, i4, i5, i6, i7, i8⟩ := zJ_in hJ
  obtain ⟨c1, c2, c3⟩ := zJ_count hJ
  have hbk := zbk_g i4
  unfold zQ
  refine e_W_stops (fun P hP => ?_)
  refine s_W_pourToday hJ (fun M1 f1 t1 _ u1 => ?_)
  have ec : M1 23 5 = M 179 3 := by rw [zf_a f1 23 5 rfl]; exact c1
  have e46 : M1 46 = M 46 := zf_c f1 46 rfl
  generalize hT : zTg (M 179 3) (M 24) (M 26) (M 25) = T at t1 hbk
  generalize hw : zW M (M 23 6) = w at u1
  -- the reference, up to its loop
  have hf : ∀ (S : List Nat) (J : List (Nat × Int)) (M2 : zM), zf S J M M2 → zJS S J = true → ∀ (F : Int → zM → Prop), (∀ P2 : Int → zM → Prop, (∀ (x1 : Int) (M : zM), (((M 179 3) ≤ x1 → F (-2) M) ∧ (¬ ((M 179 3) ≤ x1) → ((0 ≤ x1 ∧ x1 < 8) ∧ ((0 ≤ (M 199 x1) ∧ (M 199 x1) < 8) ∧ ((0 ≤ (M 199 x1) ∧ (M 199 x1) < 8) ∧ (((M 182 (M 199 x1)) ≤ (M 200 (M 199 x1)) → P2 (z_wr (x1 + 1)) M) ∧ (¬ ((M 182 (M 199 x1)) ≤ (M 200 (M 199 x1))) → zCi (d + 6) 177 [z_r (100, 81) 183, z_i (M 199 x1), z_i 0] (z_up M 179 1 0) (fun v4 M3 => zCv (d + 6) 202 [z_r (11, 0) 179, z_l v4] M3 (fun M5 => ((0 ≤ (M 199 x1) ∧ (M 199 x1) < 8) ∧ zCv (d + 6) 202 [z_r (11, 0) 179, z_l (M5 200 (M 199 x1))] M5 (fun M7 => F (M 199 x1) M7))))))))))) → P2 x1 M) → ∀ M3, zf [192, 193, 194, 195, 196, 197, 198, 199, 200] [] (z_up M2 179 0 0) M3 → (∀ k, 0 ≤ k → k < M 179 3 → M3 199 k = T k) → (∀ h, 0 ≤ h → h < M 179 3 → M3 200 h = zUh (M 179 3) (M 24) (M 26) (M 25) (M 46) w h) → P2 0 M3) → zCi (d + 7) 211 [z_r (11, 0) 179] M2 F := by
    intro S J M2 f2 hd F K
    refine e_M_stops (fun P2 hP2 => ?_)
    have f3 : zf S (J ++ [(179, 0)]) M (z_up M2 179 0 0) := zf_uj (zf_w f2 (fun b hb => hb) (fun q hq => Or.inr (List.mem_append_left _ hq))) (List.mem_append_right _ (by decide))
    have hd3 : zJS S (J ++ [(179, 0)]) = true := by
      unfold zJS at hd ⊢
      rw [Bool.and_eq_true] at hd ⊢
      refine ⟨hd.1, ?_⟩
      rw [List.all_append, hd.2]; rfl
    have hJ3 := zJ_f hJ f3 hd3
    have C := zJS_c f3 hd3
    have PP := zJS_p f3 hd3
    have p1 : (z_up M2 179 0 0) 179 3 = M 179 3 := PP (179, 3) (by decide) (by decide)
    have p2 : (z_up M2 179 0 0) 23 6 = M 23 6 := PP (23, 6) (by decide) (by decide)
    refine s_M_givesNow hJ3 (fun M4 f4 t4 _ u4 => K P2 hP2 M4 f4 (fun k a b => ?_) (fun h a b => ?_))
    · rw [p1, C 24 rfl, C 25 rfl, C 26 rfl, hT] at t4
      exact t4 k a b
    · rw [p1, p2, C 24 rfl, C 25 rfl, C 26 rfl, C 46 rfl, zW_f f3 hd3, hw] at u4
      exact u4 h a b
  have hud : ∀ k, zUd (M 179 3) (M 24) (M 26) (M 25) (M 46) w k = decide (zUh (M 179 3) (M 24) (M 26) (M 25) (M 46) w k < M 46 k) := fun _ => rfl
  rcases zfirst (fun k => zUd (M 179 3) (M 24) (M 26) (M 25) (M 46) w (T k)) (M 179 3).toNat with hno | ⟨k, hk, hk1, hk2⟩
  · have loop : ∀ (m : Nat) (i : Int), i + m = M 179 3 → 0 ≤ i → P i M1 := by
      intro m
      induction m with
      | zero =>
        intro i hi i0
        refine hP _ _ ⟨fun _ => ?_, fun z => absurd (by omega) z⟩
        refine hf _ _ M1 f1 rfl _ (fun P2 hP2 M3 f3 t3 u3 => ?_)
        have e3 : M3 179 3 = M 179 3 := by rw [zf_a f3 179 3 rfl, zu_i (by decide), zf_a f1 179 3 rfl]
        have loop2 : ∀ (m : Nat) (i : Int), i + m = M 179 3 → 0 ≤ i → P2 i M3 := by
          intro m
          induction m with
          | zero =>
            intro i hi i0
            refine hP2 _ _ ⟨fun _ => ⟨rfl, ?_⟩, fun z => absurd (by omega) z⟩
            exact zI_f hI0 hn (zf_tr (zf_uj (zf_ww (K := [(35, 4), (45, 4), (45, 5), (5, 9), (179, 0)]) f1 (T := [36, 37, 38, 39, 48, 7, 8, 9, 10, 11, 12, 13]) rfl rfl) (by decide)) f3) rfl rfl
          | succ m ih =>
            intro i hi i0
            obtain ⟨q1, q2, q3⟩ := hbk.2 i i0 (by omega)
            have h1 := hno i i0 (by omega)
            simp only [hud, decide_eq_false_iff_not] at h1
            refine hP2 _ _ ⟨fun z => absurd z (by omega), fun _ => ?_⟩
            rw [t3 i i0 (by omega), u3 _ q1 q2, zf_c f3 182 rfl, zu_c (by decide), zf_c f1 182 rfl, (i6 _ q1 q2).1]
            refine ⟨by omega, by omega, by omega, fun _ => ?_, fun z => absurd (by omega) z⟩
            rw [zw (by omega) (by omega)]
            exact ih (i + 1) (by omega) (by omega)
        exact loop2 (M 179 3).toNat 0 (by omega) (by omega)
      | succ m ih =>
        intro i hi i0
        obtain ⟨q1, q2, q3⟩ := hbk.2 i i0 (by omega)
        have h1 := hno i i0 (by omega)
        simp only [hud, decide_eq_false_iff_not] at h1
        refine hP _ _ ⟨fun z => absurd z (by omega), fun _ => ?_⟩
        rw [t1 i i0 (by omega), u1 _ q1 q2, e46]
        refine ⟨by omega, by omega, by omega, fun _ => ?_, fun z => absurd (by omega) z⟩
        rw [zw (by omega) (by omega)]
        exact ih (i + 1) (by omega) (by omega)
    exact loop (M 179 3).toNat 0 (by omega) (by omega)
  · simp only [hud, decide_eq_true_eq] at hk1
    simp only [hud, decide_eq_false_iff_not] at hk2
    obtain ⟨k1, k2, k3⟩ := hbk.2 k hk.1 (by omega)
    have hl := i4.2.2.1 (T k) k1 k2
    have loop : ∀ (m : Nat) (i : Int), i + m = k → 0 ≤ i → P i M1 := by
      intro m
      induction m with
      | zero =>
        intro i hi i0
        have hi : i = k := by omega
        subst hi
        refine hP _ _ ⟨fun z => absurd z (by omega), fun _ => ?_⟩
        rw [t1 i i0 (by omega), u1 _ k1 k2, e46]
        refine ⟨by omega, by omega, by omega, fun z => absurd z (by omega), fun _ => s_Town_letterAt (by omega) (by omega) (by show M1 26 (T i) ≤ 6; rw [zf_c f1 26 rfl]; omega) ?_⟩
        have el : (if (0 : Int) < M1 (23 + 3) (T i) then M1 (23 + 2) (6 * T i + 0) else -1) = M 25 (6 * T i + 0) := by
          show (if (0 : Int) < M1 26 (T i) then M1 25 (6 * T i + 0) else -1) = _
          rw [zf_c f1 26 rfl, zf_c f1 25 rfl, if_pos (by omega)]
        rw [el, u1 _ k1 k2]
        refine ⟨by omega, s_Row_tellTwo (fun M2 f2 r1 r2 r3 => ?_)⟩
        have f12 := zf_tr f1 f2
        refine hf _ _ M2 f12 rfl _ (fun P2 hP2 M3 f3 t3 u3 => ?_)
        have e3 : M3 179 3 = M 179 3 := by rw [zf_a f3 179 3 rfl, zu_i (by decide), zf_a f12 179 3 rfl]
        have loop2 : ∀ (m : Nat) (j : Int), j + m = i → 0 ≤ j → P2 j M3 := by
          intro m
          induction m with
          | zero =>
            intro j hj j0
            have hj : j = i := by omega
            subst hj
            refine hP2 _ _ ⟨fun z => absurd z (by omega), fun _ => ?_⟩
            rw [t3 j i0 (by omega), u3 _ k1 k2, zf_c f3 182 rfl, zu_c (by decide), zf_c f12 182 rfl, (i6 _ k1 k2).1]
            refine ⟨by omega, by omega, by omega, fun z => absurd z (by omega), fun _ => s_M_letterOf (by omega) (by omega) (by decide) ?_⟩
            have e185 : (z_up M3 179 1 0) 183 (16 + (6 * T j + 0)) = M 25 (6 * T j + 0) := by
              rw [zu_c (by decide), zf_c f3 183 rfl, zu_c (by decide), zf_c f12 183 rfl]
              exact i5.2.2 (T j) 0 k1 k2 (by omega) (by omega)
            rw [e185]
            refine s_M_enters (by rw [zu_s]; omega) ?_
            rw [zu_s]
            refine ⟨by omega, s_M_enters (by rw [zu_s]; omega) ?_⟩
            rw [zu_s]
            refine ⟨rfl, ?_⟩
            have g0 := zf_tr (zf_uj (v := 0) (zf_ww (K := [(35, 4), (45, 4), (45, 5), (5, 9), (3, 1), (179, 0)]) f12 (T := [36, 37, 38, 39, 48, 7, 8, 9, 10, 11, 12, 13, 4]) rfl rfl) (a := 179) (i := 0) (by decide)) f3
            have g1 : zf ([36, 37, 38, 39, 48, 7, 8, 9, 10, 11, 12, 13, 4] ++ [192, 193, 194, 195, 196, 197, 198, 199, 200] ++ [180]) ([(35, 4), (45, 4), (45, 5), (5, 9), (3, 1), (179, 0)] ++ [(179, 1)]) M (z_up M3 179 1 0) := zf_uj (zf_ww g0 rfl rfl) (by decide)
            refine zI_2 hI0 hn (zf_uj (zf_us (zf_uj (zf_us g1 (by decide)) (by decide)) (by decide)) (by decide)) rfl rfl 2 (by omega) ?_ (zu_s _ _ _ _) (fun y a b => ?_)
            · rw [zu_c (by decide), zu_c (by decide), zu_c (by decide), zu_c (by decide), zu_c (by decide), zf_a f3 3 1 rfl, zu_c (by decide)]; exact r1
            · have e4 : ∀ y, M3 4 y = M2 4 y := fun y => by rw [zf_c f3 4 rfl, zu_c (by decide)]
              rw [zu_c (by decide), zu_c (by decide), zu_c (by decide), zu_c (by decide), zu_c (by decide), e4]
              have : y = 0 ∨ y = 1 := by omega
              rcases this with rfl | rfl
              · rw [r2, zu_c (by decide), zu_i (by decide), zu_c (by decide)]; exact (zu_s _ _ _ _).symm
              · rw [r3, zu_c (by decide)]
                refine Eq.trans ?_ (zu_s _ _ _ _).symm
                rw [zu_c (by decide), zu_c (by decide), zu_c (by decide)]
                exact (u3 _ k1 k2).symm
          | succ m ih =>
            intro j hj j0
            obtain ⟨q1, q2, q3⟩ := hbk.2 j j0 (by omega)
            have h1 := hk2 j j0 (by omega)
            refine hP2 _ _ ⟨fun z => absurd z (by omega), fun _ => ?_⟩
            rw [t3 j j0 (by omega), u3 _ q1 q2, zf_c f3 182 rfl, zu_c (by decide), zf_c f12 182 rfl, (i6 _ q1 q2).1]
            refine ⟨by omega, by omega, by omega, fun _ => ?_, fun z => absurd (by omega) z⟩
            rw [zw (by omega) (by omega)]
            exact ih (j + 1) (by omega) (by omega)
        exact loop2 i.toNat 0 (by omega) (by omega)
      | succ m ih =>
        intro i hi i0
        obtain ⟨q1, q2, q3⟩ := hbk.2 i i0 (by omega)
        have h1 := hk2 i i0 (by omega)
        refine hP _ _ ⟨fun z => absurd z (by omega), fun _ => ?_⟩
        rw [t1 i i0 (by omega), u1 _ q1 q2, e46]
        refine ⟨by omega, by omega, by omega, fun _ => ?_, fun z => absurd (by omega) z⟩
        rw [zw (by omega) (by omega)]
        exact ih (i + 1) (by omega) (by omega)
    exact loop k.toNat 0 (by omega) (by omega)
