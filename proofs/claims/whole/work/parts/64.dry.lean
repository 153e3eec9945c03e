/-! towns that are alike; dry() -/
def zAl (c : Int) (ord len nam ord' len' nam' : Int → Int) : Prop := (∀ i, 0 ≤ i → i < 8 → ord' i = ord i) ∧ (∀ h, 0 ≤ h → h < c → len' h = len h) ∧ ∀ h i, 0 ≤ h → h < c → 0 ≤ i → i < len h → nam' (6 * h + i) = nam (6 * h + i)
theorem zAl_P {c : Int} {ord len nam ord' len' nam' : Int → Int} (h : zTn c ord len nam) (e : zAl c ord len nam ord' len' nam') {a : Int} (ha : 0 ≤ a ∧ a < c) : zPg c ord' len' nam' a = zPg c ord len nam a := by
  unfold zPg
  exact zpl_c h.2.2.1 (fun x i x0 x1 i0 i1 => by have := h.2.2.1 x x0 x1; have := h.1; exact h.2.2.2 _ (by omega) (by omega)) (fun x _ _ => by rw [zrk_c e.1]) e.2.1 e.2.2 ha
theorem zAl_T {c : Int} {ord len nam ord' len' nam' : Int → Int} (h : zTn c ord len nam) (h' : zTn c ord' len' nam') (e : zAl c ord len nam ord' len' nam') {k : Int} (hk : 0 ≤ k ∧ k < c) : zTg c ord' len' nam' k = zTg c ord len nam k :=
  zbk_u (zbk_g h') (zbk_g h) (fun a a0 a1 => zAl_P h e ⟨a0, a1⟩) k hk.1 hk.2
theorem zAl_Uh {c : Int} {ord len nam ord' len' nam' th th' : Int → Int} {w a : Int} (h : zTn c ord len nam) (h' : zTn c ord' len' nam') (e : zAl c ord len nam ord' len' nam') (et : ∀ h, 0 ≤ h → h < c → th' h = th h) (ha : 0 ≤ a ∧ a < c) : zUh c ord' len' nam' th' w a = zUh c ord len nam th w a :=
  zcu_c (zbk_g h') (fun a a0 a1 => zAl_P h e ⟨a0, a1⟩) (fun k k0 k1 => zAl_T h h' e ⟨k0, k1⟩) et ha
theorem zAl_Ud {c : Int} {ord len nam ord' len' nam' th th' : Int → Int} {w a : Int} (h : zTn c ord len nam) (h' : zTn c ord' len' nam') (e : zAl c ord len nam ord' len' nam') (et : ∀ h, 0 ≤ h → h < c → th' h = th h) (ha : 0 ≤ a ∧ a < c) : zUd c ord' len' nam' th' w a = zUd c ord len nam th w a := by
  show decide (zUh c ord' len' nam' th' w a < th' a) = decide (zUh c ord len nam th w a < th a)
  rw [zAl_Uh h h' e et ha, et a ha.1 ha.2]
theorem zAl_Ul {c : Int} {ord len nam ord' len' nam' th : Int → Int} {w : Int} (h : zTn c ord len nam) (h' : zTn c ord' len' nam') (e : zAl c ord len nam ord' len' nam') : zUl c ord' len' nam' th w = zUl c ord len nam th w := by
  have := h.1
  exact zcw_c _ (fun k a b => ⟨zAl_T h h' e ⟨a, by omega⟩, rfl⟩)
theorem zAl_Da {c : Int} {ord len nam ord' len' nam' th W : Int → Int} {day a : Int} (n : Nat) (h : zTn c ord len nam) (h' : zTn c ord' len' nam') (e : zAl c ord len nam ord' len' nam') (ha : 0 ≤ a ∧ a < c) : zDa c ord' len' nam' th W day n a = zDa c ord len nam th W day n a := zsm_c n (fun t _ _ => zAl_Uh h h' e (fun _ _ _ => rfl) ha)
theorem zAl_Db {c : Int} {ord len nam ord' len' nam' th W : Int → Int} {day a : Int} (n : Nat) (h : zTn c ord len nam) (h' : zTn c ord' len' nam') (e : zAl c ord len nam ord' len' nam') (ha : 0 ≤ a ∧ a < c) : zDb c ord' len' nam' th W day n a = zDb c ord len nam th W day n a := zsm_c n (fun t _ _ => by rw [zAl_Ud h h' e (fun _ _ _ => rfl) ha])
/-- a town put aside is alike -/
theorem tQ_al {c : Int} {M M' : zM} {a b : Nat} (h : tQ M a M' b) (ht : zTn c (M (a + 1)) (M (a + 3)) (M (a + 2))) : zTn c (M' (b + 1)) (M' (b + 3)) (M' (b + 2)) ∧ zAl c (M (a + 1)) (M (a + 3)) (M (a + 2)) (M' (b + 1)) (M' (b + 3)) (M' (b + 2)) := by
  obtain ⟨q1, q2, q3, q4, q5, q6, q7⟩ := h
  obtain ⟨t1, t2, t3, t4⟩ := ht
  refine ⟨⟨t1, zperm_c t2 q3, fun h x y => ?_, fun k x y => ?_⟩, q3, fun h x y => q5 h x (by omega), fun h i x y x' y' => ?_⟩
  · rw [q5 h x (by omega)]; exact t3 h x y
  · rw [q4 k x y]; exact t4 k x y
  · have := t3 h x y
    exact q4 _ (by omega) (by omega)
theorem p_dry {d : Nat} {h x n : Int} {M : zM} (hI : zI n M) (hn : n < 512) : zQ (d + 6) 74 212 [z_r (10, 0) 0, z_i h, z_i x] [z_r (11, 0) 179, z_i h, z_i x] n M := by
  have hI0 := hI
  obtain ⟨hb, hT, hR, hJ⟩ := hI
  have hJ0 := hJ
  obtain ⟨i1, i2, i3, i4, i5, i6, i7, i8⟩ := zJ_in hJ
  obtain ⟨c1, c2, c3⟩ := zJ_count hJ
  obtain ⟨j1, j2, j3, j4, hP, hK, j7, j8⟩ := hJ
  have g8 : ∀ h, 0 ≤ h → h < 8 → (0 ≤ M 27 h ∧ M 27 h ≤ M 23 6) ∧ 0 ≤ M 28 h ∧ M 28 h ≤ 9 * M 23 6 := j1.2.1.2.2.2.2.2.2.2
  have ref : ¬ ((0 ≤ h ∧ h < M 179 3) ∧ 0 ≤ x ∧ x ≤ 60) → zCi (d + 6) 212 [z_r (11, 0) 179, z_i h, z_i x] M (fun v' M2 => -1 = v' ∧ zI (n + 1) M2) := by
    intro hno
    refine e_M_dry (fun P hP => s_M_isHouse (by rw [zu_i (by decide)]; exact ⟨c2, c3⟩) ?_)
    rw [zu_i (by decide)]
    by_cases q : 0 ≤ h ∧ h < M 179 3
    · rw [if_pos q]
      refine ⟨fun z => absurd z (by decide), fun _ => s_M_in ?_⟩
      rw [if_neg (fun z => hno ⟨q, z⟩)]
      exact ⟨fun z => absurd rfl z, fun _ => ⟨rfl, zI_q hI0 hn⟩⟩
    · rw [if_neg q]
      exact ⟨fun _ => ⟨rfl, zI_q hI0 hn⟩, fun z => absurd rfl z⟩
  unfold zQ
  refine e_W_dry (s_Town_has ?_)
  rw [c1]
  by_cases hh : 0 ≤ h ∧ h < M 179 3
  · rw [if_pos hh]
    refine ⟨fun z => absurd z (by decide), fun _ => ⟨fun q => ref (by omega), fun q => ⟨fun q2 => ?_, fun q2 => ref (by omega)⟩⟩⟩
    refine s_Town_become (a0 := 29) (a1 := 23) (by omega) (fun M1 f1 t1 => ?_)
    have f1 : zf [30, 31, 32, 33, 34] [(29, 5), (29, 6)] M M1 := f1
    obtain ⟨k1, k2⟩ := tQ_al t1 i4
    have k1 : zTn (M 179 3) (M1 30) (M1 32) (M1 31) := k1
    have k2 : zAl (M 179 3) (M 24) (M 26) (M 25) (M1 30) (M1 32) (M1 31) := k2
    have k5 : M1 29 5 = M 179 3 := t1.1.trans c1
    have k6 : M1 29 6 = M 23 6 := t1.2.1
    have k33 : ∀ h, 0 ≤ h → h < 8 → M1 33 h = M 27 h := t1.2.2.2.2.2.1
    have k34 : ∀ h, 0 ≤ h → h < 8 → M1 34 h = M 28 h := t1.2.2.2.2.2.2
    have k45 : M1 45 = M 45 := zf_c f1 45 rfl
    have k46 : M1 46 = M 46 := zf_c f1 46 rfl
    have k47 : M1 47 = M 47 := zf_c f1 47 rfl
    have k5' : M1 5 = M 5 := zf_c f1 5 rfl
    have k6' : M1 6 = M 6 := zf_c f1 6 rfl
    refine s_live_29_5 (cl := M 179 22) (cd := M 190) (by omega) (by rw [k5]; exact k1) (by rw [k6]; omega) (by rw [k5]; exact fun h a b => by rw [k33 h a (by omega), k34 h a (by omega)]; have := g8 h a (by omega); omega) (by rw [k45]; exact i1) (by rw [k45, k47]; exact i2) (by rw [k5, k46]; exact i3) (by rw [k5', k6']; exact j4) (fun W hW M2 f2 b2 d2 u2 v2 o2 l2 m2 => ?_)
    rw [k5', k6', k45, k47, k5, k46] at hW
    have hW : W = zW M := hW
    subst hW
    have u2 := u2 h hh.1 (by rw [k5]; exact hh.2)
    have v2 := v2 h hh.1 (by rw [k5]; exact hh.2)
    rw [k5, k6, k46, k34 h hh.1 (by omega), zAl_Da _ i4 k1 k2 hh] at u2
    rw [k5, k6, k46, k33 h hh.1 (by omega), zAl_Db _ i4 k1 k2 hh] at v2
    have f12 := zf_tr f1 f2
    have rA := zDa_r (day := M 23 6) x.toNat i4 (zW_r M) i3 hh
    have rB := zDb_r (M 179 3) (M 24) (M 26) (M 25) (M 46) (zW M) (M 23 6) x.toNat h
    have h8 : 0 ≤ h ∧ h < 8 := by omega
    rw [u2, zf_c f12 28 rfl, show M 28 h + zDa (M 179 3) (M 24) (M 26) (M 25) (M 46) (zW M) (M 23 6) x.toNat h - M 28 h = zDa (M 179 3) (M 24) (M 26) (M 25) (M 46) (zW M) (M 23 6) x.toNat h by omega, zw (by omega) (by omega)]
    refine ⟨h8, h8, s_Row_tellOne (fun M3 f3 r1 r2 => ⟨h8, h8, ?_⟩)⟩
    have f13 := zf_tr f12 f3
    rw [zf_c f3 33 rfl, v2, zf_c f13 27 rfl, show M 27 h + zDb (M 179 3) (M 24) (M 26) (M 25) (M 46) (zW M) (M 23 6) x.toNat h - M 27 h = zDb (M 179 3) (M 24) (M 26) (M 25) (M 46) (zW M) (M 23 6) x.toNat h by omega, zw (by omega) (by omega)]
    have f14 : zf ([30, 31, 32, 33, 34] ++ [33, 34, 48, 36, 37, 38, 39, 7, 8, 9, 10, 11, 12, 13] ++ [4]) ([(29, 5), (29, 6)] ++ [(29, 6), (35, 4), (5, 9), (45, 4), (45, 5), (45, 6), (45, 7)] ++ [(3, 1)] ++ [(179, 0)]) M (z_up M3 179 0 0) := zf_uj (zf_ww f13 rfl rfl) (by decide)
    refine e_M_dry (fun P hP => s_M_isHouse (by rw [zf_a f14 179 3 rfl]; exact ⟨c2, c3⟩) ?_)
    rw [zf_a f14 179 3 rfl, if_pos hh]
    refine ⟨fun z => absurd z (by decide), fun _ => s_M_in ?_⟩
    rw [if_pos (by omega)]
    refine ⟨fun _ => s_M_puts (fun B fB eB => ?_), fun z => absurd (by decide) z⟩
    have f15 := zf_tr f14 fB
    have eB2 : ∀ k, 0 ≤ k → k < 81 → B 184 k = M 183 k := fun k a b => by rw [eB k a b, zf_c f14 183 rfl]
    have hs : zRs 184 (M 179 3) (M 24) (M 26) (M 25) (M 46) (zW M) B := zRs_of hJ0 (by omega) (zf_a f15 179 3 rfl) eB2 (zf_c f15 182 rfl) (zf_a f15 179 5 rfl) (zf_c f15 181 rfl) (zf_a f15 179 22 rfl) (zf_c f15 190 rfl)
    have B80 : B 184 80 = M 23 6 := by rw [eB2 80 (by omega) (by omega)]; exact i7
    have loop : ∀ (m i : Nat) (M6 : zM), (i : Int) + m = x → zRi 184 (M 179 3) (M 24) (M 26) (M 25) (M 46) (zW M) B i M6 → P h x (i : Int) M6 := by
      intro m
      induction m with
      | zero =>
        intro i M6 hi hr
        have hi : i = x.toNat := by omega
        subst hi
        obtain ⟨y1, y2, y3, y4, y5, y6, y7⟩ := hr
        rw [B80] at y4 y5
        have f16 := zf_tr f15 y1
        refine hP _ _ _ _ ⟨fun _ => ?_, fun z => absurd (by omega) z⟩
        rw [zw (x := 72 + h) (by omega) (by omega), zw (x := 64 + h) (by omega) (by omega), zu_c (by decide), zu_c (by decide), y4 h hh.1 hh.2, eB2 _ (by omega) (by omega), zf_c f16 183 rfl, show M 183 (72 + h) + zDa (M 179 3) (M 24) (M 26) (M 25) (M 46) (zW M) (M 23 6) x.toNat h - M 183 (72 + h) = zDa (M 179 3) (M 24) (M 26) (M 25) (M 46) (zW M) (M 23 6) x.toNat h by omega, zw (x := zDa (M 179 3) (M 24) (M 26) (M 25) (M 46) (zW M) (M 23 6) x.toNat h) (by omega) (by omega)]
        refine ⟨by omega, by omega, s_M_enters (by rw [zu_s]; omega) ?_⟩
        rw [zu_s, zu_c (by decide), zu_c (by decide), zu_c (by decide), zu_c (by decide), zu_c (by decide), zu_c (by decide), y5 h hh.1 hh.2, eB2 _ (by omega) (by omega), zf_c f16 183 rfl, show M 183 (64 + h) + zDb (M 179 3) (M 24) (M 26) (M 25) (M 46) (zW M) (M 23 6) x.toNat h - M 183 (64 + h) = zDb (M 179 3) (M 24) (M 26) (M 25) (M 46) (zW M) (M 23 6) x.toNat h by omega, zw (x := zDb (M 179 3) (M 24) (M 26) (M 25) (M 46) (zW M) (M 23 6) x.toNat h) (by omega) (by omega)]
        refine ⟨by omega, by omega, rfl, ?_⟩
        have g1 : zf ([30, 31, 32, 33, 34] ++ [33, 34, 48, 36, 37, 38, 39, 7, 8, 9, 10, 11, 12, 13] ++ [4] ++ [184] ++ [184, 192, 193, 194, 195, 196, 197, 198, 199, 200] ++ [180]) ([(29, 5), (29, 6)] ++ [(29, 6), (35, 4), (5, 9), (45, 4), (45, 5), (45, 6), (45, 7)] ++ [(3, 1)] ++ [(179, 0)] ++ [] ++ [(179, 35)] ++ [(179, 1)]) M (z_up M6 179 1 0) := zf_uj (zf_ww f16 rfl rfl) (by decide)
        refine zI_2 hI0 hn (zf_uj (zf_us g1 (by decide)) (by decide)) rfl rfl 1 (by omega) ?_ (zu_s _ _ _ _) (fun i a b => ?_)
        · rw [zu_c (by decide), zu_c (by decide), zu_c (by decide), zf_a y1 3 1 rfl, zf_a fB 3 1 rfl, zu_c (by decide)]; exact r1
        · have : i = 0 := by omega
          subst this
          rw [zu_c (by decide), zu_c (by decide), zu_c (by decide), zf_c y1 4 rfl, zf_c fB 4 rfl, zu_c (by decide), r2, zu_c (by decide)]
          exact (zu_s _ _ _ _).symm
      | succ m ih =>
        intro i M6 hi hr
        refine hP _ _ _ _ ⟨fun z => absurd z (by omega), fun _ => s_goes_186 hs (by omega) hr (fun M7 hr7 => ?_)⟩
        rw [zw (x := (i : Int) + 1) (by omega) (by omega)]
        exact ih (i + 1) M7 (by omega) hr7
    exact loop x.toNat 0 B (by omega) zRi_0
  · rw [if_neg hh]
    exact ⟨fun _ => ref (fun z => hh z.1), fun z => absurd rfl z⟩
