/-! rounds() -/
theorem zAt_tQ {a b : Nat} {c : Int} {S : zS} {M M' : zM} (h : zAt a c S M) (q : tQ M a M' b) : zAt b c S M' := by
  obtain ⟨a1, a2, a3, a4, a5, a6, a7⟩ := h
  obtain ⟨q1, q2, q3, q4, q5, q6, q7⟩ := q
  exact ⟨by rw [q1]; exact a1, by rw [q2]; exact a2, fun i x y => by rw [q3 i x y]; exact a3 i x y, fun i x y => by rw [q4 i x y]; exact a4 i x y, fun i x y => by rw [q5 i x y]; exact a5 i x y, fun i x y => by rw [q6 i x y]; exact a6 i x y, fun i x y => by rw [q7 i x y]; exact a7 i x y⟩
/-- days, the order going round behind each -/
def zSi (c : Int) (th W : Int → Int) : Nat → zS → zS
  | 0, S => S
  | i + 1, S => zSr (zSd c th W 1 (zSi c th W i S))
theorem zSi_o {c D : Int} {th W : Int → Int} {S : zS} (h : zSo c D S) (hth : ∀ h, 0 ≤ h → h < c → 0 ≤ th h ∧ th h ≤ 9) (hW : ∀ x, 0 ≤ W x ∧ W x ≤ 99) : ∀ i : Nat, zSo c (D + i) (zSi c th W i S)
  | 0 => zSo_m h (by omega)
  | i + 1 => zSo_m (zSr_o (zSd_o 1 (zSi_o h hth hW i) hth hW)) (by omega)
theorem zSi_dry {c : Int} {th W : Int → Int} {S : zS} {h : Int} : ∀ i : Nat, 0 ≤ (zSi c th W i S).dry h - S.dry h ∧ (zSi c th W i S).dry h - S.dry h ≤ i
  | 0 => by show 0 ≤ S.dry h - S.dry h ∧ S.dry h - S.dry h ≤ 0; omega
  | i + 1 => by
    have ih := zSi_dry (c := c) (th := th) (W := W) (S := S) (h := h) i
    have e : (zSi c th W (i + 1) S).dry h = (zSi c th W i S).dry h + (if 0 ≤ h ∧ h < c then zDb c (zSi c th W i S).ord (zSi c th W i S).len (zSi c th W i S).nam th W (zSi c th W i S).day 1 h else 0) := rfl
    have := zDb_r c (zSi c th W i S).ord (zSi c th W i S).len (zSi c th W i S).nam th W (zSi c th W i S).day 1 h
    rw [e]
    split <;> omega
def zMx (s : Int) (d : Int → Int) : Nat → Int
  | 0 => s
  | k + 1 => if zMx s d k < d (k : Int) then d (k : Int) else zMx s d k
def zMn (s : Int) (d : Int → Int) : Nat → Int
  | 0 => s
  | k + 1 => if d (k : Int) < zMn s d k then d (k : Int) else zMn s d k
theorem zMn_e {d : Int → Int} {n : Int} (hn : n ≤ 1000000) : ∀ k : Nat, (∀ h : Int, 0 ≤ h → h < (k + 1 : Nat) → d h ≤ n) → zMn n d (k + 1) = zMn 1000000 d (k + 1)
  | 0, h => by
    have := h 0 (by omega) (by omega)
    show (if d ((0 : Nat) : Int) < n then d ((0 : Nat) : Int) else n) = (if d ((0 : Nat) : Int) < 1000000 then d ((0 : Nat) : Int) else 1000000)
    have e : ((0 : Nat) : Int) = 0 := rfl
    rw [e]
    split <;> split <;> omega
  | k + 1, h => by
    have ih := zMn_e hn k (fun x a b => h x a (by omega))
    show (if d ((k + 1 : Nat) : Int) < zMn n d (k + 1) then d ((k + 1 : Nat) : Int) else zMn n d (k + 1)) = (if d ((k + 1 : Nat) : Int) < zMn 1000000 d (k + 1) then d ((k + 1 : Nat) : Int) else zMn 1000000 d (k + 1))
    rw [ih]
theorem p_rounds {d : Nat} {x n : Int} {M : zM} (hI : zI n M) (hn : n < 512) : zQ (d + 6) 96 222 [z_r (10, 0) 0, z_i x] [z_r (11, 0) 179, z_i x] n M := by
  have hI0 := hI
  obtain ⟨hb, hT, hR, hJ⟩ := hI
  have hJ0 := hJ
  obtain ⟨i1, i2, i3, i4, i5, i6, i7, i8⟩ := zJ_in hJ
  obtain ⟨c1, c2, c3⟩ := zJ_count hJ
  obtain ⟨j1, j2, j3, j4, -⟩ := hJ
  obtain ⟨s1, s2, s3⟩ := zS0_of j1
  have ed : (zS0 M 23).dry = M 27 := rfl
  generalize hS : zS0 M 23 = S at s1 s2 s3 ed
  have hSo := zSi_o s3 i3 (zW_r M)
  have hdr := fun (i : Nat) h => zSi_dry (c := M 179 3) (th := M 46) (W := zW M) (S := S) (h := h) i
  have ref : ¬ (1 ≤ x ∧ x ≤ 60) → zCi (d + 6) 222 [z_r (11, 0) 179, z_i x] M (fun v' M2 => -1 = v' ∧ zI (n + 1) M2) := by
    intro hno
    refine e_M_rounds (fun P Q hP hQ => s_M_in ?_)
    rw [if_neg hno]
    exact ⟨fun z => absurd rfl z, fun _ => ⟨rfl, zI_q hI0 hn⟩⟩
  unfold zQ
  refine e_W_rounds (fun P Q hP hQ => ⟨fun q => ref (by omega), fun q => ⟨fun q2 => ?_, fun q2 => ref (by omega)⟩⟩)
  refine s_Town_become (a0 := 29) (a1 := 23) (by omega) (fun M1 f1 t1 => ?_)
  have f1 : zf [30, 31, 32, 33, 34, 48, 36, 37, 38, 39, 7, 8, 9, 10, 11, 12, 13] [(29, 5), (29, 6), (35, 4), (5, 9), (45, 4), (45, 5), (45, 6), (45, 7)] M M1 := zf_ww (S := [30, 31, 32, 33, 34]) (J := [(29, 5), (29, 6)]) f1 rfl rfl
  have a1 : zAt 29 (M 179 3) S M1 := zAt_tQ s1 t1
  have loop : ∀ (m i : Nat) (M2 : zM), (i : Int) + m = x → zf [30, 31, 32, 33, 34, 48, 36, 37, 38, 39, 7, 8, 9, 10, 11, 12, 13] [(29, 5), (29, 6), (35, 4), (5, 9), (45, 4), (45, 5), (45, 6), (45, 7)] M M2 → zAt 29 (M 179 3) (zSi (M 179 3) (M 46) (zW M) i S) M2 → P x (zsm (fun h => (zSi (M 179 3) (M 46) (zW M) i S).dry h - S.dry h) (M 179 3).toNat) (i : Int) M2 := by
    intro m
    induction m with
    | zero =>
      intro i M2 hi f2 a2
      have hi : i = x.toNat := by omega
      generalize hE : zSi (M 179 3) (M 46) (zW M) i S = E at a2
      have hde := hdr i
      rw [hE] at hde
      have ec : M2 23 5 = M 179 3 := by rw [zf_a f2 23 5 rfl]; exact c1
      have k33 : ∀ h, 0 ≤ h → h < 8 → M2 33 h = E.dry h := a2.2.2.2.2.2.1
      have k27 : ∀ h, M2 27 h = S.dry h := fun h => by rw [zf_c f2 27 rfl, ed]
      -- the reference
      have ref2 : ∀ (M3 : zM) (mx mn : Int), zf [4] [(3, 1)] M2 M3 → M3 3 1 = 2 → M3 4 0 = zMx 0 (fun h => E.dry h - S.dry h) (M 179 3).toNat → M3 4 1 = (if M 179 3 ≠ 0 then zMn x (fun h => E.dry h - S.dry h) (M 179 3).toNat else 0) → zCi (d + 6) 222 [z_r (11, 0) 179, z_i x] M3 (fun v' M4 => zsm (fun h => E.dry h - S.dry h) (M 179 3).toNat = v' ∧ zI (n + 1) M4) := by
        intro M3 mx mn f3 r1 r2 r3
        have f23 := zf_tr f2 f3
        have f4 : zf ([30, 31, 32, 33, 34, 48, 36, 37, 38, 39, 7, 8, 9, 10, 11, 12, 13] ++ [4]) ([(29, 5), (29, 6), (35, 4), (5, 9), (45, 4), (45, 5), (45, 6), (45, 7)] ++ [(3, 1)] ++ [(179, 0)]) M (z_up M3 179 0 0) := zf_uj (zf_ww f23 rfl rfl) (by decide)
        refine e_M_rounds (fun P2 Q2 hP2 hQ2 => s_M_in ?_)
        rw [if_pos (by omega)]
        refine ⟨fun _ => s_M_puts (fun B fB eB => ?_), fun z => absurd (by decide) z⟩
        have f5 := zf_tr f4 fB
        have eB2 : ∀ k, 0 ≤ k → k < 81 → B 184 k = M 183 k := fun k a b => by rw [eB k a b, zf_c f4 183 rfl]
        have hc := zRc_of hJ0 (B := B) (zf_a f5 179 3 rfl) (zf_c f5 182 rfl) (zf_a f5 179 5 rfl) (zf_c f5 181 rfl) (zf_a f5 179 22 rfl) (zf_c f5 190 rfl)
        have hB : zRt 184 (M 179 3) S B := by
          obtain ⟨b1, b2, b3, b4, b5, b6⟩ := s2
          have hl := s3.1.2.2.1
          refine ⟨fun i a b => ?_, fun h a b => ?_, fun h i a b a' b' => ?_, fun h a b => ?_, fun h a b => ?_, ?_⟩
          · rw [eB2 _ (by omega) (by omega)]; exact b1 i a b
          · rw [eB2 _ (by omega) (by omega)]; exact b2 h a b
          · have := hl h a b
            rw [eB2 _ (by omega) (by omega)]; exact b3 h i a b a' b'
          · rw [eB2 _ (by omega) (by omega)]; exact b4 h a b
          · rw [eB2 _ (by omega) (by omega)]; exact b5 h a b
          · rw [eB2 _ (by omega) (by omega)]; exact b6
        -- the end
        have fin : ∀ (m j : Nat) (M6 : zM) (s : Int), (j : Int) + m = M 179 3 → zf [184, 192, 193, 194, 195, 196, 197, 198, 199, 200] [(179, 35)] B M6 → zRt 184 (M 179 3) E M6 → (M 179 3 ≠ 0 → s = 1000000) → (M 179 3 = 0 → s = 0) → Q2 x (zMx 0 (fun h => E.dry h - S.dry h) j) (zMn s (fun h => E.dry h - S.dry h) j) (zsm (fun h => E.dry h - S.dry h) j) (j : Int) M6 := by
          intro m
          induction m with
          | zero =>
            intro j M6 s hj f6 b6 hs1 hs0
            have hj : j = (M 179 3).toNat := by omega
            subst hj
            have f56 := zf_tr f5 f6
            refine hQ2 _ _ _ _ _ _ ⟨fun _ => s_M_enters (by rw [zu_s]; omega) ?_, fun z => absurd (by rw [zf_a f56 179 3 rfl]; omega) z⟩
            rw [zu_s]
            refine s_M_enters (by rw [zu_s]; omega) ?_
            rw [zu_s]
            refine ⟨rfl, ?_⟩
            have g1 : zf ([30, 31, 32, 33, 34, 48, 36, 37, 38, 39, 7, 8, 9, 10, 11, 12, 13] ++ [4] ++ [184] ++ [184, 192, 193, 194, 195, 196, 197, 198, 199, 200] ++ [180]) ([(29, 5), (29, 6), (35, 4), (5, 9), (45, 4), (45, 5), (45, 6), (45, 7)] ++ [(3, 1)] ++ [(179, 0)] ++ [] ++ [(179, 35)] ++ [(179, 1)]) M (z_up M6 179 1 0) := zf_uj (zf_ww f56 rfl rfl) (by decide)
            refine zI_2 hI0 hn (zf_uj (zf_us (zf_uj (zf_us g1 (by decide)) (by decide)) (by decide)) (by decide)) rfl rfl 2 (by omega) ?_ (zu_s _ _ _ _) (fun y p q => ?_)
            · rw [zu_c (by decide), zu_c (by decide), zu_c (by decide), zu_c (by decide), zu_c (by decide), zf_a f6 3 1 rfl, zf_a fB 3 1 rfl, zu_c (by decide)]; exact r1
            · have e4 : ∀ y, M6 4 y = M3 4 y := fun y => by rw [zf_c f6 4 rfl, zf_c fB 4 rfl, zu_c (by decide)]
              rw [zu_c (by decide), zu_c (by decide), zu_c (by decide), zu_c (by decide), zu_c (by decide), e4]
              have : y = 0 ∨ y = 1 := by omega
              rcases this with rfl | rfl
              · rw [r2, zu_c (by decide), zu_i (by decide), zu_c (by decide)]; exact (zu_s _ _ _ _).symm
              · rw [r3, zu_c (by decide)]
                refine Eq.trans ?_ (zu_s _ _ _ _).symm
                by_cases c0 : M 179 3 = 0
                · rw [if_neg (fun z => z c0), hs0 c0, c0]; rfl
                · rw [if_pos c0, hs1 c0, show (M 179 3).toNat = ((M 179 3).toNat - 1) + 1 by omega]
                  exact zMn_e (by omega) _ (fun h a b => by have := hde h; omega)
          | succ m ih =>
            intro j M6 s hj f6 b6 hs1 hs0
            have f56 := zf_tr f5 f6
            have nx := ih (j + 1) M6 s (by omega) f6 b6 hs1 hs0
            have hd1 := hde j
            have hsb := zsm_b (f := fun h => E.dry h - S.dry h) (B := 60) j (fun h _ _ => by have := hde h; omega)
            refine hQ2 _ _ _ _ _ _ ⟨fun z => absurd z (by rw [zf_a f56 179 3 rfl]; omega), fun _ => ?_⟩
            rw [zw (x := 64 + (j : Int)) (by omega) (by omega), b6.2.2.2.1 j (by omega) (by omega), zf_c f56 183 rfl, s2.2.2.2.1 j (by omega) (by omega), zw (x := E.dry j - S.dry j) (by omega) (by omega), zw (x := zsm (fun h => E.dry h - S.dry h) j + _) (by omega) (by omega), zw (x := (j : Int) + 1) (by omega) (by omega)]
            rw [show ((j + 1 : Nat) : Int) = (j : Int) + 1 by omega] at nx
            exact ⟨by omega, by omega, nx⟩
        have days : ∀ (m k : Nat) (M6 : zM), (k : Int) + m = x → zf [184, 192, 193, 194, 195, 196, 197, 198, 199, 200] [(179, 35)] B M6 → zRt 184 (M 179 3) (zSi (M 179 3) (M 46) (zW M) k S) M6 → P2 x (k : Int) M6 := by
          intro m
          induction m with
          | zero =>
            intro k M6 hk f6 b6
            have hk : k = i := by omega
            subst hk
            rw [hE] at b6
            have f56 := zf_tr f5 f6
            refine hP2 _ _ _ ⟨fun _ => ⟨fun z => ?_, fun z => ?_⟩, fun z => absurd (by omega) z⟩
            · rw [zf_a f56 179 3 rfl] at z
              exact fin (M 179 3).toNat 0 M6 1000000 (by omega) f6 b6 (fun _ => rfl) (fun y => absurd y z)
            · rw [zf_a f56 179 3 rfl] at z
              exact fin (M 179 3).toNat 0 M6 0 (by omega) f6 b6 (fun y => absurd y z) (fun _ => rfl)
          | succ m ih =>
            intro k M6 hk f6 b6
            have hck := zRc_f hc (zf_a f6 179 3 rfl) (zf_c f6 182 rfl) (zf_a f6 179 5 rfl) (zf_c f6 181 rfl) (zf_a f6 179 22 rfl) (zf_c f6 190 rfl)
            refine hP2 _ _ _ ⟨fun z => absurd z (by omega), fun _ => s_goesS_186 hck b6 (hSo k) (by omega) (fun M7 f7 b7 => s_M_goesRound c3 b7 (fun M8 f8 b8 => ?_))⟩
            rw [zw (x := (k : Int) + 1) (by omega) (by omega)]
            have := ih (k + 1) M8 (by omega) (zf_ww (zf_tr (zf_tr f6 f7) f8) rfl rfl) b8
            rw [show ((k + 1 : Nat) : Int) = (k : Int) + 1 by omega] at this
            exact this
        exact days x.toNat 0 B (by omega) zf_rf hB
      -- the class: the greatest, the least
      have ends : ∀ (m j : Nat) (s : Int), (j : Int) + m = M 179 3 → (M 179 3 ≠ 0 → s = x) → (M 179 3 = 0 → s = 0) → Q x (zsm (fun h => E.dry h - S.dry h) (M 179 3).toNat) (zMx 0 (fun h => E.dry h - S.dry h) j) (zMn s (fun h => E.dry h - S.dry h) j) (j : Int) M2 := by
        intro m
        induction m with
        | zero =>
          intro j s hj hs1 hs0
          have hj : j = (M 179 3).toNat := by omega
          subst hj
          refine hQ _ _ _ _ _ _ ⟨fun _ => s_Row_tellTwo (fun M3 f3 r1 r2 r3 => ref2 M3 0 0 f3 r1 r2 ?_), fun z => absurd (by rw [ec]; omega) z⟩
          rw [r3]
          by_cases c0 : M 179 3 = 0
          · rw [if_neg (fun z => z c0), hs0 c0, c0]; rfl
          · rw [if_pos c0, hs1 c0]
        | succ m ih =>
          intro j s hj hs1 hs0
          have nx := ih (j + 1) s (by omega) hs1 hs0
          have hd1 := hde j
          refine hQ _ _ _ _ _ _ ⟨fun z => absurd z (by rw [ec]; omega), fun _ => ?_⟩
          rw [k33 j (by omega) (by omega), k27, zw (x := E.dry j - S.dry j) (by omega) (by omega), zw (x := (j : Int) + 1) (by omega) (by omega)]
          rw [show ((j + 1 : Nat) : Int) = (j : Int) + 1 by omega] at nx
          exact ⟨by omega, by omega, nx⟩
      refine hP _ _ _ _ ⟨fun _ => ⟨fun z => ?_, fun z => ?_⟩, fun z => absurd (by omega) z⟩
      · rw [ec] at z
        exact ends (M 179 3).toNat 0 x (by omega) (fun _ => rfl) (fun y => absurd y z)
      · rw [ec] at z
        exact ends (M 179 3).toNat 0 0 (by omega) (fun y => absurd y z) (fun _ => rfl)
    | succ m ih =>
      intro i M2 hi f2 a2
      have hSi := hSo i
      refine hP _ _ _ _ ⟨fun z => absurd z (by omega), fun _ => ?_⟩
      have k5 : M2 5 1 = M 5 1 := zf_a f2 5 1 rfl
      have k6 : M2 6 = M 6 := zf_c f2 6 rfl
      have k45 : M2 45 2 = M 45 2 := zf_a f2 45 2 rfl
      have k46 : M2 46 = M 46 := zf_c f2 46 rfl
      have k47 : M2 47 = M 47 := zf_c f2 47 rfl
      refine s_liveS_29_5 (cl := M 179 22) (cd := M 190) (th := M 46) (W := zW M) (by omega) a2 hSi (by omega) (by rw [k45]; exact i1) (by rw [k45, k47]; exact i2) (by rw [k46]; exact i3) (by rw [k5, k6]; exact j4) k46 (by rw [k5, k6, k45, k47, k46]; rfl) (fun M3 f3 a3 => s_Town_first a3 (fun M4 f4 a4 => ?_))
      have f4 : zf [30] [] M3 M4 := f4
      have nx := ih (i + 1) M4 (by omega) (zf_ww (zf_tr (zf_tr f2 f3) f4) rfl rfl) a4
      have e1 : zsm (fun h => (zSi (M 179 3) (M 46) (zW M) (i + 1) S).dry h - S.dry h) (M 179 3).toNat = zsm (fun h => (zSi (M 179 3) (M 46) (zW M) i S).dry h - S.dry h) (M 179 3).toNat + zsm (zDb (M 179 3) (zSi (M 179 3) (M 46) (zW M) i S).ord (zSi (M 179 3) (M 46) (zW M) i S).len (zSi (M 179 3) (M 46) (zW M) i S).nam (M 46) (zW M) (zSi (M 179 3) (M 46) (zW M) i S).day (1 : Int).toNat) (M 179 3).toNat := by
        rw [← zsm_add]
        refine zsm_c _ (fun h a b => ?_)
        have e : (zSi (M 179 3) (M 46) (zW M) (i + 1) S).dry h = (zSi (M 179 3) (M 46) (zW M) i S).dry h + (if 0 ≤ h ∧ h < M 179 3 then zDb (M 179 3) (zSi (M 179 3) (M 46) (zW M) i S).ord (zSi (M 179 3) (M 46) (zW M) i S).len (zSi (M 179 3) (M 46) (zW M) i S).nam (M 46) (zW M) (zSi (M 179 3) (M 46) (zW M) i S).day 1 h else 0) := rfl
        rw [e, if_pos ⟨a, by omega⟩]
        show _ = _ + zDb (M 179 3) (zSi (M 179 3) (M 46) (zW M) i S).ord (zSi (M 179 3) (M 46) (zW M) i S).len (zSi (M 179 3) (M 46) (zW M) i S).nam (M 46) (zW M) (zSi (M 179 3) (M 46) (zW M) i S).day 1 h
        omega
      have b1 := zsm_b (f := fun h => (zSi (M 179 3) (M 46) (zW M) i S).dry h - S.dry h) (B := 60) (M 179 3).toNat (fun h _ _ => by have := hdr i h; omega)
      have b2 := zsm_b (f := zDb (M 179 3) (zSi (M 179 3) (M 46) (zW M) i S).ord (zSi (M 179 3) (M 46) (zW M) i S).len (zSi (M 179 3) (M 46) (zW M) i S).nam (M 46) (zW M) (zSi (M 179 3) (M 46) (zW M) i S).day (1 : Int).toNat) (B := 1) (M 179 3).toNat (fun h _ _ => by have := zDb_r (M 179 3) (zSi (M 179 3) (M 46) (zW M) i S).ord (zSi (M 179 3) (M 46) (zW M) i S).len (zSi (M 179 3) (M 46) (zW M) i S).nam (M 46) (zW M) (zSi (M 179 3) (M 46) (zW M) i S).day (1 : Int).toNat h; omega)
      rw [zw (x := zsm _ (M 179 3).toNat + _) (by omega) (by omega), ← e1, zw (x := (i : Int) + 1) (by omega) (by omega)]
      rw [show ((i + 1 : Nat) : Int) = (i : Int) + 1 by omega] at nx
      exact nx
  have z0 : zsm (fun h => (zSi (M 179 3) (M 46) (zW M) 0 S).dry h - S.dry h) (M 179 3).toNat = 0 := by
    have : ∀ k : Nat, zsm (fun h => (zSi (M 179 3) (M 46) (zW M) 0 S).dry h - S.dry h) k = 0 := by
      intro k
      induction k with
      | zero => rfl
      | succ k ih =>
        show zsm (fun h => (zSi (M 179 3) (M 46) (zW M) 0 S).dry h - S.dry h) k + (S.dry k - S.dry k) = 0
        omega
    exact this _
  have := loop x.toNat 0 M1 (by omega) f1 a1
  rw [z0] at this
  exact this
