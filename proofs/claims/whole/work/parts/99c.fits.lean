/-! fits(), sure(), ask() -/
theorem zJ_sn {n : Int} {M : zM} (h : zJ n M) : M 0 14 = M 179 57 ∧ (0 ≤ M 0 14 ∧ M 0 14 ≤ 8) ∧ (∀ q, 0 ≤ q → q < M 0 14 → (0 ≤ M 142 q ∧ M 142 q < M 179 3) ∧ (0 ≤ M 143 q ∧ M 143 q < M 179 3)) ∧ ∀ q, 0 ≤ q → q < M 0 14 → M 216 q = M 142 q ∧ M 217 q = M 143 q ∧ (0 ≤ M 142 q ∧ M 142 q < M 179 3) ∧ (0 ≤ M 143 q ∧ M 143 q < M 179 3) := by
  obtain ⟨-, -, -, -, -, -, ⟨a, b, c, s⟩, -⟩ := h
  refine ⟨a, ⟨b, c⟩, fun q q0 q1 => ?_, fun q q0 q1 => ?_⟩
  · obtain ⟨x1, x2, x3, x4, x5⟩ := s q q0 q1
    exact ⟨x3, x4⟩
  · obtain ⟨x1, x2, x3, x4, x5⟩ := s q q0 q1
    exact ⟨x1.symm, x2.symm, x3, x4⟩
theorem p_fits {d : Nat} {n : Int} {M : zM} (hI : zI n M) (hn : n < 512) : zQ (d + 14) 121 238 [z_r (10, 0) 0] [z_r (11, 0) 179] n M := by
  have hI0 := hI
  obtain ⟨hb, hT, hR, hJ⟩ := hI
  obtain ⟨i1, i2, i3, i4, i5, i6, i7, i8⟩ := zJ_in hJ
  obtain ⟨g1, g2, g3, g4⟩ := zJ_sn hJ
  unfold zQ
  refine e_W_fits (s_W_fitAll i4 rfl g2 g3 (fun M1 D P f1 e1 e4 dm ps vs => ?_))
  have ref : ∀ (S : List Nat) (J : List (Nat × Int)) (M2 : zM) (m : Int), zf S J M M2 → (S.all (fun c => !(Nat.beq 183 c || Nat.beq 216 c || Nat.beq 217 c || Nat.beq 179 c)) && J.all (fun c => !(Nat.beq 183 c.1 || Nat.beq 216 c.1 || Nat.beq 217 c.1 || Nat.beq 179 c.1))) = true → (m = if zEn D P 8 0 = 0 then 0 else 8) → (∀ M4, zf [194, 195, 196, 206, 197, 207, 208, 180] [(179, 43), (179, 46), (179, 0), (179, 1)] M2 M4 → M4 179 1 = m → (∀ j, 0 ≤ j → j < m → M4 180 j = zfA D P 8 (fun _ => 0) 0 j) → zI (n + 1) M4) → zCi (d + 14) 238 [z_r (11, 0) 179] M2 (fun v' M3 => zEn D P 8 0 = v' ∧ zI (n + 1) M3) := by
    intro S J M2 m f2 hk hm K
    have k : ∀ (c : Nat) (j : Int), (c = 183 ∨ c = 216 ∨ c = 217 ∨ c = 179) → M2 c j = M c j := fun c j hc => by
      rw [Bool.and_eq_true, List.all_eq_true, List.all_eq_true] at hk
      refine f2 c j (fun y => ?_) (fun y => ?_)
      · have := hk.1 c y
        rcases hc with e | e | e | e <;> subst e <;> exact absurd this (by decide)
      · have := hk.2 (c, j) y
        rcases hc with e | e | e | e <;> subst e <;> exact absurd this (by simp)
    refine e_M_fits (s_M_laysFits (c := M 179 3) (m := M 0 14) (ord := M 24) (by rw [zu_i (by decide)]; exact k 179 3 (by simp)) i4 (zRw_f (S := []) (J := []) i5 (by funext y; rw [zu_c (by decide)]; exact k 183 y (by simp))) (by rw [zu_i (by decide), k 179 57 (by simp)]; exact g1.symm) g2 (fun q a b => by rw [zu_c (by decide), zu_c (by decide), k 216 q (by simp), k 217 q (by simp)]; exact g4 q a b) dm (fun M3 f3 c1 c2 c3 => s_M_tellsTurn (fun M4 f4 t1 t2 => ?_)))
    have e46 : M4 179 46 = zEn D P 8 0 := by rw [zf_a f4 179 46 rfl]; exact c1
    have fA : zf [194, 195, 196, 206, 197, 207, 208, 180] [(179, 43), (179, 46), (179, 0), (179, 1)] M2 M4 := zf_ww (zf_tr (zf_tr (zf_uj (S := []) (J := [(179, 0)]) zf_rf (by decide)) f3) f4) rfl rfl
    rw [e46]
    refine ⟨fun z => ⟨by rw [zu_i (by decide)]; exact e46.symm, K _ (zf_uj fA (by decide)) ?_ (fun j a b => ?_)⟩, fun z => ⟨by rw [zu_i (by decide)]; exact e46.symm, K _ (zf_uj fA (by decide)) ?_ (fun j a b => ?_)⟩⟩
    · rw [zu_s, t1, hm, if_neg z]
    · rw [hm, if_neg z] at b
      rw [zu_c (by decide), t2 j a b]; exact c3 z j a b
    · rw [zu_s, hm, if_pos (Classical.byContradiction z)]
    · rw [hm, if_pos (Classical.byContradiction z)] at b; omega
  have tell0 : zEn D P 8 0 = 0 → ∀ M2, zf [160] [] M1 M2 → zCv (d + 13) 69 [z_r (5, 0) 3, z_r (100, 8) 160, z_i 0] M2 (fun M6 => zCi (d + 14) 238 [z_r (11, 0) 179] M6 (fun v' M3 => zEn D P 8 0 = v' ∧ zI (n + 1) M3)) := by
    intro z M2 f2
    refine s_Row_tellAll (by decide) (by decide) (by decide) (fun M3 f3 r1 r2 => ?_)
    have f13 := zf_tr (zf_tr f1 f2) f3
    refine ref _ _ M3 0 f13 rfl (by rw [if_pos z]) (fun M4 f4 x1 x2 => zI_2 hI0 hn (zf_tr f13 f4) rfl rfl 0 (by omega) ?_ x1 (fun j a b => by omega))
    rw [zf_a f4 3 1 rfl]; exact r1
  have fr : ∀ M2 : zM, (∀ b, b ≠ 160 → M2 b = M1 b) → zf [160] [] M1 M2 := fun M2 k b j hb _ => by rw [k b (fun e => hb (by rw [e]; decide))]
  refine s_Orders_leastFit (D := D) (t0 := fun _ => 0) (by decide) e1 dm.1 (by rw [e4]; exact dm.2.1) (fun G M2 k2 o2 => ?_) (fun G M2 k2 => ⟨fun _ => tell0 ?_ M2 (fr M2 k2), fun y => absurd rfl y⟩)
  · have f2 := fr M2 k2
    rw [e4]
    rcases dm.2.1 with p | p
    · refine ⟨fun _ => tell0 (by rw [p]; exact zEn_0 8 0) M2 f2, fun y => absurd p y⟩
    · have z : 0 < zEn D P 8 0 := by rw [p]; exact (zEn_Go dm.1 8 0 (by omega) (by decide)).mpr G
      have eA : zgA D 8 (fun _ => 0) 0 = zfA D P 8 (fun _ => 0) 0 := by rw [p]; exact zgA_f dm.1 8 _ 0 (by omega) (by decide) G
      refine ⟨fun y => absurd y (by omega), fun _ => s_Row_tellAll (by decide) (by decide) (by decide) (fun M3 f3 r1 r2 => ?_)⟩
      have f13 := zf_tr (zf_tr f1 f2) f3
      refine ref _ _ M3 8 f13 rfl (by rw [if_neg (by omega)]) (fun M4 f4 x1 x2 => zI_2 hI0 hn (zf_tr f13 f4) rfl rfl 8 (by omega) ?_ x1 (fun j a b => ?_))
      · rw [zf_a f4 3 1 rfl]; exact r1
      · rw [zf_c f4 4 rfl, r2 j a b, o2 j a b, x2 j a b, eA]
  · rcases dm.2.1 with p | p
    · rw [p]; exact zEn_0 8 0
    · have := zEn_nn (D := D) dm.2.1 8 0
      refine Classical.byContradiction (fun y => G ?_)
      rw [p] at this y
      exact (zEn_Go dm.1 8 0 (by omega) (by decide)).mp (by omega)
theorem p_sure {d : Nat} {x y n : Int} {M : zM} (hI : zI n M) (hn : n < 512) : zQ (d + 35) 129 240 [z_r (10, 0) 0, z_i x, z_i y] [z_r (11, 0) 179, z_i x, z_i y] n M := by
  have hI0 := hI
  obtain ⟨hb, hT, hR, hJ⟩ := hI
  obtain ⟨i1, i2, i3, i4, i5, i6, i7, i8⟩ := zJ_in hJ
  obtain ⟨g1, g2, g3, g4⟩ := zJ_sn hJ
  have ref : ¬ ((0 ≤ x ∧ x ≤ 7) ∧ (0 ≤ y ∧ y ≤ 7) ∧ x ≠ y) → zCi (d + 35) 240 [z_r (11, 0) 179, z_i x, z_i y] M (fun v' M2 => -1 = v' ∧ zI (n + 1) M2) := by
    intro hno
    refine e_M_sure (e_M_isLetter (s_M_in ?_))
    by_cases hx : 0 ≤ x ∧ x ≤ 7
    · rw [if_pos hx]
      refine ⟨Or.inr rfl, fun z => absurd z (by decide), fun _ => e_M_isLetter (s_M_in ?_)⟩
      by_cases hy : 0 ≤ y ∧ y ≤ 7
      · rw [if_pos hy]
        exact ⟨Or.inr rfl, fun z => absurd z (by decide), fun _ => ⟨fun z => absurd ⟨hx, hy, z⟩ hno, fun _ => ⟨rfl, zI_q hI0 hn⟩⟩⟩
      · rw [if_neg hy]
        exact ⟨Or.inl rfl, fun _ => ⟨rfl, zI_q hI0 hn⟩, fun z => absurd rfl z⟩
    · rw [if_neg hx]
      exact ⟨Or.inl rfl, fun _ => ⟨rfl, zI_q hI0 hn⟩, fun z => absurd rfl z⟩
  unfold zQ
  refine e_W_sure ⟨fun z => ref (by omega), fun x0 => ⟨fun z => ref (by omega), fun x8 => ⟨fun z => ref (by omega), fun y0 => ⟨fun z => ref (by omega), fun y8 => ⟨fun xy => ?_, fun z => ref (fun w => z w.2.2)⟩⟩⟩⟩⟩
  have hx : 0 ≤ x ∧ x < 8 := by omega
  have hy : 0 ≤ y ∧ y < 8 := by omega
  refine s_W_fitAll i4 rfl g2 g3 (fun M1 D P f1 e1 e4 dm ps vs => s_Orders_fitsWith e1 dm.2.1 ps vs hx hy xy ?_)
  have gb := zG_b (D := D) dm.2.1 hx hy xy
  have eb := zEn_8 (D := D) dm.2.1
  refine s_Row_tellFraction gb.1 (by omega) (fun z => by omega) (fun M2 f2 r1 r2 r3 => ?_)
  have f12 := zf_tr f1 f2
  have f13 : zf ([148, 149, 150] ++ [4]) ([(144, 4)] ++ [(3, 1)] ++ [(179, 0)]) M (z_up M2 179 0 0) := zf_uj (zf_ww f12 rfl rfl) (by decide)
  refine e_M_sure (e_M_isLetter (s_M_in ?_))
  rw [if_pos (by omega)]
  refine ⟨Or.inr rfl, fun z => absurd z (by decide), fun _ => e_M_isLetter (s_M_in ?_)⟩
  rw [if_pos (by omega)]
  refine ⟨Or.inr rfl, fun z => absurd z (by decide), fun _ => ⟨fun _ => ?_, fun z => absurd xy z⟩⟩
  refine s_M_laysFits (c := M 179 3) (m := M 0 14) (ord := M 24) (zf_a f13 179 3 rfl) i4 (zRw_f (S := []) (J := []) i5 (zf_c f13 183 rfl)) (by rw [zf_a f13 179 57 rfl]; exact g1.symm) g2 (fun q a b => by rw [zf_c f13 216 rfl, zf_c f13 217 rfl]; exact g4 q a b) dm (fun M3 f3 c1 c2 c3 => ?_)
  rw [zw (x := 8 * x) (by omega) (by omega), zw (x := 8 * x + y) (by omega) (by omega), c1, c2 x y hx hy xy]
  have em : (if 1 < zEn D P 8 0 then zEn D P 8 0 else 1) = (if 1 ≤ zEn D P 8 0 then zEn D P 8 0 else 1) := by
    by_cases z : 1 < zEn D P 8 0
    · rw [if_pos z, if_pos (by omega)]
    · rw [if_neg z]
      by_cases w : 1 ≤ zEn D P 8 0
      · rw [if_pos w]; omega
      · rw [if_neg w]
  rw [em]
  refine ⟨by omega, s_M_tellsFraction gb.1 (by split <;> omega) (fun M4 f4 q1 q2 q3 => ⟨rfl, ?_⟩)⟩
  refine zI_2 hI0 hn (zf_tr (zf_tr f13 f3) f4) rfl rfl 2 (by omega) ?_ q1 (fun j a b => ?_)
  · rw [zf_a f4 3 1 rfl, zf_a f3 3 1 rfl, zu_c (by decide)]; exact r1
  · rw [zf_c f4 4 rfl, zf_c f3 4 rfl, zu_c (by decide)]
    have : j = 0 ∨ j = 1 := by omega
    rcases this with e | e
    · rw [e, r2, q2]
    · rw [e, r3, q3]
/-- the greater part by two letters; the least of them over all pairs -/
def zgx (D : Int → Int) (P i j : Int) : Int := if zG D P i j 8 0 < zG D P j i 8 0 then zG D P j i 8 0 else zG D P i j 8 0
def zak (D : Int → Int) (P i j : Int) (q : Int × Int × Int) : Int × Int × Int := if q.2.2 ≤ zgx D P i j then q else (i, j, zgx D P i j)
def zai (D : Int → Int) (P i : Int) : Nat → Int × Int × Int → Int × Int × Int
  | 0, q => q
  | n + 1, q => zak D P i (i + 1 + (n : Int)) (zai D P i n q)
def zao (D : Int → Int) (P : Int) : Nat → Int × Int × Int
  | 0 => (-1, -1, 1000000)
  | i + 1 => zai D P (i : Int) (7 - i) (zao D P i)
theorem s_askW {d : Nat} {P A : Int} {D : Int → Int} {M : zM} {F : Int → zM → Prop} (hD : M 148 = D) (hP : P = 0 ∨ P = 1) (hp : zPsi D P 256 0 (M 149)) (hv : ∀ s, 0 ≤ s → s < 256 → M 150 s = zVn D P s) (hA : A = zEn D P 8 0) (P18 : Int → Int → Int → zM → Prop) (P29 : Int → Int → Int → Int → zM → Prop)
    (h18 : ∀ (x1 : Int) (x2 : Int) (x3 : Int) (M : zM), ((8 ≤ x3 → F x2 M) ∧ (¬ (8 ≤ x3) → P29 x1 x2 x3 (z_wr (x3 + 1)) M)) → P18 x1 x2 x3 M)
    (h29 : ∀ (x1 : Int) (x2 : Int) (x3 : Int) (x4 : Int) (M : zM), ((8 ≤ x4 → P18 x1 x2 (z_wr (x3 + 1)) M) ∧ (¬ (8 ≤ x4) → zCi (d + 3) 130 [z_r (2, 0) 144, z_i x3, z_i x4] M (fun v10 M9 => ((x2 ≤ (if v10 < (z_wr (x1 - v10)) then (z_wr (x1 - v10)) else v10) → P29 x1 x2 x3 (z_wr (x4 + 1)) M9) ∧ (¬ (x2 ≤ (if v10 < (z_wr (x1 - v10)) then (z_wr (x1 - v10)) else v10)) → zCv (d + 3) 55 [z_r (5, 0) 3, z_l x3, z_l x4] M9 (fun M11 => P29 x1 (if v10 < (z_wr (x1 - v10)) then (z_wr (x1 - v10)) else v10) x3 (z_wr (x4 + 1)) M11)))))) → P29 x1 x2 x3 x4 M)
    (H : ∀ M', zf [4] [(3, 1)] M M' → M' 3 1 = 2 → M' 4 0 = (zao D P 8).1 → M' 4 1 = (zao D P 8).2.1 → F (zao D P 8).2.2 M') : P18 A (z_wr (A + 1)) 0 M := by
  have eb := zEn_8 (D := D) hP
  have outer : ∀ (r i : Nat) (M1 : zM) (L : Int), i + r = 8 → zf [4] [(3, 1)] M M1 → ((i = 0 ∧ L = A + 1) ∨ ((zao D P i).2.2 = L ∧ (0 ≤ L ∧ L ≤ A) ∧ M1 3 1 = 2 ∧ M1 4 0 = (zao D P i).1 ∧ M1 4 1 = (zao D P i).2.1)) → P18 A L (i : Int) M1 := by
    intro r
    induction r with
    | zero =>
      intro i M1 L hi f1 h
      have : i = 8 := by omega
      subst this
      refine h18 _ _ _ _ ⟨fun _ => ?_, fun z => absurd (by decide) z⟩
      rcases h with h | ⟨a, b, c, e, f⟩
      · omega
      · rw [← a]; exact H M1 f1 c e f
    | succ r ih =>
      intro i M1 L hi f1 h
      have nx := ih (i + 1)
      rw [show ((i + 1 : Nat) : Int) = (i : Int) + 1 by omega] at nx
      refine h18 _ _ _ _ ⟨fun z => absurd z (by omega), fun _ => ?_⟩
      rw [zw (x := (i : Int) + 1) (by omega) (by omega)]
      have inner : ∀ (k n : Nat) (M2 : zM) (L : Int), i + 1 + n + k = 8 → zf [4] [(3, 1)] M M2 → ((i = 0 ∧ n = 0 ∧ L = A + 1 ∧ (zai D P i n (zao D P i)).2.2 = 1000000) ∨ ((zai D P i n (zao D P i)).2.2 = L ∧ (0 ≤ L ∧ L ≤ A) ∧ M2 3 1 = 2 ∧ M2 4 0 = (zai D P i n (zao D P i)).1 ∧ M2 4 1 = (zai D P i n (zao D P i)).2.1)) → P29 A L (i : Int) ((i : Int) + 1 + (n : Int)) M2 := by
        intro k
        induction k with
        | zero =>
          intro n M2 L hn f2 h
          refine h29 _ _ _ _ _ ⟨fun _ => ?_, fun z => absurd (by omega) z⟩
          rw [zw (x := (i : Int) + 1) (by omega) (by omega)]
          refine nx M2 L (by omega) f2 ?_
          rcases h with h | h
          · omega
          · right
            have e : zao D P (i + 1) = zai D P i n (zao D P i) := by
              show zai D P (i : Int) (7 - i) (zao D P i) = _
              rw [show 7 - i = n by omega]
            rw [e]; exact h
        | succ k ih2 =>
          intro n M2 L hn f2 h
          have hi8 : 0 ≤ (i : Int) ∧ (i : Int) < 8 := by omega
          have hj8 : 0 ≤ (i : Int) + 1 + (n : Int) ∧ (i : Int) + 1 + (n : Int) < 8 := by omega
          have hij : (i : Int) ≠ (i : Int) + 1 + (n : Int) := by omega
          have nx2 := ih2 (n + 1)
          have es : zai D P i (n + 1) (zao D P i) = zak D P i ((i : Int) + 1 + (n : Int)) (zai D P i n (zao D P i)) := rfl
          rw [show (i : Int) + 1 + ((n + 1 : Nat) : Int) = (i : Int) + 1 + (n : Int) + 1 by omega, es] at nx2
          have tw := zG_two (D := D) (P := P) hi8 hj8 hij
          have gb := zG_b (D := D) hP hi8 hj8 hij
          refine h29 _ _ _ _ _ ⟨fun z => absurd z (by omega), fun _ => s_Orders_fitsWith (D := D) (by rw [zf_c f2 148 rfl]; exact hD) hP (by rw [zf_c f2 149 rfl]; exact hp) (fun s a b => by rw [zf_c f2 150 rfl]; exact hv s a b) hi8 hj8 hij ?_⟩
          rw [zw (x := A - zG D P i ((i : Int) + 1 + (n : Int)) 8 0) (by omega) (by omega), show A - zG D P i ((i : Int) + 1 + (n : Int)) 8 0 = zG D P ((i : Int) + 1 + (n : Int)) i 8 0 by omega, zw (x := (i : Int) + 1 + (n : Int) + 1) (by omega) (by omega)]
          have em : (if zG D P i ((i : Int) + 1 + (n : Int)) 8 0 < zG D P ((i : Int) + 1 + (n : Int)) i 8 0 then zG D P ((i : Int) + 1 + (n : Int)) i 8 0 else zG D P i ((i : Int) + 1 + (n : Int)) 8 0) = zgx D P i ((i : Int) + 1 + (n : Int)) := rfl
          rw [em]
          have mb : 0 ≤ zgx D P i ((i : Int) + 1 + (n : Int)) ∧ zgx D P i ((i : Int) + 1 + (n : Int)) ≤ A := by unfold zgx; split <;> omega
          unfold zak at nx2
          generalize zgx D P i ((i : Int) + 1 + (n : Int)) = X at mb nx2
          generalize zai D P i n (zao D P i) = Q at h nx2
          rcases h with ⟨h1, h2, h3, Qi⟩ | ⟨h1, h2, h3, h4, h5⟩
          · refine ⟨fun z => absurd z (by omega), fun z => s_Row_tellTwo (fun M3 f3 r1 r2 r3 => nx2 M3 X (by omega) (zf_ww (zf_tr f2 f3) rfl rfl) (Or.inr ?_))⟩
            rw [if_neg (by omega)]
            exact ⟨rfl, mb, r1, r2, r3⟩
          · refine ⟨fun z => ?_, fun z => s_Row_tellTwo (fun M3 f3 r1 r2 r3 => nx2 M3 X (by omega) (zf_ww (zf_tr f2 f3) rfl rfl) (Or.inr ?_))⟩
            · rw [if_pos (by omega)] at nx2
              exact nx2 M2 L (by omega) f2 (Or.inr ⟨h1, h2, h3, h4, h5⟩)
            · rw [if_neg (by omega)]
              exact ⟨rfl, mb, r1, r2, r3⟩
      have := inner (7 - i) 0 M1 L (by omega) f1 (h.imp (fun w => ⟨w.1, rfl, w.2, by rw [w.1]; rfl⟩) (fun w => w))
      rw [show (i : Int) + 1 + ((0 : Nat) : Int) = (i : Int) + 1 by omega] at this
      exact this
  rw [zw (x := A + 1) (by omega) (by omega)]
  exact outer 8 0 M (A + 1) (by omega) zf_rf (Or.inl ⟨rfl, rfl⟩)
theorem s_askM {d : Nat} {P : Int} {D : Int → Int} {M : zM} {F : Int → zM → Prop} (hP : P = 0 ∨ P = 1) (hG : ∀ i j, (0 ≤ i ∧ i < 8) → (0 ≤ j ∧ j < 8) → i ≠ j → M 208 (8 * i + j) = zG D P i j 8 0) (P30 : Int → Int → Int → Int → zM → Prop) (P43 : Int → Int → Int → Int → Int → zM → Prop)
    (h30 : ∀ (x1 : Int) (x2 : Int) (x3 : Int) (x4 : Int) (M : zM), ((8 ≤ x4 → zCv (d + 1) 202 [z_r (11, 0) 179, z_l x1] (z_up M 179 1 0) (fun M8 => zCv (d + 1) 202 [z_r (11, 0) 179, z_l x2] M8 (fun M10 => F x3 M10))) ∧ (¬ (8 ≤ x4) → P43 x1 x2 x3 x4 (z_wr (x4 + 1)) M)) → P30 x1 x2 x3 x4 M)
    (h43 : ∀ (x1 : Int) (x2 : Int) (x3 : Int) (x4 : Int) (x5 : Int) (M : zM), ((8 ≤ x5 → P30 x1 x2 x3 (z_wr (x4 + 1)) M) ∧ (¬ (8 ≤ x5) → ((0 ≤ (z_wr ((z_wr (8 * x4)) + x5)) ∧ (z_wr ((z_wr (8 * x4)) + x5)) < 64) ∧ ((0 ≤ (z_wr ((z_wr (8 * x5)) + x4)) ∧ (z_wr ((z_wr (8 * x5)) + x4)) < 64) ∧ ((x3 ≤ (if (M 208 (z_wr ((z_wr (8 * x4)) + x5))) < (M 208 (z_wr ((z_wr (8 * x5)) + x4))) then (M 208 (z_wr ((z_wr (8 * x5)) + x4))) else (M 208 (z_wr ((z_wr (8 * x4)) + x5)))) → P43 x1 x2 x3 x4 (z_wr (x5 + 1)) M) ∧ (¬ (x3 ≤ (if (M 208 (z_wr ((z_wr (8 * x4)) + x5))) < (M 208 (z_wr ((z_wr (8 * x5)) + x4))) then (M 208 (z_wr ((z_wr (8 * x5)) + x4))) else (M 208 (z_wr ((z_wr (8 * x4)) + x5))))) → P43 x4 x5 (if (M 208 (z_wr ((z_wr (8 * x4)) + x5))) < (M 208 (z_wr ((z_wr (8 * x5)) + x4))) then (M 208 (z_wr ((z_wr (8 * x5)) + x4))) else (M 208 (z_wr ((z_wr (8 * x4)) + x5)))) x4 (z_wr (x5 + 1)) M)))))) → P43 x1 x2 x3 x4 x5 M)
    (H : ∀ M', zf [180] [(179, 1)] M M' → M' 179 1 = 2 → M' 180 0 = (zao D P 8).1 → M' 180 1 = (zao D P 8).2.1 → F (zao D P 8).2.2 M') : P30 (-1) (-1) 1000000 0 M := by
  have outer : ∀ (r i : Nat), i + r = 8 → P30 (zao D P i).1 (zao D P i).2.1 (zao D P i).2.2 (i : Int) M := by
    intro r
    induction r with
    | zero =>
      intro i hi
      have : i = 8 := by omega
      subst this
      refine h30 _ _ _ _ _ ⟨fun _ => s_M_enters (by rw [zu_s]; omega) (s_M_enters ?_ ?_), fun z => absurd (by decide) z⟩
      · rw [zu_s, zu_s]; omega
      · rw [zu_s, zu_s]
        refine H _ (zf_uj (zf_us (zf_uj (zf_us (zf_uj zf_rf (by decide)) (by decide)) (by decide)) (by decide)) (by decide)) (by rw [zu_s]; omega) ?_ ?_
        · rw [zu_c (by decide), zu_i (by omega), zu_c (by decide), zu_s]
        · rw [zu_c (by decide), show (0 : Int) + 1 = 1 by omega, zu_s]
    | succ r ih =>
      intro i hi
      have nx := ih (i + 1) (by omega)
      rw [show ((i + 1 : Nat) : Int) = (i : Int) + 1 by omega] at nx
      refine h30 _ _ _ _ _ ⟨fun z => absurd z (by omega), fun _ => ?_⟩
      rw [zw (x := (i : Int) + 1) (by omega) (by omega)]
      have inner : ∀ (k n : Nat), i + 1 + n + k = 8 → P43 (zai D P i n (zao D P i)).1 (zai D P i n (zao D P i)).2.1 (zai D P i n (zao D P i)).2.2 (i : Int) ((i : Int) + 1 + (n : Int)) M := by
        intro k
        induction k with
        | zero =>
          intro n hn
          refine h43 _ _ _ _ _ _ ⟨fun _ => ?_, fun z => absurd (by omega) z⟩
          rw [zw (x := (i : Int) + 1) (by omega) (by omega)]
          have e : zao D P (i + 1) = zai D P i n (zao D P i) := by
            show zai D P (i : Int) (7 - i) (zao D P i) = _
            rw [show 7 - i = n by omega]
          rw [← e]; exact nx
        | succ k ih2 =>
          intro n hn
          have hi8 : 0 ≤ (i : Int) ∧ (i : Int) < 8 := by omega
          have hj8 : 0 ≤ (i : Int) + 1 + (n : Int) ∧ (i : Int) + 1 + (n : Int) < 8 := by omega
          have hij : (i : Int) ≠ (i : Int) + 1 + (n : Int) := by omega
          have nx2 := ih2 (n + 1) (by omega)
          have es : zai D P i (n + 1) (zao D P i) = zak D P i ((i : Int) + 1 + (n : Int)) (zai D P i n (zao D P i)) := rfl
          rw [show (i : Int) + 1 + ((n + 1 : Nat) : Int) = (i : Int) + 1 + (n : Int) + 1 by omega, es] at nx2
          have g1 := hG _ _ hi8 hj8 hij
          have g2 := hG _ _ hj8 hi8 hij.symm
          have em : zgx D P i ((i : Int) + 1 + (n : Int)) = (if zG D P i ((i : Int) + 1 + (n : Int)) 8 0 < zG D P ((i : Int) + 1 + (n : Int)) i 8 0 then zG D P ((i : Int) + 1 + (n : Int)) i 8 0 else zG D P i ((i : Int) + 1 + (n : Int)) 8 0) := rfl
          generalize hj : (i : Int) + 1 + (n : Int) = j at hj8 hij nx2 g1 g2 em
          refine h43 _ _ _ _ _ _ ⟨fun z => absurd z (by omega), fun _ => ?_⟩
          rw [zw (x := 8 * (i : Int)) (by omega) (by omega), zw (x := 8 * (i : Int) + j) (by omega) (by omega), zw (x := 8 * j) (by omega) (by omega), zw (x := 8 * j + (i : Int)) (by omega) (by omega), zw (x := j + 1) (by omega) (by omega), g1, g2, ← em]
          unfold zak at nx2
          refine ⟨by omega, by omega, fun z => ?_, fun z => ?_⟩
          · rw [if_pos z] at nx2; exact nx2
          · rw [if_neg z] at nx2; exact nx2
      have := inner (7 - i) 0 (by omega)
      rw [show (i : Int) + 1 + ((0 : Nat) : Int) = (i : Int) + 1 by omega] at this
      exact this
  exact outer 8 0 (by omega)
theorem p_ask {d : Nat} {n : Int} {M : zM} (hI : zI n M) (hn : n < 512) : zQ (d + 14) 131 242 [z_r (10, 0) 0] [z_r (11, 0) 179] n M := by
  have hI0 := hI
  obtain ⟨hb, hT, hR, hJ⟩ := hI
  obtain ⟨i1, i2, i3, i4, i5, i6, i7, i8⟩ := zJ_in hJ
  obtain ⟨g1, g2, g3, g4⟩ := zJ_sn hJ
  unfold zQ
  refine e_W_ask (fun P18 P29 h18 h29 => s_W_fitAll i4 rfl g2 g3 (fun M1 D P f1 e1 e4 dm ps vs => ⟨fun z => ?_, fun z => ?_⟩))
  · refine s_askW (d := d + 10) e1 dm.2.1 ps vs rfl P18 P29 h18 h29 (fun M2 f2 r1 r2 r3 => ?_)
    have f12 := zf_tr f1 f2
    have f13 : zf ([148, 149, 150] ++ [4]) ([(144, 4)] ++ [(3, 1)] ++ [(179, 0)]) M (z_up M2 179 0 0) := zf_uj (zf_ww f12 rfl rfl) (by decide)
    refine e_M_ask (fun P30 P43 h30 h43 => s_M_laysFits (c := M 179 3) (m := M 0 14) (ord := M 24) (zf_a f13 179 3 rfl) i4 (zRw_f (S := []) (J := []) i5 (zf_c f13 183 rfl)) (by rw [zf_a f13 179 57 rfl]; exact g1.symm) g2 (fun q a b => by rw [zf_c f13 216 rfl, zf_c f13 217 rfl]; exact g4 q a b) dm (fun M3 f3 c1 c2 c3 => ?_))
    rw [c1]
    refine ⟨fun _ => s_askM (d := d + 12) dm.2.1 c2 P30 P43 h30 h43 (fun M4 f4 q1 q2 q3 => ⟨rfl, ?_⟩), fun w => absurd z w⟩
    refine zI_2 hI0 hn (zf_tr (zf_tr f13 f3) f4) rfl rfl 2 (by omega) ?_ q1 (fun j a b => ?_)
    · rw [zf_a f4 3 1 rfl, zf_a f3 3 1 rfl, zu_c (by decide)]; exact r1
    · rw [zf_c f4 4 rfl, zf_c f3 4 rfl, zu_c (by decide)]
      have : j = 0 ∨ j = 1 := by omega
      rcases this with e | e
      · rw [e, r2, q2]
      · rw [e, r3, q3]
  · have f13 : zf [148, 149, 150] [(144, 4), (179, 0)] M (z_up M1 179 0 0) := zf_uj (zf_ww f1 rfl rfl) (by decide)
    refine e_M_ask (fun P30 P43 h30 h43 => s_M_laysFits (c := M 179 3) (m := M 0 14) (ord := M 24) (zf_a f13 179 3 rfl) i4 (zRw_f (S := []) (J := []) i5 (zf_c f13 183 rfl)) (by rw [zf_a f13 179 57 rfl]; exact g1.symm) g2 (fun q a b => by rw [zf_c f13 216 rfl, zf_c f13 217 rfl]; exact g4 q a b) dm (fun M3 f3 c1 c2 c3 => ?_))
    rw [c1]
    exact ⟨fun w => absurd w z, fun _ => ⟨rfl, zI_f hI0 hn (zf_tr f13 f3) rfl rfl⟩⟩
