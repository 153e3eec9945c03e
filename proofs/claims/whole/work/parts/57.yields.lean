/-! yields(), stops(), house() -/
theorem zcard_st (p : Int → Bool) {c : Nat} (hc : c ≤ 8) : zcard (zst p c) = zsm (fun h => if p h = true then 1 else 0) c := by
  rw [zcard_ss]
  unfold zss
  rw [← zsm_cut (fun h => if p h = true then 1 else 0) c 8 hc]
  refine zsm_c 8 (fun h a b => ?_)
  rw [zst_b p c hc h a]
  by_cases q : h < (c : Int)
  · rw [decide_eq_true q]; simp
  · rw [decide_eq_false q]; simp
theorem s_M_lessMany {d : Nat} {p : Int → Bool} {M : zM} {F : Int → zM → Prop} (hc : 0 ≤ M 179 3 ∧ M 179 3 ≤ 8) (hp : ∀ h, 0 ≤ h → h < M 179 3 → p h = decide (M 200 h < M 182 h)) (H : F (zsm (fun h => if p h = true then 1 else 0) (M 179 3).toNat) M) : zCi (d + 2) 210 [z_r (11, 0) 179] M F := by
  refine e_M_lessMany (fun P hP => ?_)
  have loop : ∀ (n i : Nat), (i : Int) + n = M 179 3 → P (zsm (fun h => if p h = true then 1 else 0) i) (i : Int) M := by
    intro n
    induction n with
    | zero =>
      intro i hi
      refine hP _ _ _ ⟨fun _ => ?_, fun z => absurd (by omega) z⟩
      rw [show i = (M 179 3).toNat by omega]; exact H
    | succ n ih =>
      intro i hi
      have hn := ih (i + 1) (by omega)
      have hb := zsm_b (f := fun h => if p h = true then (1 : Int) else 0) (B := 1) i (fun j _ _ => by (try dsimp only); split <;> omega)
      have hp1 := hp i (by omega) (by omega)
      rw [show zsm (fun h => if p h = true then (1 : Int) else 0) (i + 1) = zsm (fun h => if p h = true then (1 : Int) else 0) i + (if p (i : Int) = true then 1 else 0) from rfl, show ((i + 1 : Nat) : Int) = (i : Int) + 1 by omega] at hn
      refine hP _ _ _ ⟨fun z => absurd z (by omega), fun _ => ⟨by omega, by omega, fun z => s_M_flag (b := false) rfl ?_, fun z => s_M_flag (b := true) rfl ?_⟩⟩
      · rw [hp1, decide_eq_false (by omega)] at hn
        show P (z_wr (_ + 0)) _ M
        rw [zw (x := _ + 0) (by omega) (by omega), zw (x := (i : Int) + 1) (by omega) (by omega)]
        exact hn
      · rw [hp1, decide_eq_true (by omega)] at hn
        show P (z_wr (_ + 1)) _ M
        rw [zw (x := zsm (fun h => if p h = true then (1 : Int) else 0) i + 1) (by omega) (by omega), zw (x := (i : Int) + 1) (by omega) (by omega)]
        exact hn
  exact loop (M 179 3).toNat 0 (by omega)
theorem s_M_lessBits {d : Nat} {p : Int → Bool} {M : zM} {F : Int → zM → Prop} (hc : 0 ≤ M 179 3 ∧ M 179 3 ≤ 8) (hp : ∀ h, 0 ≤ h → h < M 179 3 → p h = decide (M 200 h < M 182 h)) (H : F (zst p (M 179 3).toNat) M) : zCi (d + 1) 201 [z_r (11, 0) 179] M F := by
  refine e_M_lessBits (fun P hP => ?_)
  have loop : ∀ (n i : Nat), (i : Int) + n = M 179 3 → P (zst p i) (i : Int) M := by
    intro n
    induction n with
    | zero =>
      intro i hi
      refine hP _ _ _ ⟨fun _ => ?_, fun z => absurd (by omega) z⟩
      rw [show i = (M 179 3).toNat by omega]; exact H
    | succ n ih =>
      intro i hi
      have hn := ih (i + 1) (by omega)
      have hp1 := hp i (by omega) (by omega)
      rw [show ((i + 1 : Nat) : Int) = (i : Int) + 1 by omega] at hn
      refine hP _ _ _ ⟨fun z => absurd z (by omega), fun _ => ⟨by omega, by omega, fun z => ?_, fun z => ?_⟩⟩
      · rw [zw (x := (i : Int) + 1) (by omega) (by omega), zst_u (p := p) (n := i) (by omega) (by rw [hp1]; exact decide_eq_false (by omega)) rfl]
        exact hn
      · rw [zw (x := (i : Int) + 1) (by omega) (by omega)]
        show P (zbs (zst p i) (i : Int)) _ M
        rw [zst_v (by rw [hp1]; exact decide_eq_true (by omega))]
        exact hn
  exact loop (M 179 3).toNat 0 (by omega)
theorem zI_2 {n : Int} {S : List Nat} {J : List (Nat × Int)} {M M' : zM} (hI : zI n M) (hn : n < 512) (f : zf S J M M') (hd : zJS S J = true) (ht : (S.all (fun c => !(Nat.beq 1 c) && (!(Nat.beq 2 c) && (!(Nat.beq 179 c) && !(Nat.beq 185 c)))) && J.all (fun q => !(Nat.beq 2 q.1) && (!(Nat.beq 185 q.1) && (!(Nat.beq 1 q.1 && decide (1 = q.2)) && !(Nat.beq 179 q.1 && decide (11 = q.2)))))) = true) (m : Int) (hm : 0 ≤ m ∧ m ≤ 8) (r1 : M' 3 1 = m) (r2 : M' 179 1 = m) (r3 : ∀ i, 0 ≤ i → i < m → M' 4 i = M' 180 i) : zI (n + 1) M' :=
  ⟨by have := hI.1; omega, iT_f hI.2.1 f ht, ⟨by rw [r1, r2], by omega, by omega, fun i a b => r3 i a (by omega)⟩, zJ_n (zJ_f hI.2.2.2 f hd) (by omega)⟩
theorem p_yields {d : Nat} {x n : Int} {M : zM} (hI : zI n M) (hn : n < 512) : zQ (d + 6) 70 209 [z_r (10, 0) 0, z_i x] [z_r (11, 0) 179, z_i x] n M := by
  have hI0 := hI
  obtain ⟨hb, hT, hR, hJ⟩ := hI
  obtain ⟨i1, i2, i3, i4, i5, i6, i7, i8⟩ := zJ_in hJ
  obtain ⟨c1, c2, c3⟩ := zJ_count hJ
  have ref : ¬ (0 ≤ x ∧ x ≤ 99) → zCi (d + 6) 209 [z_r (11, 0) 179, z_i x] M (fun v' M2 => -1 = v' ∧ zI (n + 1) M2) := by
    intro hno
    refine e_M_yields (s_M_in ?_)
    rw [if_neg hno]
    exact ⟨fun z => absurd rfl z, fun _ => ⟨rfl, zI_q hI0 hn⟩⟩
  unfold zQ
  refine e_W_yields ⟨fun q => ref (by omega), fun q => ⟨fun q2 => ?_, fun q2 => ref (by omega)⟩⟩
  rw [zw (x := M 23 6 + x) (by omega) (by omega)]
  refine s_W_yieldAt hJ (by omega) (fun M1 f1 => ?_)
  have hJ1 := zJ_f hJ f1 rfl
  refine s_W_write hJ1.1 (fun M2 f2 b2 => ?_)
  have f12 := zf_tr f1 f2
  rw [zf_a f1 179 3 rfl, zf_c f1 24 rfl, zf_c f1 25 rfl, zf_c f1 26 rfl] at b2
  have e46 : M2 46 = M 46 := zf_c f12 46 rfl
  refine s_Pump_pourG i4 b2 (by rw [e46]; exact i3) (zW_r _ _) (fun M3 f3 l3 _ _ => ?_)
  rw [e46] at l3 ⊢
  have f13 := zf_tr f12 f3
  rw [zcard_st _ (by omega)]
  generalize hD : zsm (fun h => if zUd (M 179 3) (M 24) (M 26) (M 25) (M 46) (zW M (M 23 6 + x)) h = true then (1 : Int) else 0) (M 179 3).toNat = D
  rw [zf_a f13 23 5 rfl, c1, l3]
  refine s_Row_tellTwo (fun M4 f4 r1 r2 r3 => ?_)
  have f14 := zf_tr f13 f4
  have f15 : zf ([7, 8, 9, 10, 11, 12, 13] ++ [36, 37, 38, 39] ++ [48] ++ [4]) ([(5, 9)] ++ [(35, 4)] ++ [(45, 4), (45, 5)] ++ [(3, 1)] ++ [(179, 0)]) M (z_up M4 179 0 0) := zf_uj (zf_ww f14 rfl rfl) (by decide)
  have hJ5 := zJ_f hJ f15 rfl
  have e80 : (z_up M4 179 0 0) 183 80 = M 23 6 := by rw [zf_c f15 183 rfl]; exact i7
  refine e_M_yields (s_M_in ?_)
  rw [if_pos (by omega), e80, zw (x := M 23 6 + x) (by omega) (by omega)]
  refine ⟨fun _ => ⟨by decide, s_M_yieldAt hJ5 (by omega) (fun M6 f6 => ?_)⟩, fun z => absurd (by decide) z⟩
  rw [zW_f f15 rfl]
  have f16 := zf_tr f15 f6
  have e3 : M6 179 3 = M 179 3 := zf_a f16 179 3 rfl
  refine s_M_laysBook (ord := M 24) (len := M 26) (nam := M 25) (by decide) (by decide) (by rw [e3]; exact i4) (by rw [e3]; exact zRw_f (S := []) (J := []) i5 (zf_c f16 183 rfl)) (fun M7 f7 _ _ b7 => ?_)
  have f17 := zf_tr f16 f7
  have e37 : M7 179 3 = M 179 3 := zf_a f17 179 3 rfl
  rw [e3] at b7
  refine s_M_givesG (ord := M 24) (len := M 26) (nam := M 25) (th := M 46) (by rw [e37]; exact i4) (by rw [e37]; exact b7) (fun h a b => by rw [zf_c f17 182 rfl]; exact i6 h a (by omega)) (zW_r _ _) (fun M8 f8 c8 => ?_)
  rw [e37] at c8 ⊢
  have f18 := zf_tr f17 f8
  have e38 : M8 179 3 = M 179 3 := zf_a f18 179 3 rfl
  have e39 : (z_up M8 179 1 0) 179 3 = M 179 3 := by rw [zu_i (by decide)]; exact e38
  refine s_M_lessMany (p := zUd (M 179 3) (M 24) (M 26) (M 25) (M 46) (zW M (M 23 6 + x))) (by rw [e39]; exact ⟨c2, c3⟩) (fun h a b => ?_) ?_
  · rw [e39] at b
    rw [zu_c (by decide), zu_c (by decide), c8 h a b, zf_c f18 182 rfl, (i6 h a b).1]
    rfl
  rw [e39, hD]
  refine s_M_enters (by rw [zu_s]; omega) ?_
  rw [zu_s]
  refine s_M_enters (by rw [zu_s]; omega) ?_
  rw [zu_s]
  refine ⟨rfl, ?_⟩
  have g1 : zf ([7, 8, 9, 10, 11, 12, 13] ++ [36, 37, 38, 39] ++ [48] ++ [4] ++ [192, 193] ++ [194, 195, 196, 197, 198, 199] ++ [200] ++ [180]) ([(5, 9)] ++ [(35, 4)] ++ [(45, 4), (45, 5)] ++ [(3, 1)] ++ [(179, 0)] ++ [] ++ [] ++ [] ++ [(179, 1)]) M (z_up M8 179 1 0) := zf_uj (zf_ww f18 rfl rfl) (by decide)
  refine zI_2 hI0 hn (zf_uj (zf_us (zf_uj (zf_us g1 (by decide)) (by decide)) (by decide)) (by decide)) rfl rfl 2 (by omega) ?_ (zu_s _ _ _ _) (fun i a b => ?_)
  · rw [zu_c (by decide), zu_c (by decide), zu_c (by decide), zu_c (by decide), zu_c (by decide), zf_a f8 3 1 rfl, zf_a f7 3 1 rfl, zf_a f6 3 1 rfl, zu_c (by decide)]; exact r1
  · have e4 : ∀ j, M8 4 j = M4 4 j := fun j => by rw [zf_c f8 4 rfl, zf_c f7 4 rfl, zf_c f6 4 rfl, zu_c (by decide)]
    rw [zu_c (by decide), zu_c (by decide), zu_c (by decide), zu_c (by decide), zu_c (by decide), e4]
    have : i = 0 ∨ i = 1 := by omega
    rcases this with rfl | rfl
    · rw [r2, zu_c (by decide), zu_i (by decide), zu_c (by decide)]; exact (zu_s _ _ _ _).symm
    · rw [r3, zu_c (by decide)]; exact (zu_s _ _ _ _).symm
