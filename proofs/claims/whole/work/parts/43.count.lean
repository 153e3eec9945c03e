/-! sums over a town; count(), but for today's yield -/
theorem s_Town_dryOfAll {d a : Nat} {M : zM} {F : Int → zM → Prop} (hc : 0 ≤ M a 5 ∧ M a 5 ≤ 8) (hv : ∀ i, 0 ≤ i → i < M a 5 → 0 ≤ M (a + 4) i ∧ M (a + 4) i ≤ 2000000) (H : F (zsm (M (a + 4)) (M a 5).toNat) M) : zCi (d + 1) 65 [z_r (9, 0) a] M F := by
  refine e_Town_dryOfAll (fun P hP => ?_)
  have loop : ∀ (m i : Nat), (i : Int) + m = M a 5 → P a (zsm (M (a + 4)) i) (i : Int) M := by
    intro m
    induction m with
    | zero =>
      intro i hi
      refine hP _ _ _ _ ⟨fun _ => ?_, fun z => absurd (by omega) z⟩
      rw [show i = (M a 5).toNat by omega]; exact H
    | succ m ih =>
      intro i hi
      have hn := ih (i + 1) (by omega)
      have hb := zsm_b (f := M (a + 4)) (B := 2000000) i (fun j x y => hv j x (by omega))
      have hvi := hv i (by omega) (by omega)
      rw [show zsm (M (a + 4)) (i + 1) = zsm (M (a + 4)) i + M (a + 4) i from rfl, show ((i + 1 : Nat) : Int) = (i : Int) + 1 by omega] at hn
      refine hP _ _ _ _ ⟨fun z => absurd z (by omega), fun _ => ⟨by omega, ?_⟩⟩
      rw [zw (x := _ + M (a + 4) i) (by omega) (by omega), zw (x := (i : Int) + 1) (by omega) (by omega)]
      exact hn
  exact loop (M a 5).toNat 0 (by omega)
theorem s_Town_hadOfAll {d a : Nat} {M : zM} {F : Int → zM → Prop} (hc : 0 ≤ M a 5 ∧ M a 5 ≤ 8) (hv : ∀ i, 0 ≤ i → i < M a 5 → 0 ≤ M (a + 5) i ∧ M (a + 5) i ≤ 2000000) (H : F (zsm (M (a + 5)) (M a 5).toNat) M) : zCi (d + 1) 144 [z_r (9, 0) a] M F := by
  refine e_Town_hadOfAll (fun P hP => ?_)
  have loop : ∀ (m i : Nat), (i : Int) + m = M a 5 → P a (zsm (M (a + 5)) i) (i : Int) M := by
    intro m
    induction m with
    | zero =>
      intro i hi
      refine hP _ _ _ _ ⟨fun _ => ?_, fun z => absurd (by omega) z⟩
      rw [show i = (M a 5).toNat by omega]; exact H
    | succ m ih =>
      intro i hi
      have hn := ih (i + 1) (by omega)
      have hb := zsm_b (f := M (a + 5)) (B := 2000000) i (fun j x y => hv j x (by omega))
      have hvi := hv i (by omega) (by omega)
      rw [show zsm (M (a + 5)) (i + 1) = zsm (M (a + 5)) i + M (a + 5) i from rfl, show ((i + 1 : Nat) : Int) = (i : Int) + 1 by omega] at hn
      refine hP _ _ _ _ ⟨fun z => absurd z (by omega), fun _ => ⟨by omega, ?_⟩⟩
      rw [zw (x := _ + M (a + 5) i) (by omega) (by omega), zw (x := (i : Int) + 1) (by omega) (by omega)]
      exact hn
  exact loop (M a 5).toNat 0 (by omega)
/-- count(), given that today's yield is the same -/
theorem p_count_of {d : Nat} {x n : Int} {M : zM} (hI : zI n M) (hn : n < 512) (hy : zCi (d + 4) 73 [z_r (10, 0) 0] M (fun v M1 => zCi (d + 4) 181 [z_r (11, 0) 179, z_i ((z_up M1 179 0 0) 183 80)] (z_up M1 179 0 0) (fun v' M2 => v = v' ∧ zI (n + 1) M2))) : zQ (d + 5) 143 253 [z_r (10, 0) 0, z_i x] [z_r (11, 0) 179, z_i x] n M := by
  have hI0 := hI
  have hq := zI_q hI0 hn (v := 0)
  obtain ⟨hb, ⟨t1, t2, t3, t4⟩, ⟨r1, r2, r3, r4⟩, hJ⟩ := hI
  have hH := hJ.2.1
  obtain ⟨c1, c2, c3⟩ := zJ_count hJ
  obtain ⟨⟨w1, ⟨g1, g2, g3, g4, g5, g6, g7, g8⟩, e1, e2, e3, e4, e5, e6⟩, j2, j3, j4, hP, hK, j7, j8⟩ := hJ
  have e4 : ∀ h, 0 ≤ h → h < 8 → M 27 h = M 183 (64 + h) := fun h a b => by have := e4 h a b; simp only [Int.zero_add] at this; exact this
  have e5 : ∀ h, 0 ≤ h → h < 8 → M 28 h = M 183 (72 + h) := fun h a b => by have := e5 h a b; simp only [Int.zero_add] at this; exact this
  have e6 : M 23 6 = M 183 80 := by simp only [Int.zero_add] at e6; exact e6
  have e1 : M 24 0 = M 183 0 := by have := e1 0 (by omega) (by omega); simp only [Int.zero_add] at this; exact this
  have g8 : ∀ h, 0 ≤ h → h < 8 → (0 ≤ M 27 h ∧ M 27 h ≤ M 23 6) ∧ 0 ≤ M 28 h ∧ M 28 h ≤ 9 * M 23 6 := g8
  unfold zQ
  refine e_W_count ⟨fun z => ?_, fun z => ?_, fun z => ?_, fun z => ?_, fun z => ?_, fun z => ?_, fun z => ?_, fun z => ?_, fun z => ?_, fun z => ?_, fun z => ?_, fun z => ?_, fun z => ?_⟩
  · refine e_M_count ⟨fun _ => ⟨?_, hq⟩, fun y => by omega, fun y => by omega, fun y => by omega, fun y => by omega, fun y => by omega, fun y => by omega, fun y => by omega, fun y => by omega, fun y => by omega, fun y => by omega, fun y => by omega, fun y => by omega⟩
    rw [zu_i (by decide)]; exact c1
  · refine e_M_count ⟨fun y => by omega, fun _ => ⟨by decide, ?_, hq⟩, fun y => by omega, fun y => by omega, fun y => by omega, fun y => by omega, fun y => by omega, fun y => by omega, fun y => by omega, fun y => by omega, fun y => by omega, fun y => by omega, fun y => by omega⟩
    rw [zu_c (by decide)]; exact e6
  · refine zCi_mono hy (fun v M1 h => ?_)
    exact e_M_count ⟨fun y => by omega, fun y => by omega, fun _ => ⟨by decide, h⟩, fun y => by omega, fun y => by omega, fun y => by omega, fun y => by omega, fun y => by omega, fun y => by omega, fun y => by omega, fun y => by omega, fun y => by omega, fun y => by omega⟩
  · refine s_Pump_thirstOfAll (by rw [c1]; exact ⟨c2, c3⟩) (fun h a b => by have := hH h a (by omega); omega) ?_
    refine e_M_count ⟨fun y => by omega, fun y => by omega, fun y => by omega, fun _ => s_M_allThirst (by rw [zu_i (by decide)]; exact ⟨c2, c3⟩) (fun h a b => ?_) ⟨?_, hq⟩, fun y => by omega, fun y => by omega, fun y => by omega, fun y => by omega, fun y => by omega, fun y => by omega, fun y => by omega, fun y => by omega, fun y => by omega⟩
    · rw [zu_i (by decide)] at b
      have := hH h a b
      rw [zu_c (by decide)]; omega
    · rw [zu_i (by decide), zu_f (by decide), c1]
      exact zsm_c _ (fun i a b => (hH i a (by omega)).1)
  · refine s_Town_dryOfAll (by rw [c1]; exact ⟨c2, c3⟩) (fun i a b => by have := g8 i a (by omega); show 0 ≤ M 27 i ∧ M 27 i ≤ 2000000; omega) ?_
    refine e_M_count ⟨fun y => by omega, fun y => by omega, fun y => by omega, fun y => by omega, fun _ => ?_, fun y => by omega, fun y => by omega, fun y => by omega, fun y => by omega, fun y => by omega, fun y => by omega, fun y => by omega, fun y => by omega⟩
    rw [zu_i (by decide)]
    refine s_M_sumFrom (by omega) (by omega) ⟨c2, c3⟩ (fun i a b => by have := g8 i a (by omega); have := e4 i a (by omega); rw [zu_c (by decide)]; omega) ⟨?_, hq⟩
    rw [zu_f (by decide), c1]
    exact zsm_c _ (fun i a b => e4 i a (by omega))
  · refine s_Town_hadOfAll (by rw [c1]; exact ⟨c2, c3⟩) (fun i a b => by have := g8 i a (by omega); show 0 ≤ M 28 i ∧ M 28 i ≤ 2000000; omega) ?_
    refine e_M_count ⟨fun y => by omega, fun y => by omega, fun y => by omega, fun y => by omega, fun y => by omega, fun _ => ?_, fun y => by omega, fun y => by omega, fun y => by omega, fun y => by omega, fun y => by omega, fun y => by omega, fun y => by omega⟩
    rw [zu_i (by decide)]
    refine s_M_sumFrom (by omega) (by omega) ⟨c2, c3⟩ (fun i a b => by have := g8 i a (by omega); have := e5 i a (by omega); rw [zu_c (by decide)]; omega) ⟨?_, hq⟩
    rw [zu_f (by decide), c1]
    exact zsm_c _ (fun i a b => e5 i a (by omega))
  · refine ⟨by decide, e_M_count ⟨fun y => by omega, fun y => by omega, fun y => by omega, fun y => by omega, fun y => by omega, fun y => by omega, fun _ => ⟨by decide, ?_, hq⟩, fun y => by omega, fun y => by omega, fun y => by omega, fun y => by omega, fun y => by omega, fun y => by omega⟩⟩
    rw [zu_c (by decide)]; exact e1
  · refine e_M_count ⟨fun y => by omega, fun y => by omega, fun y => by omega, fun y => by omega, fun y => by omega, fun y => by omega, fun y => by omega, fun _ => ⟨?_, hq⟩, fun y => by omega, fun y => by omega, fun y => by omega, fun y => by omega, fun y => by omega⟩
    rw [zu_i (by decide)]; exact j3.1
  · refine e_M_count ⟨fun y => by omega, fun y => by omega, fun y => by omega, fun y => by omega, fun y => by omega, fun y => by omega, fun y => by omega, fun y => by omega, fun _ => ⟨?_, hq⟩, fun y => by omega, fun y => by omega, fun y => by omega, fun y => by omega⟩
    rw [zu_i (by decide)]; exact j7.1
  · refine e_M_count ⟨fun y => by omega, fun y => by omega, fun y => by omega, fun y => by omega, fun y => by omega, fun y => by omega, fun y => by omega, fun y => by omega, fun y => by omega, fun _ => ⟨?_, hq⟩, fun y => by omega, fun y => by omega, fun y => by omega⟩
    rw [zu_i (by decide)]; exact hP.1
  · refine e_M_count ⟨fun y => by omega, fun y => by omega, fun y => by omega, fun y => by omega, fun y => by omega, fun y => by omega, fun y => by omega, fun y => by omega, fun y => by omega, fun y => by omega, fun _ => ⟨?_, hq⟩, fun y => by omega, fun y => by omega⟩
    rw [zu_i (by decide)]; exact r1
  · refine e_M_count ⟨fun y => by omega, fun y => by omega, fun y => by omega, fun y => by omega, fun y => by omega, fun y => by omega, fun y => by omega, fun y => by omega, fun y => by omega, fun y => by omega, fun y => by omega, fun _ => ⟨?_, hq⟩, fun y => by omega⟩
    rw [zu_i (by decide)]; exact t1
  · exact e_M_count ⟨fun y => by omega, fun y => by omega, fun y => by omega, fun y => by omega, fun y => by omega, fun y => by omega, fun y => by omega, fun y => by omega, fun y => by omega, fun y => by omega, fun y => by omega, fun y => by omega, fun _ => ⟨rfl, hq⟩⟩
