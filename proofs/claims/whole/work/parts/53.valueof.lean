/-! the value of a rule, on both sides -/
def zvr (x1 x2 x3 x4 i : Int) : Int := if i = 0 then x1 else if i = 1 then x2 else if i = 2 then x3 else x4
/-- what a rule says -/
def zRv (e : Int) (sg : Int → Int) (x1 x2 x3 x4 : Int) : Int := if e = 0 then z_wr (20 - z_wr (2 * x1)) else (zex (zvr x1 x2 x3 x4) (zpr sg e 400 0 0 0 []).2.2.2 (0, fun _ => 0)).2 0
theorem s_Rule_isVariable {d : Nat} {c : Int} {M : zM} {F : Int → zM → Prop} (H : F (if 0 ≤ zvar c then 1 else 0) M) : zCi (d + 1) 19 [z_i c] M F := by
  have t : zvar c = if c = 104 then 0 else if c = 100 then 1 else if c = 110 then 2 else if c = 116 then 3 else -1 := rfl
  refine e_Rule_isVariable ⟨fun q => ?_, fun q => ⟨fun q2 => ?_, fun q2 => ⟨fun q3 => ?_, fun q3 => ⟨fun q4 => ?_, fun q4 => ?_⟩⟩⟩⟩
  · rw [t, if_pos q, if_pos (by decide)] at H; exact H
  · rw [t, if_neg q, if_pos q2, if_pos (by decide)] at H; exact H
  · rw [t, if_neg q, if_neg q2, if_pos q3, if_pos (by decide)] at H; exact H
  · rw [t, if_neg q, if_neg q2, if_neg q3, if_neg q4, if_neg (by decide)] at H; exact H
  · rw [t, if_neg q, if_neg q2, if_neg q3, if_pos (Classical.not_not.mp q4), if_pos (by decide)] at H; exact H
theorem zex_vr {vr vr' : Int → Int} (hv : ∀ i, 0 ≤ i → i < 4 → vr i = vr' i) : ∀ (cs : List Int) (n : Nat) (q : Nat × (Int → Int)), zwf cs n → zex vr cs q = zex vr' cs q
  | [], _, _, _ => rfl
  | c :: cs, n, q, hw => by
    have e1 : zac vr c q = zac vr' c q := by
      unfold zac
      rcases hw with ⟨w1, _⟩ | ⟨w1, w2, _⟩ | ⟨w1, w2, _⟩ | ⟨w1, w2, _⟩
      · rw [if_pos w1, if_pos w1]
      · rw [if_neg (by omega), if_pos w2, if_neg (by omega), if_pos w2]
      · rw [hv (c - 1000) (by omega) (by omega)]
      · rw [if_neg (by omega), if_neg (by omega), if_neg (by omega), if_neg (by omega), if_neg (by omega), if_neg (by omega)]
    show zex vr cs (zac vr c q) = zex vr' cs (zac vr' c q)
    rw [e1]
    rcases hw with ⟨_, _, _, w⟩ | ⟨_, _, _, w⟩ | ⟨_, _, _, w⟩ | ⟨_, _, _, _, w⟩
    · exact zex_vr hv cs _ _ w
    · exact zex_vr hv cs _ _ w
    · exact zex_vr hv cs _ _ w
    · exact zex_vr hv cs _ _ w
theorem zat_e {sg : Int → Int} {e : Int} : ¬ (48 ≤ zat sg e e ∧ zat sg e e ≤ 57) := by unfold zat; rw [if_neg (by omega)]; omega
theorem zpr_V {sg : Int → Int} {e k' : Int} {vr : Int → Int} {cs : List Int} {f : Nat} (he : 0 ≤ e) (h : zpr sg e f 0 0 0 [] = (true, e, k', cs)) (hv : ∀ i, 0 ≤ i → i < 4 → z_ri (vr i)) : ∃ v, zVl vr cs v := by
  obtain ⟨-, -, -, ds, e1, hA, -⟩ := zev_ind (d := 0) (a0 := 0) (E := fun _ _ _ _ => True) (fun B k x c s a q o n x5 v p M _ _ _ _ _ => ⟨fun _ _ _ _ _ _ => trivial, fun _ _ _ _ _ _ => trivial, fun _ _ => trivial, fun _ _ _ => trivial⟩) hv f 0 0 0 [] _ _ _ (by omega) (by omega) he (by omega) (by omega) h zat_e
  obtain ⟨v, -, hV, -⟩ := hA (by omega)
  rw [List.nil_append] at e1
  rw [e1]
  exact ⟨v, hV⟩
theorem zvr_ri {x1 x2 x3 x4 : Int} (h1 : z_ri x1) (h2 : z_ri x2) (h3 : z_ri x3) (h4 : z_ri x4) : ∀ i, 0 ≤ i → i < 4 → z_ri (zvr x1 x2 x3 x4 i) := by
  intro i _ _
  unfold zvr
  split
  · exact h1
  split
  · exact h2
  split
  · exact h3
  · exact h4
theorem s_M_ruledV {d : Nat} {e : Int} {sg : Int → Int} {M : zM} {F : Int → zM → Prop} (hU : iU e sg (M 179 22) (M 190)) (h0 : z_ri (M 193 0)) (h1 : z_ri (M 193 1)) (h2 : z_ri (M 193 2)) (h3 : z_ri (M 193 3)) (H : ∀ M', zf [192] [] M M' → F (zRv e sg (M 193 0) (M 193 1) (M 193 2) (M 193 3)) M') : zCi (d + 3) 184 [z_r (11, 0) 179] M F := by
  rcases hU with ⟨u1, u2⟩ | ⟨u1, u2, cs, u3, u4, u5, u6⟩
  · refine s_M_ruled [] u2 (by simp) (fun k hk => absurd hk (by simp)) (fun _ => ?_) (fun z => absurd rfl z)
    have := H M zf_rf
    unfold zRv at this
    rw [if_pos u1] at this
    exact this
  · obtain ⟨w1, w2⟩ := zpr_wf u3 u5
    refine s_M_ruled cs u4 (by omega) u6 (fun z => absurd z w1) (fun _ => ⟨w2, fun M' f => ?_⟩)
    have := H M' f
    unfold zRv at this
    rw [if_neg (by omega), u3] at this
    obtain ⟨v, hV⟩ := zpr_V (vr := zvr (M 193 0) (M 193 1) (M 193 2) (M 193 3)) (by omega) u3 (zvr_ri h0 h1 h2 h3)
    have e1 := (hV (0, fun _ => 0)).2.2
    have e2 := (hV (0, M 192)).2.2
    have e3 : zex (M 193) cs (0, M 192) = zex (zvr (M 193 0) (M 193 1) (M 193 2) (M 193 3)) cs (0, M 192) := by
      refine zex_vr (fun i a b => ?_) cs 0 _ w2
      have : i = 0 ∨ i = 1 ∨ i = 2 ∨ i = 3 := by omega
      rcases this with rfl | rfl | rfl | rfl <;> rfl
    have e1 : (zex (zvr (M 193 0) (M 193 1) (M 193 2) (M 193 3)) cs (0, fun _ => 0)).2 0 = v := e1
    have e2 : (zex (zvr (M 193 0) (M 193 1) (M 193 2) (M 193 3)) cs (0, M 192)).2 0 = v := e2
    rw [e3, e2]
    rw [e1] at this
    exact this
theorem s_Rule_valueOf {d a0 : Nat} {x1 x2 x3 x4 cl : Int} {cd : Int → Int} {M : zM} {F : Int → zM → Prop} (hU : iU (M a0 1) (M (a0 + 1)) cl cd) (h1 : z_ri x1) (h2 : z_ri x2) (h3 : z_ri x3) (h4 : z_ri x4) (H : ∀ M', zf [a0 + 2, a0 + 3, a0 + 4, a0 + 5, a0 + 6, a0 + 7, a0 + 8] [(a0, 9)] M M' → F (zRv (M a0 1) (M (a0 + 1)) x1 x2 x3 x4) M') : zCi (d + 3) 48 [z_r (6, 0) a0, z_i x1, z_i x2, z_i x3, z_i x4] M F := by
  refine e_Rule_valueOf (fun P hP => ?_)
  rcases hU with ⟨u1, u2⟩ | ⟨u1, u2, cs, u3, u4, u5, u6⟩
  · refine ⟨fun z => absurd u1 z, fun _ => ?_⟩
    have := H M zf_rf
    unfold zRv at this
    rw [if_pos u1, Int.mul_comm 2 x1] at this
    exact this
  · refine ⟨fun _ => ⟨by decide, ?_⟩, fun z => absurd (by omega) z⟩
    generalize he : M a0 1 = e at *
    generalize hsg : M (a0 + 1) = sg at *
    have hvr := zvr_ri h1 h2 h3 h4
    have hS : zSt d a0 sg e (zvr x1 x2 x3 x4) (fun x5 x6 p M => P a0 x1 x2 x3 x4 x5 x6 p M) := by
      intro B k x c s a q o n x5 v p M1 b1 b2 hr p0 pe
      have e1 : M1 a0 1 = e := by
        rcases hr.2.2 a0 1 with z | z | z
        · omega
        · omega
        · rw [z]; exact b1
      have e2 : M1 (a0 + 1) = sg := by
        funext j
        rcases hr.2.2 (a0 + 1) j with z | z | z
        · omega
        · omega
        · rw [z, b2]
      have zp := zw (x := p + 1) (by omega) (by omega)
      have hat : p + 1 < e → zat sg e (p + 1) = sg (p + 1) := fun z => by unfold zat; rw [if_pos z]
      refine ⟨fun g1 g2 v0 v9 hn Hn => ?_, fun g1 g2 v0 v9 hn Hn => ?_, fun g1 Hn => ?_, fun g1 g2 Hn => ?_⟩
      · have hz : zdi (sg p) = sg p - 48 := by unfold zdi; rw [if_pos ⟨g1, g2⟩]
        have ev : z_wr (z_wr (v * 10) + (sg p - 48)) = 10 * v + sg p - 48 := by rw [zw (x := v * 10) (by omega) (by omega), zw (by omega) (by omega)]; omega
        refine hP a0 x1 x2 x3 x4 x5 v p M1 ⟨fun z => absurd z (by omega), fun _ => ⟨⟨p0, by omega⟩, s_W_digitOf ?_⟩⟩
        rw [e2, hz, e1, zp, ev]
        refine ⟨fun z => absurd z (by omega), fun _ => ⟨fun w => l_thing hr (fun M' h' => ⟨fun _ => Hn M' h', fun z => absurd (by omega) z⟩), fun w => ⟨⟨by omega, by omega⟩, s_W_digitOf ?_⟩⟩⟩
        rw [hat (by omega)] at hn
        have hz2 : zdi (sg (p + 1)) = -1 := by unfold zdi; rw [if_neg hn]
        rw [hz2]
        exact ⟨fun z => absurd rfl z, fun _ => l_thing hr (fun M' h' => ⟨fun _ => Hn M' h', fun z => absurd (by omega) z⟩)⟩
      · have hz : zdi (sg p) = sg p - 48 := by unfold zdi; rw [if_pos ⟨g1, g2⟩]
        have ev : z_wr (z_wr (v * 10) + (sg p - 48)) = 10 * v + sg p - 48 := by rw [zw (x := v * 10) (by omega) (by omega), zw (by omega) (by omega)]; omega
        have l := (zat_lt (sg := sg) (e := e) (p := p + 1) (by omega)).1
        refine hP a0 x1 x2 x3 x4 x5 v p M1 ⟨fun z => absurd z (by omega), fun _ => ⟨⟨p0, by omega⟩, s_W_digitOf ?_⟩⟩
        rw [e2, hz, e1, zp, ev]
        refine ⟨fun z => absurd z (by omega), fun _ => ⟨fun w => absurd w (by omega), fun w => ⟨⟨by omega, by omega⟩, s_W_digitOf ?_⟩⟩⟩
        rw [hat (by omega)] at hn
        have hz2 : zdi (sg (p + 1)) = sg (p + 1) - 48 := by unfold zdi; rw [if_pos hn]
        rw [hz2]
        exact ⟨fun _ => ⟨fun _ => Hn, fun z => absurd (by omega) z⟩, fun z => absurd (by omega) z⟩
      · have t : zvar (sg p) = if sg p = 104 then 0 else if sg p = 100 then 1 else if sg p = 110 then 2 else if sg p = 116 then 3 else -1 := rfl
        have g4 : sg p = 104 ∨ sg p = 100 ∨ sg p = 110 ∨ sg p = 116 := by
          rw [t] at g1
          by_cases q1 : sg p = 104
          · omega
          by_cases q2 : sg p = 100
          · omega
          by_cases q3 : sg p = 110
          · omega
          by_cases q4 : sg p = 116
          · omega
          rw [if_neg q1, if_neg q2, if_neg q3, if_neg q4] at g1
          omega
        have hz : zdi (sg p) = -1 := by unfold zdi; rw [if_neg (by omega)]
        refine hP a0 x1 x2 x3 x4 x5 0 p M1 ⟨fun z => absurd z (by omega), fun _ => ⟨⟨p0, by omega⟩, s_W_digitOf ?_⟩⟩
        rw [e2, hz, zp]
        refine ⟨fun _ => s_Rule_isVariable ?_, fun z => absurd rfl z⟩
        rw [if_pos g1]
        have fin : ∀ x, zvr x1 x2 x3 x4 (zvar (sg p)) = x → zCv (d + 2) 50 [z_r (6, 0) a0, z_i x] M1 (fun M50 => ((((-1 : Int) ≠ (-1)) → P a0 x1 x2 x3 x4 1 0 (p + 1) M50) ∧ (¬ ((-1 : Int) ≠ (-1)) → (((sg p) = 41 → P a0 x1 x2 x3 x4 1 0 (p + 1) M50) ∧ (¬ ((sg p) = 41) → zCi (d + 2) 19 [z_i (sg p)] M50 (fun v53 M52 => ((v53 = 0 → P a0 x1 x2 x3 x4 0 0 (p + 1) M52) ∧ (¬ (v53 = 0) → P a0 x1 x2 x3 x4 1 0 (p + 1) M52)))))))) := by
          intro x ex
          rw [ex] at Hn
          refine l_thing hr (fun M' h' => ⟨fun z => absurd rfl z, fun _ => ⟨fun _ => Hn M' h', fun _ => s_Rule_isVariable ?_⟩⟩)
          rw [if_pos g1]
          exact ⟨fun z => absurd z (by decide), fun _ => Hn M' h'⟩
        refine ⟨fun z => absurd z (by decide), fun _ => ⟨fun q1 => ⟨fun q2 => ⟨fun q3 => fin x4 ?_, fun q3 => fin x3 ?_⟩, fun q2 => fin x2 ?_⟩, fun q1 => fin x1 ?_⟩⟩
        · rw [t, if_neg q1, if_neg q2, if_neg q3, if_pos (by omega)]; rfl
        · rw [t, if_neg q1, if_neg q2, if_pos (Classical.not_not.mp q3)]; rfl
        · rw [t, if_neg q1, if_pos (Classical.not_not.mp q2)]; rfl
        · rw [t, if_pos (Classical.not_not.mp q1)]; rfl
      · have hz : zdi (sg p) = -1 := by unfold zdi; rw [if_neg g1]
        refine hP a0 x1 x2 x3 x4 x5 0 p M1 ⟨fun z => absurd z (by omega), fun _ => ⟨⟨p0, by omega⟩, s_W_digitOf ?_⟩⟩
        rw [e2, hz, zp]
        refine ⟨fun _ => s_Rule_isVariable ?_, fun z => absurd rfl z⟩
        rw [if_neg (by omega)]
        refine ⟨fun _ => zCv_mono Hn (fun M' h' => ⟨fun z => absurd rfl z, fun _ => ⟨fun q => ?_, fun q => s_Rule_isVariable ?_⟩⟩), fun z => absurd rfl z⟩
        · rw [if_pos q] at h'; exact h'
        · rw [if_neg q] at h'
          rw [if_neg (by omega)]
          exact ⟨fun _ => h', fun z => absurd rfl z⟩
    obtain ⟨-, -, -, ds, d1, hA, -⟩ := zev_ind hS hvr 400 0 0 0 [] e 0 cs (by omega) (by omega) (by omega) (by omega) (by omega) u3 zat_e
    rw [List.nil_append] at d1
    subst d1
    obtain ⟨v, -, hV, hK⟩ := hA (by omega)
    have ev : zRv e sg x1 x2 x3 x4 = v := by
      unfold zRv
      rw [if_neg (by omega), u3]
      exact (hV (0, fun _ => 0)).2.2
    rw [ev] at H
    have h0 : zRL a0 M 0 (M (a0 + 2) 0) (M (a0 + 3) 0) (M (a0 + 4) 0) (M (a0 + 5) 0) (M (a0 + 6) 0) (M (a0 + 7) 0) (M (a0 + 8) 0) (z_up M a0 9 0) := by
      refine ⟨⟨zu_s _ _ _ _, by omega, by omega⟩, ⟨zu_c (by omega), zu_c (by omega), zu_c (by omega), zu_c (by omega), zu_c (by omega), zu_c (by omega), zu_c (by omega)⟩, fun b j => ?_⟩
      by_cases q : b = a0 ∧ j = 9
      · exact Or.inl q
      · rw [z_up_ne M _ q]; exact Or.inr (Or.inr rfl)
    refine l_open (zRL_c 0 h0) (fun M1 hr1 => ?_)
    refine hK M _ _ M1 he hsg hr1 (fun x' c' s' a' q' o' M2 hr2 ev2 => ?_)
    have e1 : M2 a0 1 = e := by
      rcases hr2.2.2 a0 1 with z | z | z
      · omega
      · omega
      · rw [z]; exact he
    refine hP a0 x1 x2 x3 x4 1 0 e M2 ⟨fun _ => l_close hr2 (fun M3 hr3 => l_value hr3 ?_), fun z => absurd (by omega) z⟩
    rw [ev2]
    refine H M3 (fun b j g1 g2 => ?_)
    rcases hr3.2.2 b j with z | z | z
    · exact absurd (by rw [z.1, z.2]; exact List.mem_cons_self) g2
    · refine absurd ?_ g1
      simp only [List.mem_cons, List.not_mem_nil, or_false]
      omega
    · exact z
