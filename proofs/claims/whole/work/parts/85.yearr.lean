/-! the reference reads a year -/
theorem zsl_6 : zsl 6 = [100, 109, 114, 115] := by decide
theorem zfl_6 (c : Int) : zfl c (zsl 6) 0 = zaa c := by
  rw [zsl_6]
  simp only [zfl, zaa]
  repeat' split
  all_goals omega
def zYB (sg : Int → Int) (e p : Int) (M : zM) : Prop := M 179 12 = p ∧ M 179 13 = e ∧ (0 ≤ e ∧ e ≤ 60) ∧ ∀ j, 0 ≤ j → j < e → M 185 j = sg j
theorem s_Y_takesOf {d : Nat} {sg : Int → Int} {e p : Int} {M : zM} {F : Int → zM → Prop} (h : zYB sg e p M) (hp : 0 ≤ p ∧ p ≤ e) (H : F (zaa (zat sg e p)) (z_up M 179 12 (if zaa (zat sg e p) < 0 then p else p + 1))) : zCi (d + 9) 157 [z_r (11, 0) 179, z_r (104, 4) 6] M F := by
  obtain ⟨h1, h2, h3, h4⟩ := h
  have ev : (if M 179 12 < M 179 13 then zfl (M 185 (M 179 12)) (zsl 6) 0 else -1) = zaa (zat sg e p) := by
    rw [h1, h2, zfl_6]
    unfold zat
    by_cases q : p < e
    · rw [if_pos q, if_pos q, h4 p hp.1 q]
    · rw [if_neg q, if_neg q]; rfl
  refine e_M_takesOf (s_M_among (by rw [zsl_6]; rfl) (by decide) (by rw [h1, h2]; omega) ?_)
  rw [ev, h1]
  refine ⟨fun z => s_M_flag (b := false) rfl ?_, fun z => s_M_flag (b := true) rfl ?_⟩
  · show F _ (z_up M 179 12 (z_wr (p + 0)))
    rw [zw (by omega) (by omega), Int.add_zero]
    rw [if_pos z] at H; exact H
  · show F _ (z_up M 179 12 (z_wr (p + 1)))
    rw [zw (by omega) (by omega)]
    rw [if_neg z] at H; exact H
theorem s_Y_num {d : Nat} {sg : Int → Int} {e p : Int} {M : zM} {F : Int → zM → Prop} (h : zYB sg e p M) (hp : 0 ≤ p ∧ p ≤ e) (H1 : zdg1 sg e p = true → F (zdi (sg p)) (z_up M 179 12 (p + 1))) (H0 : zdg1 sg e p = false → F (-1) M) : zCi (d + 3) 164 [z_r (11, 0) 179, z_i 1] M F := by
  obtain ⟨h1, h2, h3, h4⟩ := h
  have ev : zpd (M 179 13) (M 185) (M 179 12) = zdg1 sg e p := by
    rw [h1, h2]
    unfold zpd zdg1 zat
    by_cases q : p < e
    · rw [if_pos q, h4 p hp.1 q, decide_eq_true q]; simp
    · rw [if_neg q, decide_eq_false q]; rfl
  refine s_M_number1 (by rw [h1, h2]; omega) (fun z => ?_) (fun z => ?_)
  · rw [ev] at z
    have l := zdg1_lt z
    rw [h1, h4 p hp.1 l.1]
    have := H1 z
    unfold zdi at this
    rw [if_pos l.2] at this
    exact this
  · rw [ev] at z; exact H0 z
/-- an act in the arrays -/
def zAk (sg : Int → Int) (k p : Int) (M : zM) : Prop := M 203 k = zaa (sg p) ∧ (zaa (sg p) ≤ 1 → M 204 k = zdi (sg (p + 1))) ∧ (zaa (sg p) = 1 → M 205 k = zdi (sg (p + 2)))
theorem s_M_readsAct {d : Nat} {sg : Int → Int} {e p k : Int} {M : zM} {F : Int → zM → Prop} (h : zYB sg e p M) (hp : 0 ≤ p ∧ p < e) (hk : M 179 40 = k) (hk2 : 0 ≤ k ∧ k < 60) (H : ∀ M', zf [203, 204, 205] [(179, 12), (179, 40)] M M' → zYB sg e (zac1 sg e p).2 M' → M' 179 40 = k + 1 → (∀ j, j ≠ k → M' 203 j = M 203 j ∧ M' 204 j = M 204 j ∧ M' 205 j = M 205 j) → ((zac1 sg e p).1 = true → zAk sg k p M') → F (if (zac1 sg e p).1 = true then 1 else 0) M') : zCi (d + 10) 204 [z_r (11, 0) 179] M F := by
  have hb := h
  obtain ⟨h1, h2, h3, h4⟩ := h
  have ea : zat sg e p = sg p := by unfold zat; rw [if_pos hp.2]
  refine e_M_readsAct (s_Y_takesOf hb (by omega) ?_)
  rw [hk, ea]
  generalize hv : zaa (sg p) = a at *
  generalize hq : (if a < 0 then p else p + 1) = q
  have r1 : ∀ x, (z_up (z_up M 179 12 q) 203 k x) 179 40 = k := fun x => by rw [zu_c (by decide), zu_i (by decide)]; exact hk
  have r2 : ∀ x y, (z_up (z_up (z_up M 179 12 q) 203 k x) 179 40 y) 203 k = x := fun x y => by rw [zu_c (by decide), zu_s]
  rw [r1, r2, zw (x := k + 1) (by omega) (by omega)]
  generalize hM1 : z_up (z_up (z_up M 179 12 q) 203 k a) 179 40 (k + 1) = M1
  have f1 : zf [203, 204, 205] [(179, 12), (179, 40)] M M1 := by rw [← hM1]; exact zf_uj (zf_us (zf_uj zf_rf (by decide)) (by decide)) (by decide)
  have m12 : M1 179 12 = q := by rw [← hM1, zu_i (by decide), zu_c (by decide), zu_s]
  have m40 : M1 179 40 = k + 1 := by rw [← hM1, zu_s]
  have m205 : ∀ j, M1 203 j = if j = k then a else M 203 j := fun j => by
    rw [← hM1, zu_c (by decide)]
    by_cases w : j = k
    · rw [if_pos w, w, zu_s]
    · rw [if_neg w, zu_i w, zu_c (by decide)]
  have m206 : ∀ j, M1 204 j = M 204 j := fun j => by rw [← hM1, zu_c (by decide), zu_c (by decide), zu_c (by decide)]
  have m207 : ∀ j, M1 205 j = M 205 j := fun j => by rw [← hM1, zu_c (by decide), zu_c (by decide), zu_c (by decide)]
  have yb : ∀ M2, zf [203, 204, 205] [(179, 12), (179, 40)] M M2 → ∀ r, M2 179 12 = r → zYB sg e r M2 := fun M2 f2 r hr => ⟨hr, by rw [zf_a f2 179 13 rfl]; exact h2, h3, fun j x y => by rw [zf_c f2 185 rfl]; exact h4 j x y⟩
  unfold zac1 at H
  rw [ea, hv] at H
  refine ⟨hk2, hk2, fun z => ⟨hk2, fun _ => ?_, fun w => absurd z w⟩, fun z => ⟨hk2, fun z2 => ?_, fun z2 => ⟨hk2, fun w => absurd w z, fun _ => ?_⟩⟩⟩
  · rw [if_pos z] at H hq
    exact H M1 f1 (yb M1 f1 p (by rw [m12, ← hq])) m40 (fun j w => ⟨by rw [m205, if_neg w], m206 j, m207 j⟩) (fun w => absurd w Bool.false_ne_true)
  · rw [if_neg z] at H hq
    have qe : q = p + 1 := hq.symm
    subst qe
    refine s_Y_num (yb M1 f1 (p + 1) m12) (by omega) (fun g => ⟨hk2, hk2, ?_⟩) (fun g => ⟨hk2, hk2, ?_⟩)
    · have lg := zdg1_lt g
      have x9 : 0 ≤ zdi (sg (p + 1)) := by unfold zdi; rw [if_pos lg.2]; omega
      rw [zu_s, zu_c (by decide), zu_c (by decide), m205, if_pos rfl]
      generalize hM2 : z_up (z_up M1 179 12 (p + 1 + 1)) 204 k (zdi (sg (p + 1))) = M2
      have f2 : zf [203, 204, 205] [(179, 12), (179, 40)] M M2 := by rw [← hM2]; exact zf_us (zf_uj f1 (by decide)) (by decide)
      have n12 : M2 179 12 = p + 2 := by rw [← hM2, zu_c (by decide), zu_s]; omega
      have n40 : M2 179 40 = k + 1 := by rw [← hM2, zu_c (by decide), zu_i (by decide)]; exact m40
      have n205 : ∀ j, M2 203 j = if j = k then a else M 203 j := fun j => by rw [← hM2, zu_c (by decide), zu_c (by decide)]; exact m205 j
      have n206 : ∀ j, M2 204 j = if j = k then zdi (sg (p + 1)) else M 204 j := fun j => by
        rw [← hM2]
        by_cases w : j = k
        · rw [if_pos w, w, zu_s]
        · rw [if_neg w, zu_i w, zu_c (by decide)]; exact m206 j
      have n207 : ∀ j, M2 205 j = M 205 j := fun j => by rw [← hM2, zu_c (by decide), zu_c (by decide)]; exact m207 j
      refine ⟨fun _ => ⟨hk2, fun w => ⟨hk2, hk2, ?_⟩, fun w => ?_⟩, fun w => absurd x9 w⟩
      · have a0 : a = 0 := by omega
        rw [if_pos a0, if_pos g] at H
        rw [zu_s]
        refine ⟨fun y => absurd y (by decide), fun _ => H _ (zf_us f2 (by decide)) (yb _ (zf_us f2 (by decide)) _ (by rw [zu_c (by decide)]; exact n12)) (by rw [zu_c (by decide)]; exact n40) (fun j y => ⟨by rw [zu_c (by decide), n205, if_neg y], by rw [zu_c (by decide), n206, if_neg y], by rw [zu_i y]; exact n207 j⟩) (fun _ => ⟨by rw [zu_c (by decide), n205, if_pos rfl, hv], fun _ => by rw [zu_c (by decide), n206, if_pos rfl], fun y => by omega⟩)⟩
      · have a1 : a = 1 := Classical.not_not.mp w
        rw [if_neg (by omega), if_pos a1, if_pos g] at H
        refine s_Y_num (yb M2 f2 (p + 2) n12) (by omega) (fun g2 => ⟨hk2, hk2, ?_⟩) (fun g2 => ⟨hk2, hk2, ?_⟩)
        · have lg2 := zdg1_lt g2
          have y9 : 0 ≤ zdi (sg (p + 2)) := by unfold zdi; rw [if_pos lg2.2]; omega
          rw [if_pos g2] at H
          rw [zu_s]
          have f3 : zf [203, 204, 205] [(179, 12), (179, 40)] M (z_up (z_up M2 179 12 (p + 2 + 1)) 205 k (zdi (sg (p + 2)))) := zf_us (zf_uj f2 (by decide)) (by decide)
          refine ⟨fun y => absurd y (by omega), fun _ => H _ f3 (yb _ f3 _ (by rw [zu_c (by decide), zu_s]; show p + 2 + 1 = p + 3; omega)) (by rw [zu_c (by decide), zu_i (by decide)]; exact n40) (fun j y => ⟨by rw [zu_c (by decide), zu_c (by decide), n205, if_neg y], by rw [zu_c (by decide), zu_c (by decide), n206, if_neg y], by rw [zu_i y, zu_c (by decide)]; exact n207 j⟩) (fun _ => ⟨by rw [zu_c (by decide), zu_c (by decide), n205, if_pos rfl, hv], fun _ => by rw [zu_c (by decide), zu_c (by decide), n206, if_pos rfl], fun _ => by rw [zu_s]⟩)⟩
        · rw [if_neg (by rw [g2]; decide)] at H
          rw [zu_s]
          have f3 : zf [203, 204, 205] [(179, 12), (179, 40)] M (z_up M2 205 k (-1)) := zf_us f2 (by decide)
          exact ⟨fun _ => H _ f3 (yb _ f3 _ (by rw [zu_c (by decide)]; exact n12)) (by rw [zu_c (by decide)]; exact n40) (fun j y => ⟨by rw [zu_c (by decide), n205, if_neg y], by rw [zu_c (by decide), n206, if_neg y], by rw [zu_i y]; exact n207 j⟩) (fun y => absurd y Bool.false_ne_true), fun y => absurd (by decide) y⟩
    · rw [zu_s]
      refine ⟨fun y => absurd y (by decide), fun _ => ⟨hk2, hk2, ?_⟩⟩
      rw [zu_s]
      have f3 : zf [203, 204, 205] [(179, 12), (179, 40)] M (z_up (z_up M1 204 k (-1)) 205 k (-1)) := zf_us (zf_us f1 (by decide)) (by decide)
      have hr : (if a = 0 then (if zdg1 sg e (p + 1) = true then (true, p + 2) else (false, p + 1)) else if a = 1 then (if zdg1 sg e (p + 1) = true then (if zdg1 sg e (p + 2) = true then (true, p + 3) else (false, p + 2)) else (false, p + 1)) else (true, p + 1)) = ((false, p + 1) : Bool × Int) := by
        by_cases a0 : a = 0
        · rw [if_pos a0, if_neg (by rw [g]; decide)]
        · rw [if_neg a0, if_pos (by omega), if_neg (by rw [g]; decide)]
      rw [hr] at H
      exact ⟨fun _ => H _ f3 (yb _ f3 _ (by rw [zu_c (by decide), zu_c (by decide)]; exact m12)) (by rw [zu_c (by decide), zu_c (by decide)]; exact m40) (fun j y => ⟨by rw [zu_c (by decide), zu_c (by decide), m205, if_neg y], by rw [zu_c (by decide), zu_i y]; exact m206 j, by rw [zu_i y, zu_c (by decide)]; exact m207 j⟩) (fun y => absurd y Bool.false_ne_true), fun y => absurd (by decide) y⟩
  · rw [if_neg z] at H hq
    rw [if_neg (by omega), if_neg (by omega)] at H
    exact H M1 f1 (yb M1 f1 (p + 1) (by rw [m12, ← hq])) m40 (fun j w => ⟨by rw [m205, if_neg w], m206 j, m207 j⟩) (fun _ => ⟨by rw [m205, if_pos rfl, hv], fun y => by omega, fun y => by omega⟩)
