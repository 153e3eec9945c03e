/-! the class's rule: what it does at a level -/
theorem s_Rule_openSum {d a : Nat} {l : Int} {M : zM} {F : zM → Prop} (hl : M a 9 = l) (h : 0 ≤ l ∧ l < 5) (H : F (z_up (z_up (z_up (z_up M (a + 4) l 0) (a + 5) l 43) (a + 7) l 0) (a + 8) l 0)) : zCv (d + 1) 49 [z_r (6, 0) a] M F := by
  refine e_Rule_openSum ?_
  have e1 : (z_up M (a + 4) l 0) a 9 = l := by rw [zu_c (by omega)]; exact hl
  have e2 : (z_up (z_up M (a + 4) l 0) (a + 5) l 43) a 9 = l := by rw [zu_c (by omega)]; exact e1
  have e3 : (z_up (z_up (z_up M (a + 4) l 0) (a + 5) l 43) (a + 7) l 0) a 9 = l := by rw [zu_c (by omega)]; exact e2
  rw [hl, e1, e2, e3]
  exact ⟨h, h, h, h, H⟩
theorem s_Rule_closeProduct {d a : Nat} {l : Int} {M : zM} {F : zM → Prop} (hl : M a 9 = l) (h : 0 ≤ l ∧ l < 5) (H : F (z_up (z_up M (a + 4) l (z_wr (M (a + 4) l + (if M (a + 5) l = 43 then M (a + 6) l else z_wr (-(M (a + 6) l)))))) (a + 7) l 0)) : zCv (d + 1) 52 [z_r (6, 0) a] M F := by
  refine e_Rule_closeProduct ?_
  rw [hl]
  refine ⟨h, h, fun z => ?_, fun z => ?_⟩
  · rw [zu_c (by omega), hl]
    rw [if_neg z] at H
    exact ⟨h, h, h, H⟩
  · rw [zu_c (by omega), hl]
    rw [if_pos (Classical.not_not.mp z)] at H
    exact ⟨h, h, h, H⟩
def zcv (c x y : Int) : Int := if c = 60 then (if y ≤ x then 0 else 1) else if c = 61 then (if x ≠ y then 0 else 1) else if c = 62 then (if x ≤ y then 0 else 1) else y
theorem s_Rule_comparedValue {d a : Nat} {l : Int} {M : zM} {F : Int → zM → Prop} (hl : M a 9 = l) (h : 0 ≤ l ∧ l < 5) (H : F (zcv (M (a + 3) l) (M (a + 2) l) (M (a + 4) l)) M) : zCi (d + 1) 53 [z_r (6, 0) a] M F := by
  unfold zcv at H
  refine e_Rule_comparedValue ?_
  rw [hl]
  refine ⟨h, fun z => ⟨h, h, fun q => ?_, fun q => ?_⟩, fun z => ⟨h, h, fun q => ?_, fun q => ?_⟩, fun z => ⟨h, h, fun q => ?_, fun q => ?_⟩, fun z => ⟨h, ?_⟩⟩
  · rw [if_pos z, if_pos q] at H; exact H
  · rw [if_pos z, if_neg q] at H; exact H
  · rw [if_neg (by omega), if_pos z, if_pos q] at H; exact H
  · rw [if_neg (by omega), if_pos z, if_neg q] at H; exact H
  · rw [if_neg (by omega), if_neg (by omega), if_pos z, if_pos q] at H; exact H
  · rw [if_neg (by omega), if_neg (by omega), if_pos z, if_neg q] at H; exact H
  · rw [if_neg (by omega), if_neg (by omega), if_neg (by omega)] at H; exact H
