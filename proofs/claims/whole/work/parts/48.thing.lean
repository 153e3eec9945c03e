/-! a thing taken -/
def ztk (o p v : Int) : Int := if o = 42 then z_wr (p * v) else if o = 47 then (if v ≠ 0 then z_wr (Int.tdiv p v) else 0) else v
theorem s_Rule_takeThing {d a : Nat} {l x : Int} {M : zM} {F : zM → Prop} (hl : M a 9 = l) (h : 0 ≤ l ∧ l < 5) (H : F (z_up (z_up M (a + 8) l 0) (a + 6) l (ztk (M (a + 7) l) (M (a + 6) l) (if M (a + 8) l = 0 then x else z_wr (-x))))) : zCv (d + 1) 50 [z_r (6, 0) a, z_i x] M F := by
  unfold ztk at H
  have e1 : (z_up M (a + 8) l 0) a 9 = l := by rw [zu_c (by omega)]; exact hl
  have e2 : (z_up M (a + 8) l 0) (a + 7) l = M (a + 7) l := zu_c (by omega)
  have e3 : (z_up M (a + 8) l 0) (a + 6) l = M (a + 6) l := zu_c (by omega)
  refine e_Rule_takeThing ?_
  rw [hl, e1, e2, e3]
  refine ⟨h, fun z => ?_, fun z => ?_⟩
  · rw [if_pos z] at H
    refine ⟨h, h, fun q => ⟨h, fun q2 => ⟨h, ?_⟩, fun q2 => ⟨fun q3 => ⟨h, q3, h, ?_⟩, fun q3 => ⟨h, ?_⟩⟩⟩, fun q => ⟨h, h, ?_⟩⟩
    · rw [if_neg q, if_neg q2] at H; exact H
    · rw [if_neg q, if_pos (Classical.not_not.mp q2), if_pos q3] at H; exact H
    · rw [if_neg q, if_pos (Classical.not_not.mp q2), if_neg q3] at H; exact H
    · rw [if_pos (Classical.not_not.mp q)] at H; exact H
  · rw [if_neg z] at H
    refine ⟨h, h, fun q => ⟨h, fun q2 => ⟨h, ?_⟩, fun q2 => ⟨fun q3 => ⟨h, q3, h, ?_⟩, fun q3 => ⟨h, ?_⟩⟩⟩, fun q => ⟨h, h, ?_⟩⟩
    · rw [if_neg q, if_neg q2] at H; exact H
    · rw [if_neg q, if_pos (Classical.not_not.mp q2), if_pos q3] at H; exact H
    · rw [if_neg q, if_pos (Classical.not_not.mp q2), if_neg q3] at H; exact H
    · rw [if_pos (Classical.not_not.mp q)] at H; exact H
