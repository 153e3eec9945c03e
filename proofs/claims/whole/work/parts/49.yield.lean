/-! the reference's yield, but for the rule -/
def zcl (v : Int) : Int := if 0 < (if v < 99 then v else 99) then (if v < 99 then v else 99) else 0
theorem s_M_yieldOn {d : Nat} {x : Int} {M : zM} {F : Int → zM → Prop} (hx : 0 ≤ x) (hs : 1 ≤ M 181 5 ∧ M 181 5 ≤ 20) (hc : 0 ≤ M 181 3 ∧ M 181 3 ≤ 8) (hth : ∀ h, 0 ≤ h → h < M 181 3 → 0 ≤ M 184 h ∧ M 184 h ≤ 9)
    (H : ∀ M', zf [195] [] M M' → M' 195 0 = M 183 (Int.tmod x (M 181 5)) → M' 195 1 = Int.tmod x 10 → M' 195 2 = M 181 3 → M' 195 3 = zsm (M 184) (M 181 3).toNat → zCi (d + 3) 184 [z_r (11, 0) 181] M' (fun v M3 => F (zcl v) M3)) : zCi (d + 4) 181 [z_r (11, 0) 181, z_i x] M F := by
  have r0 : 0 ≤ Int.tmod x (M 181 5) := Int.tmod_nonneg _ hx
  have r1 : Int.tmod x (M 181 5) < M 181 5 := Int.tmod_lt_of_pos _ (by omega)
  have f : zf [195] [] M (z_up (z_up (z_up M 195 0 (M 183 (Int.tmod x (M 181 5)))) 195 1 (Int.tmod x 10)) 195 2 ((z_up (z_up M 195 0 (M 183 (Int.tmod x (M 181 5)))) 195 1 (Int.tmod x 10)) 181 3)) := zf_us (zf_us (zf_us zf_rf (by decide)) (by decide)) (by decide)
  refine e_M_yieldOn ⟨by omega, by omega, by decide, by decide, by decide, s_M_allThirst (by rw [zf_a f 181 3 rfl]; exact hc) (by rw [zf_a f 181 3 rfl, zf_c f 184 rfl]; exact hth) ⟨by decide, ?_⟩⟩
  rw [zf_a f 181 3 rfl, zf_c f 184 rfl]
  refine H _ (zf_us f (by decide)) ?_ ?_ ?_ (zu_s _ _ _ _)
  · rw [zu_i (by decide), zu_i (by decide), zu_i (by decide), zu_s]
  · rw [zu_i (by decide), zu_i (by decide), zu_s]
  · rw [zu_i (by decide), zu_s, zu_c (by decide), zu_c (by decide)]
