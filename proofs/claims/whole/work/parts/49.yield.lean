/-! the reference's yield, but for the rule -/
def zcl (v : Int) : Int := if 0 < (if v < 99 then v else 99) then (if v < 99 then v else 99) else 0
theorem s_M_yieldOn {d : Nat} {x : Int} {M : zM} {F : Int → zM → Prop} (hx : 0 ≤ x) (hs : 1 ≤ M 179 5 ∧ M 179 5 ≤ 20) (hc : 0 ≤ M 179 3 ∧ M 179 3 ≤ 8) (hth : ∀ h, 0 ≤ h → h < M 179 3 → 0 ≤ M 182 h ∧ M 182 h ≤ 9)
    (H : ∀ M', zf [193] [] M M' → M' 193 0 = M 181 (Int.tmod x (M 179 5)) → M' 193 1 = Int.tmod x 10 → M' 193 2 = M 179 3 → M' 193 3 = zsm (M 182) (M 179 3).toNat → zCi (d + 3) 184 [z_r (11, 0) 179] M' (fun v M3 => F (zcl v) M3)) : zCi (d + 4) 181 [z_r (11, 0) 179, z_i x] M F := by
  have r0 : 0 ≤ Int.tmod x (M 179 5) := Int.tmod_nonneg _ hx
  have r1 : Int.tmod x (M 179 5) < M 179 5 := Int.tmod_lt_of_pos _ (by omega)
  have f : zf [193] [] M (z_up (z_up (z_up M 193 0 (M 181 (Int.tmod x (M 179 5)))) 193 1 (Int.tmod x 10)) 193 2 ((z_up (z_up M 193 0 (M 181 (Int.tmod x (M 179 5)))) 193 1 (Int.tmod x 10)) 179 3)) := zf_us (zf_us (zf_us zf_rf (by decide)) (by decide)) (by decide)
  refine e_M_yieldOn ⟨by omega, by omega, by decide, by decide, by decide, s_M_allThirst (by rw [zf_a f 179 3 rfl]; exact hc) (by rw [zf_a f 179 3 rfl, zf_c f 182 rfl]; exact hth) ⟨by decide, ?_⟩⟩
  rw [zf_a f 179 3 rfl, zf_c f 182 rfl]
  refine H _ (zf_us f (by decide)) ?_ ?_ ?_ (zu_s _ _ _ _)
  · rw [zu_i (by decide), zu_i (by decide), zu_i (by decide), zu_s]
  · rw [zu_i (by decide), zu_i (by decide), zu_s]
  · rw [zu_i (by decide), zu_s, zu_c (by decide), zu_c (by decide)]
theorem s_Pump_yieldOn {d a : Nat} {x c : Int} {M : zM} {F : Int → zM → Prop} (hx : 0 ≤ x) (hs : 1 ≤ M 45 2 ∧ M 45 2 ≤ 20) (hc : 0 ≤ c ∧ c ≤ 8) (hth : ∀ h, 0 ≤ h → h < c → 0 ≤ M 46 h ∧ M 46 h ≤ 9)
    (H : zCi (d + 3) 48 [z_r (6, 0) a, z_i (M 47 (Int.tmod x (M 45 2))), z_i (Int.tmod x 10), z_i c, z_i (zsm (M 46) c.toNat)] M (fun v M' => F (zcl v) M')) : zCi (d + 4) 47 [z_r (4, 0) 45, z_r (6, 0) a, z_i c, z_i x] M F := by
  have r0 : 0 ≤ Int.tmod x (M 45 2) := Int.tmod_nonneg _ hx
  have r1 : Int.tmod x (M 45 2) < M 45 2 := Int.tmod_lt_of_pos _ (by omega)
  exact e_Pump_yieldOn ⟨fun z => absurd z (by omega), fun _ => ⟨by omega, by omega, s_Pump_thirstOfAll hc hth H⟩⟩
