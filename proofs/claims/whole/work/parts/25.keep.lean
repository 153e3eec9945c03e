/-! saw, keep, again, undo -/
theorem s_Town_has {d a : Nat} {h : Int} {M : zM} {F : Int → zM → Prop} (H : F (if 0 ≤ h ∧ h < M a 5 then 1 else 0) M) : zCi (d + 1) 35 [z_r (9, 0) a, z_i h] M F := by
  refine e_Town_has ⟨fun q => ?_, fun q => ⟨fun q2 => ?_, fun q2 => ?_⟩⟩
  · rw [if_neg (by omega)] at H; exact H
  · rw [if_neg (by omega)] at H; exact H
  · rw [if_pos (by omega)] at H; exact H
theorem s_Town_canMarry {d a : Nat} {h o : Int} {M : zM} {F : Int → zM → Prop} (H : F (if (0 ≤ h ∧ h < M a 5) ∧ (0 ≤ o ∧ o < M a 5) ∧ h ≠ o then 1 else 0) M) : zCi (d + 2) 43 [z_r (9, 0) a, z_i h, z_i o] M F := by
  refine e_Town_canMarry (s_Town_has ?_)
  by_cases c1 : 0 ≤ h ∧ h < M a 5
  · rw [if_pos c1]
    refine ⟨fun q => absurd q (by decide), fun _ => s_Town_has ?_⟩
    by_cases c2 : 0 ≤ o ∧ o < M a 5
    · rw [if_pos c2]
      refine ⟨fun q => absurd q (by decide), fun _ => ⟨fun q => ?_, fun q => ?_⟩⟩
      · rw [if_neg (fun z => z.2.2 q)] at H; exact H
      · rw [if_pos ⟨c1, c2, q⟩] at H; exact H
    · rw [if_neg c2]
      rw [if_neg (fun z => c2 z.2.1)] at H
      exact ⟨fun _ => H, fun q => absurd rfl q⟩
  · rw [if_neg c1]
    rw [if_neg (fun z => c1 z.1)] at H
    exact ⟨fun _ => H, fun q => absurd rfl q⟩
theorem s_M_isHouse {d : Nat} {h : Int} {M : zM} {F : Int → zM → Prop} (hc : 0 ≤ M 179 3 ∧ M 179 3 ≤ 8) (H : F (if 0 ≤ h ∧ h < M 179 3 then 1 else 0) M) : zCi (d + 2) 172 [z_r (11, 0) 179, z_i h] M F := by
  refine e_M_isHouse (s_M_in ?_)
  rw [zw (by omega) (by omega)]
  by_cases c1 : 0 ≤ h ∧ h < M 179 3
  · rw [if_pos (by omega)]
    rw [if_pos c1] at H
    exact ⟨Or.inr rfl, H⟩
  · rw [if_neg (by omega)]
    rw [if_neg c1] at H
    exact ⟨Or.inl rfl, H⟩
theorem zJ_count {n : Int} {M : zM} (h : zJ n M) : M 23 5 = M 179 3 ∧ 0 ≤ M 179 3 ∧ M 179 3 ≤ 8 := ⟨h.1.1, h.1.2.1.1.1, h.1.2.1.1.2⟩
theorem iT_f {S : List Nat} {J : List (Nat × Int)} {M M' : zM} (h : iT (M 1 1) (M 2) (M 179 11) (M 185)) (f : zf S J M M') (hd : (S.all (fun c => !(Nat.beq 1 c) && (!(Nat.beq 2 c) && (!(Nat.beq 179 c) && !(Nat.beq 185 c)))) && J.all (fun q => !(Nat.beq 2 q.1) && (!(Nat.beq 185 q.1) && (!(Nat.beq 1 q.1 && decide (1 = q.2)) && !(Nat.beq 179 q.1 && decide (11 = q.2)))))) = true) : iT (M' 1 1) (M' 2) (M' 179 11) (M' 185) := by
  rw [Bool.and_eq_true] at hd
  have hS := List.all_eq_true.mp hd.1
  have hJ := List.all_eq_true.mp hd.2
  simp only [Bool.and_eq_true, Bool.not_eq_true'] at hS hJ
  rw [f 1 1 (fun q => by have := (hS _ q).1; cases this) (fun q => by have := (hJ _ q).2.2.1; cases this), f 179 11 (fun q => by have := (hS _ q).2.2.1; cases this) (fun q => by have := (hJ _ q).2.2.2; cases this), show M' 2 = M 2 from funext fun j => f 2 j (fun q => by have := (hS _ q).2.1; cases this) (fun q => by have := (hJ _ q).1; cases this), show M' 185 = M 185 from funext fun j => f 185 j (fun q => by have := (hS _ q).2.2.2; cases this) (fun q => by have := (hJ _ q).2.1; cases this)]
  exact h
theorem iR_f {S : List Nat} {J : List (Nat × Int)} {M M' : zM} (h : iR (M 3 1) (M 4) (M 179 1) (M 180)) (f : zf S J M M') (hd : (S.all (fun c => !(Nat.beq 3 c) && (!(Nat.beq 4 c) && (!(Nat.beq 179 c) && !(Nat.beq 180 c)))) && J.all (fun q => !(Nat.beq 4 q.1) && (!(Nat.beq 180 q.1) && (!(Nat.beq 3 q.1 && decide (1 = q.2)) && !(Nat.beq 179 q.1 && decide (1 = q.2)))))) = true) : iR (M' 3 1) (M' 4) (M' 179 1) (M' 180) := by
  rw [Bool.and_eq_true] at hd
  have hS := List.all_eq_true.mp hd.1
  have hJ := List.all_eq_true.mp hd.2
  simp only [Bool.and_eq_true, Bool.not_eq_true'] at hS hJ
  rw [f 3 1 (fun q => by have := (hS _ q).1; cases this) (fun q => by have := (hJ _ q).2.2.1; cases this), f 179 1 (fun q => by have := (hS _ q).2.2.1; cases this) (fun q => by have := (hJ _ q).2.2.2; cases this), show M' 4 = M 4 from funext fun j => f 4 j (fun q => by have := (hS _ q).2.1; cases this) (fun q => by have := (hJ _ q).1; cases this), show M' 180 = M 180 from funext fun j => f 180 j (fun q => by have := (hS _ q).2.2.2; cases this) (fun q => by have := (hJ _ q).2.1; cases this)]
  exact h
theorem p_saw {d : Nat} {a b n : Int} {M : zM} (hI : zI n M) (hn : n < 512) : zQ (d + 3) 119 236 [z_r (10, 0) 0, z_i a, z_i b] [z_r (11, 0) 179, z_i a, z_i b] n M := by
  have hI0 := hI
  obtain ⟨hb, hT, hR, hJ⟩ := hI
  have hJ0 := hJ
  obtain ⟨c1, c2, c3⟩ := zJ_count hJ
  obtain ⟨j1, j2, j3, j4, j5, j6, ⟨s1, s2, s3, s4⟩, j8⟩ := hJ
  unfold zQ
  have ref : ∀ v : Int, v = -1 → ¬ ((0 ≤ a ∧ a < M 179 3) ∧ (0 ≤ b ∧ b < M 179 3) ∧ a ≠ b ∧ M 179 57 < 8) → zCi (d + 3) 236 [z_r (11, 0) 179, z_i a, z_i b] M (fun v' M2 => v = v' ∧ zI (n + 1) M2) := by
    intro v hv hno
    have fin : v = -1 ∧ zI (n + 1) (z_up M 179 0 0) := ⟨hv, zI_f hI0 hn (S := []) (J := [(179, 0)]) (zf_uj zf_rf (by decide)) rfl rfl⟩
    refine e_M_saw (s_M_isHouse (by rw [zu_i (by decide)]; exact ⟨c2, c3⟩) ?_)
    rw [zu_i (by decide)]
    by_cases q1 : 0 ≤ a ∧ a < M 179 3
    · rw [if_pos q1]
      refine ⟨fun q => absurd q (by decide), fun _ => s_M_isHouse (by rw [zu_i (by decide)]; exact ⟨c2, c3⟩) ?_⟩
      rw [zu_i (by decide)]
      by_cases q2 : 0 ≤ b ∧ b < M 179 3
      · rw [if_pos q2]
        refine ⟨fun q => absurd q (by decide), fun _ => ⟨fun _ => fin, fun q3 => ?_⟩⟩
        rw [zu_i (by decide)]
        exact ⟨fun q4 => absurd ⟨q1, q2, q3, by omega⟩ hno, fun _ => fin⟩
      · rw [if_neg q2]
        exact ⟨fun _ => fin, fun q => absurd rfl q⟩
    · rw [if_neg q1]
      exact ⟨fun _ => fin, fun q => absurd rfl q⟩
  refine e_W_saw (s_Town_canMarry ?_)
  rw [c1]
  by_cases q1 : (0 ≤ a ∧ a < M 179 3) ∧ (0 ≤ b ∧ b < M 179 3) ∧ a ≠ b
  · rw [if_pos q1]
    refine ⟨fun q => absurd q (by decide), fun _ => ⟨fun q2 => ⟨by omega, ?_⟩, fun q2 => ref _ rfl (fun z => q2 (by rw [s1]; exact z.2.2.2))⟩⟩
    rw [zu_c (by decide)]
    refine ⟨by omega, ?_⟩
    rw [zu_s, zu_c (by decide), zu_c (by decide), zw (by omega) (by omega)]
    have f1 : zf [142, 143] [(0, 14)] M (z_up (z_up (z_up M 142 (M 0 14) a) 143 (M 0 14) b) 0 14 (M 0 14 + 1)) := zf_uj (zf_us (zf_us zf_rf (by decide)) (by decide)) (by decide)
    generalize hM1 : z_up (z_up (z_up M 142 (M 0 14) a) 143 (M 0 14) b) 0 14 (M 0 14 + 1) = M1 at f1
    have g1 : M1 179 = M 179 := zf_c f1 179 rfl
    refine e_M_saw (s_M_isHouse (by rw [zu_i (by decide), g1]; exact ⟨c2, c3⟩) ?_)
    rw [zu_i (by decide), g1, if_pos q1.1]
    refine ⟨fun q => absurd q (by decide), fun _ => s_M_isHouse (by rw [zu_i (by decide), g1]; exact ⟨c2, c3⟩) ?_⟩
    rw [zu_i (by decide), g1, if_pos q1.2.1]
    refine ⟨fun q => absurd q (by decide), fun _ => ⟨fun q => absurd q q1.2.2, fun _ => ?_⟩⟩
    rw [zu_i (by decide), g1]
    refine ⟨fun q => ⟨by omega, ?_⟩, fun q => absurd (by omega) q⟩
    rw [zu_c (by decide), zu_i (by decide), g1]
    refine ⟨by omega, ?_⟩
    rw [zu_s, zu_c (by decide), zu_c (by decide), zu_i (by decide), g1, zw (by omega) (by omega)]
    have f2 : zf [216, 217] [(179, 0), (179, 57)] M1 (z_up (z_up (z_up (z_up M1 179 0 0) 216 (M 179 57) a) 217 (M 179 57) b) 179 57 (M 179 57 + 1)) := zf_uj (zf_us (zf_us (zf_uj zf_rf (by decide)) (by decide)) (by decide)) (by decide)
    have f := zf_tr f1 f2
    generalize hM2 : z_up (z_up (z_up (z_up M1 179 0 0) 216 (M 179 57) a) 217 (M 179 57) b) 179 57 (M 179 57 + 1) = M2 at f f2
    refine ⟨by rw [s1], ⟨by omega, by omega⟩, iT_f hT f rfl, iR_f hR f rfl, ?_⟩
    refine zJ_n (n := n) ⟨?_, ?_, ?_, ?_, ?_, ?_, ?_, ?_⟩ (by omega)
    · rw [zf_a f 179 3 rfl]
      exact tR_c j1 (zf_a f 23 5 rfl) (zf_a f 23 6 rfl) (zf_c f 24 rfl) (zf_c f 25 rfl) (zf_c f 26 rfl) (zf_c f 27 rfl) (zf_c f 28 rfl) (zf_c f 183 rfl)
    · rw [zf_a f 179 3 rfl, zf_c f 46 rfl, zf_c f 182 rfl]; exact j2
    · rw [zf_a f 45 2 rfl, zf_c f 47 rfl, zf_a f 179 5 rfl, zf_c f 181 rfl]; exact j3
    · rw [zf_a f 5 1 rfl, zf_c f 6 rfl, zf_a f 179 22 rfl, zf_c f 190 rfl]; exact j4
    · rw [zf_a f 179 3 rfl]
      exact iP_c j5 (zf_a f 49 1 rfl) (zf_a f 49 2 rfl) (zf_a f 179 33 rfl) (zf_c f 201 rfl) (zf_r f 51 140 rfl)
    · rw [zf_a f 179 3 rfl]
      exact iK_c j6 (zf_a f 0 11 rfl) (zf_a f 179 4 rfl) (zf_c f 219 rfl) (zf_c f 220 rfl) (zf_c f 221 rfl) (zf_r f 161 178 rfl)
    · rw [zf_a f 179 3 rfl, show M2 0 14 = M 0 14 + 1 by rw [zf_a f2 0 14 rfl, ← hM1, zu_s], show M2 179 57 = M 179 57 + 1 by rw [← hM2, zu_s], show M2 142 = M1 142 from zf_c f2 142 rfl, show M2 143 = M1 143 from zf_c f2 143 rfl]
      refine ⟨by rw [s1], by omega, by omega, fun i h0 h1 => ?_⟩
      by_cases hc : i = M 0 14
      · subst hc
        have x1 : M1 142 (M 0 14) = a := by rw [← hM1, zu_c (by decide), zu_c (by decide), zu_s]
        have x2 : M1 143 (M 0 14) = b := by rw [← hM1, zu_c (by decide), zu_s]
        have x3 : M2 216 (M 0 14) = a := by rw [← hM2, s1, zu_c (by decide), zu_c (by decide), zu_s]
        have x4 : M2 217 (M 0 14) = b := by rw [← hM2, s1, zu_c (by decide), zu_s]
        rw [x1, x2, x3, x4]
        exact ⟨rfl, rfl, q1.1, q1.2.1, q1.2.2⟩
      · have x1 : M1 142 i = M 142 i := by rw [← hM1, zu_c (by decide), zu_c (by decide), zu_i hc]
        have x2 : M1 143 i = M 143 i := by rw [← hM1, zu_c (by decide), zu_i hc, zu_c (by decide)]
        have x3 : M2 216 i = M 216 i := by rw [← hM2, zu_c (by decide), zu_c (by decide), zu_i (by omega), zu_c (by decide), zf_c f1 216 rfl]
        have x4 : M2 217 i = M 217 i := by rw [← hM2, zu_c (by decide), zu_i (by omega), zu_c (by decide), zu_c (by decide), zf_c f1 217 rfl]
        rw [x1, x2, x3, x4]
        exact s4 i h0 (by omega)
    · rw [zf_a f 159 0 rfl, zf_a f 154 0 rfl]; exact j8
  · rw [if_neg q1]
    exact ⟨fun _ => ref _ rfl (fun z => q1 ⟨z.1, z.2.1, z.2.2.1⟩), fun q => absurd rfl q⟩
