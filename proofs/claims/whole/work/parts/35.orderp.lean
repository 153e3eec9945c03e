/-! acts that can be undone: what is left as it was; order() -/
def zAa (c : Nat) : Bool := ([46, 182, 47, 181, 6, 190, 219, 220, 221, 142, 143, 216, 217].any (fun b => Nat.beq c b)) || (Nat.ble 161 c && Nat.ble c 178)
def zAp : List (Nat × Int) := [(23, 5), (179, 3), (45, 2), (179, 5), (5, 1), (179, 22), (0, 11), (179, 4), (0, 14), (179, 57), (159, 0), (154, 0)]
def zAS (S : List Nat) (J : List (Nat × Int)) : Bool := S.all (fun c => !(zAa c) && !(zJo.any (fun b => Nat.beq c b))) && J.all (fun q => !(zAa q.1) && !(zAp.any (fun p => Nat.beq q.1 p.1 && decide (q.2 = p.2))))
theorem zJ_act {n n' : Int} {S : List Nat} {J : List (Nat × Int)} {M M' : zM} (hJ : zJ n M) (hn : n ≤ n') (h : zf S J M M') (hd : zAS S J = true) (main : tR n' (M 179 3) M' 23 183 0) (past : iP n (M 179 3) M') : zJ n' M' := by
  have C : ∀ b, zAa b = true → M' b = M b := by
    intro b hb
    unfold zAS at hd
    rw [Bool.and_eq_true] at hd
    funext j
    refine h b j (fun q => ?_) (fun q => ?_)
    · have := List.all_eq_true.mp hd.1 b q
      rw [hb] at this; cases this
    · have := List.all_eq_true.mp hd.2 _ q
      simp only [hb, Bool.not_true, Bool.false_and] at this
      cases this
  have P : ∀ p : Nat × Int, p ∈ zAp → zJo.any (fun b => Nat.beq p.1 b) = true → M' p.1 p.2 = M p.1 p.2 := by
    intro p hp ho
    unfold zAS at hd
    rw [Bool.and_eq_true] at hd
    refine h p.1 p.2 (fun q => ?_) (fun q => ?_)
    · have := List.all_eq_true.mp hd.1 p.1 q
      rw [ho] at this; simp at this
    · have h1 := List.all_eq_true.mp hd.2 _ q
      have h2 : zAp.any (fun p' => Nat.beq p.1 p'.1 && decide (p.2 = p'.2)) = true := List.any_eq_true.mpr ⟨p, hp, by simp⟩
      simp only [h2, Bool.not_true, Bool.and_false] at h1
      cases h1
  have p3 : M' 179 3 = M 179 3 := P (179, 3) (by decide) (by decide)
  have p4 : M' 45 2 = M 45 2 := P (45, 2) (by decide) (by decide)
  have p5 : M' 179 5 = M 179 5 := P (179, 5) (by decide) (by decide)
  have p6 : M' 5 1 = M 5 1 := P (5, 1) (by decide) (by decide)
  have p7 : M' 179 22 = M 179 22 := P (179, 22) (by decide) (by decide)
  have p11 : M' 0 11 = M 0 11 := P (0, 11) (by decide) (by decide)
  have p12 : M' 179 4 = M 179 4 := P (179, 4) (by decide) (by decide)
  have p13 : M' 0 14 = M 0 14 := P (0, 14) (by decide) (by decide)
  have p14 : M' 179 57 = M 179 57 := P (179, 57) (by decide) (by decide)
  have p15 : M' 159 0 = M 159 0 := P (159, 0) (by decide) (by decide)
  have p16 : M' 154 0 = M 154 0 := P (154, 0) (by decide) (by decide)
  have rng2 : ∀ b, 161 ≤ b → b ≤ 178 → M' b = M b := by
    intro b h1 h2
    refine C b ?_
    unfold zAa
    rw [show Nat.ble 161 b = true from Nat.ble_eq_true_of_le h1, show Nat.ble b 178 = true from Nat.ble_eq_true_of_le h2]
    simp
  obtain ⟨j1, j2, j3, j4, j5, j6, j7, j8⟩ := hJ
  have hK : iK n' (M 179 3) M' := by
    have := iK_c j6 p11 p12 (C 219 rfl) (C 220 rfl) (C 221 rfl) rng2
    obtain ⟨r1, r2, r3, r4⟩ := this
    exact ⟨r1, ⟨r2.1, by omega⟩, r3, fun i a b z => tR_n (r4 i a b z) hn⟩
  have hP : iP n' (M 179 3) M' := ⟨past.1, past.2.1, past.2.2.1, fun j a b => tR_n (past.2.2.2 j a b) hn⟩
  refine ⟨?_, ?_, ?_, ?_, ?_, ?_, ?_, ?_⟩
  · rw [p3]; exact main
  · rw [p3, C 46 rfl, C 182 rfl]; exact j2
  · rw [p4, p5, C 47 rfl, C 181 rfl]; exact j3
  · rw [p6, p7, C 6 rfl, C 190 rfl]; exact j4
  · rw [p3]; exact hP
  · rw [p3]; exact hK
  · rw [p3, p13, p14, C 142 rfl, C 143 rfl, C 216 rfl, C 217 rfl]; exact j7
  · rw [p15, p16]; exact j8
/-- what can be undone, behind an act: M1 behind the class's push, R1 behind putsBy, M' the end -/
theorem iP_act {n c : Int} {M M1 M' : zM} {R1 : Int → Int} (hP : iP n c M) (j1 : tR n c M 23 183 0) (p1 : M1 49 1 = (if M 49 1 + 1 < 15 then M 49 1 + 1 else 0)) (p2 : M1 49 2 = (if M 49 2 < 15 then M 49 2 + 1 else 15)) (p3 : tQ M 23 M1 (51 + 6 * (M 49 1).toNat)) (p4 : ∀ b, 51 ≤ b → b ≤ 140 → (b < 51 + 6 * (M 49 1).toNat ∨ 51 + 6 * (M 49 1).toNat + 6 ≤ b) → M1 b = M b)
    (x1 : M' 49 1 = M1 49 1) (x2 : M' 49 2 = M1 49 2) (hpc : ∀ b, 51 ≤ b → b ≤ 140 → M' b = M1 b) (a1 : ∀ k, (k < 81 * M 179 33 ∨ 81 * M 179 33 + 81 ≤ k) → R1 k = M 201 k) (a2 : ∀ k, 0 ≤ k → k < 81 → R1 (81 * M 179 33 + k) = M 183 k) (c1 : M' 179 33 = (if M 179 33 < 15 then M 179 33 + 1 else 15)) (c2 : ∀ k, 0 ≤ k → k < 1215 → M' 201 k = R1 (if M 179 33 < 15 then k else k + 81)) : iP n c M' := by
  have hP0 := hP
  obtain ⟨q1, q2, q3, q4⟩ := hP
  refine iP_push hP0 j1 (by rw [x1]; exact p1) (by rw [x2]; exact p2) c1 ?_ ?_ ?_
  · refine tQ_tr p3 (tQ_c ?_ ?_ (fun x y z => hpc x (by omega) (by omega)))
    · rw [hpc _ (by omega) (by omega)]
    · rw [hpc _ (by omega) (by omega)]
  · intro x y z w
    rw [hpc x y z]; exact p4 x y z w
  · intro j k jj0 jj1 k0 k1
    rw [x2, p2, q1] at jj1 ⊢
    exact zU_row (u := M 179 33) (R0 := M 201) (R1 := R1) (R2 := M' 201) (now := M 183) (by rw [← q1]; exact q3) a1 a2 c2 jj0 jj1 k0 k1
theorem iT_0 {M : zM} (h1 : M 1 1 = 0) (h2 : M 179 11 = 0) : iT (M 1 1) (M 2) (M 179 11) (M 185) := by
  rw [h1, h2]; exact ⟨rfl, by omega, by omega, fun p x y => by omega⟩
theorem p_order {d : Nat} {n : Int} {M : zM} (hI : zI n M) (hn : n < 512) : zQ (d + 10) 28 190 [z_r (10, 0) 0] [z_r (11, 0) 179] n M := by
  obtain ⟨hb, ⟨t1, t2, t3, t4⟩, hR, hJ⟩ := hI
  have hJ0 := hJ
  obtain ⟨j1, j2, j3, j4, hP, hK, j7, j8⟩ := hJ
  obtain ⟨ht, hr⟩ := tR_Rw j1
  have ht : zTn (M 179 3) (M 24) (M 26) (M 25) := ht
  have hP0 := hP
  obtain ⟨q1, q2, q3, q4⟩ := hP
  have ez : zro (M 179 11) (M 185) 8 0 0 = zro (M 1 1) (M 2) 8 0 0 := by
    rw [← t1]
    exact zro_c 8 0 0 (fun j x y => (t4 j x y).1.symm)
  have hfirst := ht.2.1.1 0 (by omega) (by omega)
  unfold zQ
  refine e_W_order (s_Text_faultInOrder ⟨t2, t3⟩ ⟨by decide, ?_⟩)
  by_cases hc : M 1 1 = 8 ∧ zro (M 1 1) (M 2) 8 0 0 = 8
  · rw [if_pos hc]
    refine ⟨fun z => absurd rfl z, fun _ => s_Past_push (by omega) q2 q3 (fun M1 f1 p1 p2 p3 p4 => ?_)⟩
    have t11 : M1 1 = M 1 := zf_c f1 1 (by decide)
    have t12 : M1 2 = M 2 := zf_c f1 2 (by decide)
    refine s_Text_copyOrder (by decide) (by decide) (by rw [t11]; exact hc.1) (fun M2 f2 o2 => ⟨fun z => absurd rfl z, fun _ => ?_⟩)
    rw [t12] at o2
    have hperm := zio_p hc
    have hp24 : zperm ((z_up M2 1 1 0) 24) := zperm_c hperm (fun i a b => by rw [zu_c (by decide)]; exact o2 i a b)
    have hz24 : zrk ((z_up M2 1 1 0) 24) = zrk (fun i => zle (M 2 i)) := zrk_c (fun i a b => by rw [zu_c (by decide)]; exact o2 i a b)
    refine s_Town_placeOfLetter hp24 hfirst ?_
    rw [hz24]
    have fc : zf [24] [(1, 1)] M1 (z_up M2 1 1 0) := zf_uj (zf_ww f2 rfl rfl) (by decide)
    generalize hM3 : z_up M2 1 1 0 = M3 at fc
    have k24 : ∀ i, 0 ≤ i → i < 8 → M3 24 i = zle (M 2 i) := fun i a b => by rw [← hM3, zu_c (by decide)]; exact o2 i a b
    have g3 : M3 179 = M 179 := by rw [zf_c fc 179 rfl, zf_c f1 179 (by decide)]
    have g185 : M3 183 = M 183 := by rw [zf_c fc 183 rfl, zf_c f1 183 (by decide)]
    have g203 : M3 201 = M 201 := by rw [zf_c fc 201 rfl, zf_c f1 201 (by decide)]
    have g187 : M3 185 = M 185 := by rw [zf_c fc 185 rfl, zf_c f1 185 (by decide)]
    have u11 : (z_up M3 179 0 0) 179 11 = M 179 11 := by rw [zu_i (by decide), g3]
    have u187 : (z_up M3 179 0 0) 185 = M 185 := by rw [zu_f (by decide), g187]
    refine e_M_order (fun P Q hP1 hQ1 => s_M_readsOrder (by rw [u11, ← t1]; exact ⟨t2, t3⟩) (fun M4 f4 b1 b2 => ?_))
    rw [u11, u187, ez, ← t1] at b2 ⊢
    rw [if_pos hc]
    have b2 := b2 hc
    have u33 : M4 179 33 = M 179 33 := by rw [zf_a f4 179 33 rfl, zu_i (by decide), g3]
    refine ⟨fun _ => s_M_putsBy (by rw [u33, ← q1]; exact q3) (fun M5 f5 a1 a2 => ?_), fun z => absurd (by decide) z⟩
    rw [u33] at a1 a2
    have m5 : M5 202 = M4 202 := zf_c f5 202 rfl
    have v204 : ∀ i, 0 ≤ i → i < 8 → M5 202 i = zle (M 2 i) := fun i a b => by rw [m5, b2 i a b, (t4 i a (by omega)).1]
    have v185 : M5 183 = M 183 := by rw [zf_c f5 183 rfl, zf_c f4 183 rfl, zu_f (by decide), g185]
    have v0 : M5 183 0 = M 24 0 := by rw [v185]; exact hr.1 0 (by omega) (by omega)
    have hzr := zrk_r (fun i => zle (M 2 i)) (M 24 0)
    -- where the first letter is
    have loop1 : ∀ (m : Nat) (i : Int), i + m = 8 → 0 ≤ i → (∀ x, Q 0 (zrk (fun i => zle (M 2 i)) (M 24 0)) 0 M5 → x = (if zrk (fun i => zle (M 2 i)) (M 24 0) < i then zrk (fun i => zle (M 2 i)) (M 24 0) else 0) → P 0 x i M5) := by
      intro m
      induction m with
      | zero =>
        intro i hi i0 x hq hx
        have : i = 8 := by omega
        subst this
        rw [if_pos hzr.2] at hx
        subst hx
        exact hP1 _ _ _ _ ⟨fun _ => hq, fun z => absurd (by decide) z⟩
      | succ m ih =>
        intro i hi i0 x hq hx
        refine hP1 _ _ _ _ ⟨fun z => absurd z (by omega), fun _ => ⟨by omega, by decide, fun e => ?_, fun e => ?_⟩⟩
        · rw [zw (by omega) (by omega)]
          refine ih (i + 1) (by omega) (by omega) x hq ?_
          rw [v204 i i0 (by omega), v0] at e
          have hne : zrk (fun i => zle (M 2 i)) (M 24 0) ≠ i := fun z => e (by
            have := zrk_o hperm (M 24 0) hfirst.1 hfirst.2
            rw [z] at this; exact this)
          rw [hx]
          by_cases c : zrk (fun i => zle (M 2 i)) (M 24 0) < i
          · rw [if_pos c, if_pos (by omega)]
          · rw [if_neg c, if_neg (by omega)]
        · rw [zw (by omega) (by omega)]
          refine ih (i + 1) (by omega) (by omega) i hq ?_
          have e := Classical.not_not.mp e
          rw [v204 i i0 (by omega), v0] at e
          have : zrk (fun i => zle (M 2 i)) (M 24 0) = i := by
            rw [← e]; exact zrk_i hperm i i0 (by omega)
          rw [this, if_pos (by omega)]
    refine loop1 8 0 (by omega) (by omega) 0 ?_ (by rw [if_neg (by omega)])
    -- the copy
    have loop2 : ∀ (m : Nat) (i : Int) (M6 : zM), i + m = 8 → 0 ≤ i → zf [183] [] M5 M6 → (∀ j, 0 ≤ j → j < i → M6 183 j = zle (M 2 j)) → (∀ j, i ≤ j → M6 183 j = M 183 j) → Q 0 (zrk (fun i => zle (M 2 i)) (M 24 0)) i M6 := by
      intro m
      induction m with
      | zero =>
        intro i M6 hi i0 f6 w1 w2
        have : i = 8 := by omega
        subst this
        have u6 : M6 179 33 = M 179 33 := by rw [zf_a f6 179 33 rfl, zf_a f5 179 33 rfl]; exact u33
        refine hQ1 _ _ _ _ ⟨fun _ => s_M_adds (by rw [u6, ← q1]; exact q3) (fun M7 f7 c1 c2 => ?_), fun z => absurd (by decide) z⟩
        rw [u6] at c1 c2
        have fm : zf [202, 201, 183] [(179, 0), (179, 11), (179, 12), (179, 13), (179, 14), (179, 33)] M3 M7 := zf_ww (zf_tr (zf_tr (zf_tr (zf_tr (zf_uj (zf_rf (S := []) (J := [(179, 0)])) (by decide)) f4) f5) f6) f7) rfl rfl
        have f17 : zf [24, 202, 201, 183] [(1, 1), (179, 0), (179, 11), (179, 12), (179, 13), (179, 14), (179, 33)] M1 M7 := zf_ww (zf_tr fc fm) rfl rfl
        have f : zf (zPast ++ [24, 202, 201, 183]) [(49, 1), (49, 2), (1, 1), (179, 0), (179, 11), (179, 12), (179, 13), (179, 14), (179, 33)] M M7 := zf_ww (zf_tr f1 f17) (by decide) (by decide)
        have m185 : ∀ k, M7 183 k = M6 183 k := fun k => by rw [zf_c f7 183 rfl]
        have o24 : ∀ i, 0 ≤ i → i < 8 → M7 24 i = zle (M 2 i) := fun i a b => by rw [zf_c fm 24 rfl]; exact k24 i a b
        refine ⟨rfl, ⟨by omega, by omega⟩, iT_0 (by rw [zf_a fm 1 1 rfl, ← hM3, zu_s]) (by rw [zf_a f7 179 11 rfl, zf_a f6 179 11 rfl, zf_a f5 179 11 rfl]; exact b1), iR_f hR f (by decide), zJ_act (n' := n + 1) hJ0 (by omega) f (by decide) ?_ ?_⟩
        · obtain ⟨w0, ⟨g1, g2, g3', g4, g5, g6, g7, g8⟩, e1, e2, e3, e4, e5, e6⟩ := j1
          have o5 : M7 23 5 = M 179 3 := by rw [zf_a f 23 5 (by decide)]; exact w0
          have o6 : M7 23 6 = M 23 6 := zf_a f 23 6 (by decide)
          have o25 : M7 25 = M 25 := zf_c f 25 (by decide)
          have o26 : M7 26 = M 26 := zf_c f 26 (by decide)
          have o27 : M7 27 = M 27 := zf_c f 27 (by decide)
          have o28 : M7 28 = M 28 := zf_c f 28 (by decide)
          refine ⟨o5, ?_, ?_⟩
          · show tW (n + 1) (M 179 3) (M7 23 6) (M7 24) (M7 25) (M7 26) (M7 27) (M7 28)
            rw [o6, o25, o26, o27, o28]
            have hpp : zperm (M7 24) := zperm_c hperm o24
            exact ⟨g1, ⟨g2.1, by omega⟩, hpp.1, hpp.2, g5, g6, g7, g8⟩
          · show tE (M 179 3) (M7 23 6) (M7 24) (M7 25) (M7 26) (M7 27) (M7 28) (fun k => M7 183 (0 + k))
            rw [o6, o25, o26, o27, o28]
            simp only [Int.zero_add] at e1 e2 e3 e4 e5 e6 ⊢
            refine ⟨fun i a b => ?_, fun h a b => ?_, fun h i a b a' b' => ?_, fun h a b => ?_, fun h a b => ?_, ?_⟩
            · show M7 24 i = M7 183 i
              rw [o24 i a b, m185, w1 i a b]
            · show _ = M7 183 _
              rw [m185, w2 _ (by omega)]; exact e2 h a b
            · show _ = M7 183 _
              rw [m185, w2 _ (by omega)]; exact e3 h i a b a' b'
            · show _ = M7 183 _
              rw [m185, w2 _ (by omega)]; exact e4 h a b
            · show _ = M7 183 _
              rw [m185, w2 _ (by omega)]; exact e5 h a b
            · show _ = M7 183 _
              rw [m185, w2 _ (by omega)]; exact e6
        · refine iP_act (R1 := M5 201) hP0 j1 p1 p2 p3 p4 (zf_a f17 49 1 rfl) (zf_a f17 49 2 rfl) (zf_r f17 51 140 rfl) (fun k hk => ?_) (fun k k0 k1 => ?_) c1 (fun k k0 k1 => ?_)
          · rw [a1 k hk, zf_c f4 201 rfl, zu_f (by decide), g203]
          · rw [a2 k k0 k1, zf_c f4 183 rfl, zu_f (by decide), g185]
          · rw [c2 k k0 k1, zf_c f6 201 rfl]
      | succ m ih =>
        intro i M6 hi i0 f6 w1 w2
        refine hQ1 _ _ _ _ ⟨fun z => absurd z (by omega), fun _ => ⟨by omega, by omega, ?_⟩⟩
        rw [zw (by omega) (by omega), zf_c f6 202 rfl, v204 i i0 (by omega)]
        refine ih (i + 1) _ (by omega) (by omega) (zf_us f6 (by decide)) (fun j j0 j1 => ?_) (fun j j0 => ?_)
        · by_cases hx : j = i
          · subst hx; rw [zu_s]
          · rw [zu_i hx]; exact w1 j j0 (by omega)
        · rw [zu_i (by omega)]; exact w2 j (by omega)
    exact loop2 8 0 M5 (by omega) (by omega) zf_rf (fun j j0 j1 => by omega) (fun j _ => by rw [v185])
  · rw [if_neg hc]
    have hs := zro_s (M 1 1) (M 2) 8 0 0 (by omega) (by omega) (by omega)
    refine ⟨fun q => ⟨fun _ => ?_, fun z => absurd q z⟩, fun q => absurd (by omega) q⟩
    rw [zw (by omega) (by omega)]
    have f1 : zf [] [(1, 1)] M (z_up M 1 1 0) := zf_uj zf_rf (by decide)
    generalize hM1 : z_up M 1 1 0 = M1 at f1
    have u11 : (z_up M1 179 0 0) 179 11 = M 179 11 := by rw [zu_i (by decide), zf_c f1 179 rfl]
    have u187 : (z_up M1 179 0 0) 185 = M 185 := by rw [zu_f (by decide), zf_c f1 185 rfl]
    refine e_M_order (fun P Q hP1 hQ1 => s_M_readsOrder (by rw [u11, ← t1]; exact ⟨t2, t3⟩) (fun M4 f4 b1 b2 => ?_))
    rw [u11, u187, ez, ← t1, if_neg hc]
    refine ⟨fun z => absurd z (by omega), fun _ => ⟨rfl, ⟨by omega, by omega⟩, ?_, ?_, ?_⟩⟩
    · exact iT_0 (by rw [zf_a f4 1 1 rfl, zu_c (by decide), ← hM1, zu_s]) b1
    · exact iR_f hR (zf_tr (zf_tr f1 (zf_uj (zf_rf (S := []) (J := [(179, 0)])) (by decide))) f4) rfl
    · exact zJ_n (zJ_f hJ0 (zf_tr (zf_tr f1 (zf_uj (zf_rf (S := []) (J := [(179, 0)])) (by decide))) f4) rfl) (by omega)
