/-! days of the town put aside -/
theorem s_live_29_5 {d : Nat} {n cl : Int} {cd : Int → Int} {M : zM} {F : Int → zM → Prop} (hn : 0 ≤ n ∧ n ≤ 100) (hT : zTn (M 29 5) (M 30) (M 32) (M 31)) (hday : 0 ≤ M 29 6 ∧ M 29 6 ≤ 1000000) (hdr : ∀ h, 0 ≤ h → h < M 29 5 → (0 ≤ M 33 h ∧ M 33 h ≤ 1000000) ∧ 0 ≤ M 34 h ∧ M 34 h ≤ 10000000) (hs : 1 ≤ M 45 2 ∧ M 45 2 ≤ 20) (hht : ∀ i, 0 ≤ i → i < M 45 2 → 0 ≤ M 47 i ∧ M 47 i ≤ 9) (hth : ∀ h, 0 ≤ h → h < M 29 5 → 0 ≤ M 46 h ∧ M 46 h ≤ 9) (hU : iU (M 5 1) (M 6) cl cd)
    (H : ∀ W, W = zYd (M 5 1) (M 6) (M 45 2) (M 47) (M 29 5) (M 46) → ∀ M', zf [33, 34, 48, 36, 37, 38, 39, 7, 8, 9, 10, 11, 12, 13] [(29, 6), (35, 4), (5, 9), (45, 4), (45, 5), (45, 6), (45, 7)] M M' → zBk M' 35 (M 29 5) (zrk (M 30)) (M 32) (M 31) → M' 29 6 = M 29 6 + n → (∀ h, 0 ≤ h → h < M 29 5 → M' 34 h = M 34 h + zDa (M 29 5) (M 30) (M 32) (M 31) (M 46) W (M 29 6) n.toNat h) → (∀ h, 0 ≤ h → h < M 29 5 → M' 33 h = M 33 h + zDb (M 29 5) (M 30) (M 32) (M 31) (M 46) W (M 29 6) n.toNat h) → (∀ j, ¬ (0 ≤ j ∧ j < M 29 5) → M' 33 j = M 33 j ∧ M' 34 j = M 34 j) → M' 45 6 = zDl (M 29 5) (M 30) (M 32) (M 31) (M 46) W (M 29 6) n.toNat → M' 45 7 = zst (zDp (M 29 5) (M 30) (M 32) (M 31) (M 46) W (M 29 6) n.toNat) (M 29 5).toNat → F (zsm (zDb (M 29 5) (M 30) (M 32) (M 31) (M 46) W (M 29 6) n.toNat) (M 29 5).toNat) M') : zCi (d + 5) 46 [z_r (4, 0) 45, z_r (9, 0) 29, z_r (0, 0) 35, z_r (6, 0) 5, z_i n] M F := by
  have H := H _ rfl
  generalize hW : zYd (M 5 1) (M 6) (M 45 2) (M 47) (M 29 5) (M 46) = W at H
  generalize hc : M 29 5 = c at *
  generalize ho : M 30 = ord at *
  generalize hl : M 32 = len at *
  generalize hm : M 31 = nam at *
  generalize hd0 : M 29 6 = day at *
  have hWr : ∀ x, 0 ≤ W x ∧ W x ≤ 99 := fun x => by rw [← hW]; exact zYd_r _ _ _ _ _ _ _
  have c8 := hT.1
  refine e_Pump_live (fun P Q hP hQ => ?_)
  refine s_Book_write (a := 29) (b := 35) (o := 30) (by omega) (by omega) (by omega) (by rw [hc]; exact c8) (by rw [ho]; exact hT.2.1) (by show ∀ h, 0 ≤ h → h < M 29 5 → 1 ≤ M 32 h ∧ M 32 h ≤ 6; rw [hc, hl]; exact hT.2.2.1) (by show ∀ k, 0 ≤ k → k < 48 → 0 ≤ M 31 k ∧ M 31 k < 8; rw [hm]; exact hT.2.2.2) (fun M0 f0 b0 => ?_)
  have b0 : zBk M0 35 (M 29 5) (zrk (M 30)) (M 32) (M 31) := b0
  rw [hc, ho, hl, hm] at b0
  have f0 : zf [36, 37, 38, 39] [(35, 4)] M M0 := f0
  have loop : ∀ (m i : Nat) (M1 : zM), (i : Int) + m = n → zf [33, 34, 48, 36, 37, 38, 39, 7, 8, 9, 10, 11, 12, 13] [(29, 6), (35, 4), (5, 9), (45, 4), (45, 5), (45, 6), (45, 7)] M M1 → zBk M1 35 c (zrk ord) len nam → M1 29 6 = day + i → (∀ h, 0 ≤ h → h < c → M1 34 h = M 34 h + zDa c ord len nam (M 46) W day i h) → (∀ h, 0 ≤ h → h < c → M1 33 h = M 33 h + zDb c ord len nam (M 46) W day i h) → (∀ j, ¬ (0 ≤ j ∧ j < c) → M1 33 j = M 33 j ∧ M1 34 j = M 34 j) → M1 45 6 = zDl c ord len nam (M 46) W day i → M1 45 7 = zst (zDp c ord len nam (M 46) W day i) c.toNat → P 29 35 5 n (zsm (zDb c ord len nam (M 46) W day i) c.toNat) (i : Int) M1 := by
    intro m
    induction m with
    | zero =>
      intro i M1 hi f1 b1 d1 u1 v1 o1 l1 p1
      refine hP _ _ _ _ _ _ _ ⟨fun _ => ?_, fun z => absurd (by omega) z⟩
      rw [show i = n.toNat by omega] at d1 u1 v1 l1 p1 ⊢
      exact H M1 f1 b1 (by rw [d1]; omega) u1 v1 o1 l1 p1
    | succ m ih =>
      intro i M1 hi f1 b1 d1 u1 v1 o1 l1 p1
      refine hP _ _ _ _ _ _ _ ⟨fun z => absurd z (by omega), fun _ => ?_⟩
      have a5 : M1 29 5 = c := by rw [zf_a f1 29 5 rfl]; exact hc
      have e46 : M1 46 = M 46 := zf_c f1 46 rfl
      have e47 : M1 47 = M 47 := zf_c f1 47 rfl
      have e45 : M1 45 2 = M 45 2 := zf_a f1 45 2 rfl
      have eR : M1 5 1 = M 5 1 := zf_a f1 5 1 rfl
      have eR1 : M1 6 = M 6 := zf_c f1 6 rfl
      rw [a5, d1]
      refine s_Pump_yieldOnV (a := 5) (cl := cl) (cd := cd) (by omega) (by rw [e45]; exact hs) (by rw [e45, e47]; exact hht) c8 (by rw [e46]; exact hth) (by show iU (M1 5 1) (M1 6) cl cd; rw [eR, eR1]; exact hU) (fun M2 f2 => ?_)
      have f2 : zf [7, 8, 9, 10, 11, 12, 13] [(5, 9)] M1 M2 := f2
      have ew : zYd (M1 5 1) (M1 (5 + 1)) (M1 45 2) (M1 47) c (M1 46) (day + (i : Int)) = W (day + (i : Int)) := by
        show zYd (M1 5 1) (M1 6) (M1 45 2) (M1 47) c (M1 46) (day + (i : Int)) = W (day + (i : Int))
        rw [eR, eR1, e45, e47, e46, ← hW]
      rw [ew]
      have b2 : zBk M2 35 c (zrk ord) len nam := by
        unfold zBk at b1 ⊢
        have q1 : M2 (35 + 1) = M1 (35 + 1) := zf_c f2 36 rfl
        have q2 : M2 (35 + 2) = M1 (35 + 2) := zf_c f2 37 rfl
        have q3 : M2 (35 + 3) = M1 (35 + 3) := zf_c f2 38 rfl
        rw [zf_a f2 35 4 rfl, q1, q2, q3]; exact b1
      have e462 : M2 46 = M 46 := by rw [zf_c f2 46 rfl]; exact e46
      refine s_Pump_pourG hT b2 (by rw [e462]; exact hth) (hWr _) (fun M3 f3 l3 u3 p3 => ?_)
      rw [e462] at l3 u3 p3 ⊢
      have wr := hWr (day + (i : Int))
      generalize hw : W (day + (i : Int)) = w at *
      have b3 : zBk M3 35 c (zrk ord) len nam := by
        unfold zBk at b2 ⊢
        have q1 : M3 (35 + 1) = M2 (35 + 1) := zf_c f3 36 rfl
        have q2 : M3 (35 + 2) = M2 (35 + 2) := zf_c f3 37 rfl
        have q3 : M3 (35 + 3) = M2 (35 + 3) := zf_c f3 38 rfl
        rw [zf_a f3 35 4 rfl, q1, q2, q3]; exact b2
      have f13 := zf_tr f2 f3
      have s6 : M3 45 6 = zDl c ord len nam (M 46) W day i := by rw [zf_a f13 45 6 rfl]; exact l1
      have s7 : M3 45 7 = zst (zDp c ord len nam (M 46) W day i) c.toNat := by rw [zf_a f13 45 7 rfl]; exact p1
      have dl := zDl_r (day := day) i hT hWr hth
      have ul := zUl_r hT wr hth
      have r6 : ∀ v, (z_up M3 45 6 v) 45 7 = M3 45 7 := fun v => zu_i (by decide)
      have r5 : ∀ v, (z_up M3 45 6 v) 45 5 = M3 45 5 := fun v => zu_i (by decide)
      have dp := zDp_s c ord len nam (M 46) W day i (k := c.toNat) (by omega)
      rw [hw] at dp
      have ds := zDl_s c ord len nam (M 46) W day i
      rw [hw] at ds
      rw [r6, r5, s6, s7, l3, p3, zw (x := zDl c ord len nam (M 46) W day i + zUl c ord len nam (M 46) w) (by omega) (by omega), dp, ← ds, zcard_st _ (by omega)]
      have db := zDb_sum c ord len nam (M 46) W day i c.toNat
      rw [hw] at db
      have br := zsm_b (f := zDb c ord len nam (M 46) W day i) (B := 100) c.toNat (fun h _ _ => by have := zDb_r c ord len nam (M 46) W day i h; omega)
      have br2 := zsm_b (f := fun h => if zUd c ord len nam (M 46) w h = true then (1 : Int) else 0) (B := 1) c.toNat (fun h _ _ => by (try dsimp only); split <;> omega)
      rw [zw (x := zsm (zDb c ord len nam (M 46) W day i) c.toNat + _) (by omega) (by omega), ← db]
      generalize hM4 : z_up (z_up M3 45 6 (zDl c ord len nam (M 46) W day (i + 1))) 45 7 (zst (zDp c ord len nam (M 46) W day (i + 1)) c.toNat) = M4
      have f34 : zf [] [(45, 6), (45, 7)] M3 M4 := by rw [← hM4]; exact zf_uj (zf_uj zf_rf (by decide)) (by decide)
      have f14 : zf [33, 34, 48, 36, 37, 38, 39, 7, 8, 9, 10, 11, 12, 13] [(29, 6), (35, 4), (5, 9), (45, 4), (45, 5), (45, 6), (45, 7)] M M4 := zf_ww (zf_tr f1 (zf_tr f13 f34)) rfl rfl
      have x4 : ∀ h, M4 33 h = M1 33 h := fun h => by rw [zf_c f34 33 rfl, zf_c f13 33 rfl]
      have x5 : ∀ h, M4 34 h = M1 34 h := fun h => by rw [zf_c f34 34 rfl, zf_c f13 34 rfl]
      have x48 : ∀ h, 0 ≤ h → h < c → M4 48 h = zUh c ord len nam (M 46) w h := fun h a b => by rw [zf_c f34 48 rfl]; exact u3 h a b
      have x455 : M4 45 5 = zst (zUd c ord len nam (M 46) w) c.toNat := by rw [zf_a f34 45 5 rfl]; exact p3
      have xr := zst_r (zUd c ord len nam (M 46) w) c.toNat (by omega)
      have b4 : zBk M4 35 c (zrk ord) len nam := by
        unfold zBk at b3 ⊢
        have q1 : M4 (35 + 1) = M3 (35 + 1) := zf_c f34 36 rfl
        have q2 : M4 (35 + 2) = M3 (35 + 2) := zf_c f34 37 rfl
        have q3 : M4 (35 + 3) = M3 (35 + 3) := zf_c f34 38 rfl
        rw [zf_a f34 35 4 rfl, q1, q2, q3]; exact b3
      have a54 : M4 29 5 = c := by rw [zf_a f14 29 5 rfl]; exact hc
      have a64 : M4 29 6 = day + i := by rw [zf_a f34 29 6 rfl, zf_a f13 29 6 rfl]; exact d1
      have loop2 : ∀ (m k : Nat) (M5 : zM), (k : Int) + m = c → zf [33, 34] [] M4 M5 → (∀ j : Int, ¬ (0 ≤ j ∧ j < k) → M5 33 j = M4 33 j ∧ M5 34 j = M4 34 j) → (∀ h : Int, 0 ≤ h → h < k → M5 34 h = M4 34 h + zUh c ord len nam (M 46) w h ∧ M5 33 h = M4 33 h + (if zUd c ord len nam (M 46) w h = true then 1 else 0)) → Q 29 35 5 n (zsm (zDb c ord len nam (M 46) W day (i + 1)) c.toNat) (i : Int) (k : Int) M5 := by
        intro m
        induction m with
        | zero =>
          intro k M5 hk f5 n5 y5
          have hkc : (k : Int) = c := by omega
          refine hQ _ _ _ _ _ _ _ _ ⟨fun _ => ?_, fun z => absurd (by rw [zf_a f5 29 5 rfl, a54]; omega) z⟩
          rw [zw (x := (i : Int) + 1) (by omega) (by omega), zf_a f5 29 6 rfl, a64, zw (x := day + (i : Int) + 1) (by omega) (by omega)]
          have f6 : zf [33, 34, 48, 36, 37, 38, 39, 7, 8, 9, 10, 11, 12, 13] [(29, 6), (35, 4), (5, 9), (45, 4), (45, 5), (45, 6), (45, 7)] M (z_up M5 29 6 (day + (i : Int) + 1)) := zf_uj (zf_ww (zf_tr f14 f5) rfl rfl) (by decide)
          have := ih (i + 1) _ (by omega) f6 ?_ ?_ (fun h a b => ?_) (fun h a b => ?_) (fun j hj => ?_) ?_ ?_
          · rw [show ((i + 1 : Nat) : Int) = (i : Int) + 1 by omega] at this
            exact this
          · unfold zBk at b4 ⊢
            have q1 : (z_up M5 29 6 (day + (i : Int) + 1)) (35 + 1) = M4 (35 + 1) := by rw [zu_f (by decide)]; exact zf_c f5 36 rfl
            have q2 : (z_up M5 29 6 (day + (i : Int) + 1)) (35 + 2) = M4 (35 + 2) := by rw [zu_f (by decide)]; exact zf_c f5 37 rfl
            have q3 : (z_up M5 29 6 (day + (i : Int) + 1)) (35 + 3) = M4 (35 + 3) := by rw [zu_f (by decide)]; exact zf_c f5 38 rfl
            rw [zu_c (by decide), zf_a f5 35 4 rfl, q1, q2, q3]; exact b4
          · rw [zu_s]; omega
          · rw [zu_c (by decide), (y5 h a (by omega)).1, x5, u1 h a b, zDa_s, hw]; omega
          · rw [zu_c (by decide), (y5 h a (by omega)).2, x4, v1 h a b, zDb_s, hw]; omega
          · rw [zu_c (by decide), zu_c (by decide), (n5 j (by omega)).1, (n5 j (by omega)).2, x4, x5]; exact o1 j hj
          · rw [zu_c (by decide), zf_a f5 45 6 rfl, ← hM4, zu_i (by decide), zu_s]
          · rw [zu_c (by decide), zf_a f5 45 7 rfl, ← hM4, zu_s]
        | succ m ih2 =>
          intro k M5 hk f5 n5 y5
          have g1 := n5 k (by omega)
          have g2 := hdr k (by omega) (by omega)
          have g3 := u1 k (by omega) (by omega)
          have g4 := v1 k (by omega) (by omega)
          have g5 := zDa_r (day := day) i hT hWr hth (h := k) (by omega)
          have g6 := zDb_r c ord len nam (M 46) W day i k
          have g7 := zUh_r hT wr hth (h := k) (by omega)
          have g8 := hth k (by omega) (by omega)
          have k8 : 0 ≤ (k : Int) ∧ (k : Int) < 8 := by omega
          refine hQ _ _ _ _ _ _ _ _ ⟨fun z => absurd z (by rw [zf_a f5 29 5 rfl, a54]; omega), fun _ => ⟨k8, k8, k8, k8, ?_⟩⟩
          have h48 : M5 48 k = zUh c ord len nam (M 46) w k := by rw [zf_c f5 48 rfl]; exact x48 k (by omega) (by omega)
          have h5 : M5 (29 + 5) k = M1 34 k := by show M5 34 k = _; rw [g1.2, x5]
          have r1 : ∀ v, (z_up M5 (29 + 5) k v) 45 5 = M4 45 5 := fun v => by rw [zu_c (by decide)]; exact zf_a f5 45 5 rfl
          have r2 : ∀ v, (z_up M5 (29 + 5) k v) (29 + 4) k = M1 33 k := fun v => by rw [zu_c (by decide)]; show M5 33 k = _; rw [g1.1, x4]
          rw [r1, r2, h48, h5, x455, zw (x := M1 34 k + _) (by omega) (by omega)]
          refine s_W_isIn (by omega) (by omega) ?_
          rw [zst_b _ _ (by omega) k (by omega), decide_eq_true (show (k : Int) < ((c.toNat : Nat) : Int) by omega), Bool.true_and]
          have nx : ∀ v, v = M1 33 k + (if zUd c ord len nam (M 46) w k = true then 1 else 0) → Q 29 35 5 n (zsm (zDb c ord len nam (M 46) W day (i + 1)) c.toNat) (i : Int) ((k : Int) + 1) (z_up (z_up M5 (29 + 5) k (M1 34 k + zUh c ord len nam (M 46) w k)) (29 + 4) k v) := by
            intro v hv
            have := ih2 (k + 1) (z_up (z_up M5 34 k (M1 34 k + zUh c ord len nam (M 46) w k)) 33 k v) (by omega) (zf_us (zf_us f5 (by decide)) (by decide)) (fun j hj => ?_) (fun h a b => ?_)
            · rw [show ((k + 1 : Nat) : Int) = (k : Int) + 1 by omega] at this
              exact this
            · rw [zu_i (by omega), zu_c (by decide), zu_c (by decide), zu_i (by omega)]; exact n5 j (by omega)
            · rw [zu_c (by decide)]
              by_cases q : h = k
              · rw [q, zu_s, zu_s, x5, x4, hv]; exact ⟨rfl, rfl⟩
              · rw [zu_i q, zu_i q, zu_c (by decide)]; exact y5 h a (by omega)
          rw [zw (x := (k : Int) + 1) (by omega) (by omega)]
          refine ⟨fun z => ⟨k8, ?_⟩, fun z => ⟨k8, ?_⟩⟩
          · rw [zw (x := M1 33 k + 0) (by omega) (by omega)]
            refine nx _ ?_
            by_cases q : zUd c ord len nam (M 46) w k = true
            · rw [if_pos q] at z; omega
            · rw [if_neg q]
          · rw [zw (x := M1 33 k + 1) (by omega) (by omega)]
            refine nx _ ?_
            by_cases q : zUd c ord len nam (M 46) w k = true
            · rw [if_pos q]
            · rw [if_neg q] at z; omega
      exact loop2 c.toNat 0 M4 (by omega) zf_rf (fun j _ => ⟨rfl, rfl⟩) (fun h a b => by omega)
  have z0 : zsm (zDb c ord len nam (M 46) W day 0) c.toNat = 0 := by
    have : ∀ k : Nat, zsm (zDb c ord len nam (M 46) W day 0) k = 0 := by
      intro k
      induction k with
      | zero => rfl
      | succ k ih => show zsm (zDb c ord len nam (M 46) W day 0) k + 0 = 0; omega
    exact this _
  have z1 : zst (zDp c ord len nam (M 46) W day 0) c.toNat = 0 := by
    have : ∀ k : Nat, zst (zDp c ord len nam (M 46) W day 0) k = 0 := by
      intro k
      induction k with
      | zero => rfl
      | succ k ih =>
        show (if zDp c ord len nam (M 46) W day 0 (k : Int) = true then zbs (zst (zDp c ord len nam (M 46) W day 0) k) (k : Int) else zst (zDp c ord len nam (M 46) W day 0) k) = 0
        rw [if_neg (by unfold zDp; show ¬ decide (0 < (0 : Int)) = true; decide)]; exact ih
    exact this _
  have g := loop n.toNat 0 (z_up (z_up M0 45 6 0) 45 7 0) (by omega) (zf_uj (zf_uj (zf_ww f0 rfl rfl) (by decide)) (by decide)) ?_ ?_ (fun h a b => ?_) (fun h a b => ?_) (fun j _ => ?_) ?_ ?_
  · rw [z0] at g; exact g
  · unfold zBk at b0 ⊢
    have q1 : (z_up (z_up M0 45 6 0) 45 7 0) (35 + 1) = M0 (35 + 1) := by rw [zu_f (by decide), zu_f (by decide)]
    have q2 : (z_up (z_up M0 45 6 0) 45 7 0) (35 + 2) = M0 (35 + 2) := by rw [zu_f (by decide), zu_f (by decide)]
    have q3 : (z_up (z_up M0 45 6 0) 45 7 0) (35 + 3) = M0 (35 + 3) := by rw [zu_f (by decide), zu_f (by decide)]
    rw [zu_c (by decide), zu_c (by decide), q1, q2, q3]; exact b0
  · rw [zu_c (by decide), zu_c (by decide), zf_a f0 29 6 rfl, hd0]; omega
  · rw [zu_c (by decide), zu_c (by decide), zf_c f0 34 rfl]; show _ = _ + (0 : Int); omega
  · rw [zu_c (by decide), zu_c (by decide), zf_c f0 33 rfl]; show _ = _ + (0 : Int); omega
  · rw [zu_c (by decide), zu_c (by decide), zu_c (by decide), zu_c (by decide), zf_c f0 33 rfl, zf_c f0 34 rfl]; exact ⟨rfl, rfl⟩
  · rw [zu_i (by decide), zu_s]; rfl
  · rw [zu_s, z1]
theorem s_live_29_14 {d : Nat} {n cl : Int} {cd : Int → Int} {M : zM} {F : Int → zM → Prop} (hn : 0 ≤ n ∧ n ≤ 100) (hT : zTn (M 29 5) (M 30) (M 32) (M 31)) (hday : 0 ≤ M 29 6 ∧ M 29 6 ≤ 1000000) (hdr : ∀ h, 0 ≤ h → h < M 29 5 → (0 ≤ M 33 h ∧ M 33 h ≤ 1000000) ∧ 0 ≤ M 34 h ∧ M 34 h ≤ 10000000) (hs : 1 ≤ M 45 2 ∧ M 45 2 ≤ 20) (hht : ∀ i, 0 ≤ i → i < M 45 2 → 0 ≤ M 47 i ∧ M 47 i ≤ 9) (hth : ∀ h, 0 ≤ h → h < M 29 5 → 0 ≤ M 46 h ∧ M 46 h ≤ 9) (hU : iU (M 14 1) (M 15) cl cd)
    (H : ∀ W, W = zYd (M 14 1) (M 15) (M 45 2) (M 47) (M 29 5) (M 46) → ∀ M', zf [33, 34, 48, 36, 37, 38, 39, 16, 17, 18, 19, 20, 21, 22] [(29, 6), (35, 4), (14, 9), (45, 4), (45, 5), (45, 6), (45, 7)] M M' → zBk M' 35 (M 29 5) (zrk (M 30)) (M 32) (M 31) → M' 29 6 = M 29 6 + n → (∀ h, 0 ≤ h → h < M 29 5 → M' 34 h = M 34 h + zDa (M 29 5) (M 30) (M 32) (M 31) (M 46) W (M 29 6) n.toNat h) → (∀ h, 0 ≤ h → h < M 29 5 → M' 33 h = M 33 h + zDb (M 29 5) (M 30) (M 32) (M 31) (M 46) W (M 29 6) n.toNat h) → (∀ j, ¬ (0 ≤ j ∧ j < M 29 5) → M' 33 j = M 33 j ∧ M' 34 j = M 34 j) → M' 45 6 = zDl (M 29 5) (M 30) (M 32) (M 31) (M 46) W (M 29 6) n.toNat → M' 45 7 = zst (zDp (M 29 5) (M 30) (M 32) (M 31) (M 46) W (M 29 6) n.toNat) (M 29 5).toNat → F (zsm (zDb (M 29 5) (M 30) (M 32) (M 31) (M 46) W (M 29 6) n.toNat) (M 29 5).toNat) M') : zCi (d + 5) 46 [z_r (4, 0) 45, z_r (9, 0) 29, z_r (0, 0) 35, z_r (6, 0) 14, z_i n] M F := by
  have H := H _ rfl
  generalize hW : zYd (M 14 1) (M 15) (M 45 2) (M 47) (M 29 5) (M 46) = W at H
  generalize hc : M 29 5 = c at *
  generalize ho : M 30 = ord at *
  generalize hl : M 32 = len at *
  generalize hm : M 31 = nam at *
  generalize hd0 : M 29 6 = day at *
  have hWr : ∀ x, 0 ≤ W x ∧ W x ≤ 99 := fun x => by rw [← hW]; exact zYd_r _ _ _ _ _ _ _
  have c8 := hT.1
  refine e_Pump_live (fun P Q hP hQ => ?_)
  refine s_Book_write (a := 29) (b := 35) (o := 30) (by omega) (by omega) (by omega) (by rw [hc]; exact c8) (by rw [ho]; exact hT.2.1) (by show ∀ h, 0 ≤ h → h < M 29 5 → 1 ≤ M 32 h ∧ M 32 h ≤ 6; rw [hc, hl]; exact hT.2.2.1) (by show ∀ k, 0 ≤ k → k < 48 → 0 ≤ M 31 k ∧ M 31 k < 8; rw [hm]; exact hT.2.2.2) (fun M0 f0 b0 => ?_)
  have b0 : zBk M0 35 (M 29 5) (zrk (M 30)) (M 32) (M 31) := b0
  rw [hc, ho, hl, hm] at b0
  have f0 : zf [36, 37, 38, 39] [(35, 4)] M M0 := f0
  have loop : ∀ (m i : Nat) (M1 : zM), (i : Int) + m = n → zf [33, 34, 48, 36, 37, 38, 39, 16, 17, 18, 19, 20, 21, 22] [(29, 6), (35, 4), (14, 9), (45, 4), (45, 5), (45, 6), (45, 7)] M M1 → zBk M1 35 c (zrk ord) len nam → M1 29 6 = day + i → (∀ h, 0 ≤ h → h < c → M1 34 h = M 34 h + zDa c ord len nam (M 46) W day i h) → (∀ h, 0 ≤ h → h < c → M1 33 h = M 33 h + zDb c ord len nam (M 46) W day i h) → (∀ j, ¬ (0 ≤ j ∧ j < c) → M1 33 j = M 33 j ∧ M1 34 j = M 34 j) → M1 45 6 = zDl c ord len nam (M 46) W day i → M1 45 7 = zst (zDp c ord len nam (M 46) W day i) c.toNat → P 29 35 14 n (zsm (zDb c ord len nam (M 46) W day i) c.toNat) (i : Int) M1 := by
    intro m
    induction m with
    | zero =>
      intro i M1 hi f1 b1 d1 u1 v1 o1 l1 p1
      refine hP _ _ _ _ _ _ _ ⟨fun _ => ?_, fun z => absurd (by omega) z⟩
      rw [show i = n.toNat by omega] at d1 u1 v1 l1 p1 ⊢
      exact H M1 f1 b1 (by rw [d1]; omega) u1 v1 o1 l1 p1
    | succ m ih =>
      intro i M1 hi f1 b1 d1 u1 v1 o1 l1 p1
      refine hP _ _ _ _ _ _ _ ⟨fun z => absurd z (by omega), fun _ => ?_⟩
      have a5 : M1 29 5 = c := by rw [zf_a f1 29 5 rfl]; exact hc
      have e46 : M1 46 = M 46 := zf_c f1 46 rfl
      have e47 : M1 47 = M 47 := zf_c f1 47 rfl
      have e45 : M1 45 2 = M 45 2 := zf_a f1 45 2 rfl
      have eR : M1 14 1 = M 14 1 := zf_a f1 14 1 rfl
      have eR1 : M1 15 = M 15 := zf_c f1 15 rfl
      rw [a5, d1]
      refine s_Pump_yieldOnV (a := 14) (cl := cl) (cd := cd) (by omega) (by rw [e45]; exact hs) (by rw [e45, e47]; exact hht) c8 (by rw [e46]; exact hth) (by show iU (M1 14 1) (M1 15) cl cd; rw [eR, eR1]; exact hU) (fun M2 f2 => ?_)
      have f2 : zf [16, 17, 18, 19, 20, 21, 22] [(14, 9)] M1 M2 := f2
      have ew : zYd (M1 14 1) (M1 (14 + 1)) (M1 45 2) (M1 47) c (M1 46) (day + (i : Int)) = W (day + (i : Int)) := by
        show zYd (M1 14 1) (M1 15) (M1 45 2) (M1 47) c (M1 46) (day + (i : Int)) = W (day + (i : Int))
        rw [eR, eR1, e45, e47, e46, ← hW]
      rw [ew]
      have b2 : zBk M2 35 c (zrk ord) len nam := by
        unfold zBk at b1 ⊢
        have q1 : M2 (35 + 1) = M1 (35 + 1) := zf_c f2 36 rfl
        have q2 : M2 (35 + 2) = M1 (35 + 2) := zf_c f2 37 rfl
        have q3 : M2 (35 + 3) = M1 (35 + 3) := zf_c f2 38 rfl
        rw [zf_a f2 35 4 rfl, q1, q2, q3]; exact b1
      have e462 : M2 46 = M 46 := by rw [zf_c f2 46 rfl]; exact e46
      refine s_Pump_pourG hT b2 (by rw [e462]; exact hth) (hWr _) (fun M3 f3 l3 u3 p3 => ?_)
      rw [e462] at l3 u3 p3 ⊢
      have wr := hWr (day + (i : Int))
      generalize hw : W (day + (i : Int)) = w at *
      have b3 : zBk M3 35 c (zrk ord) len nam := by
        unfold zBk at b2 ⊢
        have q1 : M3 (35 + 1) = M2 (35 + 1) := zf_c f3 36 rfl
        have q2 : M3 (35 + 2) = M2 (35 + 2) := zf_c f3 37 rfl
        have q3 : M3 (35 + 3) = M2 (35 + 3) := zf_c f3 38 rfl
        rw [zf_a f3 35 4 rfl, q1, q2, q3]; exact b2
      have f13 := zf_tr f2 f3
      have s6 : M3 45 6 = zDl c ord len nam (M 46) W day i := by rw [zf_a f13 45 6 rfl]; exact l1
      have s7 : M3 45 7 = zst (zDp c ord len nam (M 46) W day i) c.toNat := by rw [zf_a f13 45 7 rfl]; exact p1
      have dl := zDl_r (day := day) i hT hWr hth
      have ul := zUl_r hT wr hth
      have r6 : ∀ v, (z_up M3 45 6 v) 45 7 = M3 45 7 := fun v => zu_i (by decide)
      have r5 : ∀ v, (z_up M3 45 6 v) 45 5 = M3 45 5 := fun v => zu_i (by decide)
      have dp := zDp_s c ord len nam (M 46) W day i (k := c.toNat) (by omega)
      rw [hw] at dp
      have ds := zDl_s c ord len nam (M 46) W day i
      rw [hw] at ds
      rw [r6, r5, s6, s7, l3, p3, zw (x := zDl c ord len nam (M 46) W day i + zUl c ord len nam (M 46) w) (by omega) (by omega), dp, ← ds, zcard_st _ (by omega)]
      have db := zDb_sum c ord len nam (M 46) W day i c.toNat
      rw [hw] at db
      have br := zsm_b (f := zDb c ord len nam (M 46) W day i) (B := 100) c.toNat (fun h _ _ => by have := zDb_r c ord len nam (M 46) W day i h; omega)
      have br2 := zsm_b (f := fun h => if zUd c ord len nam (M 46) w h = true then (1 : Int) else 0) (B := 1) c.toNat (fun h _ _ => by (try dsimp only); split <;> omega)
      rw [zw (x := zsm (zDb c ord len nam (M 46) W day i) c.toNat + _) (by omega) (by omega), ← db]
      generalize hM4 : z_up (z_up M3 45 6 (zDl c ord len nam (M 46) W day (i + 1))) 45 7 (zst (zDp c ord len nam (M 46) W day (i + 1)) c.toNat) = M4
      have f34 : zf [] [(45, 6), (45, 7)] M3 M4 := by rw [← hM4]; exact zf_uj (zf_uj zf_rf (by decide)) (by decide)
      have f14 : zf [33, 34, 48, 36, 37, 38, 39, 16, 17, 18, 19, 20, 21, 22] [(29, 6), (35, 4), (14, 9), (45, 4), (45, 5), (45, 6), (45, 7)] M M4 := zf_ww (zf_tr f1 (zf_tr f13 f34)) rfl rfl
      have x4 : ∀ h, M4 33 h = M1 33 h := fun h => by rw [zf_c f34 33 rfl, zf_c f13 33 rfl]
      have x5 : ∀ h, M4 34 h = M1 34 h := fun h => by rw [zf_c f34 34 rfl, zf_c f13 34 rfl]
      have x48 : ∀ h, 0 ≤ h → h < c → M4 48 h = zUh c ord len nam (M 46) w h := fun h a b => by rw [zf_c f34 48 rfl]; exact u3 h a b
      have x455 : M4 45 5 = zst (zUd c ord len nam (M 46) w) c.toNat := by rw [zf_a f34 45 5 rfl]; exact p3
      have xr := zst_r (zUd c ord len nam (M 46) w) c.toNat (by omega)
      have b4 : zBk M4 35 c (zrk ord) len nam := by
        unfold zBk at b3 ⊢
        have q1 : M4 (35 + 1) = M3 (35 + 1) := zf_c f34 36 rfl
        have q2 : M4 (35 + 2) = M3 (35 + 2) := zf_c f34 37 rfl
        have q3 : M4 (35 + 3) = M3 (35 + 3) := zf_c f34 38 rfl
        rw [zf_a f34 35 4 rfl, q1, q2, q3]; exact b3
      have a54 : M4 29 5 = c := by rw [zf_a f14 29 5 rfl]; exact hc
      have a64 : M4 29 6 = day + i := by rw [zf_a f34 29 6 rfl, zf_a f13 29 6 rfl]; exact d1
      have loop2 : ∀ (m k : Nat) (M5 : zM), (k : Int) + m = c → zf [33, 34] [] M4 M5 → (∀ j : Int, ¬ (0 ≤ j ∧ j < k) → M5 33 j = M4 33 j ∧ M5 34 j = M4 34 j) → (∀ h : Int, 0 ≤ h → h < k → M5 34 h = M4 34 h + zUh c ord len nam (M 46) w h ∧ M5 33 h = M4 33 h + (if zUd c ord len nam (M 46) w h = true then 1 else 0)) → Q 29 35 14 n (zsm (zDb c ord len nam (M 46) W day (i + 1)) c.toNat) (i : Int) (k : Int) M5 := by
        intro m
        induction m with
        | zero =>
          intro k M5 hk f5 n5 y5
          have hkc : (k : Int) = c := by omega
          refine hQ _ _ _ _ _ _ _ _ ⟨fun _ => ?_, fun z => absurd (by rw [zf_a f5 29 5 rfl, a54]; omega) z⟩
          rw [zw (x := (i : Int) + 1) (by omega) (by omega), zf_a f5 29 6 rfl, a64, zw (x := day + (i : Int) + 1) (by omega) (by omega)]
          have f6 : zf [33, 34, 48, 36, 37, 38, 39, 16, 17, 18, 19, 20, 21, 22] [(29, 6), (35, 4), (14, 9), (45, 4), (45, 5), (45, 6), (45, 7)] M (z_up M5 29 6 (day + (i : Int) + 1)) := zf_uj (zf_ww (zf_tr f14 f5) rfl rfl) (by decide)
          have := ih (i + 1) _ (by omega) f6 ?_ ?_ (fun h a b => ?_) (fun h a b => ?_) (fun j hj => ?_) ?_ ?_
          · rw [show ((i + 1 : Nat) : Int) = (i : Int) + 1 by omega] at this
            exact this
          · unfold zBk at b4 ⊢
            have q1 : (z_up M5 29 6 (day + (i : Int) + 1)) (35 + 1) = M4 (35 + 1) := by rw [zu_f (by decide)]; exact zf_c f5 36 rfl
            have q2 : (z_up M5 29 6 (day + (i : Int) + 1)) (35 + 2) = M4 (35 + 2) := by rw [zu_f (by decide)]; exact zf_c f5 37 rfl
            have q3 : (z_up M5 29 6 (day + (i : Int) + 1)) (35 + 3) = M4 (35 + 3) := by rw [zu_f (by decide)]; exact zf_c f5 38 rfl
            rw [zu_c (by decide), zf_a f5 35 4 rfl, q1, q2, q3]; exact b4
          · rw [zu_s]; omega
          · rw [zu_c (by decide), (y5 h a (by omega)).1, x5, u1 h a b, zDa_s, hw]; omega
          · rw [zu_c (by decide), (y5 h a (by omega)).2, x4, v1 h a b, zDb_s, hw]; omega
          · rw [zu_c (by decide), zu_c (by decide), (n5 j (by omega)).1, (n5 j (by omega)).2, x4, x5]; exact o1 j hj
          · rw [zu_c (by decide), zf_a f5 45 6 rfl, ← hM4, zu_i (by decide), zu_s]
          · rw [zu_c (by decide), zf_a f5 45 7 rfl, ← hM4, zu_s]
        | succ m ih2 =>
          intro k M5 hk f5 n5 y5
          have g1 := n5 k (by omega)
          have g2 := hdr k (by omega) (by omega)
          have g3 := u1 k (by omega) (by omega)
          have g4 := v1 k (by omega) (by omega)
          have g5 := zDa_r (day := day) i hT hWr hth (h := k) (by omega)
          have g6 := zDb_r c ord len nam (M 46) W day i k
          have g7 := zUh_r hT wr hth (h := k) (by omega)
          have g8 := hth k (by omega) (by omega)
          have k8 : 0 ≤ (k : Int) ∧ (k : Int) < 8 := by omega
          refine hQ _ _ _ _ _ _ _ _ ⟨fun z => absurd z (by rw [zf_a f5 29 5 rfl, a54]; omega), fun _ => ⟨k8, k8, k8, k8, ?_⟩⟩
          have h48 : M5 48 k = zUh c ord len nam (M 46) w k := by rw [zf_c f5 48 rfl]; exact x48 k (by omega) (by omega)
          have h5 : M5 (29 + 5) k = M1 34 k := by show M5 34 k = _; rw [g1.2, x5]
          have r1 : ∀ v, (z_up M5 (29 + 5) k v) 45 5 = M4 45 5 := fun v => by rw [zu_c (by decide)]; exact zf_a f5 45 5 rfl
          have r2 : ∀ v, (z_up M5 (29 + 5) k v) (29 + 4) k = M1 33 k := fun v => by rw [zu_c (by decide)]; show M5 33 k = _; rw [g1.1, x4]
          rw [r1, r2, h48, h5, x455, zw (x := M1 34 k + _) (by omega) (by omega)]
          refine s_W_isIn (by omega) (by omega) ?_
          rw [zst_b _ _ (by omega) k (by omega), decide_eq_true (show (k : Int) < ((c.toNat : Nat) : Int) by omega), Bool.true_and]
          have nx : ∀ v, v = M1 33 k + (if zUd c ord len nam (M 46) w k = true then 1 else 0) → Q 29 35 14 n (zsm (zDb c ord len nam (M 46) W day (i + 1)) c.toNat) (i : Int) ((k : Int) + 1) (z_up (z_up M5 (29 + 5) k (M1 34 k + zUh c ord len nam (M 46) w k)) (29 + 4) k v) := by
            intro v hv
            have := ih2 (k + 1) (z_up (z_up M5 34 k (M1 34 k + zUh c ord len nam (M 46) w k)) 33 k v) (by omega) (zf_us (zf_us f5 (by decide)) (by decide)) (fun j hj => ?_) (fun h a b => ?_)
            · rw [show ((k + 1 : Nat) : Int) = (k : Int) + 1 by omega] at this
              exact this
            · rw [zu_i (by omega), zu_c (by decide), zu_c (by decide), zu_i (by omega)]; exact n5 j (by omega)
            · rw [zu_c (by decide)]
              by_cases q : h = k
              · rw [q, zu_s, zu_s, x5, x4, hv]; exact ⟨rfl, rfl⟩
              · rw [zu_i q, zu_i q, zu_c (by decide)]; exact y5 h a (by omega)
          rw [zw (x := (k : Int) + 1) (by omega) (by omega)]
          refine ⟨fun z => ⟨k8, ?_⟩, fun z => ⟨k8, ?_⟩⟩
          · rw [zw (x := M1 33 k + 0) (by omega) (by omega)]
            refine nx _ ?_
            by_cases q : zUd c ord len nam (M 46) w k = true
            · rw [if_pos q] at z; omega
            · rw [if_neg q]
          · rw [zw (x := M1 33 k + 1) (by omega) (by omega)]
            refine nx _ ?_
            by_cases q : zUd c ord len nam (M 46) w k = true
            · rw [if_pos q]
            · rw [if_neg q] at z; omega
      exact loop2 c.toNat 0 M4 (by omega) zf_rf (fun j _ => ⟨rfl, rfl⟩) (fun h a b => by omega)
  have z0 : zsm (zDb c ord len nam (M 46) W day 0) c.toNat = 0 := by
    have : ∀ k : Nat, zsm (zDb c ord len nam (M 46) W day 0) k = 0 := by
      intro k
      induction k with
      | zero => rfl
      | succ k ih => show zsm (zDb c ord len nam (M 46) W day 0) k + 0 = 0; omega
    exact this _
  have z1 : zst (zDp c ord len nam (M 46) W day 0) c.toNat = 0 := by
    have : ∀ k : Nat, zst (zDp c ord len nam (M 46) W day 0) k = 0 := by
      intro k
      induction k with
      | zero => rfl
      | succ k ih =>
        show (if zDp c ord len nam (M 46) W day 0 (k : Int) = true then zbs (zst (zDp c ord len nam (M 46) W day 0) k) (k : Int) else zst (zDp c ord len nam (M 46) W day 0) k) = 0
        rw [if_neg (by unfold zDp; show ¬ decide (0 < (0 : Int)) = true; decide)]; exact ih
    exact this _
  have g := loop n.toNat 0 (z_up (z_up M0 45 6 0) 45 7 0) (by omega) (zf_uj (zf_uj (zf_ww f0 rfl rfl) (by decide)) (by decide)) ?_ ?_ (fun h a b => ?_) (fun h a b => ?_) (fun j _ => ?_) ?_ ?_
  · rw [z0] at g; exact g
  · unfold zBk at b0 ⊢
    have q1 : (z_up (z_up M0 45 6 0) 45 7 0) (35 + 1) = M0 (35 + 1) := by rw [zu_f (by decide), zu_f (by decide)]
    have q2 : (z_up (z_up M0 45 6 0) 45 7 0) (35 + 2) = M0 (35 + 2) := by rw [zu_f (by decide), zu_f (by decide)]
    have q3 : (z_up (z_up M0 45 6 0) 45 7 0) (35 + 3) = M0 (35 + 3) := by rw [zu_f (by decide), zu_f (by decide)]
    rw [zu_c (by decide), zu_c (by decide), q1, q2, q3]; exact b0
  · rw [zu_c (by decide), zu_c (by decide), zf_a f0 29 6 rfl, hd0]; omega
  · rw [zu_c (by decide), zu_c (by decide), zf_c f0 34 rfl]; show _ = _ + (0 : Int); omega
  · rw [zu_c (by decide), zu_c (by decide), zf_c f0 33 rfl]; show _ = _ + (0 : Int); omega
  · rw [zu_c (by decide), zu_c (by decide), zu_c (by decide), zu_c (by decide), zf_c f0 33 rfl, zf_c f0 34 rfl]; exact ⟨rfl, rfl⟩
  · rw [zu_i (by decide), zu_s]; rfl
  · rw [zu_s, z1]
