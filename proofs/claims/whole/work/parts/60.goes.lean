/-! a day goes, in the reference -/
theorem s_M_dayGoes_185 {d : Nat} {e : Int} {sg ord len nam th W : Int → Int} {M : zM} {F : Int → zM → Prop} (ht : zTn (M 179 3) ord len nam) (hr : zRw M 183 (M 179 3) ord len nam) (hth : ∀ h, 0 ≤ h → h < M 179 3 → M 182 h = th h ∧ 0 ≤ th h ∧ th h ≤ 9) (hday : 0 ≤ M 183 80 ∧ M 183 80 ≤ 2000000) (hdr : ∀ h, 0 ≤ h → h < M 179 3 → (0 ≤ M 183 (64 + h) ∧ M 183 (64 + h) ≤ 2000000) ∧ 0 ≤ M 183 (72 + h) ∧ M 183 (72 + h) ≤ 20000000) (hs : 1 ≤ M 179 5 ∧ M 179 5 ≤ 20) (hht : ∀ i, 0 ≤ i → i < M 179 5 → 0 ≤ M 181 i ∧ M 181 i ≤ 9) (hU : iU e sg (M 179 22) (M 190)) (hW : zYd e sg (M 179 5) (M 181) (M 179 3) (M 182) (M 183 80) = W (M 183 80))
    (H : ∀ M', zf [183, 192, 193, 194, 195, 196, 197, 198, 199, 200] [(179, 35)] M M' → (∀ j, j < 64 ∨ 80 < j → M' 183 j = M 183 j) → M' 183 80 = M 183 80 + 1 → (∀ h, 0 ≤ h → h < M 179 3 → M' 183 (72 + h) = M 183 (72 + h) + zUh (M 179 3) ord len nam th (W (M 183 80)) h) → (∀ h, 0 ≤ h → h < M 179 3 → M' 183 (64 + h) = M 183 (64 + h) + (if zUd (M 179 3) ord len nam th (W (M 183 80)) h = true then 1 else 0)) → (∀ h, M 179 3 ≤ h → h < 8 → M' 183 (64 + h) = M 183 (64 + h) ∧ M' 183 (72 + h) = M 183 (72 + h)) → M' 179 35 = z_wr (M 179 35 + zUl (M 179 3) ord len nam th (W (M 183 80))) → F (zst (zUd (M 179 3) ord len nam th (W (M 183 80))) (M 179 3).toNat) M') : zCi (d + 5) 200 [z_r (11, 0) 179, z_r (100, 81) 183] M F := by
  have hWr : 0 ≤ W (M 183 80) ∧ W (M 183 80) ≤ 99 := by rw [← hW]; exact zYd_r _ _ _ _ _ _ _
  have c8 := ht.1
  refine e_M_dayGoes (fun P hP => ?_)
  refine s_M_laysBook (ord := ord) (len := len) (nam := nam) (by decide) (by decide) ht hr (fun M1 f1 _ _ b1 => ⟨by decide, ?_⟩)
  have e1 : M1 183 80 = M 183 80 := by rw [zf_c f1 183 rfl]
  rw [e1]
  refine s_M_yieldOnV (e := e) (sg := sg) hday.1 (by rw [zf_a f1 179 5 rfl]; exact hs) (by rw [zf_a f1 179 5 rfl, zf_c f1 181 rfl]; exact hht) (by rw [zf_a f1 179 3 rfl]; exact c8) (fun h a b => by rw [zf_c f1 182 rfl]; rw [zf_a f1 179 3 rfl] at b; have := hth h a b; omega) (by rw [zf_a f1 179 22 rfl, zf_c f1 190 rfl]; exact hU) (fun M2 f2 => ?_)
  rw [zf_a f1 179 5 rfl, zf_a f1 179 3 rfl, zf_c f1 181 rfl, zf_c f1 182 rfl, hW]
  generalize hw : W (M 183 80) = w at *
  have f12 := zf_tr f1 f2
  have e3 : M2 179 3 = M 179 3 := zf_a f12 179 3 rfl
  have b2 : zBr M2 (M 179 3) (zrk ord) len nam := by
    unfold zBr at b1 ⊢
    rw [zf_c f2 198 rfl, zf_c f2 199 rfl]; exact b1
  refine s_M_givesG (ord := ord) (len := len) (nam := nam) (th := th) (by rw [e3]; exact ht) (by rw [e3]; exact b2) (fun h a b => by rw [zf_c f12 182 rfl]; exact hth h a (by omega)) hWr (fun M3 f3 c3 => ?_)
  rw [e3] at c3 ⊢
  have f13 := zf_tr f12 f3
  have hth2 : ∀ h, 0 ≤ h → h < M 179 3 → 0 ≤ th h ∧ th h ≤ 9 := fun h a b => (hth h a b).2
  have ul := zUl_r ht hWr hth2
  rw [zf_a f1 179 35 rfl]
  generalize hM4 : z_up M3 179 35 (z_wr (M 179 35 + zUl (M 179 3) ord len nam th w)) = M4
  have f34 : zf [] [(179, 35)] M3 M4 := by rw [← hM4]; exact zf_uj zf_rf (by decide)
  have f14 := zf_tr f13 f34
  have eQ : M4 183 = M 183 := zf_c f14 183 rfl
  have e34 : M4 179 3 = M 179 3 := zf_a f14 179 3 rfl
  have loop : ∀ (m k : Nat) (M5 : zM), (k : Int) + m = M 179 3 → zf [183] [] M4 M5 → (∀ j, j < 64 ∨ 80 ≤ j → M5 183 j = M 183 j) → (∀ h, (k : Int) ≤ h → h < 8 → M5 183 (64 + h) = M 183 (64 + h) ∧ M5 183 (72 + h) = M 183 (72 + h)) → (∀ h, 0 ≤ h → h < (k : Int) → M5 183 (72 + h) = M 183 (72 + h) + zUh (M 179 3) ord len nam th w h ∧ M5 183 (64 + h) = M 183 (64 + h) + (if zUd (M 179 3) ord len nam th w h = true then 1 else 0)) → P 81 183 (k : Int) M5 := by
    intro m
    induction m with
    | zero =>
      intro k M5 hk f5 n5 o5 y5
      refine hP _ _ _ _ ⟨fun _ => ⟨by decide, by decide, ?_⟩, fun z => absurd (by rw [zf_a f5 179 3 rfl, e34]; omega) z⟩
      rw [n5 80 (by omega), zw (x := M 183 80 + 1) (by omega) (by omega)]
      have f6 : zf [183] [] M4 (z_up M5 183 80 (M 183 80 + 1)) := zf_us f5 (by decide)
      have e36 : (z_up M5 183 80 (M 183 80 + 1)) 179 3 = M 179 3 := by rw [zf_a f6 179 3 rfl]; exact e34
      refine s_M_lessBits (p := zUd (M 179 3) ord len nam th w) (by rw [e36]; exact c8) (fun h a b => ?_) ?_
      · rw [e36] at b
        rw [zf_c f6 200 rfl, zf_c f6 182 rfl, zf_c f34 200 rfl, c3 h a b, zf_c f14 182 rfl, (hth h a b).1]
        rfl
      · rw [e36]
        refine H _ (zf_ww (zf_tr f14 f6) rfl rfl) (fun j hj => ?_) (zu_s _ _ _ _) (fun h a b => ?_) (fun h a b => ?_) (fun h a b => ?_) ?_
        · rw [zu_i (by omega)]; exact n5 j (by omega)
        · rw [zu_i (by omega)]; exact (y5 h a (by omega)).1
        · rw [zu_i (by omega)]; exact (y5 h a (by omega)).2
        · rw [zu_i (by omega), zu_i (by omega)]; exact o5 h (by omega) b
        · rw [zf_a f6 179 35 rfl, ← hM4, zu_s]
    | succ m ih =>
      intro k M5 hk f5 n5 o5 y5
      obtain ⟨g1, g2⟩ := o5 k (by omega) (by omega)
      obtain ⟨g3, g4⟩ := hdr k (by omega) (by omega)
      have g7 := zUh_r ht hWr hth2 (h := k) (by omega)
      have g8 := hth2 k (by omega) (by omega)
      have k8 : 0 ≤ (k : Int) ∧ (k : Int) < 8 := by omega
      have k72 : 0 ≤ 72 + (k : Int) ∧ 72 + (k : Int) < 81 := by omega
      have k64 : 0 ≤ 64 + (k : Int) ∧ 64 + (k : Int) < 81 := by omega
      refine hP _ _ _ _ ⟨fun z => absurd z (by rw [zf_a f5 179 3 rfl, e34]; omega), fun _ => ?_⟩
      have h202 : M5 200 k = zUh (M 179 3) ord len nam th w k := by rw [zf_c f5 200 rfl, zf_c f34 200 rfl]; exact c3 k (by omega) (by omega)
      have h184 : M5 182 k = th k := by rw [zf_c f5 182 rfl, zf_c f14 182 rfl]; exact (hth k (by omega) (by omega)).1
      have r1 : ∀ v, (z_up M5 183 (72 + (k : Int)) v) 182 k = th k := fun v => by rw [zu_c (by decide)]; exact h184
      have r2 : ∀ v, (z_up M5 183 (72 + (k : Int)) v) 200 k = zUh (M 179 3) ord len nam th w k := fun v => by rw [zu_c (by decide)]; exact h202
      have r3 : ∀ v, (z_up M5 183 (72 + (k : Int)) v) 183 (64 + (k : Int)) = M 183 (64 + (k : Int)) := fun v => by rw [zu_i (by omega)]; exact g1
      rw [zw (x := 72 + (k : Int)) (by omega) (by omega), zw (x := 64 + (k : Int)) (by omega) (by omega), zw (x := (k : Int) + 1) (by omega) (by omega), r1, r2, r3, h202, g2, zw (x := M 183 (72 + (k : Int)) + _) (by omega) (by omega)]
      have nx : ∀ v, v = M 183 (64 + (k : Int)) + (if zUd (M 179 3) ord len nam th w k = true then 1 else 0) → P 81 183 ((k : Int) + 1) (z_up (z_up M5 183 (72 + (k : Int)) (M 183 (72 + (k : Int)) + zUh (M 179 3) ord len nam th w k)) 183 (64 + (k : Int)) v) := by
        intro v hv
        have := ih (k + 1) (z_up (z_up M5 183 (72 + (k : Int)) (M 183 (72 + (k : Int)) + zUh (M 179 3) ord len nam th w k)) 183 (64 + (k : Int)) v) (by omega) (zf_us (zf_us f5 (by decide)) (by decide)) (fun j hj => ?_) (fun h a b => ?_) (fun h a b => ?_)
        · rw [show ((k + 1 : Nat) : Int) = (k : Int) + 1 by omega] at this
          exact this
        · rw [zu_i (by omega), zu_i (by omega)]; exact n5 j hj
        · rw [zu_i (by omega), zu_i (by omega), zu_i (by omega), zu_i (by omega)]; exact o5 h (by omega) b
        · rw [zu_i (by omega)]
          by_cases q : h = k
          · rw [q, zu_s, zu_s, hv]; exact ⟨rfl, rfl⟩
          · rw [zu_i (by omega), zu_i (by omega), zu_i (by omega)]; exact y5 h a (by omega)
      have ud : zUd (M 179 3) ord len nam th w k = decide (zUh (M 179 3) ord len nam th w k < th k) := rfl
      refine ⟨k72, k8, k72, k64, k8, k8, fun z => s_M_flag (b := false) rfl ⟨k64, ?_⟩, fun z => s_M_flag (b := true) rfl ⟨k64, ?_⟩⟩
      · show P 81 183 _ (z_up _ 183 _ (z_wr (M 183 (64 + (k : Int)) + 0)))
        rw [zw (x := M 183 (64 + (k : Int)) + 0) (by omega) (by omega)]
        refine nx _ ?_
        rw [if_neg (by rw [ud]; simp only [decide_eq_true_eq]; omega)]
      · show P 81 183 _ (z_up _ 183 _ (z_wr (M 183 (64 + (k : Int)) + 1)))
        rw [zw (x := M 183 (64 + (k : Int)) + 1) (by omega) (by omega)]
        refine nx _ ?_
        rw [if_pos (by rw [ud]; simp only [decide_eq_true_eq]; omega)]
  exact loop (M 179 3).toNat 0 M4 (by omega) zf_rf (fun j _ => by rw [eQ]) (fun h _ _ => by rw [eQ]; exact ⟨rfl, rfl⟩) (fun h a b => by omega)
theorem s_M_dayGoes_186 {d : Nat} {e : Int} {sg ord len nam th W : Int → Int} {M : zM} {F : Int → zM → Prop} (ht : zTn (M 179 3) ord len nam) (hr : zRw M 184 (M 179 3) ord len nam) (hth : ∀ h, 0 ≤ h → h < M 179 3 → M 182 h = th h ∧ 0 ≤ th h ∧ th h ≤ 9) (hday : 0 ≤ M 184 80 ∧ M 184 80 ≤ 2000000) (hdr : ∀ h, 0 ≤ h → h < M 179 3 → (0 ≤ M 184 (64 + h) ∧ M 184 (64 + h) ≤ 2000000) ∧ 0 ≤ M 184 (72 + h) ∧ M 184 (72 + h) ≤ 20000000) (hs : 1 ≤ M 179 5 ∧ M 179 5 ≤ 20) (hht : ∀ i, 0 ≤ i → i < M 179 5 → 0 ≤ M 181 i ∧ M 181 i ≤ 9) (hU : iU e sg (M 179 22) (M 190)) (hW : zYd e sg (M 179 5) (M 181) (M 179 3) (M 182) (M 184 80) = W (M 184 80))
    (H : ∀ M', zf [184, 192, 193, 194, 195, 196, 197, 198, 199, 200] [(179, 35)] M M' → (∀ j, j < 64 ∨ 80 < j → M' 184 j = M 184 j) → M' 184 80 = M 184 80 + 1 → (∀ h, 0 ≤ h → h < M 179 3 → M' 184 (72 + h) = M 184 (72 + h) + zUh (M 179 3) ord len nam th (W (M 184 80)) h) → (∀ h, 0 ≤ h → h < M 179 3 → M' 184 (64 + h) = M 184 (64 + h) + (if zUd (M 179 3) ord len nam th (W (M 184 80)) h = true then 1 else 0)) → (∀ h, M 179 3 ≤ h → h < 8 → M' 184 (64 + h) = M 184 (64 + h) ∧ M' 184 (72 + h) = M 184 (72 + h)) → M' 179 35 = z_wr (M 179 35 + zUl (M 179 3) ord len nam th (W (M 184 80))) → F (zst (zUd (M 179 3) ord len nam th (W (M 184 80))) (M 179 3).toNat) M') : zCi (d + 5) 200 [z_r (11, 0) 179, z_r (100, 81) 184] M F := by
  have hWr : 0 ≤ W (M 184 80) ∧ W (M 184 80) ≤ 99 := by rw [← hW]; exact zYd_r _ _ _ _ _ _ _
  have c8 := ht.1
  refine e_M_dayGoes (fun P hP => ?_)
  refine s_M_laysBook (ord := ord) (len := len) (nam := nam) (by decide) (by decide) ht hr (fun M1 f1 _ _ b1 => ⟨by decide, ?_⟩)
  have e1 : M1 184 80 = M 184 80 := by rw [zf_c f1 184 rfl]
  rw [e1]
  refine s_M_yieldOnV (e := e) (sg := sg) hday.1 (by rw [zf_a f1 179 5 rfl]; exact hs) (by rw [zf_a f1 179 5 rfl, zf_c f1 181 rfl]; exact hht) (by rw [zf_a f1 179 3 rfl]; exact c8) (fun h a b => by rw [zf_c f1 182 rfl]; rw [zf_a f1 179 3 rfl] at b; have := hth h a b; omega) (by rw [zf_a f1 179 22 rfl, zf_c f1 190 rfl]; exact hU) (fun M2 f2 => ?_)
  rw [zf_a f1 179 5 rfl, zf_a f1 179 3 rfl, zf_c f1 181 rfl, zf_c f1 182 rfl, hW]
  generalize hw : W (M 184 80) = w at *
  have f12 := zf_tr f1 f2
  have e3 : M2 179 3 = M 179 3 := zf_a f12 179 3 rfl
  have b2 : zBr M2 (M 179 3) (zrk ord) len nam := by
    unfold zBr at b1 ⊢
    rw [zf_c f2 198 rfl, zf_c f2 199 rfl]; exact b1
  refine s_M_givesG (ord := ord) (len := len) (nam := nam) (th := th) (by rw [e3]; exact ht) (by rw [e3]; exact b2) (fun h a b => by rw [zf_c f12 182 rfl]; exact hth h a (by omega)) hWr (fun M3 f3 c3 => ?_)
  rw [e3] at c3 ⊢
  have f13 := zf_tr f12 f3
  have hth2 : ∀ h, 0 ≤ h → h < M 179 3 → 0 ≤ th h ∧ th h ≤ 9 := fun h a b => (hth h a b).2
  have ul := zUl_r ht hWr hth2
  rw [zf_a f1 179 35 rfl]
  generalize hM4 : z_up M3 179 35 (z_wr (M 179 35 + zUl (M 179 3) ord len nam th w)) = M4
  have f34 : zf [] [(179, 35)] M3 M4 := by rw [← hM4]; exact zf_uj zf_rf (by decide)
  have f14 := zf_tr f13 f34
  have eQ : M4 184 = M 184 := zf_c f14 184 rfl
  have e34 : M4 179 3 = M 179 3 := zf_a f14 179 3 rfl
  have loop : ∀ (m k : Nat) (M5 : zM), (k : Int) + m = M 179 3 → zf [184] [] M4 M5 → (∀ j, j < 64 ∨ 80 ≤ j → M5 184 j = M 184 j) → (∀ h, (k : Int) ≤ h → h < 8 → M5 184 (64 + h) = M 184 (64 + h) ∧ M5 184 (72 + h) = M 184 (72 + h)) → (∀ h, 0 ≤ h → h < (k : Int) → M5 184 (72 + h) = M 184 (72 + h) + zUh (M 179 3) ord len nam th w h ∧ M5 184 (64 + h) = M 184 (64 + h) + (if zUd (M 179 3) ord len nam th w h = true then 1 else 0)) → P 81 184 (k : Int) M5 := by
    intro m
    induction m with
    | zero =>
      intro k M5 hk f5 n5 o5 y5
      refine hP _ _ _ _ ⟨fun _ => ⟨by decide, by decide, ?_⟩, fun z => absurd (by rw [zf_a f5 179 3 rfl, e34]; omega) z⟩
      rw [n5 80 (by omega), zw (x := M 184 80 + 1) (by omega) (by omega)]
      have f6 : zf [184] [] M4 (z_up M5 184 80 (M 184 80 + 1)) := zf_us f5 (by decide)
      have e36 : (z_up M5 184 80 (M 184 80 + 1)) 179 3 = M 179 3 := by rw [zf_a f6 179 3 rfl]; exact e34
      refine s_M_lessBits (p := zUd (M 179 3) ord len nam th w) (by rw [e36]; exact c8) (fun h a b => ?_) ?_
      · rw [e36] at b
        rw [zf_c f6 200 rfl, zf_c f6 182 rfl, zf_c f34 200 rfl, c3 h a b, zf_c f14 182 rfl, (hth h a b).1]
        rfl
      · rw [e36]
        refine H _ (zf_ww (zf_tr f14 f6) rfl rfl) (fun j hj => ?_) (zu_s _ _ _ _) (fun h a b => ?_) (fun h a b => ?_) (fun h a b => ?_) ?_
        · rw [zu_i (by omega)]; exact n5 j (by omega)
        · rw [zu_i (by omega)]; exact (y5 h a (by omega)).1
        · rw [zu_i (by omega)]; exact (y5 h a (by omega)).2
        · rw [zu_i (by omega), zu_i (by omega)]; exact o5 h (by omega) b
        · rw [zf_a f6 179 35 rfl, ← hM4, zu_s]
    | succ m ih =>
      intro k M5 hk f5 n5 o5 y5
      obtain ⟨g1, g2⟩ := o5 k (by omega) (by omega)
      obtain ⟨g3, g4⟩ := hdr k (by omega) (by omega)
      have g7 := zUh_r ht hWr hth2 (h := k) (by omega)
      have g8 := hth2 k (by omega) (by omega)
      have k8 : 0 ≤ (k : Int) ∧ (k : Int) < 8 := by omega
      have k72 : 0 ≤ 72 + (k : Int) ∧ 72 + (k : Int) < 81 := by omega
      have k64 : 0 ≤ 64 + (k : Int) ∧ 64 + (k : Int) < 81 := by omega
      refine hP _ _ _ _ ⟨fun z => absurd z (by rw [zf_a f5 179 3 rfl, e34]; omega), fun _ => ?_⟩
      have h202 : M5 200 k = zUh (M 179 3) ord len nam th w k := by rw [zf_c f5 200 rfl, zf_c f34 200 rfl]; exact c3 k (by omega) (by omega)
      have h184 : M5 182 k = th k := by rw [zf_c f5 182 rfl, zf_c f14 182 rfl]; exact (hth k (by omega) (by omega)).1
      have r1 : ∀ v, (z_up M5 184 (72 + (k : Int)) v) 182 k = th k := fun v => by rw [zu_c (by decide)]; exact h184
      have r2 : ∀ v, (z_up M5 184 (72 + (k : Int)) v) 200 k = zUh (M 179 3) ord len nam th w k := fun v => by rw [zu_c (by decide)]; exact h202
      have r3 : ∀ v, (z_up M5 184 (72 + (k : Int)) v) 184 (64 + (k : Int)) = M 184 (64 + (k : Int)) := fun v => by rw [zu_i (by omega)]; exact g1
      rw [zw (x := 72 + (k : Int)) (by omega) (by omega), zw (x := 64 + (k : Int)) (by omega) (by omega), zw (x := (k : Int) + 1) (by omega) (by omega), r1, r2, r3, h202, g2, zw (x := M 184 (72 + (k : Int)) + _) (by omega) (by omega)]
      have nx : ∀ v, v = M 184 (64 + (k : Int)) + (if zUd (M 179 3) ord len nam th w k = true then 1 else 0) → P 81 184 ((k : Int) + 1) (z_up (z_up M5 184 (72 + (k : Int)) (M 184 (72 + (k : Int)) + zUh (M 179 3) ord len nam th w k)) 184 (64 + (k : Int)) v) := by
        intro v hv
        have := ih (k + 1) (z_up (z_up M5 184 (72 + (k : Int)) (M 184 (72 + (k : Int)) + zUh (M 179 3) ord len nam th w k)) 184 (64 + (k : Int)) v) (by omega) (zf_us (zf_us f5 (by decide)) (by decide)) (fun j hj => ?_) (fun h a b => ?_) (fun h a b => ?_)
        · rw [show ((k + 1 : Nat) : Int) = (k : Int) + 1 by omega] at this
          exact this
        · rw [zu_i (by omega), zu_i (by omega)]; exact n5 j hj
        · rw [zu_i (by omega), zu_i (by omega), zu_i (by omega), zu_i (by omega)]; exact o5 h (by omega) b
        · rw [zu_i (by omega)]
          by_cases q : h = k
          · rw [q, zu_s, zu_s, hv]; exact ⟨rfl, rfl⟩
          · rw [zu_i (by omega), zu_i (by omega), zu_i (by omega)]; exact y5 h a (by omega)
      have ud : zUd (M 179 3) ord len nam th w k = decide (zUh (M 179 3) ord len nam th w k < th k) := rfl
      refine ⟨k72, k8, k72, k64, k8, k8, fun z => s_M_flag (b := false) rfl ⟨k64, ?_⟩, fun z => s_M_flag (b := true) rfl ⟨k64, ?_⟩⟩
      · show P 81 184 _ (z_up _ 184 _ (z_wr (M 184 (64 + (k : Int)) + 0)))
        rw [zw (x := M 184 (64 + (k : Int)) + 0) (by omega) (by omega)]
        refine nx _ ?_
        rw [if_neg (by rw [ud]; simp only [decide_eq_true_eq]; omega)]
      · show P 81 184 _ (z_up _ 184 _ (z_wr (M 184 (64 + (k : Int)) + 1)))
        rw [zw (x := M 184 (64 + (k : Int)) + 1) (by omega) (by omega)]
        refine nx _ ?_
        rw [if_pos (by rw [ud]; simp only [decide_eq_true_eq]; omega)]
  exact loop (M 179 3).toNat 0 M4 (by omega) zf_rf (fun j _ => by rw [eQ]) (fun h _ _ => by rw [eQ]; exact ⟨rfl, rfl⟩) (fun h a b => by omega)
