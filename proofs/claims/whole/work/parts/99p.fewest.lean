/-! fewest() -/
theorem s_Thrift_seek {d : Nat} {c w : Int} {M : zM} {F : Int → zM → Prop} (ht : zTn c (M 24) (M 26) (M 25)) (h5 : M 23 5 = c) (hw : 0 ≤ w ∧ w ≤ 99) (hth : ∀ h, 0 ≤ h → h < c → 1 ≤ M 46 h ∧ M 46 h ≤ 9)
    (H : ∀ (M' : zM) (m tb n : Int) (q : Int → Int), zf [152, 153, 154, 155, 156, 157, 158] [(151, 4), (151, 8), (151, 9), (151, 10), (151, 11)] M M' → zFd c w tb 0 m (M 46) (M 26) (M 25) q n (M' 152) → (∀ t, zperm t → zSv c w (M 46) (M 26) (M 25) t ≤ m) → F m M') : zCi (d + 13) 78 [z_r (8, 0) 151, z_r (9, 0) 23, z_r (4, 0) 45, z_i w] M F := by
  have hc := ht.1
  have hnm := zTn_nm ht
  have hN : ∀ t, zperm t → zTn c t (M 26) (M 25) := fun t hp => ⟨ht.1, hp, ht.2.2⟩
  have hth1 : ∀ h, 0 ≤ h → h < c → 1 ≤ M 46 h := fun h a b => (hth h a b).1
  refine e_Thrift_seek (fun P hP => ?_)
  have p1 : (2 : Nat) ^ c.toNat ≤ 2 ^ 8 := Nat.pow_le_pow_right (by omega) (by omega)
  have es : z_shl 1 c = ((2 ^ c.toNat : Nat) : Int) := z_shl1 ⟨hc.1, by omega⟩
  have fin : ∀ M1 : zM, zf [153] [(151, 8), (151, 9)] M M1 → M1 151 8 = c → M1 151 9 = w → (∀ s, 0 ≤ s → s < ((2 ^ c.toNat : Nat) : Int) → M1 153 s = zts (M 46) s) → zCv (d + 12) 79 [z_r (8, 0) 151] M1 (fun M3 => zCv (d + 12) 80 [z_r (8, 0) 151, z_r (9, 0) 23] M3 (fun M5 => zCi (d + 12) 83 [z_r (8, 0) 151, z_i 0] (z_up M5 151 10 (-1)) (fun v8 M7 => zCi (d + 12) 86 [z_r (8, 0) 151, z_i 0] (z_up M7 151 11 v8) (fun v10 M9 => ((v10 = 0 → zCv (d + 12) 89 [z_r (8, 0) 151, z_i 0, z_i 0] M9 (fun M11 => F (M11 151 10) M11)) ∧ (¬ (v10 = 0) → zCv (d + 12) 87 [z_r (8, 0) 151, z_i 0, z_i 0, z_i (M9 151 11)] M9 (fun M13 => F (M13 151 10) M13))))))) := by
    intro M1 f1 e8 e9 sm
    refine s_Thrift_sortByThirst hc e8 hth (fun h a b => ?_) (fun M3 bt f3 hbt b3 => ?_)
    · have l1 := z_sh1_lt (i := h) (by omega)
      rw [sm _ l1.1 ((zb_lt2 hc l1.1).mpr (fun o o0 z => by rw [zb_sh1 (by omega) o0] at z; have := of_decide_eq_true z; omega)), zts_1 (by omega)]
    have f13 := zf_tr f1 f3
    have l26 : M3 26 = M 26 := zf_c f13 26 rfl
    have l25 : M3 25 = M 25 := zf_c f13 25 rfl
    refine s_Thrift_compareNames (c := c) (by rw [l26, l25]; exact hnm) (by rw [zf_a f3 151 8 rfl]; exact e8) (fun M5 tb f5 e4 hTl te Lv => ?_)
    rw [l26, l25] at hTl te Lv
    have f15 := zf_tr f13 f5
    -- what stays
    have hTf : ∀ M9, zf [152, 156, 157, 158] [(151, 10), (151, 11)] M5 M9 → zTf c w tb (M 46) (M 26) (M 25) bt M9 := fun M9 f9 => zTf_f ⟨by rw [zf_a f5 151 8 rfl, zf_a f3 151 8 rfl]; exact e8, by rw [zf_a f5 151 9 rfl, zf_a f3 151 9 rfl]; exact e9, e4, fun s a b => by rw [zf_c f5 153 rfl, zf_c f3 153 rfl]; exact sm s a b, fun i a b => by rw [zf_c f5 154 rfl]; exact b3 i a b, te⟩ f9
    have Lc : ∀ (p : Int → Int) (M9 : zM), M9 156 = M5 156 → M9 157 = M5 157 → zLv c (M 26) (M 25) p 0 M9 := fun p M9 a b => zLv_c (Lv p) hc.2 (fun i _ => by rw [a, b]; exact ⟨rfl, rfl⟩)
    have L6 : zLv c (M 26) (M 25) (fun _ => 0) 0 (z_up M5 151 10 (-1)) := Lc _ _ (zu_f (by decide)) (zu_f (by decide))
    refine s_Thrift_hope hc hw hth (hTf _ (zf_uj zf_rf (by decide))) hbt (by omega) L6 ?_
    generalize hM8 : z_up (z_up M5 151 10 (-1)) 151 11 (zmx (zHv c w (M 46) bt 0 (z_up M5 151 10 (-1))) c.toNat) = M8
    have f58 : zf [152, 156, 157, 158] [(151, 10), (151, 11)] M5 M8 := by rw [← hM8]; exact zf_uj (zf_uj zf_rf (by decide)) (by decide)
    have a156 : M8 156 = M5 156 := by rw [← hM8, zu_f (by decide), zu_f (by decide)]
    have a157 : M8 157 = M5 157 := by rw [← hM8, zu_f (by decide), zu_f (by decide)]
    have L8 := Lc (fun _ => 0) M8 a156 a157
    have m8 : M8 151 10 = -1 := by rw [← hM8, zu_i (by decide), zu_s]
    have b8 : M8 151 11 = zmx (zHv c w (M 46) bt 0 M8) c.toNat := by
      have : zHv c w (M 46) bt 0 (z_up M5 151 10 (-1)) = zHv c w (M 46) bt 0 M8 := by
        funext h
        unfold zHv
        rw [zu_f (b := 156) (by decide), zu_f (b := 157) (by decide), a156, a157]
      rw [← this, ← hM8, zu_s]
    have X0 : ∀ t, zXt tb (fun _ => 0) 0 t := fun t i a b => by omega
    have up : ∀ t, zperm t → zSv c w (M 46) (M 26) (M 25) t ≤ M8 151 11 := fun t hp => by
      rw [b8]
      exact zHp_up hc (zbk_g (hN t hp)) hth1 hbt (zLv_St (hN t hp) hTl L8 (X0 t))
    have hT8 := hTf M8 f58
    have fM : ∀ M9, zf [152, 156, 157, 158] [(151, 10)] M8 M9 → zf [152, 153, 154, 155, 156, 157, 158] [(151, 4), (151, 8), (151, 9), (151, 10), (151, 11)] M M9 := fun M9 f9 => zf_ww (zf_tr (zf_tr f15 f58) f9) rfl rfl
    refine s_Thrift_isSettled hT8.1 hc (by omega) (fun h0 => ⟨fun y => absurd y (by decide), fun _ => ?_⟩) (fun h0 => ⟨fun _ => ?_, fun y => absurd rfl y⟩)
    · refine s_Thrift_keepBest (tb := tb) (p := fun _ => 0) hT8.2.2.1 hTl.1 (by omega) (zPx_0 _) (fun j a b => by omega) (fun j a b => by omega) (fun M9 q N f9 e9 _ q9 hN9 qt cov asc mg => ?_)
      have eqS : ∀ t, zperm t → zSv c w (M 46) (M 26) (M 25) t = M8 151 11 := fun t hp => by
        rw [b8]
        exact (zHp_eq hc (zbk_g (hN t hp)) hth1 hbt (zLv_St (hN t hp) hTl L8 (X0 t)) h0).symm
      rw [e9]
      refine H M9 _ tb N q (fM M9 (zf_ww f9 rfl rfl)) ⟨by omega, qt, mg, fun t hp _ => eqS t hp, fun i x a b x0 x1 w un => ?_⟩ up
      obtain ⟨j, hj, ej⟩ := asc i a b x x0 x1 w
      exact absurd ej (un j hj.1 hj.2)
    · have exx : ∃ y : Int, (0 ≤ y ∧ y < 8) ∧ zb tb y = true ∧ zb 0 y = false := by
        refine Classical.byContradiction (fun no => ?_)
        obtain ⟨h, hh, ne⟩ := h0
        refine ne (zLv_all hnm hTl L8 (fun y y0 y1 w => ?_) h hh.1 hh.2)
        exact absurd ⟨y, ⟨y0, y1⟩, w, zb_0 y⟩ no
      refine s_Thrift_setNext (d := d) (bd := M8 151 11) hw hth hN hnm hTl hbt up 8 0 0 (-1) (fun _ => 0) M8 _ (by omega) (by omega) (by omega) (zPx_0 _) (fun j a b => by omega) hT8 m8 rfl (fun j a b => by omega) L8 exx (fun M9 f9 _ _ g9 => ?_)
      rcases g9 with ⟨y1, y2, y3⟩ | ⟨y1, y2, q, N, y3, y4⟩
      · exfalso
        have hp : zperm (fun x => x) := ⟨fun i a b => ⟨a, b⟩, fun i j _ _ _ _ e => e⟩
        have := y3 _ hp (X0 _)
        have nn := (zcn_le (zFs c w (M 46) (zPg c (fun x => x) (M 26) (M 25))) c.toNat).1
        have nn : 0 ≤ zSv c w (M 46) (M 26) (M 25) (fun x => x) := nn
        omega
      · exact H M9 _ tb N q (fM M9 f9) y4 (fun t hp => y2 t hp (X0 t))
  have loop : ∀ (m : Nat) (s : Int) (M1 : zM), s + m = ((2 ^ c.toNat : Nat) : Int) → 0 ≤ s → zf [153] [(151, 8), (151, 9)] M M1 → M1 151 8 = c → M1 151 9 = w → (∀ x, 0 ≤ x → x < s → M1 153 x = zts (M 46) x) → P 23 w s M1 := by
    intro m
    induction m with
    | zero =>
      intro s M1 hs s0 f1 e8 e9 sm
      refine hP _ _ _ _ ⟨fun _ => fin M1 f1 e8 e9 (fun x a b => sm x a (by omega)), fun z => absurd (by rw [e8, es]; omega) z⟩
    | succ m ih =>
      intro s M1 hs s0 f1 e8 e9 sm
      have e46 : M1 46 = M 46 := zf_c f1 46 rfl
      have bits := (zb_lt2 (x := s) hc s0).mp (by omega)
      refine hP _ _ _ _ ⟨fun z => absurd z (by rw [e8, es]; omega), fun _ => s_Pump_thirstOfSet (by omega) (fun h a b z => by rw [e46]; have := hth h a (bits h a z); omega) ⟨by omega, ?_⟩⟩
      rw [zw (x := s + 1) (by omega) (by omega), e46]
      refine ih (s + 1) _ (by omega) (by omega) (zf_us f1 (by decide)) (by rw [zu_c (by decide)]; exact e8) (by rw [zu_c (by decide)]; exact e9) (fun x a b => ?_)
      by_cases u : x = s
      · rw [u, zu_s]
      · rw [zu_i u]; exact sm x a (by omega)
  refine loop (2 ^ c.toNat) 0 _ (by omega) (by omega) (zf_uj (zf_uj zf_rf (by decide)) (by decide)) (by rw [zu_i (by decide), zu_s]; exact h5) (zu_s _ _ _ _) (fun x a b => by omega)
/-- all orders looked at: how many are dry -/
def zLi0 (B : zM) (M : zM) (q : Int × (Int → Int)) : Prop := zf [208, 199, 209, 200, 201, 202] [(181, 43)] B M ∧ M 181 43 = q.1 ∧ ∀ j, 0 ≤ j → j < 8 → M 209 j = q.2 j
theorem s_looks0 {d : Nat} {c w : Int} {len nam th : Int → Int} {B : zM} (hB : B 181 3 = c) (hN : ∀ t, zperm t → zTn c t len nam) (hU : zUn B c len nam) (h45 : B 181 45 = w) (hw : 0 ≤ w ∧ w ≤ 99) (hth : ∀ h, 0 ≤ h → h < c → B 184 h = th h ∧ 1 ≤ th h ∧ th h ≤ 9) (M : zM) (q : Int × (Int → Int)) (t : Int → Int) (F : zM → Prop) (hI : zLi0 B M q) (hp : zperm t) (hT : zTu 8 t M) (H : ∀ M', zLi0 B M' (zup (fun t => c - zSv c w th len nam t) t q) → M' 208 = M 208 → M' 199 = M 199 → F M') : zCv (d + 3) 217 [z_r (11, 0) 181, z_i 0] M F := by
  obtain ⟨f1, v1, b1⟩ := hI
  have ht := hN t hp
  have e3 : M 181 3 = c := by rw [zf_a f1 181 3 rfl]; exact hB
  have hU2 : zUn M c len nam := fun a b a0 a1 b0 b1 => by
    rw [zf_c f1 196 rfl, zf_c f1 197 rfl, zf_c f1 198 rfl]; exact hU a b a0 a1 b0 b1
  have hr : ∀ x, 0 ≤ x → x < 8 → M 199 x = zrk t x := fun x a b => zrk_u hp (fun i a b => (hT i a b).2) x a b
  refine e_M_looksAt (fun P Q hP hQ => ⟨fun z => absurd rfl z, fun _ => ?_⟩)
  refine s_M_laysPlaces (len := len) (nam := nam) (rk := zrk t) (by rw [e3]; exact zTn_ok ht) (by rw [e3]; exact hU2) hr (fun M2 f2 p2 k2 => ?_)
  rw [e3] at p2 k2
  have e32 : M2 181 3 = c := by rw [zf_a f2 181 3 rfl]; exact e3
  have ew : M2 181 45 = w := by rw [zf_a f2 181 45 rfl, zf_a f1 181 45 rfl]; exact h45
  have h184 : ∀ h, 0 ≤ h → h < c → M2 184 h = th h ∧ 0 ≤ th h ∧ th h ≤ 9 := fun h a b => by
    have := hth h a b
    rw [zf_c f2 184 rfl, zf_c f1 184 rfl]
    exact ⟨this.1, by omega, by omega⟩
  rw [ew]
  refine s_M_givesG (ord := t) (len := len) (nam := nam) (th := th) (by rw [e32]; exact ht) (by rw [e32]; exact ⟨p2, k2⟩) (fun h a b => h184 h a (by omega)) hw (fun M3 f3 c3 => ?_)
  rw [e32] at c3
  have e33 : M3 181 3 = c := by rw [zf_a f3 181 3 rfl]; exact e32
  have hc := ht.1
  have lm : ∀ h, 0 ≤ h → h < M3 181 3 → zUd c t len nam th w h = decide (M3 202 h < M3 184 h) := fun h a b => by
    rw [e33] at b
    rw [c3 h a b, zf_c f3 184 rfl, (h184 h a b).1]
    rfl
  have cost := zUd_n ht hw.1 (fun h a b => (hth h a b).2.1)
  have f13 : zf [208, 199, 209, 200, 201, 202] [(181, 43)] B M3 := zf_ww (zf_tr (zf_tr f1 f2) f3) rfl rfl
  have v3 : M3 181 43 = q.1 := by rw [zf_a f3 181 43 rfl, zf_a f2 181 43 rfl]; exact v1
  have b3 : ∀ j, 0 ≤ j → j < 8 → M3 209 j = q.2 j := fun j a b => by rw [zf_c f3 209 rfl, zf_c f2 209 rfl]; exact b1 j a b
  have k208 : M3 208 = M 208 := by rw [zf_c f3 208 rfl, zf_c f2 208 rfl]
  have k199 : M3 199 = M 199 := by rw [zf_c f3 199 rfl, zf_c f2 199 rfl]
  unfold zup at H
  dsimp only at H
  refine s_M_lessMany (p := zUd c t len nam th w) (by rw [e33]; exact hc) lm ?_
  rw [e33, cost, v3]
  have eS : c - zFn c w th (zPg c t len nam) = c - zSv c w th len nam t := rfl
  rw [eS]
  refine ⟨fun z => ?_, fun z => s_M_lessMany (p := zUd c t len nam th w) (by rw [e33]; exact hc) lm ?_⟩
  · rw [if_neg (by omega)] at H
    exact H M3 ⟨f13, v3, b3⟩ k208 k199
  · rw [e33, cost, eS]
    rw [if_pos (by omega)] at H
    refine s_M_keepsTurn (fun M4 f4 x1 x2 => H M4 ⟨zf_ww (zf_tr f13 f4) rfl rfl, x1, fun j a b => ?_⟩ (by rw [zf_c f4 208 rfl]; exact k208) (by rw [zf_c f4 199 rfl]; exact k199))
    rw [x2 j a b, k208]; exact (hT j a b).1
theorem p_fewest {d : Nat} {n : Int} {M : zM} (hI : zI n M) (hn : n < 512) : zQ (d + 14) 77 215 [z_r (10, 0) 0] [z_r (11, 0) 181] n M := by
  have hI0 := hI
  obtain ⟨hb, hT, hR, hJ⟩ := hI
  obtain ⟨i1, i2, i3, i4, i5, i6, i7, i8⟩ := zJ_in hJ
  obtain ⟨c1, c2, c3⟩ := zJ_count hJ
  have hth : ∀ h, 0 ≤ h → h < M 181 3 → 1 ≤ M 46 h ∧ M 46 h ≤ 9 := fun h a b => (hJ.2.1 h a b).2
  have hN : ∀ t, zperm t → zTn (M 181 3) t (M 26) (M 25) := fun t hp => ⟨i4.1, hp, i4.2.2⟩
  unfold zQ
  refine e_W_fewest (e_W_yieldToday (s_W_yieldAt hJ i8.1 (fun M1 f1 => ?_)))
  have hw := zW_r M (M 23 6)
  generalize hW : zW M (M 23 6) = w at hw
  have q46 : M1 46 = M 46 := zf_c f1 46 rfl
  have q26 : M1 26 = M 26 := zf_c f1 26 rfl
  have q25 : M1 25 = M 25 := zf_c f1 25 rfl
  refine s_Thrift_seek (d := d) (c := M 181 3) (by rw [zf_c f1 24 rfl, q26, q25]; exact i4) (by rw [zf_a f1 23 5 rfl]; exact c1) hw (by rw [q46]; exact hth) (fun M2 m tb N q f2 fd le => ?_)
  rw [q46, q26, q25] at fd le
  refine s_Row_tellAll (by decide) (by decide) (by decide) (fun M3 f3 r1 r2 => ?_)
  have f13 := zf_tr (zf_tr f1 f2) f3
  have f14 : zf ([7, 8, 9, 10, 11, 12, 13] ++ [152, 153, 154, 155, 156, 157, 158] ++ [4]) ([(5, 9)] ++ [(151, 4), (151, 8), (151, 9), (151, 10), (151, 11)] ++ [(3, 1)] ++ [(181, 0)]) M (z_up M3 181 0 0) := zf_uj (zf_ww f13 rfl rfl) (by decide)
  have e5 : M3 23 5 = M 181 3 := by rw [zf_a f13 23 5 rfl]; exact c1
  have e3 : (z_up M3 181 0 0) 181 3 = M 181 3 := zf_a f14 181 3 rfl
  have nm := zTn_nm i4
  have rw3 : zRw (z_up M3 181 0 0) 185 (M 181 3) (M 24) (M 26) (M 25) := zRw_f (S := []) (J := []) i5 (zf_c f14 185 rfl)
  refine e_M_fewest (s_M_laysUnlike (by decide) (by decide) (by rw [e3]; exact zRw_nm i4 rw3) (fun M4 f4 U4 => ⟨by decide, ?_⟩))
  rw [e3] at U4
  have U5 : zUn M4 (M 181 3) (M 26) (M 25) := zUn_c i4 rw3 U4
  have f15 := zf_tr f14 f4
  have hJ4 := zJ_f hJ f15 rfl
  have e80 : M4 185 80 = M 23 6 := by rw [zf_c f15 185 rfl]; exact i7
  rw [e80]
  refine s_M_yieldAt hJ4 i8.1 (fun M5 f5 => ?_)
  rw [zW_f f15 rfl, hW]
  generalize hB : z_up (z_up M5 181 45 w) 181 43 1000000 = B
  have fB : zf [194, 195] [(181, 45), (181, 43)] M4 B := by rw [← hB]; exact zf_uj (zf_uj (zf_ww f5 rfl rfl) (by decide)) (by decide)
  have f1B := zf_tr f15 fB
  have B3 : B 181 3 = M 181 3 := zf_a f1B 181 3 rfl
  have B45 : B 181 45 = w := by rw [← hB, zu_i (by decide), zu_s]
  have B43 : B 181 43 = 1000000 := by rw [← hB, zu_s]
  have BU : zUn B (M 181 3) (M 26) (M 25) := fun a b a0 a1 b0 b1 => by
    rw [zf_c fB 196 rfl, zf_c fB 197 rfl, zf_c fB 198 rfl]; exact U5 a b a0 a1 b0 b1
  have Bth : ∀ h, 0 ≤ h → h < M 181 3 → B 184 h = M 46 h ∧ 1 ≤ M 46 h ∧ M 46 h ≤ 9 := fun h a b => by
    rw [zf_c f1B 184 rfl]; exact ⟨(i6 h a b).1, hth h a b⟩
  have gt := s_M_goesThrough (Inv := zLi0 B) (up := zup (fun t => M 181 3 - zSv (M 181 3) w (M 46) (M 26) (M 25) t)) (w := 0) (d := d + 4) (fun Ma Mb q hq f => ⟨zf_ww (zf_tr hq.1 f) rfl rfl, by rw [zf_a f 181 43 rfl]; exact hq.2.1, fun j a b => by rw [zf_c f 209 rfl]; exact hq.2.2 j a b⟩) (fun Ma q t F' hq hp ht' H' => s_looks0 B3 hN BU B45 hw Bth Ma q t F' hq hp ht' H') 8 0 0 (fun _ => 0) (1000000, B 209) B
  rw [show d + 4 + 8 + 1 = d + 13 by omega] at gt
  refine gt _ (by omega) (by omega) (zPx_0 _) ⟨zf_rf, B43, fun j _ _ => rfl⟩ (fun j a b => by omega) (fun M6 h6 _ => ?_)
  have sv : ∀ t, 0 ≤ zSv (M 181 3) w (M 46) (M 26) (M 25) t := fun t => (zcn_le _ _).1
  have fst := zgo_fst (C := fun t => M 181 3 - zSv (M 181 3) w (M 46) (M 26) (M 25) t) (fun e e' he => by
    show M 181 3 - zFn _ _ _ (zpl _ (zrk e) _ _) = M 181 3 - zFn _ _ _ (zpl _ (zrk e') _ _)
    rw [zrk_c he]) 8 0 (fun _ => 0) 0 1000000 (B 209) (by omega) (zPx_0 _)
  generalize zgo (zup (fun t => M 181 3 - zSv (M 181 3) w (M 46) (M 26) (M 25) t)) 8 (fun _ => 0) 0 (1000000, B 209) = r at h6 fst
  have ref : r.1 = M 181 3 - m ∧ ∀ j, 0 ≤ j → j < 8 → r.2 j = M2 152 j := by
    rcases fst with ⟨_, y⟩ | ⟨y1, y2, y3, _, y5⟩
    · exfalso
      have y : (1000000 : Int) ≤ M 181 3 - zSv (M 181 3) w (M 46) (M 26) (M 25) (fun x => x) := y (fun x => x) ⟨fun i a b => ⟨a, b⟩, fun i j _ _ _ _ e => e⟩ (fun j a b => by omega)
      have := sv (fun x => x)
      omega
    · exact zFd_ref fd le y3 y2 (fun t hp => (y5 t hp (fun j a b => by omega)).1) (fun t hp j a b e l => (y5 t hp (fun j a b => by omega)).2 j a b e l)
  obtain ⟨y1, y2, y3⟩ := h6
  rw [y2]
  refine s_M_tellsTurn (fun M7 f7 q1 q2 => ⟨?_, ?_⟩)
  · have lm := le (fun x => x) ⟨fun i a b => ⟨a, b⟩, fun i j _ _ _ _ e => e⟩
    have s0 := sv (fun x => x)
    have mx : m ≤ M 181 3 := by
      obtain ⟨_, f2, f3, f4, _⟩ := fd
      have := f4 _ (zMg_p f3) (zMg_X f2 f3)
      have := (zcn_le (zFs (M 181 3) w (M 46) (zPg (M 181 3) (M2 152) (M 26) (M 25))) (M 181 3).toNat).2
      have : zSv (M 181 3) w (M 46) (M 26) (M 25) (M2 152) ≤ (((M 181 3).toNat : Nat) : Int) := this
      omega
    rw [e5, zw (by omega) (by omega), ref.1]
  · have f16 := zf_tr f1B y1
    refine zI_2 hI0 hn (zf_tr f16 f7) rfl rfl 8 (by omega) ?_ q1 (fun j a b => ?_)
    · rw [zf_a f7 3 1 rfl, zf_a y1 3 1 rfl, zf_a fB 3 1 rfl, zf_a f4 3 1 rfl, zu_c (by decide)]; exact r1
    · rw [zf_c f7 4 rfl, zf_c y1 4 rfl, zf_c fB 4 rfl, zf_c f4 4 rfl, zu_c (by decide), r2 j a b, q2 j a b, y3 j a b, ref.2 j a b]
