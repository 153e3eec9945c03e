/-! the yield of a day; who stands where; today's cups -/
def zYd (e : Int) (sg : Int → Int) (hl : Int) (ht : Int → Int) (c : Int) (th : Int → Int) (x : Int) : Int := zcl (zRv e sg (ht (Int.tmod x hl)) (Int.tmod x 10) c (zsm th c.toNat))
theorem zcl_r (v : Int) : 0 ≤ zcl v ∧ zcl v ≤ 99 := by
  unfold zcl
  by_cases a : v < 99
  · rw [if_pos a]; split <;> omega
  · rw [if_neg a]; split <;> omega
theorem zYd_r (e : Int) (sg : Int → Int) (hl : Int) (ht : Int → Int) (c : Int) (th : Int → Int) (x : Int) : 0 ≤ zYd e sg hl ht c th x ∧ zYd e sg hl ht c th x ≤ 99 := zcl_r _
theorem zYd_c {e : Int} {sg : Int → Int} {hl : Int} {ht ht' : Int → Int} {c : Int} {th th' : Int → Int} {x : Int} (hx : 0 ≤ x) (hh : 1 ≤ hl) (e1 : ∀ i, 0 ≤ i → i < hl → ht i = ht' i) (e2 : ∀ h, 0 ≤ h → h < c → th h = th' h) : zYd e sg hl ht c th x = zYd e sg hl ht' c th' x := by
  unfold zYd
  rw [e1 (Int.tmod x hl) (Int.tmod_nonneg _ hx) (Int.tmod_lt_of_pos _ (by omega)), zsm_c c.toNat (fun i a b => e2 i a (by omega))]
theorem z_ri_s {x : Int} (h : 0 ≤ x ∧ x ≤ 1000) : z_ri x := by unfold z_ri; omega
theorem ztm10 {x : Int} (hx : 0 ≤ x) : 0 ≤ Int.tmod x 10 ∧ Int.tmod x 10 < 10 := ⟨Int.tmod_nonneg _ hx, Int.tmod_lt_of_pos _ (by omega)⟩
theorem s_Pump_yieldOnV {d a : Nat} {x c cl : Int} {cd : Int → Int} {M : zM} {F : Int → zM → Prop} (hx : 0 ≤ x) (hs : 1 ≤ M 45 2 ∧ M 45 2 ≤ 20) (hht : ∀ i, 0 ≤ i → i < M 45 2 → 0 ≤ M 47 i ∧ M 47 i ≤ 9) (hc : 0 ≤ c ∧ c ≤ 8) (hth : ∀ h, 0 ≤ h → h < c → 0 ≤ M 46 h ∧ M 46 h ≤ 9) (hU : iU (M a 1) (M (a + 1)) cl cd)
    (H : ∀ M', zf [a + 2, a + 3, a + 4, a + 5, a + 6, a + 7, a + 8] [(a, 9)] M M' → F (zYd (M a 1) (M (a + 1)) (M 45 2) (M 47) c (M 46) x) M') : zCi (d + 4) 47 [z_r (4, 0) 45, z_r (6, 0) a, z_i c, z_i x] M F := by
  have r0 : 0 ≤ Int.tmod x (M 45 2) := Int.tmod_nonneg _ hx
  have r1 : Int.tmod x (M 45 2) < M 45 2 := Int.tmod_lt_of_pos _ (by omega)
  have h1 := hht _ r0 r1
  have h2 := ztm10 hx
  have h4 := zsm_b (f := M 46) (B := 9) c.toNat (fun i a b => hth i a (by omega))
  exact s_Pump_yieldOn hx hs hc hth (s_Rule_valueOf hU (z_ri_s (by omega)) (z_ri_s (by omega)) (z_ri_s (by omega)) (z_ri_s (by omega)) H)
theorem s_M_yieldOnV {d : Nat} {x e : Int} {sg : Int → Int} {M : zM} {F : Int → zM → Prop} (hx : 0 ≤ x) (hs : 1 ≤ M 179 5 ∧ M 179 5 ≤ 20) (hht : ∀ i, 0 ≤ i → i < M 179 5 → 0 ≤ M 181 i ∧ M 181 i ≤ 9) (hc : 0 ≤ M 179 3 ∧ M 179 3 ≤ 8) (hth : ∀ h, 0 ≤ h → h < M 179 3 → 0 ≤ M 182 h ∧ M 182 h ≤ 9) (hU : iU e sg (M 179 22) (M 190))
    (H : ∀ M', zf [192, 193] [] M M' → F (zYd e sg (M 179 5) (M 181) (M 179 3) (M 182) x) M') : zCi (d + 4) 181 [z_r (11, 0) 179, z_i x] M F := by
  have r0 : 0 ≤ Int.tmod x (M 179 5) := Int.tmod_nonneg _ hx
  have r1 : Int.tmod x (M 179 5) < M 179 5 := Int.tmod_lt_of_pos _ (by omega)
  have h1 := hht _ r0 r1
  have h2 := ztm10 hx
  have h4 := zsm_b (f := M 182) (B := 9) (M 179 3).toNat (fun i a b => hth i a (by omega))
  refine s_M_yieldOn hx hs hc hth (fun M1 f1 v0 v1 v2 v3 => ?_)
  refine s_M_ruledV (e := e) (sg := sg) (by rw [zf_a f1 179 22 rfl, zf_c f1 190 rfl]; exact hU) (by rw [v0]; exact z_ri_s (by omega)) (by rw [v1]; exact z_ri_s (by omega)) (by rw [v2]; exact z_ri_s (by omega)) (by rw [v3]; exact z_ri_s (by omega)) (fun M2 f2 => ?_)
  rw [v0, v1, v2, v3]
  exact H M2 (zf_ww (zf_tr f1 f2) (by decide) (by decide))
/-- who stands at a place, by a search -/
def zvi (pl : Int → Int) : Nat → Int → Int
  | 0, _ => -1
  | n + 1, k => if pl (n : Int) = k then (n : Int) else zvi pl n k
theorem zvi_s {pl : Int → Int} : ∀ (n : Nat), (∀ a b : Int, 0 ≤ a → a < n → 0 ≤ b → b < n → pl a = pl b → a = b) → ∀ h : Int, 0 ≤ h → h < n → zvi pl n (pl h) = h
  | 0, _, h, a, b => by omega
  | n + 1, hj, h, a, b => by
    show (if pl (n : Int) = pl h then (n : Int) else zvi pl n (pl h)) = h
    by_cases q : pl (n : Int) = pl h
    · rw [if_pos q]; exact hj n h (by omega) (by omega) a b q
    · rw [if_neg q]
      have : h ≠ n := fun z => q (by rw [z])
      exact zvi_s n (fun a b a0 a1 b0 b1 => hj a b a0 (by omega) b0 (by omega)) h a (by omega)
def zPg (c : Int) (ord len nam : Int → Int) : Int → Int := zpl c (zrk ord) len nam
def zTg (c : Int) (ord len nam : Int → Int) : Int → Int := zvi (zPg c ord len nam) c.toNat
theorem zbk_g {c : Int} {ord len nam : Int → Int} (h : zTn c ord len nam) : zbk c (zPg c ord len nam) (zTg c ord len nam) := by
  refine zbk_of (zTn_ok h) (fun a a0 a1 => ?_)
  exact zvi_s c.toNat (fun x y x0 x1 y0 y1 q => zpl_j (zTn_ok h) ⟨x0, by omega⟩ ⟨y0, by omega⟩ q) a a0 (by omega)
theorem zbk_gu {c : Int} {ord len nam T : Int → Int} (h : zTn c ord len nam) (hT : zbk c (zpl c (zrk ord) len nam) T) : ∀ k, 0 ≤ k → k < c → T k = zTg c ord len nam k := fun k k0 k1 => zbk_u hT (zbk_g h) (fun _ _ _ => rfl) k k0 k1
/-- cups of a house; whether it has less; what is left -/
def zUh (c : Int) (ord len nam th : Int → Int) (w h : Int) : Int := zcu (zPg c ord len nam) (zTg c ord len nam) th w h
def zUd (c : Int) (ord len nam th : Int → Int) (w h : Int) : Bool := zdd (zPg c ord len nam) (zTg c ord len nam) th w h
def zUl (c : Int) (ord len nam th : Int → Int) (w : Int) : Int := zcw (zTg c ord len nam) th w c.toNat
theorem zUh_r {c : Int} {ord len nam th : Int → Int} {w h : Int} (ht : zTn c ord len nam) (hw : 0 ≤ w ∧ w ≤ 99) (hth : ∀ h, 0 ≤ h → h < c → 0 ≤ th h ∧ th h ≤ 9) (hh : 0 ≤ h ∧ h < c) : 0 ≤ zUh c ord len nam th w h ∧ zUh c ord len nam th w h ≤ th h := zcu_r (zbk_g ht) hw hth hh
theorem zUl_r {c : Int} {ord len nam th : Int → Int} {w : Int} (ht : zTn c ord len nam) (hw : 0 ≤ w ∧ w ≤ 99) (hth : ∀ h, 0 ≤ h → h < c → 0 ≤ th h ∧ th h ≤ 9) : 0 ≤ zUl c ord len nam th w ∧ zUl c ord len nam th w ≤ 99 :=
  zcw_r hw c.toNat (fun k a b => (hth _ ((zbk_g ht).2 k a (by have := ht.1; omega)).1 ((zbk_g ht).2 k a (by have := ht.1; omega)).2.1).1)
/-- the pump pours by the book of a town -/
theorem s_Pump_pourG {d : Nat} {c w : Int} {ord len nam : Int → Int} {M : zM} {F : Int → zM → Prop} (ht : zTn c ord len nam) (hB : zBk M 35 c (zrk ord) len nam) (hth : ∀ h, 0 ≤ h → h < c → 0 ≤ M 46 h ∧ M 46 h ≤ 9) (hw : 0 ≤ w ∧ w ≤ 99)
    (H : ∀ M', zf [48] [(45, 4), (45, 5)] M M' → M' 45 4 = zUl c ord len nam (M 46) w → (∀ h, 0 ≤ h → h < c → M' 48 h = zUh c ord len nam (M 46) w h) → M' 45 5 = zst (zUd c ord len nam (M 46) w) c.toNat → F (zcard (zst (zUd c ord len nam (M 46) w) c.toNat)) M') : zCi (d + 2) 54 [z_r (4, 0) 45, z_r (0, 0) 35, z_i w] M F :=
  s_Pump_pour (b := 35) (by decide) ht.1 hB.1 (zbk_gu ht hB.2.2.2) (zbk_g ht) hth hw H
theorem s_M_givesG {d : Nat} {w : Int} {ord len nam th : Int → Int} {M : zM} {F : Int → zM → Prop} (ht : zTn (M 179 3) ord len nam) (hB : zBr M (M 179 3) (zrk ord) len nam) (hth : ∀ h, 0 ≤ h → h < M 179 3 → M 182 h = th h ∧ 0 ≤ th h ∧ th h ≤ 9) (hw : 0 ≤ w ∧ w ≤ 99)
    (H : ∀ M', zf [200] [] M M' → (∀ h, 0 ≤ h → h < M 179 3 → M' 200 h = zUh (M 179 3) ord len nam th w h) → F (zUl (M 179 3) ord len nam th w) M') : zCi (d + 1) 186 [z_r (11, 0) 179, z_i w] M F :=
  s_M_gives ht.1 rfl (zbk_gu ht hB.2) (zbk_g ht) hth hw H
