/-! the class's search for the order that leaves the fewest dry -/
theorem zts_s {th : Int → Int} {s i : Int} (hs : 0 ≤ s ∧ s < 256) (hi : 0 ≤ i ∧ i < 8) (h : zb s i = false) : zts th (zbs s i) = zts th s + th i := by
  have e1 : zts th (zbs s i) = zsm (fun h => (if zb s h = true then th h else 0) + (if h = i then th i else 0)) 8 := by
    unfold zts
    refine zsm_c 8 (fun j a b => ?_)
    show (if zb (zbs s i) j = true then th j else 0) = (if zb s j = true then th j else 0) + (if j = i then th i else 0)
    rw [zb_zbs (by omega) (by omega) a]
    by_cases q : j = i
    · rw [q, h, if_pos rfl, decide_eq_true rfl]; simp
    · rw [if_neg q, decide_eq_false (fun e => q e.symm), Bool.or_false, Int.add_zero]
  rw [e1, zsm_add, zsm_one (f := fun h => if h = i then th i else 0) (k0 := i) 8 (fun k _ _ ne => if_neg ne), if_pos (by omega)]
  show zts th s + (if i = i then th i else 0) = _
  rw [if_pos rfl]
theorem zts_z (th : Int → Int) : zts th 0 = 0 := by
  unfold zts
  rw [zsm_c (g := fun _ => 0) 8 (fun i _ _ => by show (if zb 0 i = true then th i else 0) = 0; rw [zb_0]; exact if_neg (by decide)), zsm_0]
/-- the sums of the sets of the first k houses -/
def zSmk (k : Int) (th m : Int → Int) : Prop := ∀ x, (0 ≤ x ∧ x < 256) → (∀ h, 0 ≤ h → zb x h = true → h < k) → m x = zts th x
theorem s_Thrift_addUp {d : Nat} {c : Int} {M : zM} {F : zM → Prop} (hc : 0 ≤ c ∧ c ≤ 8) (h5 : M 151 5 = c) (h0 : M 154 0 = 0) (hth : ∀ h, 0 ≤ h → h < c → 1 ≤ M 46 h ∧ M 46 h ≤ 9) (H : ∀ M', zf [154] [] M M' → zSmk c (M 46) (M' 154) → F M') : zCv (d + 1) 79 [z_r (8, 0) 151, z_r (4, 0) 45] M F := by
  refine e_Thrift_addUp (fun P Q hP hQ => ?_)
  have outer : ∀ (m : Nat) (k : Int) (M1 : zM), k + m = c → 0 ≤ k → zf [154] [] M M1 → zSmk k (M 46) (M1 154) → P k M1 := by
    intro m
    induction m with
    | zero =>
      intro k M1 hk k0 f1 s1
      refine hP _ _ ⟨fun _ => H M1 f1 ?_, fun z => absurd (by rw [zf_a f1 151 5 rfl]; omega) z⟩
      rw [show c = k by omega]; exact s1
    | succ m ih =>
      intro k M1 hk k0 f1 s1
      refine hP _ _ ⟨fun z => absurd z (by rw [zf_a f1 151 5 rfl]; omega), fun _ => ?_⟩
      have es : z_shl 1 k = ((2 ^ k.toNat : Nat) : Int) := z_shl1 ⟨k0, by omega⟩
      have p1 : (2 : Nat) ^ k.toNat ≤ 2 ^ 7 := Nat.pow_le_pow_right (by omega) (by omega)
      have ltb : ∀ x, 0 ≤ x → (x < ((2 ^ k.toNat : Nat) : Int) ↔ ∀ h, 0 ≤ h → zb x h = true → h < k) := fun x x0 => zb_lt2 ⟨k0, by omega⟩ x0
      have nob : ∀ x, 0 ≤ x → x < ((2 ^ k.toNat : Nat) : Int) → zb x k = false := fun x x0 x1 => by
        cases z : zb x k
        · rfl
        · have := (ltb x x0).mp x1 k k0 z
          omega
      have inner : ∀ (r : Nat) (s : Int) (M2 : zM), s + r = ((2 ^ k.toNat : Nat) : Int) → 0 ≤ s → zf [154] [] M M2 → zSmk k (M 46) (M2 154) → (∀ x, 0 ≤ x → x < s → M2 154 (zbs x k) = zts (M 46) (zbs x k)) → Q k s M2 := by
        intro r
        induction r with
        | zero =>
          intro s M2 hs s0 f2 s2 t2
          refine hQ _ _ _ ⟨fun _ => ?_, fun z => absurd (by rw [es]; omega) z⟩
          rw [zw (x := k + 1) (by omega) (by omega)]
          refine ih (k + 1) M2 (by omega) (by omega) f2 (fun x hx hb => ?_)
          cases z : zb x k
          · refine s2 x hx (fun h h0 w => ?_)
            have := hb h h0 w
            by_cases q : h = k
            · rw [q, z] at w; cases w
            · omega
          · have rr : ∀ j, 0 ≤ j → zb (zbr x k) j = (zb x j && !decide (k = j)) := fun j j0 => zb_zbr (by omega) (by omega) j0
            have r0 := zbr_lt hx (show 0 ≤ k ∧ k < 31 by omega)
            have rl : zbr x k < ((2 ^ k.toNat : Nat) : Int) := (ltb _ r0.1).mpr (fun h h0 w => by
              rw [rr h h0, Bool.and_eq_true, Bool.not_eq_true', decide_eq_false_iff_not] at w
              have := hb h h0 w.1
              omega)
            have e : zbs (zbr x k) k = x := zb_ext (zbs_lt r0 (by omega)).1 hx.1 (fun j j0 => by
              rw [zb_zbs (by omega) (by omega) j0, rr j j0]
              by_cases q : k = j
              · rw [decide_eq_true q, ← q, z]; rfl
              · rw [decide_eq_false q]; simp)
            have := t2 (zbr x k) r0.1 (by omega)
            rw [e] at this; exact this
        | succ r ih2 =>
          intro s M2 hs s0 f2 s2 t2
          have sl : s < ((2 ^ k.toNat : Nat) : Int) := by omega
          have sb := (ltb s s0).mp sl
          have s8 : 0 ≤ s ∧ s < 256 := by omega
          have e46 : M2 46 = M 46 := zf_c f2 46 rfl
          have tk := hth k k0 (by omega)
          have t9 := zts_9 (th := M 46) (c := c) (s := s) hth (fun o o0 z => by have := sb o o0 z; omega)
          have bl := zbs_lt s8 (show 0 ≤ k ∧ k < 8 by omega)
          refine hQ _ _ _ ⟨fun z => absurd z (by rw [es]; omega), fun _ => ⟨s8, by omega, bl, ?_⟩⟩
          have ev : z_wr (M2 154 s + M2 46 k) = zts (M 46) (zbs s k) := by
            rw [e46, s2 s s8 sb, zw (by omega) (by omega), zts_s s8 (by omega) (nob s s0 sl)]
          rw [zw (x := s + 1) (by omega) (by omega), ev]
          show Q k (s + 1) (z_up M2 154 (zbs s k) (zts (M 46) (zbs s k)))
          refine ih2 (s + 1) _ (by omega) (by omega) (zf_us f2 (by decide)) (fun x hx hb => ?_) (fun x x0 x1 => ?_)
          · have ne : x ≠ zbs s k := fun e => by
              have := hb k k0 (by rw [e, zb_zbs (by omega) (by omega) k0, decide_eq_true rfl, Bool.or_true])
              omega
            rw [zu_i ne]
            exact s2 x hx hb
          · by_cases q : x = s
            · rw [q, zu_s]
            · have ne : zbs x k ≠ zbs s k := fun e => q (by
                have x8 : 0 ≤ x ∧ x < 256 := by omega
                refine zb_ext x0 s0 (fun j j0 => ?_)
                by_cases u : k = j
                · rw [← u, nob x x0 (by omega), nob s s0 sl]
                · have g1 : zb (zbs x k) j = zb x j := by rw [zb_zbs (by omega) (by omega) j0, decide_eq_false u, Bool.or_false]
                  have g2 : zb (zbs s k) j = zb s j := by rw [zb_zbs (by omega) (by omega) j0, decide_eq_false u, Bool.or_false]
                  rw [← g1, ← g2, e])
              rw [zu_i ne]
              exact t2 x x0 (by omega)
      exact inner (2 ^ k.toNat) 0 M1 (by omega) (by omega) f1 s1 (fun x a b => by omega)
  refine outer c.toNat 0 M (by omega) (by omega) zf_rf (fun x hx hb => ?_)
  have e : x = 0 := zb_ext hx.1 (by omega) (fun j j0 => by
    rw [zb_0]
    cases z : zb x j
    · rfl
    · have := hb j j0 z
      omega)
  rw [e, h0, zts_z]
/-- what the class notes of the names -/
def zNt (c : Int) (len nam te aa : Int → Int) : Prop := (∀ a b, 0 ≤ a → a < c → 0 ≤ b → b < c → te (a * 8 + b) = zmi len nam a b) ∧ ∀ a, 0 ≤ a → a < c → (0 ≤ aa a ∧ aa a < 256) ∧ ∀ o, 0 ≤ o → (zb (aa a) o = true ↔ o < c ∧ zmi len nam a o = -1 ∧ zia len o a = 1)
theorem s_Thrift_compareNames {d : Nat} {c : Int} {M : zM} {F : zM → Prop} (hnm : znm c (M 26) (M 25)) (h5 : M 151 5 = c) (H : ∀ M', zf [155, 156] [] M M' → zNt c (M 26) (M 25) (M' 155) (M' 156) → F M') : zCv (d + 3) 80 [z_r (8, 0) 151, z_r (9, 0) 23] M F := by
  have hc := hnm.1
  refine e_Thrift_compareNames (fun P Q hP hQ => ?_)
  generalize hlen : M 26 = len at hnm H
  generalize hnam : M 25 = nam at hnm H
  have outer : ∀ (m : Nat) (a : Int) (M1 : zM), a + m = c → 0 ≤ a → zf [155, 156] [] M M1 → (∀ x y, 0 ≤ x → x < a → 0 ≤ y → y < c → M1 155 (x * 8 + y) = zmi len nam x y) → (∀ x, 0 ≤ x → x < a → (0 ≤ M1 156 x ∧ M1 156 x < 256) ∧ ∀ o, 0 ≤ o → (zb (M1 156 x) o = true ↔ o < c ∧ zmi len nam x o = -1 ∧ zia len o x = 1)) → P 23 a M1 := by
    intro m
    induction m with
    | zero =>
      intro a M1 ha a0 f1 g1 g2
      exact hP _ _ _ ⟨fun _ => H M1 f1 ⟨fun x y x0 x1 y0 y1 => g1 x y x0 (by omega) y0 y1, fun x x0 x1 => g2 x x0 (by omega)⟩, fun z => absurd (by rw [zf_a f1 151 5 rfl]; omega) z⟩
    | succ m ih =>
      intro a M1 ha a0 f1 g1 g2
      refine hP _ _ _ ⟨fun z => absurd z (by rw [zf_a f1 151 5 rfl]; omega), fun _ => ⟨by omega, ?_⟩⟩
      have inner : ∀ (r : Nat) (b : Int) (M2 : zM), b + r = c → 0 ≤ b → zf [155, 156] [] M M2 → (∀ x y, 0 ≤ x → 0 ≤ y → y < c → (x < a ∨ (x = a ∧ y < b)) → M2 155 (x * 8 + y) = zmi len nam x y) → (∀ x, 0 ≤ x → x < a → (0 ≤ M2 156 x ∧ M2 156 x < 256) ∧ ∀ o, 0 ≤ o → (zb (M2 156 x) o = true ↔ o < c ∧ zmi len nam x o = -1 ∧ zia len o x = 1)) → (0 ≤ M2 156 a ∧ M2 156 a < 256) → (∀ o, 0 ≤ o → (zb (M2 156 a) o = true ↔ o < b ∧ zmi len nam a o = -1 ∧ zia len o a = 1)) → Q 23 a b M2 := by
        intro r
        induction r with
        | zero =>
          intro b M2 hb b0 f2 g1 g2 q1 q2
          refine hQ _ _ _ _ ⟨fun _ => ?_, fun z => absurd (by rw [zf_a f2 151 5 rfl]; omega) z⟩
          rw [zw (x := a + 1) (by omega) (by omega)]
          refine ih (a + 1) M2 (by omega) (by omega) f2 (fun x y x0 x1 y0 y1 => g1 x y x0 y0 y1 (by omega)) (fun x x0 x1 => ?_)
          by_cases e : x = a
          · rw [e, show c = b by omega]; exact ⟨q1, q2⟩
          · exact g2 x x0 (by omega)
        | succ r ih2 =>
          intro b M2 hb b0 f2 g1 g2 q1 q2
          have l26 : M2 (23 + 3) = len := by
            show M2 26 = len
            rw [zf_c f2 26 rfl]; exact hlen
          have l25 : M2 (23 + 2) = nam := by
            show M2 25 = nam
            rw [zf_c f2 25 rfl]; exact hnam
          have la := hnm.2.1 a a0 (by omega)
          have lb := hnm.2.1 b b0 (by omega)
          refine hQ _ _ _ _ ⟨fun z => absurd z (by rw [zf_a f2 151 5 rfl]; omega), fun _ => s_Town_tellingLetter (by omega) (by omega) (by rw [l26]; omega) (by rw [l26]; omega) ?_⟩
          rw [l26, l25, zw (x := a * 8) (by omega) (by omega), zw (x := a * 8 + b) (by omega) (by omega), zw (x := b + 1) (by omega) (by omega)]
          have f3 : zf [155, 156] [] M (z_up M2 155 (a * 8 + b) (zmi len nam a b)) := zf_us f2 (by decide)
          have g3 : ∀ x y, 0 ≤ x → 0 ≤ y → y < c → (x < a ∨ (x = a ∧ y < b + 1)) → (z_up M2 155 (a * 8 + b) (zmi len nam a b)) 155 (x * 8 + y) = zmi len nam x y := fun x y x0 y0 y1 w => by
            by_cases e : x = a ∧ y = b
            · rw [e.1, e.2, zu_s]
            · rw [zu_i (by omega)]; exact g1 x y x0 y0 y1 (by omega)
          have k156 : (z_up M2 155 (a * 8 + b) (zmi len nam a b)) 156 = M2 156 := zu_f (by decide)
          have nx := ih2 (b + 1) (z_up M2 155 (a * 8 + b) (zmi len nam a b)) (by omega) (by omega) f3 g3 (by rw [k156]; exact g2) (by rw [k156]; exact q1)
          rw [k156] at nx
          have add : ∀ o, 0 ≤ o → ¬ (zmi len nam a b = -1 ∧ zia len b a = 1) → (zb (M2 156 a) o = true ↔ o < b + 1 ∧ zmi len nam a o = -1 ∧ zia len o a = 1) := fun o o0 no => by
            rw [q2 o o0]
            constructor
            · rintro ⟨x, y, z⟩; exact ⟨by omega, y, z⟩
            · rintro ⟨x, y, z⟩
              by_cases e : o = b
              · rw [e] at y z; exact absurd ⟨y, z⟩ no
              · exact ⟨by omega, y, z⟩
          refine ⟨by omega, fun z => nx (fun o o0 => add o o0 (fun y => z y.1)), fun z => s_Town_isAheadAnyway (by omega) (by omega) ?_⟩
          have z : zmi len nam a b = -1 := Classical.byContradiction z
          rw [show (z_up M2 155 (a * 8 + b) (zmi len nam a b)) (23 + 3) = len by rw [zu_f (by decide)]; exact l26]
          refine ⟨fun y => nx (fun o o0 => add o o0 (fun w => by have := w.2; omega)), fun y => ⟨by omega, by omega, ?_⟩⟩
          have yy : zia len b a = 1 := by
            have : zia len b a = 0 ∨ zia len b a = 1 := by unfold zia; (repeat' split) <;> omega
            omega
          have e6 : z_or ((z_up M2 155 (a * 8 + b) (zmi len nam a b)) 156 a) (z_shl 1 b) = zbs (M2 156 a) b := by rw [k156]; rfl
          rw [e6]
          refine ih2 (b + 1) _ (by omega) (by omega) (zf_us f3 (by decide)) (fun x y x0 y0 y1 w => by rw [zu_c (by decide)]; exact g3 x y x0 y0 y1 w) (fun x x0 x1 => ?_) (by rw [zu_s]; exact zbs_lt q1 (by omega)) (fun o o0 => ?_)
          · rw [zu_i (by omega), k156]; exact g2 x x0 x1
          · rw [zu_s, zb_zbs (by omega) (by omega) o0, Bool.or_eq_true, q2 o o0, decide_eq_true_iff]
            constructor
            · rintro (⟨u, v, w⟩ | e)
              · exact ⟨by omega, v, w⟩
              · rw [← e]; exact ⟨by omega, z, yy⟩
            · rintro ⟨u, v, w⟩
              by_cases e : b = o
              · exact Or.inr e
              · exact Or.inl ⟨by omega, v, w⟩
      refine inner c.toNat 0 (z_up M1 156 a 0) (by omega) (by omega) (zf_us f1 (by decide)) (fun x y x0 y0 y1 w => ?_) (fun x x0 x1 => ?_) (by rw [zu_s]; omega) (fun o o0 => ?_)
      · rw [zu_c (by decide)]; exact g1 x y x0 (by omega) y0 y1
      · rw [zu_i (by omega)]; exact g2 x x0 x1
      · rw [zu_s, zb_0]
        exact ⟨fun z => (by cases z), fun z => by omega⟩
  exact outer c.toNat 0 M (by omega) (by omega) zf_rf (fun x y x0 x1 => by omega) (fun x x0 x1 => by omega)
theorem s_Thrift_demandBehind {d : Nat} {c S x0 : Int} {len nam : Int → Int} {R : Int → Int → Prop} {M : zM} {F : zM → Prop} (hnm : znm c len nam) (h5 : M 151 5 = c) (hT : zNt c len nam (M 155) (M 156)) (hS : 0 ≤ S ∧ S < 256) (hx : 0 ≤ x0 ∧ x0 < c) (sx : zb S x0 = true) (hD : zDs c S len nam (M 148) R) (H : ∀ M', zf [148] [] M M' → zDs c S len nam (M' 148) (fun x y => R x y ∨ x = x0) → F M') : zCv (d + 2) 84 [z_r (8, 0) 151, z_i x0, z_i S, z_r (2, 0) 144] M F := by
  have hc := hnm.1
  refine e_Thrift_demandBehind (fun P hP => ?_)
  have loop : ∀ (m : Nat) (k : Int) (M1 : zM), k + m = c → 0 ≤ k → zf [148] [] M M1 → zDs c S len nam (M1 148) (fun x y => R x y ∨ (x = x0 ∧ y < k)) → P x0 S k M1 := by
    intro m
    induction m with
    | zero =>
      intro k M1 hk k0 f1 d1
      refine hP _ _ _ _ ⟨fun _ => H M1 f1 (zDs_r d1 (fun x y hx' hy' _ _ _ => ?_)), fun z => absurd (by rw [zf_a f1 151 5 rfl]; omega) z⟩
      constructor
      · rintro (w | w)
        · exact Or.inl w
        · exact Or.inr w.1
      · rintro (w | w)
        · exact Or.inl w
        · exact Or.inr ⟨w, by omega⟩
    | succ m ih =>
      intro k M1 hk k0 f1 d1
      have e155 : M1 155 = M 155 := zf_c f1 155 rfl
      have hk' : 0 ≤ k ∧ k < c := by omega
      have t1 := hT.1 x0 k hx.1 hx.2 k0 hk'.2
      have t2 := hT.1 k x0 k0 hk'.2 hx.1 hx.2
      have nx := ih (k + 1)
      refine hP _ _ _ _ ⟨fun z => absurd z (by rw [zf_a f1 151 5 rfl]; omega), fun _ => ?_⟩
      rw [zw (x := x0 * 8) (by omega) (by omega), zw (x := x0 * 8 + k) (by omega) (by omega), zw (x := k * 8) (by omega) (by omega), zw (x := k * 8 + x0) (by omega) (by omega), zw (x := k + 1) (by omega) (by omega), e155, t1]
      have same : (zmi len nam x0 k = -1 ∨ zb S k = true) → P x0 S (k + 1) M1 := fun w => nx M1 (by omega) (by omega) f1 (zDs_r d1 (fun x y _ _ _ sy ne => by
        constructor
        · rintro (u | u)
          · exact Or.inl u
          · exact Or.inr ⟨u.1, by omega⟩
        · rintro (u | u)
          · exact Or.inl u
          · by_cases e : y = k
            · exfalso
              rw [u.1, e] at ne
              rw [e] at sy
              rcases w with w | w
              · exact ne w
              · rw [w] at sy; cases sy
            · exact Or.inr ⟨u.1, by omega⟩))
      refine ⟨by omega, fun z => same (Or.inl z), fun z => s_W_isIn (by omega) (by omega) ?_⟩
      by_cases q : zb S k = true
      · rw [if_pos q]
        exact ⟨fun _ => same (Or.inr q), fun y => absurd (by decide) y⟩
      · rw [if_neg q]
        have q : zb S k = false := by simpa using q
        refine ⟨fun y => absurd rfl y, fun _ => ⟨by omega, ?_⟩⟩
        rw [e155, t2]
        rcases zmi_f hnm hx hk' (fun x => x) with ⟨e1, _, _⟩ | ⟨e1, e2, e3, _⟩
        · exact absurd e1 z
        · refine s_Orders_demandAhead e2 (nx _ (by omega) (by omega) (zf_us f1 (by decide)) (zDs_r (zDs_a d1 hx hk' sx q e1 e2 rfl rfl (zu_s _ _ _ _) (fun l ne => zu_i ne)) (fun x y _ _ _ _ _ => ?_)))
          constructor
          · rintro ((u | u) | u)
            · exact Or.inl u
            · exact Or.inr ⟨u.1, by omega⟩
            · exact Or.inr ⟨u.1, by omega⟩
          · rintro (u | u)
            · exact Or.inl (Or.inl u)
            · by_cases e : y = k
              · exact Or.inr ⟨u.1, e⟩
              · exact Or.inl (Or.inr ⟨u.1, by omega⟩)
  exact loop c.toNat 0 M (by omega) (by omega) zf_rf (zDs_r hD (fun x y _ hy _ _ _ => by
    constructor
    · intro w; exact Or.inl w
    · rintro (w | w)
      · exact w
      · omega))
theorem s_Thrift_canBeFirst {d : Nat} {c S : Int} {len nam : Int → Int} {M : zM} {F : Int → zM → Prop} (hnm : znm c len nam) (h5 : M 151 5 = c) (hT : zNt c len nam (M 155) (M 156)) (hS : 0 ≤ S ∧ S < 256)
    (H1 : ∀ M', zf [148, 153] [(144, 4)] M M' → zperm (M' 153) → zFst c len nam S (M' 153) → (∀ u, zperm u → zFst c len nam S u → zle8 (M' 153) u) → F 1 M') (H0 : ∀ M', zf [148, 153] [(144, 4)] M M' → (∀ u, zperm u → ¬ zFst c len nam S u) → F 0 M') : zCi (d + 5) 83 [z_r (8, 0) 151, z_i S, z_r (2, 0) 144] M F := by
  have hc := hnm.1
  refine e_Thrift_canBeFirst (fun P hP => e_Orders_demandNothing (s_fill (by decide) (fun M1 f1 z1 => ?_)))
  have loop : ∀ (m : Nat) (k : Int) (M2 : zM), k + m = c → 0 ≤ k → zf [148] [(144, 4)] M M2 → M2 144 4 = 1 → zDs c S len nam (M2 148) (fun x _ => x < k) → (∀ x y, 0 ≤ x → x < k → (0 ≤ y ∧ y < c) → zb S x = true → zb S y = false → zmi len nam x y = -1 → zia len x y = 1) → P S k M2 := by
    intro m
    induction m with
    | zero =>
      intro k M2 hk k0 f2 p2 d2 an
      have d3 : zDs c S len nam (M2 148) (fun _ _ => True) := zDs_r d2 (fun x y hx _ _ _ _ => ⟨fun _ => trivial, fun _ => by show x < k; omega⟩)
      have eF : ∀ u, zperm u → (zpre (M2 148) u 8 = true ↔ zFst c len nam S u) := fun u hu => zDs_F hnm d3 (fun x y hx hy a b e => an x y hx.1 (by omega) hy a b e) hu
      have fr : ∀ M3 : zM, (∀ b, b ≠ 153 → M3 b = M2 b) → zf [148, 153] [(144, 4)] M M3 := fun M3 k3 => zf_ww (zf_tr f2 (show zf [153] [] M2 M3 from fun b j hb _ => by rw [k3 b (fun e => hb (by rw [e]; decide))])) rfl rfl
      refine hP _ _ _ ⟨fun _ => s_Orders_leastFit (t0 := fun _ => 0) (by decide) rfl d3.1 (Or.inr p2) (fun G M3 k3 o3 => ?_) (fun G M3 k3 => ⟨Or.inl rfl, H0 M3 (fr M3 k3) (fun u hu w => G (zGo_of d3.1 hu ((eF u hu).mpr w)))⟩), fun z => absurd (by rw [zf_a f2 151 5 rfl]; omega) z⟩
      rw [p2]
      obtain ⟨-, y2, y3, y4⟩ := zgA_p (D := M2 148) 8 0 (fun _ => 0) 0 (by omega) (zPx_0 _) rfl rfl (by decide) G
      refine ⟨Or.inr rfl, H1 M3 (fr M3 k3) (zperm_c y2 o3) ?_ (fun u hu w => zle8_c o3 (fun i a b z => y4 u hu ((eF u hu).mpr w) i (by omega) b (fun j x y => (z j x y).symm)))⟩
      have := (eF _ y2).mp y3
      unfold zFst at this ⊢
      rw [zrk_c o3]; exact this
    | succ m ih =>
      intro k M2 hk k0 f2 p2 d2 an
      refine hP _ _ _ ⟨fun z => absurd z (by rw [zf_a f2 151 5 rfl]; omega), fun _ => s_W_isIn (by omega) (by omega) ?_⟩
      rw [zw (x := k + 1) (by omega) (by omega)]
      by_cases q : zb S k = true
      · rw [if_pos q]
        refine ⟨fun y => absurd y (by decide), fun _ => ⟨by omega, ?_⟩⟩
        have e156 : M2 156 = M 156 := zf_c f2 156 rfl
        have e155 : M2 155 = M 155 := zf_c f2 155 rfl
        obtain ⟨t1, t2⟩ := hT.2 k k0 (by omega)
        rw [e156, z_sub t1 hS]
        refine ⟨fun z => ?_, fun z => H0 M2 (zf_ww f2 rfl rfl) (fun u hu w => z (fun h h0 y => ?_))⟩
        · refine s_Thrift_demandBehind (c := c) hnm (by rw [zf_a f2 151 5 rfl]; exact h5) (by rw [e155, e156]; exact hT) hS (by omega) q d2 (fun M3 f3 d3 => ih (k + 1) M3 (by omega) (by omega) (zf_ww (zf_tr f2 f3) rfl rfl) (by rw [zf_a f3 144 4 rfl]; exact p2) (zDs_r d3 (fun x y _ _ _ _ _ => by show (x < k ∨ x = k) ↔ x < k + 1; omega)) (fun x y x0 x1 hy sx sy e => ?_))
          by_cases u : x = k
          · have ne : x ≠ y := fun e' => by rw [e', sy] at sx; cases sx
            refine (zia_n ne).mpr (fun w => ?_)
            rw [u] at e w
            have := z y hy.1 ((t2 y hy.1).mpr ⟨hy.2, e, w⟩)
            rw [sy] at this; cases this
          · exact an x y x0 (by omega) hy sx sy e
        · obtain ⟨a, b, e⟩ := (t2 h h0).mp y
          cases sh : zb S h
          · exfalso
            have hz := w k h ⟨k0, by omega⟩ ⟨h0, a⟩ q sh
            have ne : h ≠ k := fun e' => by rw [e', q] at sh; cases sh
            rcases zmi_f hnm (a := k) (b := h) ⟨k0, by omega⟩ ⟨h0, a⟩ (zrk u) with ⟨_, _, e3⟩ | ⟨e1, _, _, _⟩
            · rw [e3] at hz
              exact (zia_n ne).mp e (of_decide_eq_true hz)
            · omega
          · rfl
      · rw [if_neg q]
        refine ⟨fun _ => ih (k + 1) M2 (by omega) (by omega) f2 p2 (zDs_r d2 (fun x y _ _ sx _ _ => ⟨fun w => by have w : x < k := w; show x < k + 1; omega, fun w => ?_⟩)) (fun x y x0 x1 hy sx sy e => ?_), fun y => absurd rfl y⟩
        · have w : x < k + 1 := w
          show x < k
          by_cases u : x = k
          · rw [u] at sx; exact absurd sx q
          · omega
        · by_cases u : x = k
          · rw [u] at sx; exact absurd sx q
          · exact an x y x0 (by omega) hy sx sy e
  refine loop c.toNat 0 M1 (by omega) (by omega) (zf_ww (zf_tr (zf_uj (S := []) (J := [(144, 4)]) zf_rf (by decide)) f1) rfl rfl) (by rw [zf_a f1 144 4 rfl, zu_s]) (zDs_r (zDs_0 z1) (fun x y hx _ _ _ _ => ⟨fun w => w.elim, fun w => by have w : x < 0 := w; omega⟩)) (fun x y x0 x1 => by omega)
theorem s_Thrift_isLess {d : Nat} {M : zM} {F : Int → zM → Prop} (H1 : zle8 (M 153) (M 152) → F 1 M) (H0 : zle8 (M 152) (M 153) → F 0 M) : zCi (d + 1) 87 [z_r (100, 8) 153, z_r (100, 8) 152] M F := by
  refine e_Thrift_isLess (fun P hP => ?_)
  have loop : ∀ (m : Nat) (k : Int), k + m = 8 → 0 ≤ k → (∀ i, 0 ≤ i → i < k → M 153 i = M 152 i) → P 8 153 8 152 k M := by
    intro m
    induction m with
    | zero =>
      intro k hk k0 e
      exact hP _ _ _ _ _ _ ⟨fun _ => H0 (fun j a b _ => by rw [e j a (by omega)]; exact Int.le_refl _), fun z => absurd (by omega) z⟩
    | succ m ih =>
      intro k hk k0 e
      refine hP _ _ _ _ _ _ ⟨fun z => absurd z (by omega), fun _ => ⟨by omega, by omega, fun z => ?_, fun z => ⟨by omega, by omega, fun y => H0 (fun j a b w => ?_), fun y => H1 (fun j a b w => ?_)⟩⟩⟩
      · rw [zw (x := k + 1) (by omega) (by omega)]
        refine ih (k + 1) (by omega) (by omega) (fun i a b => ?_)
        by_cases q : i = k
        · rw [q]; exact z
        · exact e i a (by omega)
      · by_cases q : j < k
        · rw [e j a q]; exact Int.le_refl _
        · by_cases q2 : j = k
          · rw [q2]; exact y
          · exact absurd (w k k0 (by omega)).symm z
      · by_cases q : j < k
        · rw [e j a q]; exact Int.le_refl _
        · by_cases q2 : j = k
          · rw [q2]; omega
          · exact absurd (w k k0 (by omega)) z
  exact loop 8 0 (by omega) (by omega) (fun i a b => by omega)
/-- what was found among the sets below s -/
def zFo (c w : Int) (th len nam : Int → Int) (s m : Int) (b : Int → Int) : Prop := (∀ S, 0 ≤ S → S < s → ∀ t, zperm t → zFst c len nam S t → zts th S ≤ w → zcard S ≤ m ∧ (zcard S = m → zle8 b t)) ∧ ((m = -1 ∧ s = 0) ∨ (0 ≤ m ∧ zperm b ∧ ∃ S, (0 ≤ S ∧ S < s) ∧ zcard S = m ∧ zFst c len nam S b ∧ zts th S ≤ w))
theorem s_Thrift_seek {d : Nat} {c w : Int} {M : zM} {F : Int → zM → Prop} (ht : zTn c (M 24) (M 26) (M 25)) (h5 : M 23 5 = c) (hw : 0 ≤ w ∧ w ≤ 99) (h0 : M 154 0 = 0) (hth : ∀ h, 0 ≤ h → h < c → 1 ≤ M 46 h ∧ M 46 h ≤ 9)
    (H : ∀ (M' : zM) (m : Int), zf [148, 152, 153, 154, 155, 156] [(144, 4), (151, 5)] M M' → M' 154 0 = 0 → zperm (M' 152) → zSv c w (M 46) (M 26) (M 25) (M' 152) = m → (∀ t, zperm t → zSv c w (M 46) (M 26) (M 25) t ≤ m) → (∀ t, zperm t → zSv c w (M 46) (M 26) (M 25) t = m → zle8 (M' 152) t) → F m M') : zCi (d + 6) 78 [z_r (8, 0) 151, z_r (9, 0) 23, z_r (4, 0) 45, z_r (2, 0) 144, z_i w] M F := by
  have hc := ht.1
  have hnm := zTn_nm ht
  have hN : ∀ t, zperm t → zTn c t (M 26) (M 25) := fun t hp => ⟨ht.1, hp, ht.2.2⟩
  have hth1 : ∀ h, 0 ≤ h → h < c → 1 ≤ M 46 h := fun h a b => (hth h a b).1
  refine e_Thrift_seek (fun P hP => ?_)
  have p1 : (2 : Nat) ^ c.toNat ≤ 2 ^ 8 := Nat.pow_le_pow_right (by omega) (by omega)
  have es : z_shl 1 c = ((2 ^ c.toNat : Nat) : Int) := z_shl1 ⟨hc.1, by omega⟩
  have q1 : zf [] [(151, 5)] M (z_up M 151 5 (M 23 5)) := zf_uj zf_rf (by decide)
  refine s_Thrift_addUp (c := c) hc (by rw [zu_s]; exact h5) (by rw [zu_c (by decide)]; exact h0) (by rw [zu_f (by decide)]; exact hth) (fun M1 f1 s1 => ?_)
  have f01 := zf_tr q1 f1
  rw [zu_f (b := 46) (by decide)] at s1
  have k26 : M1 26 = M 26 := zf_c f01 26 rfl
  have k25 : M1 25 = M 25 := zf_c f01 25 rfl
  have k5 : M1 151 5 = c := by rw [zf_a f1 151 5 rfl, zu_s]; exact h5
  refine s_Thrift_compareNames (c := c) (by rw [k26, k25]; exact hnm) k5 (fun M2 f2 n2 => ?_)
  rw [k26, k25] at n2
  have f02 := zf_tr f01 f2
  have loop : ∀ (r : Nat) (s m : Int) (M3 : zM), s + r = ((2 ^ c.toNat : Nat) : Int) → 0 ≤ s → zf [148, 152, 153] [(144, 4)] M2 M3 → zFo c w (M 46) (M 26) (M 25) s m (M3 152) → P 23 w m s M3 := by
    intro r
    induction r with
    | zero =>
      intro s m M3 hs s0 f3 o3
      have e5 : M3 151 5 = c := by rw [zf_a f3 151 5 rfl, zf_a f2 151 5 rfl]; exact k5
      refine hP _ _ _ _ _ ⟨fun _ => ?_, fun z => absurd (by rw [e5, es]; omega) z⟩
      obtain ⟨o1, o2⟩ := o3
      have pw : 0 < (2 : Nat) ^ c.toNat := Nat.pow_pos (by omega)
      rcases o2 with o2 | ⟨m0, pb, S, hS, cS, fS, tS⟩
      · omega
      have up : ∀ t, zperm t → zSv c w (M 46) (M 26) (M 25) t ≤ m ∧ (zSv c w (M 46) (M 26) (M 25) t = m → zle8 (M3 152) t) := fun t hp => by
        obtain ⟨T, hT, cT, tT, fT⟩ := zSv_set (hN t hp) hw.1 hth1
        have := o1 T hT.1 (by omega) t hp fT tT
        rw [cT] at this; exact this
      have lo := zSv_ge (w := w) (hN _ pb) hth1 (S := S) (by omega) (fun h a z => (zb_lt2 hc hS.1).mp (by omega) h a z) fS tS
      have eq := (up _ pb).1
      refine H M3 m (zf_ww (zf_tr f02 f3) rfl rfl) ?_ pb (by omega) (fun t hp => (up t hp).1) (fun t hp => (up t hp).2)
      rw [zf_c f3 154 rfl, zf_c f2 154 rfl, s1 0 (by omega) (fun h _ z => by rw [zb_0] at z; cases z), zts_z]
    | succ r ih =>
      intro s m M3 hs s0 f3 o3
      have e5 : M3 151 5 = c := by rw [zf_a f3 151 5 rfl, zf_a f2 151 5 rfl]; exact k5
      have s8 : 0 ≤ s ∧ s < 256 := by omega
      have sb := (zb_lt2 hc s0).mp (show s < ((2 ^ c.toNat : Nat) : Int) by omega)
      have cr := zcard_r s
      refine hP _ _ _ _ _ ⟨fun z => absurd z (by rw [e5, es]; omega), fun _ => s_bitCount s8 ?_⟩
      rw [zw (x := s + 1) (by omega) (by omega)]
      have nx := ih (s + 1)
      -- the set is passed over
      have pass : ∀ M4, zf [148, 152, 153] [(144, 4)] M2 M4 → M4 152 = M3 152 → (∀ t, zperm t → zFst c (M 26) (M 25) s t → zts (M 46) s ≤ w → zcard s < m) → P 23 w m (s + 1) M4 := fun M4 f4 e4 no => nx m M4 (by omega) (by omega) f4 (by
        obtain ⟨o1, o2⟩ := o3
        rw [e4]
        refine ⟨fun S a b t hp hF hs' => ?_, ?_⟩
        · by_cases q : S = s
          · rw [q] at hF hs' ⊢
            have := no t hp hF hs'
            omega
          · exact o1 S a (by omega) t hp hF hs'
        · rcases o2 with o2 | ⟨m0, pb, S, hS, x⟩
          · exfalso
            have e0 : s = 0 := o2.2
            have hp : zperm (fun x => x) := ⟨fun i a b => ⟨a, b⟩, fun i j _ _ _ _ e => e⟩
            have := no _ hp (fun a b _ _ z _ => by rw [e0, zb_0] at z; cases z) (by rw [e0, zts_z]; exact hw.1)
            omega
          · exact Or.inr ⟨m0, pb, S, by omega, x⟩)
      refine ⟨fun z => pass M3 f3 rfl (fun _ _ _ _ => z), fun z => ⟨s8, ?_⟩⟩
      have e154 : M3 154 s = zts (M 46) s := by
        rw [zf_c f3 154 rfl, zf_c f2 154 rfl]; exact s1 s s8 sb
      rw [e154]
      refine ⟨fun y => pass M3 f3 rfl (fun _ _ _ le => by omega), fun y => ?_⟩
      refine s_Thrift_canBeFirst (c := c) (len := M 26) (nam := M 25) hnm e5 (by rw [zf_c f3 155 rfl, zf_c f3 156 rfl]; exact n2) s8 (fun M4 f4 t1 t2 t3 => ⟨fun x => absurd x (by decide), fun _ => ?_⟩) (fun M4 f4 no => ⟨fun _ => pass M4 (zf_ww (zf_tr f3 f4) rfl rfl) (zf_c f4 152 rfl) (fun t hp hF _ => absurd hF (no t hp)), fun x => absurd rfl x⟩)
      have f34 : zf [148, 152, 153] [(144, 4)] M2 M4 := zf_ww (zf_tr f3 f4) rfl rfl
      have e152 : M4 152 = M3 152 := zf_c f4 152 rfl
      obtain ⟨o1, o2⟩ := o3
      have mm : m ≤ zcard s := by omega
      -- it is taken
      have take : ∀ M5, zf [148, 152, 153] [(144, 4)] M2 M5 → (∀ j, 0 ≤ j → j < 8 → M5 152 j = M4 153 j) → (m = zcard s → zle8 (M4 153) (M3 152)) → P 23 w (zcard s) (s + 1) M5 := fun M5 f5 e le => nx (zcard s) M5 (by omega) (by omega) f5 (by
        refine ⟨fun S a b t hp hF hs' => ?_, Or.inr ⟨cr.1, zperm_c t1 e, s, by omega, rfl, ?_, by omega⟩⟩
        · by_cases q : S = s
          · rw [q] at hF hs' ⊢
            exact ⟨Int.le_refl _, fun _ => zle8_c e (t3 t hp hF)⟩
          · have := o1 S a (by omega) t hp hF hs'
            refine ⟨by omega, fun x => zle8_c e (zle8_t (le (by omega)) (this.2 (by omega)))⟩
        · unfold zFst at t2 ⊢
          rw [zrk_c e]; exact t2)
      have cp : ∀ M5 : zM, ∀ j, 0 ≤ j → j < 8 → (z_cp M5 153 0 152 0 8) 152 j = M5 153 j := fun M5 j a b => by
        unfold z_cp
        rw [if_pos ⟨rfl, by omega, by omega⟩, show (0 : Int) + (j - 0) = j by omega]
      refine ⟨fun x => ⟨by decide, take _ (zf_cp f34 (by decide)) (cp M4) (fun x' => by omega)⟩, fun x => ?_⟩
      have em : m = zcard s := by omega
      refine s_Thrift_isLess (fun le => ⟨fun x => absurd x (by decide), fun _ => ⟨by decide, take _ (zf_cp f34 (by decide)) (cp M4) (fun _ => by rw [← e152]; exact le)⟩⟩) (fun le => ⟨fun _ => ?_, fun x => absurd rfl x⟩)
      rw [e152] at le
      refine nx (zcard s) M4 (by omega) (by omega) f34 ⟨fun S a b t hp hF hs' => ?_, ?_⟩
      · rw [e152]
        by_cases q : S = s
        · rw [q] at hF hs' ⊢
          exact ⟨Int.le_refl _, fun _ => zle8_t le (t3 t hp hF)⟩
        · have := o1 S a (by omega) t hp hF hs'
          rw [em] at this; exact this
      · rcases o2 with o2 | ⟨m0, pb, S, hS, x1, x2, x3⟩
        · omega
        · rw [e152]
          exact Or.inr ⟨cr.1, pb, S, by omega, by omega, x2, x3⟩
  exact loop (2 ^ c.toNat) 0 (-1) M2 (by omega) (by omega) zf_rf ⟨fun S a b => by omega, Or.inl ⟨rfl, rfl⟩⟩
