/-! the order that leaves the fewest dry: sets of houses that can be the first ones -/
theorem zTn_nm {c : Int} {ord len nam : Int → Int} (h : zTn c ord len nam) : znm c len nam := ⟨h.1, h.2.2.1, fun x i a b a' b' => by have := h.2.2.1 x a b; have := h.1; exact h.2.2.2 _ (by omega) (by omega)⟩
theorem zmi_f {c : Int} {len nam : Int → Int} (hn : znm c len nam) {a b : Int} (ha : 0 ≤ a ∧ a < c) (hb : 0 ≤ b ∧ b < c) (rk : Int → Int) : (zmi len nam a b = -1 ∧ zmi len nam b a = -1 ∧ zah rk len nam a b = decide (zia len a b = 1)) ∨ ((0 ≤ zmi len nam a b ∧ zmi len nam a b < 8) ∧ (0 ≤ zmi len nam b a ∧ zmi len nam b a < 8) ∧ zmi len nam a b ≠ zmi len nam b a ∧ zah rk len nam a b = decide (rk (zmi len nam a b) < rk (zmi len nam b a))) := by
  have la := hn.2.1 a ha.1 ha.2
  have lb := hn.2.1 b hb.1 hb.2
  have s := zdf_s (len := len) (nam := nam) (a := a) (b := b) (by omega) (by omega)
  have y1 : zmn len b a = zmn len a b := zmn_sym len b a
  have y2 : zdf len nam b a = zdf len nam a b := zdf_sym (by omega) (by omega)
  have m1 : zmn len a b ≤ len a ∧ zmn len a b ≤ len b := by unfold zmn; split <;> omega
  unfold zmi zah
  rw [y1, y2]
  by_cases q : zdf len nam a b < zmn len a b
  · right
    rw [if_pos q, if_pos q, if_pos q]
    exact ⟨hn.2.2 a _ ha.1 ha.2 s.1.1 (by omega), hn.2.2 b _ hb.1 hb.2 s.1.1 (by omega), s.2.2 q, rfl⟩
  · left
    rw [if_neg q, if_neg q, if_neg q]
    refine ⟨rfl, rfl, ?_⟩
    unfold zia
    by_cases e : len a = len b
    · rw [if_pos e, if_pos e]
      by_cases w : a < b
      · rw [if_pos w, decide_eq_true w]; rfl
      · rw [if_neg w, decide_eq_false w]; rfl
    · rw [if_neg e, if_neg e]
      by_cases w : len a < len b
      · rw [if_pos w, decide_eq_true w]; rfl
      · rw [if_neg w, decide_eq_false w]; rfl
theorem zia_n {len : Int → Int} {a b : Int} (h : a ≠ b) : zia len a b = 1 ↔ ¬ zia len b a = 1 := by
  unfold zia
  by_cases e : len a = len b
  · rw [if_pos e, if_pos e.symm]
    split <;> split <;> omega
  · rw [if_neg e, if_neg (show ¬ len b = len a from fun y => e y.symm)]
    split <;> split <;> omega
theorem zb_sh1 {i j : Int} (hi : 0 ≤ i ∧ i < 31) (hj : 0 ≤ j) : zb (z_shl 1 i) j = decide (i = j) := by
  rw [z_shl1 hi]
  unfold zb
  rw [Int.toNat_natCast, Nat.testBit_two_pow]
  by_cases h : i = j
  · subst h; simp
  · rw [decide_eq_false h, decide_eq_false (by omega)]
theorem z_sh1_lt {i : Int} (hi : 0 ≤ i ∧ i < 8) : 0 ≤ z_shl 1 i ∧ z_shl 1 i < 256 := by
  rw [z_shl1 ⟨hi.1, by omega⟩]
  have : (2 : Nat) ^ i.toNat < 2 ^ 8 := Nat.pow_lt_pow_right (by omega) (by omega)
  exact ⟨Int.natCast_nonneg _, by omega⟩
theorem zts_9 {th : Int → Int} {s c : Int} (hth : ∀ h, 0 ≤ h → h < c → 1 ≤ th h ∧ th h ≤ 9) (hs : ∀ o, 0 ≤ o → zb s o = true → o < c) : 0 ≤ zts th s ∧ zts th s ≤ 72 := by
  have := zsm_b (f := fun h => if zb s h = true then th h else 0) (B := 9) 8 (fun i a b => by
    show 0 ≤ (if zb s i = true then th i else 0) ∧ (if zb s i = true then th i else 0) ≤ 9
    split
    · rename_i q; have := hth i a (hs i a q); omega
    · omega)
  exact ⟨this.1, by have := this.2; unfold zts; omega⟩
theorem zcn_sm (p : Int → Bool) : ∀ n : Nat, zcn p n = zsm (fun h => if p h = true then 1 else 0) n
  | 0 => rfl
  | n + 1 => by
    show zcn p n + (if p n = true then 1 else 0) = zsm (fun h => if p h = true then 1 else 0) n + (if p n = true then 1 else 0)
    rw [zcn_sm p n]
/-- how many are served by an order -/
def zSv (c w : Int) (th len nam t : Int → Int) : Int := zFn c w th (zPg c t len nam)
/-- one row is not greater than another -/
def zle8 (a b : Int → Int) : Prop := ∀ j, 0 ≤ j → j < 8 → (∀ i, 0 ≤ i → i < j → a i = b i) → a j ≤ b j
theorem zle8_t {a b e : Int → Int} (h1 : zle8 a b) (h2 : zle8 b e) : zle8 a e := by
  intro j j0 j8 eq
  have main : ∀ n : Nat, (n : Int) ≤ j → ∀ i : Int, 0 ≤ i → i < n → a i = b i := by
    intro n
    induction n with
    | zero => intro _ i x y; omega
    | succ n ih =>
      intro hn i x y
      have ih := ih (by omega)
      by_cases q : i = n
      · have u1 := h1 n (by omega) (by omega) ih
        have u2 := h2 n (by omega) (by omega) (fun k x y => by rw [← ih k x y]; exact eq k x (by omega))
        have u3 := eq n (by omega) (by omega)
        rw [q]; omega
      · exact ih i x (by omega)
  have mj : ∀ i : Int, 0 ≤ i → i < j → a i = b i := fun i x y => main j.toNat (by omega) i x (by omega)
  have u1 := h1 j j0 j8 mj
  have u2 := h2 j j0 j8 (fun k x y => by rw [← mj k x y]; exact eq k x y)
  omega
theorem zle8_c {a a' b : Int → Int} (e : ∀ j, 0 ≤ j → j < 8 → a' j = a j) (h : zle8 a b) : zle8 a' b := fun j x y z => by
  rw [e j x y]
  exact h j x y (fun i u v => by rw [← e i u (by omega)]; exact z i u v)
/-- the houses of a set are ahead of all others, by an order -/
def zFst (c : Int) (len nam : Int → Int) (S : Int) (t : Int → Int) : Prop := ∀ a b, (0 ≤ a ∧ a < c) → (0 ≤ b ∧ b < c) → zb S a = true → zb S b = false → zah (zrk t) len nam a b = true
theorem zah_pg {c : Int} {t len nam : Int → Int} (ht : zTn c t len nam) {a b : Int} (ha : 0 ≤ a ∧ a < c) (hb : 0 ≤ b ∧ b < c) (ne : a ≠ b) : zah (zrk t) len nam a b = true ↔ zPg c t len nam a < zPg c t len nam b := by
  have ok := zTn_ok ht
  have c8 := ht.1
  constructor
  · intro z
    exact zpl_lt ok ha hb ((zky_lt ok ha hb ne).mpr z)
  · intro z
    refine (zky_lt ok ha hb ne).mp (Classical.byContradiction (fun no => ?_))
    have j : zky (zrk t) len nam a ≠ zky (zrk t) len nam b := fun e => ne (zky_j (by omega) (by omega) e)
    have : zPg c t len nam b < zPg c t len nam a := zpl_lt ok hb ha (by omega)
    omega
/-- those who are served are the first ones of the book -/
theorem zSv_set {c w : Int} {t len nam th : Int → Int} (ht : zTn c t len nam) (hw : 0 ≤ w) (hth : ∀ h, 0 ≤ h → h < c → 1 ≤ th h) : ∃ S, (0 ≤ S ∧ S < ((2 ^ c.toNat : Nat) : Int)) ∧ zcard S = zSv c w th len nam t ∧ zts th S ≤ w ∧ zFst c len nam S t := by
  have hc := ht.1
  have bS := zst_r (zFs c w th (zPg c t len nam)) c.toNat (by omega)
  have bt : ∀ o, 0 ≤ o → (zb (zst (zFs c w th (zPg c t len nam)) c.toNat) o = true ↔ o < c ∧ zFs c w th (zPg c t len nam) o = true) := fun o o0 => by
    rw [zst_b _ _ (by omega) o o0, Bool.and_eq_true, decide_eq_true_iff]
    constructor
    · rintro ⟨x, y⟩; exact ⟨by omega, y⟩
    · rintro ⟨x, y⟩; exact ⟨by omega, y⟩
  have cd : zcard (zst (zFs c w th (zPg c t len nam)) c.toNat) = zSv c w th len nam t := by
    rw [zcard_st _ (by omega), ← zcn_sm]; rfl
  have dn : ∀ a b, (0 ≤ a ∧ a < c) → (0 ≤ b ∧ b < c) → zPg c t len nam b ≤ zPg c t len nam a → zFs c w th (zPg c t len nam) a = true → zFs c w th (zPg c t len nam) b = true := fun a b ha hb le za => by
    unfold zFs at za ⊢
    have za := of_decide_eq_true za
    refine decide_eq_true (Int.le_trans (zts_le (fun h h0 _ z => ?_) (fun h h0 _ z => ?_)) za)
    · have := ((zFr_b hc).2 h h0).mp z
      have := hth h h0 this.1
      omega
    · have := ((zFr_b hc).2 h h0).mp z
      exact ((zFr_b hc).2 h h0).mpr ⟨this.1, by omega⟩
  generalize zst (zFs c w th (zPg c t len nam)) c.toNat = S at bS bt cd
  refine ⟨S, ⟨bS.1, (zb_lt2 hc bS.1).mpr (fun h h0 z => ((bt h h0).mp z).1)⟩, cd, ?_, fun a b ha hb za zb' => ?_⟩
  · by_cases ex : ∃ i : Int, (0 ≤ i ∧ i < 8) ∧ zb S i = true
    · obtain ⟨h, hh, zh, mx⟩ := z_min (p := fun i => zb S i) (fun i => - zPg c t len nam i) 8 ex
      have zh : zb S h = true := zh
      have b1 := (bt h hh.1).mp zh
      have fs := b1.2
      unfold zFs at fs
      refine Int.le_trans (zts_le (fun o o0 _ z => ?_) (fun o o0 o8 z => ?_)) (of_decide_eq_true fs)
      · have := ((zFr_b hc).2 o o0).mp z
        have := hth o o0 this.1
        omega
      · have : - zPg c t len nam h ≤ - zPg c t len nam o := mx o o0 (by omega) z
        exact ((zFr_b hc).2 o o0).mpr ⟨((bt o o0).mp z).1, by omega⟩
    · have : zts th S = zsm (fun _ => 0) 8 := by
        unfold zts
        refine zsm_c 8 (fun i a b => ?_)
        show (if zb S i = true then th i else 0) = 0
        rw [if_neg (fun z => ex ⟨i, ⟨a, by omega⟩, z⟩)]
      rw [this, zsm_0]; exact hw
  · have ne : a ≠ b := fun e => by rw [e, zb'] at za; cases za
    refine (zah_pg ht ha hb ne).mpr (Classical.byContradiction (fun no => ?_))
    have := (bt b hb.1).mpr ⟨hb.2, dn a b ha hb (by omega) ((bt a ha.1).mp za).2⟩
    rw [zb'] at this; cases this
theorem zSv_ge {c w S : Int} {t len nam th : Int → Int} (ht : zTn c t len nam) (hth : ∀ h, 0 ≤ h → h < c → 1 ≤ th h) (hS : 0 ≤ S ∧ S < 256) (hb : ∀ h, 0 ≤ h → zb S h = true → h < c) (hF : zFst c len nam S t) (hs : zts th S ≤ w) : zcard S ≤ zSv c w th len nam t := by
  have hc := ht.1
  have bS := zst_r (zFs c w th (zPg c t len nam)) c.toNat (by omega)
  have bt : ∀ o, 0 ≤ o → (zb (zst (zFs c w th (zPg c t len nam)) c.toNat) o = true ↔ o < c ∧ zFs c w th (zPg c t len nam) o = true) := fun o o0 => by
    rw [zst_b _ _ (by omega) o o0, Bool.and_eq_true, decide_eq_true_iff]
    constructor
    · rintro ⟨x, y⟩; exact ⟨by omega, y⟩
    · rintro ⟨x, y⟩; exact ⟨by omega, y⟩
  have cd : zcard (zst (zFs c w th (zPg c t len nam)) c.toNat) = zSv c w th len nam t := by
    rw [zcard_st _ (by omega), ← zcn_sm]; rfl
  rw [← cd]
  refine (zsub_le hS bS (fun h h0 z => (bt h h0).mpr ⟨hb h h0 z, ?_⟩)).2.1
  have hh : 0 ≤ h ∧ h < c := ⟨h0, hb h h0 z⟩
  unfold zFs
  refine decide_eq_true (Int.le_trans (zts_le (fun o o0 _ y => ?_) (fun o o0 _ y => ?_)) hs)
  · have := hth o o0 (hb o o0 y)
    omega
  · have := ((zFr_b hc).2 o o0).mp y
    cases q : zb S o
    · have ne : h ≠ o := fun e => by rw [e, q] at z; cases z
      have := (zah_pg ht hh ⟨o0, this.1⟩ ne).mp (hF h o hh ⟨o0, this.1⟩ z q)
      omega
    · rfl
/-- the demands of the pairs that were looked at -/
def zDs (c S : Int) (len nam : Int → Int) (D : Int → Int) (R : Int → Int → Prop) : Prop := zbD D ∧ ∀ l h, (0 ≤ l ∧ l < 8) → (0 ≤ h ∧ h < 8) → (zb (D l) h = true ↔ ∃ x y, (0 ≤ x ∧ x < c) ∧ (0 ≤ y ∧ y < c) ∧ zb S x = true ∧ zb S y = false ∧ zmi len nam x y = h ∧ zmi len nam y x = l ∧ R x y)
theorem zDs_0 {c S : Int} {len nam D : Int → Int} (h : ∀ l, 0 ≤ l → l < 8 → D l = 0) : zDs c S len nam D (fun _ _ => False) := ⟨fun l a b => by rw [h l a b]; omega, fun l x hl hx => by
  rw [h l hl.1 hl.2, zb_0]
  exact ⟨fun z => (by cases z), fun ⟨_, _, _, _, _, _, _, _, z⟩ => z.elim⟩⟩
theorem zDs_r {c S : Int} {len nam D : Int → Int} {R R' : Int → Int → Prop} (h : zDs c S len nam D R) (e : ∀ x y, (0 ≤ x ∧ x < c) → (0 ≤ y ∧ y < c) → zb S x = true → zb S y = false → zmi len nam x y ≠ -1 → (R x y ↔ R' x y)) : zDs c S len nam D R' := ⟨h.1, fun l x hl hx => by
  rw [h.2 l x hl hx]
  constructor
  · rintro ⟨u, v, a, b, p, q, m, n, r⟩
    exact ⟨u, v, a, b, p, q, m, n, (e u v a b p q (by omega)).mp r⟩
  · rintro ⟨u, v, a, b, p, q, m, n, r⟩
    exact ⟨u, v, a, b, p, q, m, n, (e u v a b p q (by omega)).mpr r⟩⟩
theorem zDs_a {c S x0 y0 A B : Int} {len nam D D' : Int → Int} {R : Int → Int → Prop} (h : zDs c S len nam D R) (hx : 0 ≤ x0 ∧ x0 < c) (hy : 0 ≤ y0 ∧ y0 < c) (sx : zb S x0 = true) (sy : zb S y0 = false) (hA : 0 ≤ A ∧ A < 8) (hB : 0 ≤ B ∧ B < 8) (eA : zmi len nam x0 y0 = A) (eB : zmi len nam y0 x0 = B) (d1 : D' B = zbs (D B) A) (d2 : ∀ l, l ≠ B → D' l = D l) : zDs c S len nam D' (fun x y => R x y ∨ (x = x0 ∧ y = y0)) := by
  obtain ⟨r1, r2⟩ := h
  refine ⟨fun l a b => ?_, fun l x hl hx' => ?_⟩
  · by_cases q : l = B
    · rw [q, d1]; exact zbs_lt (r1 B hB.1 hB.2) hA
    · rw [d2 l q]; exact r1 l a b
  · by_cases q : l = B
    · have rB := r1 B hB.1 hB.2
      rw [q, d1, zb_zbs (by omega) (by omega) hx'.1, Bool.or_eq_true, r2 B x hB hx', decide_eq_true_iff]
      constructor
      · rintro (⟨u, v, a, b, p, q, m, n, r⟩ | e)
        · exact ⟨u, v, a, b, p, q, m, n, Or.inl r⟩
        · exact ⟨x0, y0, hx, hy, sx, sy, by rw [eA, e], eB, Or.inr ⟨rfl, rfl⟩⟩
      · rintro ⟨u, v, a, b, p, q, m, n, r | ⟨e1, e2⟩⟩
        · exact Or.inl ⟨u, v, a, b, p, q, m, n, r⟩
        · rw [e1, e2, eA] at m
          exact Or.inr m
    · rw [d2 l q, r2 l x hl hx']
      constructor
      · rintro ⟨u, v, a, b, p, q, m, n, r⟩
        exact ⟨u, v, a, b, p, q, m, n, Or.inl r⟩
      · rintro ⟨u, v, a, b, p, q', m, n, r | ⟨e1, e2⟩⟩
        · exact ⟨u, v, a, b, p, q', m, n, r⟩
        · rw [e1, e2, eB] at n
          exact absurd n.symm q
/-- an order that fits them has the set first -/
theorem zDs_F {c S : Int} {len nam D t : Int → Int} (hn : znm c len nam) (h : zDs c S len nam D (fun _ _ => True)) (an : ∀ x y, (0 ≤ x ∧ x < c) → (0 ≤ y ∧ y < c) → zb S x = true → zb S y = false → zmi len nam x y = -1 → zia len x y = 1) (hp : zperm t) : zpre D t 8 = true ↔ zFst c len nam S t := by
  have fw : zpre D t 8 = true ↔ zfw D 1 t = true := by unfold zfw; simp
  rw [fw, zfw_b h.1 hp]
  constructor
  · rintro ⟨_, w⟩ a b ha hb za zb'
    rcases zmi_f hn ha hb (zrk t) with ⟨e1, e2, e3⟩ | ⟨e1, e2, e3, e4⟩
    · rw [e3]; exact decide_eq_true (an a b ha hb za zb' e1)
    · rw [e4]
      exact decide_eq_true (w _ _ e2.1 e2.2 e1.1 e1.2 ((h.2 _ _ e2 e1).mpr ⟨a, b, ha, hb, za, zb', rfl, rfl, trivial⟩))
  · intro w
    refine ⟨rfl, fun l x l0 l8 x0 x8 z => ?_⟩
    obtain ⟨a, b, ha, hb, za, zb', ex, el, _⟩ := (h.2 l x ⟨l0, l8⟩ ⟨x0, x8⟩).mp z
    have := w a b ha hb za zb'
    rcases zmi_f hn ha hb (zrk t) with ⟨e1, e2, e3⟩ | ⟨e1, e2, e3, e4⟩
    · omega
    · rw [e4, ex, el] at this
      exact of_decide_eq_true this
