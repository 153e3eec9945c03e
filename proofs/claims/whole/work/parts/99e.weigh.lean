/-! pairs: the class -/
theorem zbr_gt {s i : Int} (hs : 0 ≤ s ∧ s < 256) (hi : 0 ≤ i ∧ i < 8) (h : zb s i = true) : zbr s i < s ∧ zcard s = zcard (zbr s i) + 1 := by
  have lt := zbr_lt (i := i) hs (by omega)
  have bf : zb (zbr s i) i = false := by rw [zb_zbr (by omega) (by omega) hi.1, decide_eq_true rfl]; simp
  have e : zbs (zbr s i) i = s := zb_ext (zbs_lt lt hi).1 hs.1 (fun j j0 => by
    rw [zb_zbs (by omega) (by omega) j0, zb_zbr (by omega) (by omega) j0]
    by_cases q : i = j
    · rw [decide_eq_true q, Bool.or_true, ← q, h]
    · rw [decide_eq_false q]; simp)
  have g := zbs_gt lt hi bf
  have cc := zcard_zbs lt hi bf
  rw [e] at g cc
  exact ⟨g, cc⟩
theorem zpf_r {w : Int → Int → Int} {c i S : Int} {f : Nat} {av : Int → Bool} (hi : 0 ≤ i) (hf : i + 1 + (f : Int) = c) (h0 : ∀ h, 0 ≤ h → h ≤ i → zb S h = false) (h1 : ∀ h, i < h → h < c → zb S h = av h) : zpf w c c.toNat (zb S) = zpf w c f av := by
  have := zpf_sk (w := w) (c := c) (i.toNat + 1) f (zb S) (fun h a b => h0 h (by omega) (by omega))
  rw [show f + (i.toNat + 1) = c.toNat by omega] at this
  rw [this]
  exact zpf_c f _ _ (fun h a b => h1 h (by omega) b)
theorem zpf_f {w : Int → Int → Int} {c i S : Int} {f : Nat} (hi : 0 ≤ i) (hf : i + 1 + (f : Int) = c) (h0 : ∀ h, 0 ≤ h → h < i → zb S h = false) : zpf w c c.toNat (zb S) = zpf w c (f + 1) (zb S) := by
  have := zpf_sk (w := w) (c := c) i.toNat (f + 1) (zb S) (fun h a b => h0 h (by omega) (by omega))
  rw [show f + 1 + i.toNat = c.toNat by omega] at this
  exact this
theorem zxV_n {p : Int → Bool} {g : Int → Int} : ∀ n : Nat, (∀ j : Int, 0 ≤ j → j < n → p j = false) → zxV p g n = -2000000
  | 0, _ => rfl
  | n + 1, h => by
    show (if p n = true ∧ zxV p g n < g n then g n else zxV p g n) = _
    rw [if_neg (fun y => by rw [h n (by omega) (by omega)] at y; cases y.1)]
    exact zxV_n n (fun j a b => h j a (by omega))
theorem s_Matching_firstOf {d : Nat} {s : Int} {M : zM} {F : Int → zM → Prop} (hs : 0 < s ∧ s < 256) (H : ∀ i, (0 ≤ i ∧ i < 8) → zb s i = true → (∀ h, 0 ≤ h → h < i → zb s h = false) → F i M) : zCi (d + 2) 106 [z_i s] M F := by
  refine e_Matching_firstOf (fun P hP => ?_)
  have loop : ∀ (m i : Nat), i + m = 8 → (∀ h : Int, 0 ≤ h → h < i → zb s h = false) → P s (i : Int) M := by
    intro m
    induction m with
    | zero =>
      intro i hi h
      exfalso
      have : s = 0 := zb_ext (by omega) (by omega) (fun j j0 => by
        rw [zb_0]
        by_cases q : j < 8
        · exact h j j0 (by omega)
        · exact zb_ge (by omega) (by omega))
      omega
    | succ m ih =>
      intro i hi h
      refine hP _ _ _ ⟨fun z => absurd z (by omega), fun _ => s_W_isIn (by omega) (by omega) ?_⟩
      by_cases z : zb s (i : Int) = true
      · rw [if_pos z]
        exact ⟨fun y => absurd y (by decide), fun _ => H i (by omega) z h⟩
      · rw [if_neg z, zw (x := (i : Int) + 1) (by omega) (by omega)]
        refine ⟨fun _ => ?_, fun y => absurd rfl y⟩
        have := ih (i + 1) (by omega) (fun x a b => by
          by_cases q : x = i
          · rw [q]; simpa using z
          · exact h x a (by omega))
        rw [show ((i + 1 : Nat) : Int) = (i : Int) + 1 by omega] at this
        exact this
  exact loop 8 0 (by omega) (fun h a b => by omega)
/-- the class's table of sets -/
def zVs (w : Int → Int → Int) (c S : Int) : Int := zpv (zpf w c c.toNat (zb S))
def zWg (w : Int → Int → Int) (c : Int) (M : zM) : Prop := ∀ a b, 0 ≤ a → a < c → 0 ≤ b → b < c → M 158 (8 * a + b) = w a b
theorem zVs_b {w : Int → Int → Int} {c : Int} (hw : ∀ a b, -8 ≤ w a b ∧ w a b ≤ 8) (hc : 0 ≤ c ∧ c ≤ 8) (S : Int) : -2000 ≤ zVs w c S ∧ zVs w c S ≤ 2000 := zpv_b hw (by omega) _
theorem s_Matching_worthWith {d : Nat} {w : Int → Int → Int} {c S i b : Int} {f : Nat} {M : zM} {F : Int → zM → Prop} (hw : ∀ a b, -8 ≤ w a b ∧ w a b ≤ 8) (hc : 0 ≤ c ∧ c ≤ 8) (hf : i + 1 + (f : Int) = c) (hS : 0 ≤ S ∧ S < 256) (h0 : ∀ h, 0 ≤ h → h < i → zb S h = false) (hi : 0 ≤ i) (hib : i < b ∧ b < c) (hb : zb S b = true) (hW : zWg w c M) (hT : M 159 (zbr (zbr S i) b) = zVs w c (zbr (zbr S i) b)) (H : F (zpg w i (fun x => zpv (zpf w c f x)) (zb S) b) M) : zCi (d + 1) 107 [z_r (1, 0) 157, z_i i, z_i b, z_i (zbr S i)] M F := by
  have l1 := zbr_lt (i := i) hS (by omega)
  have l2 := zbr_lt (i := b) l1 (by omega)
  have eV : zVs w c (zbr (zbr S i) b) = zpv (zpf w c f (zdl (zb S) b)) := by
    unfold zVs
    rw [zpf_r (av := zdl (zb S) b) hi hf (fun h x y => ?_) (fun h x y => ?_)]
    · rw [zb_zbr (by omega) (by omega) x, zb_zbr (by omega) (by omega) x]
      by_cases q : h = i
      · rw [q, decide_eq_true (show i = i from rfl)]; simp
      · rw [h0 h x (by omega)]; rfl
    · rw [zb_zbr (by omega) (by omega) (by omega), zb_zbr (by omega) (by omega) (by omega), decide_eq_false (show ¬ i = h by omega)]
      unfold zdl
      by_cases q : h = b
      · rw [if_pos q, decide_eq_true q.symm]; simp
      · rw [if_neg q, decide_eq_false (fun e => q e.symm)]; simp
  have vb := zVs_b hw hc (zbr (zbr S i) b)
  have wb := hw i b
  refine e_Matching_worthWith ?_
  rw [zw (x := i * 8) (by omega) (by omega), zw (x := i * 8 + b) (by omega) (by omega), show i * 8 + b = 8 * i + b by omega, hW i b hi (by omega) (by omega) hib.2]
  refine ⟨by omega, l2, ?_⟩
  show F (z_wr (z_wr (z_wr (w i b * 16) - 1) + M 159 (zbr (zbr S i) b))) M
  rw [hT, zw (x := w i b * 16) (by omega) (by omega), zw (x := w i b * 16 - 1) (by omega) (by omega), zw (x := w i b * 16 - 1 + _) (by omega) (by omega), eV]
  unfold zpg at H
  rw [show w i b * 16 - 1 + zpv (zpf w c f (zdl (zb S) b)) = 16 * w i b - 1 + zpv (zpf w c f (zdl (zb S) b)) by omega]
  exact H
theorem zVs_r {w : Int → Int → Int} {c S i : Int} {f : Nat} (hi : 0 ≤ i) (hc : c ≤ 8) (hf : i + 1 + (f : Int) = c) (hS : 0 ≤ S ∧ S < 256) (h0 : ∀ h, 0 ≤ h → h < i → zb S h = false) : zVs w c (zbr S i) = zpv (zpf w c f (zb S)) := by
  unfold zVs
  rw [zpf_r (av := zb S) hi hf (fun h x y => ?_) (fun h x y => ?_)]
  · rw [zb_zbr (by omega) (by omega) x]
    by_cases q : h = i
    · rw [q, decide_eq_true (show i = i from rfl)]; simp
    · rw [h0 h x (by omega)]; rfl
  · rw [zb_zbr (by omega) (by omega) (by omega), decide_eq_false (show ¬ i = h by omega)]; simp
theorem s_Matching_weigh {d : Nat} {c : Int} {ord len nam : Int → Int} {M : zM} {F : zM → Prop} (ht : zTn c ord len nam) (hB : zBk M 35 c (zrk ord) len nam) (h0 : M 159 0 = 0) (H : ∀ M', zf [158, 159] [] M M' → zWg (zcwb c (zrk ord) len nam) c M' → (∀ S, 0 ≤ S → S < ((2 ^ c.toNat : Nat) : Int) → M' 159 S = zVs (zcwb c (zrk ord) len nam) c S) → F M') : zCv (d + 3) 104 [z_r (1, 0) 157, z_r (0, 0) 35] M F := by
  have c8 := ht.1
  have hok : zok (zrk ord) len nam c := ⟨ht.1, ht.2.2.1, ht.2.2.2, fun x _ _ => zrk_r _ x, fun x y x0 x1 y0 y1 e => zrk_j ht.2.1 ⟨x0, x1⟩ ⟨y0, y1⟩ e⟩
  have hB1 : ∀ M1, zf [158, 159] [] M M1 → zBk M1 35 c (zrk ord) len nam := fun M1 f1 => by
    obtain ⟨b1, b2, b3, b4⟩ := hB
    refine ⟨by rw [zf_a f1 35 4 rfl]; exact b1, fun h a b => ?_, fun h a b => ?_, ?_⟩
    · have : M1 (35 + 3) = M (35 + 3) := zf_c f1 38 rfl
      rw [this]; exact b2 h a b
    · have : M1 (35 + 2) = M (35 + 2) := zf_c f1 37 rfl
      rw [this]; exact b3 h a b
    · have : M1 (35 + 1) = M (35 + 1) := zf_c f1 36 rfl
      rw [this]; exact b4
  have hw := zcwb_b (rk := zrk ord) (len := len) (nam := nam) c8
  have p2 : ((2 ^ c.toNat : Nat) : Int) ≤ 256 := by
    have : (2 ^ c.toNat : Nat) ≤ 2 ^ 8 := Nat.pow_le_pow_right (by omega) (by omega)
    omega
  refine e_Matching_weigh (fun P2 P12 P107 P149 h2 h12 h107 h149 => ?_)
  -- the sets
  have sets : ∀ (m s : Nat) (M1 : zM), (s : Int) + m = ((2 ^ c.toNat : Nat) : Int) → 1 ≤ s → zf [158, 159] [] M M1 → zWg (zcwb c (zrk ord) len nam) c M1 → (∀ S, 0 ≤ S → S < (s : Int) → M1 159 S = zVs (zcwb c (zrk ord) len nam) c S) → P107 35 (s : Int) M1 := by
    intro m
    induction m with
    | zero =>
      intro s M1 hs s1 f1 w1 v1
      have e4 : M1 35 4 = c := (hB1 M1 f1).1
      refine h107 _ _ _ ⟨fun _ => H M1 f1 w1 (fun S a b => v1 S a (by omega)), fun z => absurd ?_ z⟩
      rw [e4, z_shl1 (by omega)]; omega
    | succ m ih =>
      intro s M1 hs s1 f1 w1 v1
      have e4 : M1 35 4 = c := (hB1 M1 f1).1
      have hS : 0 ≤ (s : Int) ∧ (s : Int) < 256 := by omega
      have sub := (zb_lt2 (x := (s : Int)) c8 (by omega)).mp (by omega)
      refine h107 _ _ _ ⟨fun z => absurd z (by rw [e4, z_shl1 (by omega)]; omega), fun _ => s_Matching_firstOf (by omega) (fun i hi bi b0 => ?_)⟩
      have ic : i < c := sub i hi.1 bi
      have g := zbr_gt hS hi bi
      have l1 := zbr_lt (i := i) hS (by omega)
      have nx := ih (s + 1)
      rw [show ((s + 1 : Nat) : Int) = (s : Int) + 1 by omega] at nx
      generalize hf : (c - 1 - i).toNat = f
      have hf1 : i + 1 + (f : Int) = c := by omega
      have f8 : f ≤ 8 := by omega
      have eR := zVs_r (w := zcwb c (zrk ord) len nam) (S := (s : Int)) hi.1 c8.2 hf1 hS b0
      refine ⟨l1, hS, ?_⟩
      show P149 35 (s : Int) i (zbr s i) (z_wr (i + 1)) (z_up M1 159 s (M1 159 (zbr s i)))
      rw [zw (x := i + 1) (by omega) (by omega), v1 _ l1.1 g.1, eR]
      have fin : zVs (zcwb c (zrk ord) len nam) c s = if zxV (zpp i (zb s)) (zpg (zcwb c (zrk ord) len nam) i (fun x => zpv (zpf (zcwb c (zrk ord) len nam) c f x)) (zb s)) c.toNat < zpv (zpf (zcwb c (zrk ord) len nam) c f (zb s)) then zpv (zpf (zcwb c (zrk ord) len nam) c f (zb s)) else zxV (zpp i (zb s)) (zpg (zcwb c (zrk ord) len nam) i (fun x => zpv (zpf (zcwb c (zrk ord) len nam) c f x)) (zb s)) c.toNat := by
        unfold zVs
        rw [zpf_f hi.1 hf1 b0]
        exact zpf_v hw f8 (by omega) bi
      have inner : ∀ (k n : Nat) (M2 : zM), (n : Int) + k = c → i < n → zf [158, 159] [] M M2 → zWg (zcwb c (zrk ord) len nam) c M2 → (∀ S, 0 ≤ S → S < (s : Int) → M2 159 S = zVs (zcwb c (zrk ord) len nam) c S) → (M2 159 s = if zxV (zpp i (zb s)) (zpg (zcwb c (zrk ord) len nam) i (fun x => zpv (zpf (zcwb c (zrk ord) len nam) c f x)) (zb s)) n < zpv (zpf (zcwb c (zrk ord) len nam) c f (zb s)) then zpv (zpf (zcwb c (zrk ord) len nam) c f (zb s)) else zxV (zpp i (zb s)) (zpg (zcwb c (zrk ord) len nam) i (fun x => zpv (zpf (zcwb c (zrk ord) len nam) c f x)) (zb s)) n) → P149 35 (s : Int) i (zbr s i) (n : Int) M2 := by
        intro k
        induction k with
        | zero =>
          intro n M2 hn hin f2 w2 v2 x2
          have e4 : M2 35 4 = c := (hB1 M2 f2).1
          refine h149 _ _ _ _ _ _ ⟨fun _ => ?_, fun z => absurd (by omega) z⟩
          rw [zw (x := (s : Int) + 1) (by omega) (by omega)]
          refine nx M2 (by omega) (by omega) f2 w2 (fun S a b => ?_)
          by_cases q : S = s
          · rw [q, x2, fin, show n = c.toNat by omega]
          · exact v2 S a (by omega)
        | succ k ih2 =>
          intro n M2 hn hin f2 w2 v2 x2
          have e4 : M2 35 4 = c := (hB1 M2 f2).1
          have nx2 := ih2 (n + 1)
          have ev : zxV (zpp i (zb s)) (zpg (zcwb c (zrk ord) len nam) i (fun x => zpv (zpf (zcwb c (zrk ord) len nam) c f x)) (zb s)) (n + 1) = if zpp i (zb s) n = true ∧ zxV (zpp i (zb s)) (zpg (zcwb c (zrk ord) len nam) i (fun x => zpv (zpf (zcwb c (zrk ord) len nam) c f x)) (zb s)) n < zpg (zcwb c (zrk ord) len nam) i (fun x => zpv (zpf (zcwb c (zrk ord) len nam) c f x)) (zb s) n then zpg (zcwb c (zrk ord) len nam) i (fun x => zpv (zpf (zcwb c (zrk ord) len nam) c f x)) (zb s) n else zxV (zpp i (zb s)) (zpg (zcwb c (zrk ord) len nam) i (fun x => zpv (zpf (zcwb c (zrk ord) len nam) c f x)) (zb s)) n := rfl
          rw [show ((n + 1 : Nat) : Int) = (n : Int) + 1 by omega, ev] at nx2
          have ebn : zb (zbr s i) n = zb s n := by rw [zb_zbr (by omega) (by omega) (by omega), decide_eq_false (show ¬ i = (n : Int) by omega)]; simp
          have epn : zpp i (zb s) n = zb s n := by unfold zpp; rw [decide_eq_true hin, Bool.and_true]
          rw [epn] at nx2
          refine h149 _ _ _ _ _ _ ⟨fun z => absurd z (by omega), fun _ => s_W_isIn (by omega) (by omega) ?_⟩
          rw [ebn, zw (x := (n : Int) + 1) (by omega) (by omega)]
          by_cases z : zb (s : Int) n = true
          · rw [if_pos z]
            have l2 := zbr_lt (i := n) l1 (by omega)
            have g2 := zbr_gt l1 (show 0 ≤ (n : Int) ∧ (n : Int) < 8 by omega) (by rw [ebn]; exact z)
            refine ⟨fun y => absurd y (by decide), fun _ => ⟨hS, s_Matching_worthWith (w := zcwb c (zrk ord) len nam) hw c8 hf1 hS b0 hi.1 ⟨hin, by omega⟩ z w2 (v2 _ l2.1 (by omega)) ⟨hS, ?_⟩⟩⟩
            rw [x2]
            generalize zpg (zcwb c (zrk ord) len nam) i (fun x => zpv (zpf (zcwb c (zrk ord) len nam) c f x)) (zb s) n = G at nx2
            generalize zxV (zpp i (zb s)) (zpg (zcwb c (zrk ord) len nam) i (fun x => zpv (zpf (zcwb c (zrk ord) len nam) c f x)) (zb s)) n = V at nx2
            generalize zpv (zpf (zcwb c (zrk ord) len nam) c f (zb s)) = R at nx2
            refine nx2 _ (by omega) (by omega) (zf_us f2 (by decide)) (fun a b a0 a1 b0 b1 => by rw [zu_c (by decide)]; exact w2 a b a0 a1 b0 b1) (fun S a b => by rw [zu_i (by omega)]; exact v2 S a b) ?_
            rw [zu_s]
            by_cases q2 : V < G
            · rw [if_pos (show zb (s : Int) n = true ∧ V < G from ⟨z, q2⟩)]
              (repeat' split) <;> omega
            · rw [if_neg (show ¬ (zb (s : Int) n = true ∧ V < G) from fun y => q2 y.2)]
              (repeat' split) <;> omega
          · rw [if_neg z]
            have no : ∀ G V : Int, (if zb (s : Int) n = true ∧ V < G then G else V) = V := fun G V => if_neg (fun y => z y.1)
            rw [no] at nx2
            exact ⟨fun _ => nx2 M2 (by omega) (by omega) f2 w2 v2 x2, fun y => absurd rfl y⟩
      have b2 := zpv_b (w := zcwb c (zrk ord) len nam) (c := c) hw f8 (zb s)
      have start := inner (c - 1 - i).toNat (i.toNat + 1) (z_up M1 159 s (zpv (zpf (zcwb c (zrk ord) len nam) c f (zb s)))) (by omega) (by omega) (zf_us f1 (by decide)) (fun a b a0 a1 b0 b1 => by rw [zu_c (by decide)]; exact w1 a b a0 a1 b0 b1) (fun S a b => by rw [zu_i (by omega)]; exact v1 S a b) (by
        rw [zu_s, zxV_n (i.toNat + 1) (fun j a b => by unfold zpp; rw [decide_eq_false (show ¬ i < j by omega), Bool.and_false]), if_pos (by omega)])
      rw [show ((i.toNat + 1 : Nat) : Int) = i + 1 by omega] at start
      exact start
  -- the climbs
  have rows : ∀ (m a : Nat) (M1 : zM), (a : Int) + m = c → zf [158] [] M M1 → (∀ x y, 0 ≤ x → x < (a : Int) → 0 ≤ y → y < c → M1 158 (8 * x + y) = zcwb c (zrk ord) len nam x y) → P2 35 (a : Int) M1 := by
    intro m
    induction m with
    | zero =>
      intro a M1 ha f1 w1
      have f1' : zf [158, 159] [] M M1 := zf_ww f1 rfl rfl
      have e4 : M1 35 4 = c := (hB1 M1 f1').1
      refine h2 _ _ _ ⟨fun _ => ?_, fun z => absurd (by omega) z⟩
      have v0 : zVs (zcwb c (zrk ord) len nam) c 0 = 0 := by
        unfold zVs
        have := zpf_sk (w := zcwb c (zrk ord) len nam) (c := c) c.toNat 0 (zb 0) (fun h _ _ => zb_0 h)
        rw [Nat.zero_add] at this
        rw [this]; rfl
      have pos : 1 ≤ (2 ^ c.toNat : Nat) := Nat.one_le_two_pow
      exact sets ((2 ^ c.toNat) - 1) 1 M1 (by omega) (by omega) f1' (fun x y x0 x1 y0 y1 => w1 x y x0 (by omega) y0 y1) (fun S a b => by
        have : S = 0 := by omega
        rw [this, zf_c f1 159 rfl, h0, v0])
    | succ m ih =>
      intro a M1 ha f1 w1
      have f1' : zf [158, 159] [] M M1 := zf_ww f1 rfl rfl
      have e4 : M1 35 4 = c := (hB1 M1 f1').1
      have nx := ih (a + 1)
      rw [show ((a + 1 : Nat) : Int) = (a : Int) + 1 by omega] at nx
      refine h2 _ _ _ ⟨fun z => absurd z (by omega), fun _ => ?_⟩
      have cols : ∀ (k b : Nat) (M2 : zM), (b : Int) + k = c → zf [158] [] M M2 → (∀ x y, 0 ≤ x → x < (a : Int) → 0 ≤ y → y < c → M2 158 (8 * x + y) = zcwb c (zrk ord) len nam x y) → (∀ y, 0 ≤ y → y < (b : Int) → M2 158 (8 * a + y) = zcwb c (zrk ord) len nam a y) → P12 35 (a : Int) (b : Int) M2 := by
        intro k
        induction k with
        | zero =>
          intro b M2 hb f2 w2 y2
          have e4 : M2 35 4 = c := (hB1 M2 (zf_ww f2 rfl rfl)).1
          refine h12 _ _ _ _ ⟨fun _ => ?_, fun z => absurd (by omega) z⟩
          rw [zw (x := (a : Int) + 1) (by omega) (by omega)]
          refine nx M2 (by omega) f2 (fun x y x0 x1 y0 y1 => ?_)
          by_cases q : x = a
          · rw [q]; exact y2 y y0 (by omega)
          · exact w2 x y x0 (by omega) y0 y1
        | succ k ih2 =>
          intro b M2 hb f2 w2 y2
          have B2 := hB1 M2 (zf_ww f2 rfl rfl)
          have e4 : M2 35 4 = c := B2.1
          have ha8 : 0 ≤ (a : Int) ∧ (a : Int) < c := by omega
          have hb8 : 0 ≤ (b : Int) ∧ (b : Int) < c := by omega
          have ea : M2 (35 + 2) a = zpl c (zrk ord) len nam a := B2.2.2.1 a ha8.1 ha8.2
          have eb : M2 (35 + 2) b = zpl c (zrk ord) len nam b := B2.2.2.1 b hb8.1 hb8.2
          have ra := zpl_r hok ha8
          have rb := zpl_r hok hb8
          have r1 : 0 ≤ zpl c (zrk ord) (tkL len b a) (tkN nam b a) b ∧ zpl c (zrk ord) (tkL len b a) (tkN nam b a) b ≤ ((c.toNat : Nat) : Int) := zcn_le _ _
          have r2 : 0 ≤ zpl c (zrk ord) (tkL len a b) (tkN nam a b) a ∧ zpl c (zrk ord) (tkL len a b) (tkN nam a b) a ≤ ((c.toNat : Nat) : Int) := zcn_le _ _
          have nx2 := ih2 (b + 1)
          rw [show ((b + 1 : Nat) : Int) = (b : Int) + 1 by omega] at nx2
          have go : ∀ v, v = zcwb c (zrk ord) len nam a b → P12 35 (a : Int) ((b : Int) + 1) (z_up M2 158 (8 * a + b) v) := fun v hv => by
            refine nx2 _ (by omega) (zf_us f2 (by decide)) (fun x y x0 x1 y0 y1 => ?_) (fun y y0 y1 => ?_)
            · rw [zu_i (by omega)]; exact w2 x y x0 x1 y0 y1
            · by_cases q : y = b
              · rw [q, zu_s, hv]
              · rw [zu_i (by omega)]; exact y2 y y0 (by omega)
          refine h12 _ _ _ _ ⟨fun z => absurd z (by omega), fun _ => ⟨by omega, by omega, ?_⟩⟩
          rw [ea, eb, zw (x := (a : Int) * 8) (by omega) (by omega), zw (x := (a : Int) * 8 + b) (by omega) (by omega), zw (x := (b : Int) + 1) (by omega) (by omega), show (a : Int) * 8 + b = 8 * a + b by omega]
          refine ⟨fun z => ⟨fun _ => ⟨fun _ => ⟨by omega, s_Book_placeByName ht B2 hb8 ha8 ⟨by omega, ?_⟩⟩, fun y => absurd rfl y⟩, fun y => absurd rfl y⟩, fun z => ⟨fun y => absurd y (by decide), fun _ => ⟨fun y => absurd y (by decide), fun _ => ⟨by omega, s_Book_placeByName ht B2 ha8 hb8 ⟨by omega, ?_⟩⟩⟩⟩⟩
          · rw [zw (x := _ - _) (by omega) (by omega)]
            refine go _ ?_
            unfold zcwb zcmb; rw [if_pos z]
          · rw [zw (x := _ - _) (by omega) (by omega)]
            refine go _ ?_
            unfold zcwb zcmb; rw [if_neg z]
      exact cols c.toNat 0 M1 (by omega) f1 w1 (fun y a b => by omega)
  exact rows c.toNat 0 M (by omega) zf_rf (fun x y a b => by omega)
