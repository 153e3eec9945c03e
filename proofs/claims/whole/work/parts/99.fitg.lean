/-! orders that fit: letters ahead, and the class's sums over sets -/
theorem zfk_b {D : Int → Int} {s l : Int} (hD : 0 ≤ D l ∧ D l < 256) (hs : 0 ≤ s ∧ s < 256) : zfk D s l = true ↔ ∀ h, 0 ≤ h → h < 8 → zb (D l) h = true → zb s h = true := by
  unfold zfk
  rw [decide_eq_true_iff, z_sub hD hs]
  constructor
  · intro w h h0 _; exact w h h0
  · intro w h h0 b
    by_cases q : h < 8
    · exact w h h0 q b
    · rw [zb_ge hD (by omega)] at b; cases b
theorem zpre_a {D t : Int → Int} : ∀ k : Nat, zpre D t k = true ↔ ∀ j : Nat, j < k → zfk D (zset t j) (t (j : Int)) = true
  | 0 => ⟨fun _ j h => by omega, fun _ => rfl⟩
  | k + 1 => by
    show (zpre D t k && zfk D (zset t k) (t k)) = true ↔ _
    rw [Bool.and_eq_true, zpre_a k]
    constructor
    · rintro ⟨h1, h2⟩ j hj
      by_cases q : j = k
      · rw [q]; exact h2
      · exact h1 j (by omega)
    · intro h
      exact ⟨fun j hj => h j (by omega), h k (by omega)⟩
theorem zfw_b {D t : Int → Int} {P : Int} (hD : ∀ l, 0 ≤ l → l < 8 → 0 ≤ D l ∧ D l < 256) (hp : zperm t) : zfw D P t = true ↔ P = 1 ∧ ∀ l h, 0 ≤ l → l < 8 → 0 ≤ h → h < 8 → zb (D l) h = true → zrk t h < zrk t l := by
  unfold zfw
  rw [Bool.and_eq_true, decide_eq_true_iff, zpre_a]
  refine and_congr_right (fun _ => ?_)
  constructor
  · intro w l h l0 l8 h0 h8 b
    have rl := zrk_r t l
    have := w (zrk t l).toNat (by omega)
    have zs := zset_b hp.1 (zrk t l).toNat (by omega)
    rw [show (((zrk t l).toNat : Nat) : Int) = zrk t l by omega, zrk_o hp l l0 l8, zfk_b (hD l l0 l8) zs.1] at this
    obtain ⟨j, hj, e⟩ := (zs.2 h h0).mp (this h h0 h8 b)
    have := zrk_i hp j hj.1 (by omega)
    rw [e] at this
    omega
  · intro w j hj
    have tj := hp.1 j (by omega) (by omega)
    have zs := zset_b hp.1 j (by omega)
    rw [zfk_b (hD _ tj.1 tj.2) zs.1]
    intro h h0 h8 b
    have := w (t j) h tj.1 tj.2 h0 h8 b
    rw [zrk_i hp j (by omega) (by omega)] at this
    exact (zs.2 h h0).mpr ⟨zrk t h, ⟨(zrk_r t h).1, by omega⟩, zrk_o hp h h0 h8⟩
theorem zcf_f {D : Int → Int} {s l : Int} (h : zcf D s l = true) : zb s l = false := by
  unfold zcf at h
  rw [Bool.and_eq_true] at h
  have := h.1
  simpa using this
def zfact : Nat → Int
  | 0 => 1
  | n + 1 => (n + 1 : Int) * zfact n
theorem zEn_b {D : Int → Int} {P : Int} (hP : P = 0 ∨ P = 1) : ∀ (f : Nat) (s : Int), (0 ≤ s ∧ s < 256) → zcard s + f = 8 → zEn D P f s ≤ zfact f
  | 0, s, _, _ => by show P ≤ 1; omega
  | f + 1, s, hs, hc => by
    have h1 : zEn D P (f + 1) s ≤ zsm (fun l => zfact f * (if zb s l = true then 0 else 1)) 8 := zsm_le 8 (fun l a b => by
      show (if zcf D s l = true then zEn D P f (zbs s l) else 0) ≤ zfact f * (if zb s l = true then 0 else 1)
      have fn : ∀ n, 0 ≤ zfact n := by
        intro n
        induction n with
        | zero => show (0 : Int) ≤ 1; omega
        | succ n ih => exact Int.mul_nonneg (by omega) ih
      by_cases z : zcf D s l = true
      · have zs := zcf_f z
        have := zEn_b (D := D) hP f (zbs s l) (zbs_lt hs ⟨a, b⟩) (by rw [zcard_zbs hs ⟨a, b⟩ zs]; omega)
        rw [if_pos z, if_neg (by rw [zs]; decide)]; omega
      · rw [if_neg z]
        have := fn f
        split <;> omega)
    have h2 : zsm (fun l => if zb s l = true then (0 : Int) else 1) 8 + zcard s = 8 := by
      rw [zcard_ss]
      unfold zss
      rw [← zsm_add, zsm_c (g := fun _ => 1) 8 (fun l _ _ => by
        show (if zb s l = true then (0 : Int) else 1) + (if zb s l = true then 1 else 0) = 1
        split <;> rfl)]
      rfl
    rw [zsm_mul] at h1
    rw [show zsm (fun l => if zb s l = true then (0 : Int) else 1) 8 = (f : Int) + 1 by omega] at h1
    show _ ≤ ((f : Int) + 1) * zfact f
    rw [Int.mul_comm]; exact h1
theorem zfz_c {D : Int → Int} {w w' : (Int → Int) → Int} : ∀ (f k : Nat) (t : Int → Int) (s : Int), k + f = 8 → zPx (k : Int) t s → (∀ t' s', zPx 8 t' s' → (∀ j : Int, 0 ≤ j → j < k → t' j = t j) → w t' = w' t') → zfz D w f t s = zfz D w' f t s
  | 0, k, t, s, hk, hp, h => by
    have : k = 8 := by omega
    subst this
    exact h t s hp (fun j _ _ => rfl)
  | f + 1, k, t, s, hk, hp, h => by
    have ek : 7 - (f : Int) = (k : Int) := by omega
    refine zsm_c 8 (fun l a b => ?_)
    show (if zcf D s l = true then zfz D w f (fun j => if j = 7 - (f : Int) then l else t j) (zbs s l) else 0) = (if zcf D s l = true then zfz D w' f (fun j => if j = 7 - (f : Int) then l else t j) (zbs s l) else 0)
    by_cases z : zcf D s l = true
    · rw [if_pos z, if_pos z, ek]
      refine zfz_c f (k + 1) _ _ (by omega) (zPx_s hp (by omega) ⟨a, b⟩ (zcf_f z)) (fun t' s' p' e' => h t' s' p' (fun j x y => ?_))
      rw [e' j x (by omega)]
      show (if j = (k : Int) then l else t j) = t j
      rw [if_neg (by omega)]
    · rw [if_neg z, if_neg z]
theorem zfz_add {D : Int → Int} {w w' : (Int → Int) → Int} : ∀ (f : Nat) (t : Int → Int) (s : Int), zfz D (fun t => w t + w' t) f t s = zfz D w f t s + zfz D w' f t s
  | 0, t, s => rfl
  | f + 1, t, s => by
    show zsm _ 8 = zsm _ 8 + zsm _ 8
    rw [← zsm_add]
    refine zsm_c 8 (fun l _ _ => ?_)
    show (if zcf D s l = true then zfz D (fun t => w t + w' t) f (fun j => if j = 7 - (f : Int) then l else t j) (zbs s l) else 0) = (if zcf D s l = true then zfz D w f (fun j => if j = 7 - (f : Int) then l else t j) (zbs s l) else 0) + (if zcf D s l = true then zfz D w' f (fun j => if j = 7 - (f : Int) then l else t j) (zbs s l) else 0)
    rw [zfz_add f]
    split <;> rfl
/-- i comes while j has not -/
def zG (D : Int → Int) (P i j : Int) : Nat → Int → Int
  | 0, _ => 0
  | f + 1, s => (if zb s j = false ∧ zcf D s i = true then zEn D P f (zbs s i) else 0) + zsm (fun l => if zcf D s l = true then zG D P i j f (zbs s l) else 0) 8
theorem zG_0 {D : Int → Int} {P i j : Int} : ∀ (f : Nat) (s : Int), (0 ≤ s ∧ s < 256) → (zb s i = true ∨ zb s j = true) → zG D P i j f s = 0
  | 0, s, _, _ => rfl
  | f + 1, s, hs, h => by
    show (if zb s j = false ∧ zcf D s i = true then zEn D P f (zbs s i) else 0) + zsm (fun l => if zcf D s l = true then zG D P i j f (zbs s l) else 0) 8 = 0
    rw [if_neg (fun y => by
      have := zcf_f y.2
      rcases h with q | q
      · rw [q] at this; cases this
      · rw [q] at y; cases y.1), zsm_c (g := fun _ => 0) 8 (fun l a b => by
      show (if zcf D s l = true then zG D P i j f (zbs s l) else 0) = 0
      by_cases z : zcf D s l = true
      · rw [if_pos z]
        exact zG_0 f _ (zbs_lt hs ⟨a, b⟩) (h.imp (zb_mo hs ⟨a, b⟩) (zb_mo hs ⟨a, b⟩))
      · rw [if_neg z])]
    rfl
theorem zfz_G {D : Int → Int} {P i j : Int} (hi : 0 ≤ i ∧ i < 8) (hj : 0 ≤ j ∧ j < 8) (hij : i ≠ j) : ∀ (f k : Nat) (t : Int → Int) (s : Int), k + f = 8 → zPx (k : Int) t s → zb s i = false → zb s j = false → zfz D (fun t => P * zrb t (8 * i + j)) f t s = zG D P i j f s
  | 0, k, t, s, hk, hp, bi, bj => by
    exfalso
    have : k = 8 := by omega
    subst this
    obtain ⟨x, hx, e⟩ := zperm_s (zPx_p hp) i hi.1 hi.2
    have := (hp.2.2.2 i hi.1).mpr ⟨x, by omega, e⟩
    rw [bi] at this; cases this
  | f + 1, k, t, s, hk, hp, bi, bj => by
    have ek : 7 - (f : Int) = (k : Int) := by omega
    have er : ∀ t, zrb t (8 * i + j) = if zrk t j ≤ zrk t i then 0 else 1 := fun t => by
      unfold zrb
      rw [show (8 * i + j) % 8 = j by omega, show (8 * i + j) / 8 = i by omega]
    -- a letter that is not among the first ones comes later
    have late : ∀ (m : Int) (t' : Int → Int) (s' : Int), (0 ≤ m ∧ m < 8) → zPx 8 t' s' → (∀ y : Int, 0 ≤ y → y < ((k + 1 : Nat) : Int) → t' y ≠ m) → (k : Int) < zrk t' m := fun m t' s' hm p' ne => by
      refine Classical.byContradiction (fun q => ?_)
      exact ne (zrk t' m) (zrk_r t' m).1 (by omega) (zrk_o (zPx_p p') m hm.1 hm.2)
    have dif : zsm (fun l => (if zcf D s l = true then zfz D (fun t => P * zrb t (8 * i + j)) f (fun y => if y = 7 - (f : Int) then l else t y) (zbs s l) else 0) + -(if zcf D s l = true then zG D P i j f (zbs s l) else 0)) 8 = if 0 ≤ i ∧ i < ((8 : Nat) : Int) then ((if zcf D s i = true then zfz D (fun t => P * zrb t (8 * i + j)) f (fun y => if y = 7 - (f : Int) then i else t y) (zbs s i) else 0) + -(if zcf D s i = true then zG D P i j f (zbs s i) else 0)) else 0 := by
      refine zsm_one 8 (fun l a b ne => ?_)
      by_cases z : zcf D s l = true
      · have zs := zcf_f z
        rw [if_pos z, if_pos z, ek]
        have p1 : zPx ((k + 1 : Nat) : Int) (fun y => if y = (k : Int) then l else t y) (zbs s l) := zPx_s hp (by omega) ⟨a, b⟩ zs
        by_cases w : l = j
        · rw [zG_0 f _ (zbs_lt hp.1 ⟨a, b⟩) (Or.inr (by rw [w, zb_zbs (by have := hp.1; omega) (by omega) (by omega), decide_eq_true rfl, Bool.or_true]))]
          rw [zfz_c (w' := fun _ => 0) f (k + 1) _ _ (by omega) p1 (fun t' s' p' e' => ?_), zfz_P, zEn_0]
          · rfl
          · show P * zrb t' (8 * i + j) = 0
            have r1 : zrk t' j = k := by
              have := e' k (by omega) (by omega)
              have this : t' k = (if (k : Int) = (k : Int) then l else t k) := this
              rw [if_pos rfl, w] at this
              rw [← this, zrk_i (zPx_p p') k (by omega) (by omega)]
            have r2 := late i t' s' hi p' (fun y y0 y1 e => by
              have := (p1.2.2.2 i hi.1).mpr ⟨y, ⟨y0, y1⟩, (e' y y0 y1).symm.trans e⟩
              rw [zb_zbs (by have := hp.1; omega) (by omega) (by omega), bi, decide_eq_false ne] at this
              cases this)
            rw [er, if_pos (by omega), Int.mul_zero]
        · have := zfz_G (D := D) (P := P) hi hj hij f (k + 1) (fun y => if y = (k : Int) then l else t y) (zbs s l) (by omega) p1 (by rw [zb_zbs (by have := hp.1; omega) (by omega) (by omega), bi, decide_eq_false ne]; rfl) (by rw [zb_zbs (by have := hp.1; omega) (by omega) (by omega), bj, decide_eq_false w]; rfl)
          rw [this]; omega
      · rw [if_neg z, if_neg z]; rfl
    have neg : ∀ (g : Int → Int) (n : Nat), zsm (fun l => -g l) n = -zsm g n := fun g n => by
      induction n with
      | zero => rfl
      | succ n ih =>
        show zsm (fun l => -g l) n + -g n = -(zsm g n + g n)
        rw [ih]; omega
    rw [zsm_add, neg, if_pos (by omega)] at dif
    have eR : zG D P i j (f + 1) s = (if zb s j = false ∧ zcf D s i = true then zEn D P f (zbs s i) else 0) + zsm (fun l => if zcf D s l = true then zG D P i j f (zbs s l) else 0) 8 := rfl
    have eL : zfz D (fun t => P * zrb t (8 * i + j)) (f + 1) t s = zsm (fun l => if zcf D s l = true then zfz D (fun t => P * zrb t (8 * i + j)) f (fun y => if y = 7 - (f : Int) then l else t y) (zbs s l) else 0) 8 := rfl
    rw [eL, eR]
    suffices hh : (if zcf D s i = true then zfz D (fun t => P * zrb t (8 * i + j)) f (fun y => if y = 7 - (f : Int) then i else t y) (zbs s i) else 0) + -(if zcf D s i = true then zG D P i j f (zbs s i) else 0) = (if zb s j = false ∧ zcf D s i = true then zEn D P f (zbs s i) else 0) by omega
    by_cases z : zcf D s i = true
    · rw [if_pos z, if_pos z, if_pos ⟨bj, z⟩, ek]
      have p1 : zPx ((k + 1 : Nat) : Int) (fun y => if y = (k : Int) then i else t y) (zbs s i) := zPx_s hp (by omega) hi bi
      rw [zG_0 f _ (zbs_lt hp.1 hi) (Or.inl (by rw [zb_zbs (by have := hp.1; omega) (by omega) (by omega), decide_eq_true rfl, Bool.or_true]))]
      rw [zfz_c (w' := fun _ => P) f (k + 1) _ _ (by omega) p1 (fun t' s' p' e' => ?_), zfz_P]
      · omega
      · show P * zrb t' (8 * i + j) = P
        have r1 : zrk t' i = k := by
          have := e' k (by omega) (by omega)
          have this : t' k = (if (k : Int) = (k : Int) then i else t k) := this
          rw [if_pos rfl] at this
          rw [← this, zrk_i (zPx_p p') k (by omega) (by omega)]
        have r2 := late j t' s' hj p' (fun y y0 y1 e => by
          have := (p1.2.2.2 j hj.1).mpr ⟨y, ⟨y0, y1⟩, (e' y y0 y1).symm.trans e⟩
          rw [zb_zbs (by have := hp.1; omega) (by omega) (by omega), bj, decide_eq_false hij] at this
          cases this)
        rw [er, if_neg (by omega), Int.mul_one]
    · rw [if_neg z, if_neg z, if_neg (fun y => z y.2)]; rfl
theorem zG_P {D : Int → Int} {P i j : Int} (hP : P = 0 ∨ P = 1) : ∀ (f : Nat) (s : Int), P * zG D P i j f s = zG D P i j f s := by
  intro f s
  rcases hP with e | e
  · rw [e]
    have : ∀ (f : Nat) (s : Int), zG D 0 i j f s = 0 := by
      intro f
      induction f with
      | zero => intro s; rfl
      | succ f ih =>
        intro s
        show (if zb s j = false ∧ zcf D s i = true then zEn D 0 f (zbs s i) else 0) + zsm (fun l => if zcf D s l = true then zG D 0 i j f (zbs s l) else 0) 8 = 0
        rw [zEn_0, zsm_c (g := fun _ => 0) 8 (fun l _ _ => by
          show (if zcf D s l = true then zG D 0 i j f (zbs s l) else 0) = 0
          rw [ih]; split <;> rfl)]
        split <;> rfl
    rw [this]; rfl
  · rw [e, Int.one_mul]
/-- both sides of the two letters make all -/
theorem zG_two {D : Int → Int} {P i j : Int} (hi : 0 ≤ i ∧ i < 8) (hj : 0 ≤ j ∧ j < 8) (hij : i ≠ j) : zG D P i j 8 0 + zG D P j i 8 0 = zEn D P 8 0 := by
  rw [← zfz_G hi hj hij 8 0 (fun _ => 0) 0 (by omega) (zPx_0 _) (zb_0 _) (zb_0 _), ← zfz_G hj hi (fun e => hij e.symm) 8 0 (fun _ => 0) 0 (by omega) (zPx_0 _) (zb_0 _) (zb_0 _), ← zfz_add, ← zfz_P (D := D) 8 (fun _ => 0) 0]
  refine zfz_c 8 0 _ _ (by omega) (zPx_0 _) (fun t' s' p' _ => ?_)
  show P * zrb t' (8 * i + j) + P * zrb t' (8 * j + i) = P
  have ne : zrk t' i ≠ zrk t' j := fun e => hij (zrk_j (zPx_p p') hi hj e)
  unfold zrb
  rw [show (8 * i + j) % 8 = j by omega, show (8 * i + j) / 8 = i by omega, show (8 * j + i) % 8 = i by omega, show (8 * j + i) / 8 = j by omega]
  by_cases z : zrk t' j ≤ zrk t' i
  · rw [if_pos z, if_neg (by omega)]; omega
  · rw [if_neg z, if_pos (by omega)]; omega
theorem zG_b {D : Int → Int} {P i j : Int} (hP : P = 0 ∨ P = 1) (hi : 0 ≤ i ∧ i < 8) (hj : 0 ≤ j ∧ j < 8) (hij : i ≠ j) : 0 ≤ zG D P i j 8 0 ∧ zG D P i j 8 0 ≤ zEn D P 8 0 := by
  rw [← zfz_G hi hj hij 8 0 (fun _ => 0) 0 (by omega) (zPx_0 _) (zb_0 _) (zb_0 _)]
  refine zfz_b (fun t => ?_) 8 _ 0
  unfold zrb
  rcases hP with z | z <;> rw [z] <;> split <;> omega
theorem zEn_8 {D : Int → Int} {P : Int} (hP : P = 0 ∨ P = 1) : 0 ≤ zEn D P 8 0 ∧ zEn D P 8 0 ≤ 40320 := ⟨zEn_nn hP 8 0, zEn_b hP 8 0 (by omega) (by decide)⟩
/-- what a set gives at once; what it gives in all -/
def zh (D : Int → Int) (P i j s : Int) : Int := if zb s j = false ∧ zcf D s i = true then zEn D P (7 - zcard s).toNat (zbs s i) else 0
def zGs (D : Int → Int) (P i j s : Int) : Int := zG D P i j (8 - zcard s).toNat s
theorem zcf_full {D : Int → Int} {s l : Int} (hs : 0 ≤ s ∧ s < 256) (h : zcard s = 8) (hl : 0 ≤ l ∧ l < 8) : zcf D s l = false := by
  cases y : zcf D s l
  · rfl
  · have := zcard_zbs hs hl (zcf_f y)
    have := zcard_r (zbs s l)
    omega
theorem zGs_rec {D : Int → Int} {P i j s : Int} (hi : 0 ≤ i ∧ i < 8) (hs : 0 ≤ s ∧ s < 256) : zGs D P i j s = zh D P i j s + zsm (fun l => if zcf D s l = true then zGs D P i j (zbs s l) else 0) 8 := by
  have cr := zcard_r s
  unfold zGs zh
  by_cases full : zcard s = 8
  · rw [full, if_neg (fun y => by have := zcf_full (D := D) hs full hi; rw [this] at y; cases y.2), zsm_c (g := fun _ => 0) 8 (fun l a b => by
      show (if zcf D s l = true then _ else 0) = 0
      rw [if_neg (by rw [zcf_full hs full ⟨a, b⟩]; decide)])]
    rfl
  · rw [show (8 - zcard s).toNat = (7 - zcard s).toNat + 1 by omega]
    show (if zb s j = false ∧ zcf D s i = true then zEn D P (7 - zcard s).toNat (zbs s i) else 0) + zsm _ 8 = _
    congr 1
    refine zsm_c 8 (fun l a b => ?_)
    show (if zcf D s l = true then zG D P i j (7 - zcard s).toNat (zbs s l) else 0) = (if zcf D s l = true then zG D P i j (8 - zcard (zbs s l)).toNat (zbs s l) else 0)
    by_cases z : zcf D s l = true
    · rw [if_pos z, if_pos z, show (8 - zcard (zbs s l)).toNat = (7 - zcard s).toNat by rw [zcard_zbs hs ⟨a, b⟩ (zcf_f z)]; omega]
    · rw [if_neg z, if_neg z]
/-- while the set S is shared out, its letters below n done -/
def zXs (D : Int → Int) (P i j : Int) (S : Int) (n : Nat) (s : Int) : Int := if s < S then zh D P i j s else if s = S then zh D P i j s + (zsm (fun l => if zcf D s l = true then zGs D P i j (zbs s l) else 0) 8 - zsm (fun l => if zcf D s l = true then zGs D P i j (zbs s l) else 0) n) else zGs D P i j s
def zPsi (D : Int → Int) (P S : Int) (n : Nat) (b : Int → Int) : Prop := ∀ i j, (0 ≤ i ∧ i < 8) → (0 ≤ j ∧ j < 8) → i ≠ j → ∃ q, zsm (fun s => b s * zXs D P i j S n s) 256 = zG D P i j 8 0 + 4294967296 * q
theorem zPsi_0 {D b : Int → Int} {P : Int} (hP : P = 0 ∨ P = 1) (h0 : b 0 = P) (hb : ∀ s, 0 < s → s < 256 → b s = 0) : zPsi D P 0 0 b := fun i j hi hj hij => ⟨0, by
  rw [zsm_one (k0 := 0) 256 (fun k a c ne => by show b k * _ = 0; rw [hb k (by omega) (by omega), Int.zero_mul]), if_pos (by omega)]
  show b 0 * zXs D P i j 0 0 0 = _
  unfold zXs
  rw [if_neg (by omega), if_pos rfl, h0]
  have := zGs_rec (D := D) (P := P) (j := j) (s := 0) hi (by omega)
  have z0 : zsm (fun l => if zcf D 0 l = true then zGs D P i j (zbs 0 l) else 0) 0 = 0 := rfl
  rw [z0, Int.sub_zero, ← this]
  unfold zGs
  rw [show (8 - zcard 0).toNat = 8 by decide, zG_P hP]; omega⟩
theorem zPsi_n {D b : Int → Int} {P S : Int} (hS : 0 ≤ S ∧ S < 256) (h : zPsi D P S 8 b) : zPsi D P (S + 1) 0 b := fun i j hi hj hij => by
  obtain ⟨q, e⟩ := h i j hi hj hij
  refine ⟨q, ?_⟩
  rw [← e]
  refine zsm_c 256 (fun s a c => ?_)
  show b s * zXs D P i j (S + 1) 0 s = b s * zXs D P i j S 8 s
  refine congrArg (fun x => b s * x) ?_
  unfold zXs
  by_cases q1 : s < S
  · rw [if_pos (by omega), if_pos q1]
  · rw [if_neg q1]
    by_cases q2 : s = S
    · rw [if_pos (by omega), if_pos q2]; omega
    · rw [if_neg (by omega), if_neg q2]
      by_cases q3 : s = S + 1
      · rw [if_pos q3, zGs_rec hi ⟨a, by omega⟩]
        show _ + (_ - (0 : Int)) = _
        omega
      · rw [if_neg q3]
theorem zPsi_skip {D b : Int → Int} {P S : Int} {n : Nat} (hz : zcf D S (n : Int) = false) (h : zPsi D P S n b) : zPsi D P S (n + 1) b := fun i j hi hj hij => by
  obtain ⟨q, e⟩ := h i j hi hj hij
  refine ⟨q, ?_⟩
  rw [← e]
  refine zsm_c 256 (fun s a c => ?_)
  show b s * zXs D P i j S (n + 1) s = b s * zXs D P i j S n s
  refine congrArg (fun x => b s * x) ?_
  unfold zXs
  by_cases q1 : s < S
  · rw [if_pos q1, if_pos q1]
  · rw [if_neg q1, if_neg q1]
    by_cases q2 : s = S
    · rw [if_pos q2, if_pos q2]
      have : zsm (fun l => if zcf D s l = true then zGs D P i j (zbs s l) else 0) (n + 1) = zsm (fun l => if zcf D s l = true then zGs D P i j (zbs s l) else 0) n + (if zcf D s (n : Int) = true then zGs D P i j (zbs s n) else 0) := rfl
      rw [this, q2, if_neg (by rw [hz]; decide)]; omega
    · rw [if_neg q2, if_neg q2]
theorem zPsi_push {D b b' : Int → Int} {P S k : Int} {n : Nat} (hS : 0 ≤ S ∧ S < 256) (hn : n < 8) (hz : zcf D S (n : Int) = true) (e1 : b' (zbs S n) = b (zbs S n) + b S + 4294967296 * k) (e2 : ∀ s, s ≠ zbs S n → b' s = b s) (h : zPsi D P S n b) : zPsi D P S (n + 1) b' := fun i j hi hj hij => by
  obtain ⟨q, e⟩ := h i j hi hj hij
  have hn8 : 0 ≤ (n : Int) ∧ (n : Int) < 8 := by omega
  have gt := zbs_gt hS hn8 (zcf_f hz)
  have lt := zbs_lt hS hn8
  generalize hT : zbs S (n : Int) = T at e1 e2 gt lt
  refine ⟨q + k * zGs D P i j T, ?_⟩
  have pt : zsm (fun s => b' s * zXs D P i j S (n + 1) s) 256 = zsm (fun s => b s * zXs D P i j S n s + ((if s = T then (b S + 4294967296 * k) * zGs D P i j T else 0) + (if s = S then -(b S * zGs D P i j T) else 0))) 256 := by
    refine zsm_c 256 (fun s a c => ?_)
    show b' s * zXs D P i j S (n + 1) s = b s * zXs D P i j S n s + ((if s = T then (b S + 4294967296 * k) * zGs D P i j T else 0) + (if s = S then -(b S * zGs D P i j T) else 0))
    unfold zXs
    by_cases q1 : s < S
    · rw [if_pos q1, if_pos q1, if_neg (show ¬ s = T by omega), if_neg (show ¬ s = S by omega), e2 s (by omega)]; omega
    · rw [if_neg q1, if_neg q1]
      by_cases q2 : s = S
      · have : zsm (fun l => if zcf D s l = true then zGs D P i j (zbs s l) else 0) (n + 1) = zsm (fun l => if zcf D s l = true then zGs D P i j (zbs s l) else 0) n + (if zcf D s (n : Int) = true then zGs D P i j (zbs s n) else 0) := rfl
        rw [if_pos q2, if_pos q2, this, if_neg (show ¬ s = T by omega), if_pos q2, e2 s (by omega), q2, if_pos hz, hT]
        generalize zGs D P i j T = g
        generalize zh D P i j S = u
        generalize zsm (fun l => if zcf D S l = true then zGs D P i j (zbs S l) else 0) 8 = v
        generalize zsm (fun l => if zcf D S l = true then zGs D P i j (zbs S l) else 0) n = w
        rw [show u + (v - (w + g)) = (u + (v - w)) - g by omega, Int.mul_sub]; omega
      · rw [if_neg q2, if_neg q2, if_neg q2]
        by_cases q3 : s = T
        · rw [if_pos q3, q3, e1, show b T + b S + 4294967296 * k = b T + (b S + 4294967296 * k) by omega, Int.add_mul]; omega
        · rw [if_neg q3, e2 s q3]; omega
  rw [pt, zsm_add, zsm_add, e]
  rw [zsm_one (f := fun s => if s = T then (b S + 4294967296 * k) * zGs D P i j T else 0) (k0 := T) 256 (fun s _ _ ne => if_neg ne), if_pos (by omega), if_pos rfl]
  rw [zsm_one (f := fun s => if s = S then -(b S * zGs D P i j T) else 0) (k0 := S) 256 (fun s _ _ ne => if_neg ne), if_pos (by omega), if_pos rfl]
  rw [Int.add_mul, Int.mul_add, Int.mul_assoc]; omega
theorem zPsi_end {D b : Int → Int} {P : Int} (h : zPsi D P 256 0 b) (i j : Int) (hi : 0 ≤ i ∧ i < 8) (hj : 0 ≤ j ∧ j < 8) (hij : i ≠ j) : ∃ q, zsm (fun s => b s * zh D P i j s) 256 = zG D P i j 8 0 + 4294967296 * q := by
  obtain ⟨q, e⟩ := h i j hi hj hij
  refine ⟨q, ?_⟩
  rw [← e]
  refine zsm_c 256 (fun s a c => ?_)
  show b s * zh D P i j s = b s * zXs D P i j 256 0 s
  unfold zXs
  rw [if_pos (by omega)]
