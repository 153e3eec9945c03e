/-! sums; sheet() -/
def zsm (f : Int → Int) : Nat → Int
  | 0 => 0
  | n + 1 => zsm f n + f (n : Int)
theorem zsm_c {f g : Int → Int} : ∀ n : Nat, (∀ i : Int, 0 ≤ i → i < n → f i = g i) → zsm f n = zsm g n
  | 0, _ => rfl
  | n + 1, h => by
    show zsm f n + f n = zsm g n + g n
    rw [zsm_c n (fun i a b => h i a (by omega)), h n (by omega) (by omega)]
theorem zsm_b {f : Int → Int} {B : Int} : ∀ n : Nat, (∀ i : Int, 0 ≤ i → i < n → 0 ≤ f i ∧ f i ≤ B) → 0 ≤ zsm f n ∧ zsm f n ≤ n * B
  | 0, _ => by show 0 ≤ (0 : Int) ∧ (0 : Int) ≤ ((0 : Nat) : Int) * B; simp
  | n + 1, h => by
    have h1 := zsm_b n (fun i a b => h i a (by omega))
    have h2 := h n (by omega) (by omega)
    show 0 ≤ zsm f n + f n ∧ zsm f n + f n ≤ ((n + 1 : Nat) : Int) * B
    rw [show ((n + 1 : Nat) : Int) * B = n * B + B by rw [Int.natCast_add, Int.add_mul]; simp]
    omega
theorem s_M_sumFrom {d q : Nat} {k o m : Int} {M : zM} {F : Int → zM → Prop} (ho : 0 ≤ o ∧ o + m ≤ k) (hk : k ≤ 2000) (hm : 0 ≤ m ∧ m ≤ 8) (hv : ∀ i, 0 ≤ i → i < m → 0 ≤ M q (o + i) ∧ M q (o + i) ≤ 2000000) (H : F (zsm (fun i => M q (o + i)) m.toNat) M) : zCi (d + 1) 183 [z_r (100, k) q, z_i o, z_i m] M F := by
  refine e_M_sumFrom (fun P hP => ?_)
  have loop : ∀ (n : Nat) (i : Nat), (i : Int) + n = m → P k q o m (zsm (fun i => M q (o + i)) i) (i : Int) M := by
    intro n
    induction n with
    | zero =>
      intro i hi
      refine hP _ _ _ _ _ _ _ ⟨fun _ => ?_, fun c => absurd (by omega) c⟩
      rw [show i = m.toNat by omega]; exact H
    | succ n ih =>
      intro i hi
      have hb := zsm_b (f := fun i => M q (o + i)) (B := 2000000) i (fun j a b => hv j a (by omega))
      have hvi := hv i (by omega) (by omega)
      have hn := ih (i + 1) (by omega)
      rw [show ((i + 1 : Nat) : Int) = (i : Int) + 1 by omega] at hn
      have e2 : zsm (fun i => M q (o + i)) (i + 1) = zsm (fun i => M q (o + i)) i + M q (o + i) := rfl
      rw [e2] at hn
      refine hP _ _ _ _ _ _ _ ⟨fun c => absurd c (by omega), fun _ => ?_⟩
      rw [zw (x := o + i) (by omega) (by omega), zw (x := _ + M q (o + i)) (by omega) (by omega), zw (x := (i : Int) + 1) (by omega) (by omega)]
      exact ⟨by omega, hn⟩
  exact loop m.toNat 0 (by omega)
/-- thirst of a set -/
def zts (th : Int → Int) (s : Int) : Int := zsm (fun h => if zb s h = true then th h else 0) 8
theorem s_Pump_thirstOfSet {d : Nat} {s : Int} {M : zM} {F : Int → zM → Prop} (hs : 0 ≤ s ∧ s < 256) (hv : ∀ h, 0 ≤ h → h < 8 → zb s h = true → 0 ≤ M 46 h ∧ M 46 h ≤ 9) (H : F (zts (M 46) s) M) : zCi (d + 2) 27 [z_r (4, 0) 45, z_i s] M F := by
  refine e_Pump_thirstOfSet (fun P hP => ?_)
  have loop : ∀ (n : Nat) (i : Nat), i + n = 8 → P s (zsm (fun h => if zb s h = true then M 46 h else 0) i) (i : Int) M := by
    intro n
    induction n with
    | zero =>
      intro i hi
      refine hP _ _ _ _ ⟨fun _ => ?_, fun c => absurd (by omega) c⟩
      rw [show i = 8 by omega]; exact H
    | succ n ih =>
      intro i hi
      have hb := zsm_b (f := fun h => if zb s h = true then M 46 h else 0) (B := 9) i (fun j a b => by
        show 0 ≤ (if zb s j = true then M 46 j else 0) ∧ (if zb s j = true then M 46 j else 0) ≤ 9
        by_cases c : zb s j = true
        · rw [if_pos c]; exact hv j a (by omega) c
        · rw [if_neg c]; omega)
      have hn := ih (i + 1) (by omega)
      rw [show ((i + 1 : Nat) : Int) = (i : Int) + 1 by omega] at hn
      have e2 : zsm (fun h => if zb s h = true then M 46 h else 0) (i + 1) = zsm (fun h => if zb s h = true then M 46 h else 0) i + (if zb s i = true then M 46 i else 0) := rfl
      rw [e2] at hn
      refine hP _ _ _ _ ⟨fun c => absurd c (by omega), fun _ => s_W_isIn ⟨hs.1, by omega⟩ (by omega) ?_⟩
      rw [zw (x := (i : Int) + 1) (by omega) (by omega)]
      by_cases c : zb s i = true
      · rw [if_pos c] at hn ⊢
        have := hv i (by omega) (by omega) c
        refine ⟨fun z => absurd z (by decide), fun _ => ⟨by omega, ?_⟩⟩
        rw [zw (by omega) (by omega)]; exact hn
      · rw [if_neg c] at hn ⊢
        rw [Int.add_zero] at hn
        exact ⟨fun _ => hn, fun z => absurd rfl z⟩
  exact loop 8 0 (by omega)
/-- the first c numbers -/
theorem zb_full {c : Int} (hc : 0 ≤ c ∧ c ≤ 8) : (0 ≤ z_wr (z_shl 1 c - 1) ∧ z_wr (z_shl 1 c - 1) < 256) ∧ ∀ h, 0 ≤ h → zb (z_wr (z_shl 1 c - 1)) h = decide (h < c) := by
  have hp : 1 ≤ 2 ^ c.toNat := Nat.one_le_two_pow
  have hp2 : 2 ^ c.toNat ≤ 2 ^ 8 := Nat.pow_le_pow_right (by omega) (by omega)
  have e : z_wr (z_shl 1 c - 1) = ((2 ^ c.toNat - 1 : Nat) : Int) := by
    rw [z_shl1 ⟨hc.1, by omega⟩, zw (by omega) (by omega)]
    omega
  rw [e]
  refine ⟨⟨by omega, by omega⟩, fun h h0 => ?_⟩
  unfold zb
  rw [show ((2 ^ c.toNat - 1 : Nat) : Int).toNat = 2 ^ c.toNat - 1 from rfl, Nat.testBit_two_pow_sub_one]
  by_cases q : h < c
  · rw [decide_eq_true q, decide_eq_true (by omega)]
  · rw [decide_eq_false q, decide_eq_false (by omega)]
theorem zsm_cut (f : Int → Int) (c : Nat) : ∀ n : Nat, c ≤ n → zsm (fun h => if (decide (h < (c : Int))) = true then f h else 0) n = zsm f c := by
  intro n
  induction n with
  | zero => intro h; rw [show c = 0 by omega]; rfl
  | succ n ih =>
    intro h
    by_cases e : c = n + 1
    · rw [e]
      exact zsm_c (n + 1) (fun i a b => by rw [if_pos (by simp; omega)])
    · have e2 : zsm (fun h => if (decide (h < (c : Int))) = true then f h else 0) (n + 1) = zsm (fun h => if (decide (h < (c : Int))) = true then f h else 0) n + (if (decide ((n : Int) < (c : Int))) = true then f n else 0) := rfl
      rw [e2, ih (by omega), if_neg (by simp; omega), Int.add_zero]
theorem s_Pump_thirstOfAll {d : Nat} {c : Int} {M : zM} {F : Int → zM → Prop} (hc : 0 ≤ c ∧ c ≤ 8) (hv : ∀ h, 0 ≤ h → h < c → 0 ≤ M 46 h ∧ M 46 h ≤ 9) (H : F (zsm (M 46) c.toNat) M) : zCi (d + 3) 26 [z_r (4, 0) 45, z_i c] M F := by
  obtain ⟨f1, f2⟩ := zb_full hc
  refine e_Pump_thirstOfAll (s_Pump_thirstOfSet f1 (fun h a b z => hv h a (by rw [f2 h a] at z; exact of_decide_eq_true z)) ?_)
  have e : zts (M 46) (z_wr (z_shl 1 c - 1)) = zsm (M 46) c.toNat := by
    unfold zts
    rw [← zsm_cut (M 46) c.toNat 8 (by omega)]
    refine zsm_c 8 (fun i a b => ?_)
    rw [f2 i a, show ((c.toNat : Nat) : Int) = c by omega]
  rw [e]; exact H
theorem s_M_allThirst {d : Nat} {M : zM} {F : Int → zM → Prop} (hc : 0 ≤ M 179 3 ∧ M 179 3 ≤ 8) (hv : ∀ h, 0 ≤ h → h < M 179 3 → 0 ≤ M 182 h ∧ M 182 h ≤ 9) (H : F (zsm (M 182) (M 179 3).toNat) M) : zCi (d + 2) 182 [z_r (11, 0) 179] M F := by
  refine e_M_allThirst (s_M_sumFrom (by omega) (by omega) hc (fun i a b => by rw [Int.zero_add]; have := hv i a b; omega) ?_)
  rw [zsm_c (g := M 182) _ (fun i a b => by rw [Int.zero_add])]
  exact H
def zc9 (v : Int) : Int := if 1 < (if v < 9 then v else 9) then (if v < 9 then v else 9) else 1
theorem zc9_r (v : Int) : 1 ≤ zc9 v ∧ zc9 v ≤ 9 := by unfold zc9; split <;> split <;> omega
def zkd (k v : Int) : Int := if k = 0 then z_i2b v else if k = 1 then z_i2s v else v
theorem s_W_thirstOf {d : Nat} {k v : Int} {M : zM} {F : Int → zM → Prop} (H : F (zc9 (zkd k v)) M) : zCi (d + 1) 25 [z_i k, z_i v] M F := by
  unfold zkd zc9 at H
  refine e_W_thirstOf ⟨fun q => ⟨fun q2 => ?_, fun q2 => ?_⟩, fun q => ?_⟩
  · rw [if_neg q, if_neg q2] at H; exact H
  · rw [if_neg q, if_pos (Classical.not_not.mp q2)] at H; exact H
  · rw [if_pos (Classical.not_not.mp q)] at H; exact H
theorem zwr_a (a b : Int) : z_wr (z_wr a + b) = z_wr (a + b) := by unfold z_wr; omega
theorem zwr_b (a b : Int) : z_wr (a + z_wr b) = z_wr (a + b) := by unfold z_wr; omega
/-- the thirst that a sheet tells of house h -/
def zsh (k n f st h : Int) : Int := if k = 3 ∨ n ≤ h then 1 else zc9 (zkd k (z_wr (f + h * st)))
theorem zsh_r (k n f st h : Int) : 1 ≤ zsh k n f st h ∧ zsh k n f st h ≤ 9 := by
  unfold zsh; split; omega; exact zc9_r _
theorem s_W_sheet {d : Nat} {k n f st : Int} {M : zM} {F : Int → zM → Prop} (hc : 0 ≤ M 23 5 ∧ M 23 5 ≤ 8)
    (h1 : (0 ≤ k ∧ k ≤ 3) → n ≤ 8 → (k ≠ 3 → 0 ≤ n) → ∀ M', zf [46] [] M M' → (∀ h, 0 ≤ h → h < M 23 5 → M' 46 h = zsh k n f st h) → F (if k = 3 then -3 else zsm (zsh k n f st) (M 23 5).toNat) M')
    (h2 : (0 ≤ k ∧ k ≤ 3) → n ≤ 8 → k ≠ 3 → n < 0 → F (-2) M) (h0 : ¬ ((0 ≤ k ∧ k ≤ 3) ∧ n ≤ 8) → F (-1) M) : zCi (d + 4) 24 [z_r (10, 0) 0, z_i k, z_i n, z_i f, z_i st] M F := by
  refine e_W_sheet (fun P hP => ⟨fun q => h0 (by omega), fun q => ⟨fun q2 => h0 (by omega), fun q2 => ⟨fun q3 => ?_, fun q3 => h0 (by omega)⟩⟩⟩)
  have loop : (k ≠ 3 → 0 ≤ n) → ∀ e : Int, e = (if k = 3 then 0 else n) → ∀ (m : Nat) (i : Int) (M1 : zM), i + m = M 23 5 → 0 ≤ i → zf [46] [] M M1 → (∀ h, 0 ≤ h → h < i → M1 46 h = zsh k n f st h) → P k n f st e i M1 := by
    intro hn e he m
    induction m with
    | zero =>
      intro i M1 hi i0 g w
      have : i = M 23 5 := by omega
      subst this
      have c5 : M1 23 5 = M 23 5 := zf_a g 23 5 rfl
      have HF := h1 ⟨by omega, by omega⟩ q3 hn M1 g w
      refine hP _ _ _ _ _ _ _ ⟨fun _ => ⟨fun z => ?_, fun z => ?_⟩, fun c => absurd (by omega) c⟩
      · rw [if_neg z] at HF
        rw [c5]
        refine s_Pump_thirstOfAll hc (fun h a b => by rw [w h a b]; have := zsh_r k n f st h; omega) ?_
        rw [zsm_c (g := zsh k n f st) _ (fun i a b => w i a (by omega))]
        exact HF
      · rw [if_pos (Classical.not_not.mp z)] at HF; exact HF
    | succ m ih =>
      intro i M1 hi i0 g w
      have c5 : M1 23 5 = M 23 5 := zf_a g 23 5 rfl
      have nx : ∀ v : Int, v = zsh k n f st i → P k n f st e (z_wr (i + 1)) (z_up M1 46 i v) := by
        intro v hv
        rw [zw (by omega) (by omega)]
        refine ih (i + 1) _ (by omega) (by omega) (zf_us g (by decide)) (fun h a b => ?_)
        by_cases hx : h = i
        · subst hx; rw [zu_s]; exact hv
        · rw [zu_i hx]; exact w h a (by omega)
      refine hP _ _ _ _ _ _ _ ⟨fun c => absurd c (by omega), fun _ => ⟨fun z => ⟨by omega, nx 1 ?_⟩, fun z => s_W_thirstOf ⟨by omega, nx _ ?_⟩⟩⟩
      · unfold zsh
        rw [he] at z
        by_cases c : k = 3
        · rw [if_pos (Or.inl c)]
        · rw [if_neg c] at z; rw [if_pos (Or.inr z)]
      · unfold zsh
        rw [he] at z
        by_cases c : k = 3
        · rw [if_pos c] at z; omega
        · rw [if_neg c] at z
          rw [if_neg (by omega), zwr_b]
  refine ⟨fun z => ⟨fun y => absurd z y, fun _ => loop (fun y => absurd z y) 0 (by rw [if_pos z]) (M 23 5).toNat 0 M (by omega) (by omega) zf_rf (fun h a b => by omega)⟩, fun z => ⟨fun y => ⟨fun _ => loop (fun _ => y) n (by rw [if_neg z]) (M 23 5).toNat 0 M (by omega) (by omega) zf_rf (fun h a b => by omega), fun c => absurd z c⟩, fun y => h2 ⟨by omega, by omega⟩ q3 z (by omega)⟩⟩
theorem s_M_sheet {d : Nat} {k n f st : Int} {M : zM} {F : Int → zM → Prop} (hc : 0 ≤ M 179 3 ∧ M 179 3 ≤ 8) (hf : z_ri f)
    (h1 : (0 ≤ k ∧ k ≤ 3) → n ≤ 8 → (k ≠ 3 → 0 ≤ n) → ∀ M', zf [182] [(179, 0)] M M' → (∀ h, 0 ≤ h → h < M 179 3 → M' 182 h = zsh k n f st h) → F (if k = 3 then -3 else zsm (zsh k n f st) (M 179 3).toNat) M')
    (h2 : (0 ≤ k ∧ k ≤ 3) → n ≤ 8 → k ≠ 3 → n < 0 → F (-2) (z_up M 179 0 0)) (h0 : ¬ ((0 ≤ k ∧ k ≤ 3) ∧ n ≤ 8) → F (-1) (z_up M 179 0 0)) : zCi (d + 3) 188 [z_r (11, 0) 179, z_i k, z_i n, z_i f, z_i st] M F := by
  refine e_M_sheet (fun P hP => s_M_in ?_)
  by_cases ck : 0 ≤ k ∧ k ≤ 3
  · rw [if_pos ck]
    refine ⟨fun z => absurd z (by decide), fun _ => ⟨fun q3 => ?_, fun q3 => h0 (by omega)⟩⟩
    have loop : (k ≠ 3 → 0 ≤ n) → ∀ (m : Nat) (i v : Int) (M1 : zM), i + m = M 179 3 → 0 ≤ i → v = z_wr (f + i * st) → zf [182] [(179, 0)] M M1 → (∀ h, 0 ≤ h → h < i → M1 182 h = zsh k n f st h) → P k n f st v i M1 := by
      intro hn m
      induction m with
      | zero =>
        intro i v M1 hi i0 hv g w
        have : i = M 179 3 := by omega
        subst this
        have c3 : M1 179 3 = M 179 3 := zf_a g 179 3 rfl
        have HF := h1 ck q3 hn M1 g w
        refine hP _ _ _ _ _ _ _ ⟨fun _ => ⟨fun z => ?_, fun z => ?_⟩, fun c => absurd (by omega) c⟩
        · rw [if_neg z] at HF
          refine s_M_allThirst (by omega) (fun h a b => by rw [w h a (by omega)]; have := zsh_r k n f st h; omega) ?_
          rw [c3, zsm_c (g := zsh k n f st) _ (fun i a b => w i a (by omega))]
          exact HF
        · rw [if_pos (Classical.not_not.mp z)] at HF; exact HF
      | succ m ih =>
        intro i v M1 hi i0 hv g w
        have c3 : M1 179 3 = M 179 3 := zf_a g 179 3 rfl
        have nx : ∀ x : Int, x = zsh k n f st i → P k n f st (z_wr (v + st)) (z_wr (i + 1)) (z_up M1 182 i x) := by
          intro x hx
          rw [zw (x := i + 1) (by omega) (by omega)]
          refine ih (i + 1) _ _ (by omega) (by omega) ?_ (zf_us g (by decide)) (fun h a b => ?_)
          · rw [hv, zwr_a, Int.add_mul, Int.one_mul, Int.add_assoc]
          · by_cases hh : h = i
            · subst hh; rw [zu_s]; exact hx
            · rw [zu_i hh]; exact w h a (by omega)
        refine hP _ _ _ _ _ _ _ ⟨fun c => absurd c (by omega), fun _ => ⟨fun z0 => ⟨fun z1 => ⟨fun z3 => ⟨by omega, nx 1 ?_⟩, fun z3 => ⟨fun y => ⟨by omega, nx _ ?_⟩, fun y => ⟨by omega, nx 1 ?_⟩⟩⟩, fun z1 => ⟨fun z3 => ⟨by omega, nx 1 ?_⟩, fun z3 => ⟨fun y => ⟨by omega, nx _ ?_⟩, fun y => ⟨by omega, nx 1 ?_⟩⟩⟩⟩, fun z0 => ⟨fun z3 => ⟨by omega, nx 1 ?_⟩, fun z3 => ⟨fun y => ⟨by omega, nx _ ?_⟩, fun y => ⟨by omega, nx 1 ?_⟩⟩⟩⟩⟩
        · unfold zsh; rw [if_pos (Or.inl z3)]
        · show zc9 v = zsh k n f st i; unfold zsh; rw [if_neg (show ¬ (k = 3 ∨ n ≤ i) by omega), ← hv]; unfold zkd; rw [if_neg z0, if_neg z1]
        · unfold zsh; rw [if_pos (Or.inr (by omega))]
        · unfold zsh; rw [if_pos (Or.inl z3)]
        · show zc9 (z_i2s v) = zsh k n f st i; unfold zsh; rw [if_neg (show ¬ (k = 3 ∨ n ≤ i) by omega), ← hv]; unfold zkd; rw [if_neg z0, if_pos (Classical.not_not.mp z1)]
        · unfold zsh; rw [if_pos (Or.inr (by omega))]
        · unfold zsh; rw [if_pos (Or.inl z3)]
        · show zc9 (z_i2b v) = zsh k n f st i; unfold zsh; rw [if_neg (show ¬ (k = 3 ∨ n ≤ i) by omega), ← hv]; unfold zkd; rw [if_pos (Classical.not_not.mp z0)]
        · unfold zsh; rw [if_pos (Or.inr (by omega))]
    have start : (k ≠ 3 → 0 ≤ n) → P k n f st f 0 (z_up M 179 0 0) := fun hn => loop hn (M 179 3).toNat 0 f _ (by omega) (by omega) (by rw [Int.zero_mul, Int.add_zero, zn_id hf]) (zf_uj zf_rf (by decide)) (fun h a b => by omega)
    exact ⟨fun z => start (fun y => absurd z y), fun z => ⟨fun y => start (fun _ => y), fun y => h2 ck q3 z (by omega)⟩⟩
  · rw [if_neg ck]
    exact ⟨fun _ => h0 (fun z => ck z.1), fun z => absurd rfl z⟩
theorem p_sheet {d : Nat} {k m f st n : Int} {M : zM} (hI : zI n M) (hn : n < 512) (hf : z_ri f) : zQ (d + 4) 24 188 [z_r (10, 0) 0, z_i k, z_i m, z_i f, z_i st] [z_r (11, 0) 179, z_i k, z_i m, z_i f, z_i st] n M := by
  have hI0 := hI
  obtain ⟨hb, hT, hR, hJ⟩ := hI
  obtain ⟨c1, c2, c3⟩ := zJ_count hJ
  obtain ⟨j1, j2, j3, j4, j5, j6, j7, j8⟩ := hJ
  unfold zQ
  refine s_W_sheet (by rw [c1]; exact ⟨c2, c3⟩) (fun x y z M1 f1 a1 => ?_) (fun x y z w => ?_) (fun x => ?_)
  · rw [c1] at a1 ⊢
    have e3 : M1 179 3 = M 179 3 := zf_a f1 179 3 rfl
    refine s_M_sheet (by rw [e3]; exact ⟨c2, c3⟩) hf (fun _ _ _ M2 f2 b1 => ?_) (fun _ _ u v => by have := z u; omega) (fun u => absurd ⟨x, y⟩ u)
    rw [e3] at b1 ⊢
    have f := zf_tr f1 f2
    have i3 : M2 179 3 = M 179 3 := zf_a f 179 3 rfl
    refine ⟨rfl, ⟨by omega, by omega⟩, iT_f hT f rfl, iR_f hR f rfl, zJ_n (n := n) ⟨?_, ?_, ?_, ?_, ?_, ?_, ?_, ?_⟩ (by omega)⟩
    · rw [i3]
      exact tR_c j1 (zf_a f 23 5 rfl) (zf_a f 23 6 rfl) (zf_c f 24 rfl) (zf_c f 25 rfl) (zf_c f 26 rfl) (zf_c f 27 rfl) (zf_c f 28 rfl) (zf_c f 183 rfl)
    · rw [i3]
      intro h h0 h1
      rw [show M2 46 h = M1 46 h by rw [zf_c f2 46 rfl], a1 h h0 h1, b1 h h0 h1]
      exact ⟨rfl, zsh_r _ _ _ _ _⟩
    · rw [zf_a f 45 2 rfl, zf_c f 47 rfl, zf_a f 179 5 rfl, zf_c f 181 rfl]; exact j3
    · rw [zf_a f 5 1 rfl, zf_c f 6 rfl, zf_a f 179 22 rfl, zf_c f 190 rfl]; exact j4
    · rw [i3]
      exact iP_c j5 (zf_a f 49 1 rfl) (zf_a f 49 2 rfl) (zf_a f 179 33 rfl) (zf_c f 201 rfl) (zf_r f 51 140 rfl)
    · rw [i3]
      exact iK_c j6 (zf_a f 0 11 rfl) (zf_a f 179 4 rfl) (zf_c f 219 rfl) (zf_c f 220 rfl) (zf_c f 221 rfl) (zf_r f 161 178 rfl)
    · rw [i3, zf_a f 0 14 rfl, zf_c f 142 rfl, zf_c f 143 rfl, zf_a f 179 57 rfl, zf_c f 216 rfl, zf_c f 217 rfl]; exact j7
    · rw [zf_a f 159 0 rfl, zf_a f 154 0 rfl]; exact j8
  · refine s_M_sheet ⟨c2, c3⟩ hf (fun _ _ u => absurd (u z) (by omega)) (fun _ _ _ _ => ⟨rfl, zI_f hI0 hn (S := []) (J := [(179, 0)]) (zf_uj zf_rf (by decide)) rfl rfl⟩) (fun u => absurd ⟨x, y⟩ u)
  · refine s_M_sheet ⟨c2, c3⟩ hf (fun u v => absurd ⟨u, v⟩ x) (fun u v => absurd ⟨u, v⟩ x) (fun _ => ⟨rfl, zI_f hI0 hn (S := []) (J := [(179, 0)]) (zf_uj zf_rf (by decide)) rfl rfl⟩)
