/-! pairs: the best of them, the first that is best -/
def zxV (p : Int → Bool) (g : Int → Int) : Nat → Int
  | 0 => -2000000
  | n + 1 => if p (n : Int) = true ∧ zxV p g n < g (n : Int) then g (n : Int) else zxV p g n
def zxX (p : Int → Bool) (g : Int → Int) : Nat → Int
  | 0 => -1
  | n + 1 => if p (n : Int) = true ∧ zxV p g n < g (n : Int) then (n : Int) else zxX p g n
theorem zxV_c {p p' : Int → Bool} {g g' : Int → Int} : ∀ n : Nat, (∀ i : Int, 0 ≤ i → i < n → p i = p' i ∧ g i = g' i) → zxV p g n = zxV p' g' n ∧ zxX p g n = zxX p' g' n
  | 0, _ => ⟨rfl, rfl⟩
  | n + 1, h => by
    obtain ⟨a, b⟩ := zxV_c n (fun i x y => h i x (by omega))
    obtain ⟨e1, e2⟩ := h n (by omega) (by omega)
    constructor
    · show (if p n = true ∧ zxV p g n < g n then g n else zxV p g n) = (if p' n = true ∧ zxV p' g' n < g' n then g' n else zxV p' g' n)
      rw [a, e1, e2]
    · show (if p n = true ∧ zxV p g n < g n then (n : Int) else zxX p g n) = (if p' n = true ∧ zxV p' g' n < g' n then (n : Int) else zxX p' g' n)
      rw [a, b, e1, e2]
theorem zxV_le {p : Int → Bool} {g : Int → Int} : ∀ (n : Nat) (j : Int), 0 ≤ j → j < n → p j = true → g j ≤ zxV p g n
  | 0, j, a, b, _ => by omega
  | n + 1, j, a, b, h => by
    show g j ≤ (if p n = true ∧ zxV p g n < g n then g n else zxV p g n)
    by_cases q : j = n
    · rw [q] at h ⊢
      by_cases w : zxV p g n < g n
      · rw [if_pos ⟨h, w⟩]; omega
      · rw [if_neg (fun y => w y.2)]; omega
    · have := zxV_le (g := g) n j a (by omega) h
      split <;> omega
theorem zxV_X {p : Int → Bool} {g : Int → Int} : ∀ n : Nat, (zxV p g n = -2000000) ∨ ((0 ≤ zxX p g n ∧ zxX p g n < n) ∧ p (zxX p g n) = true ∧ g (zxX p g n) = zxV p g n ∧ ∀ j : Int, 0 ≤ j → j < zxX p g n → p j = true → g j < zxV p g n)
  | 0 => Or.inl rfl
  | n + 1 => by
    have e1 : zxV p g (n + 1) = if p n = true ∧ zxV p g n < g n then g n else zxV p g n := rfl
    have e2 : zxX p g (n + 1) = if p n = true ∧ zxV p g n < g n then (n : Int) else zxX p g n := rfl
    rw [e1, e2]
    by_cases w : p n = true ∧ zxV p g n < g n
    · rw [if_pos w, if_pos w]
      refine Or.inr ⟨by omega, w.1, rfl, fun j a b h => ?_⟩
      have := zxV_le (g := g) n j a b h
      omega
    · rw [if_neg w, if_neg w]
      rcases zxV_X (p := p) (g := g) n with h | ⟨a, b, c, d⟩
      · exact Or.inl h
      · exact Or.inr ⟨by omega, b, c, d⟩
/-- what pairs are worth; a house less -/
def zpv (q : Int × Int × List Int) : Int := 16 * q.1 - q.2.1
def zdl (av : Int → Bool) (b : Int) : Int → Bool := fun h => if h = b then false else av h
def zpg (w : Int → Int → Int) (a : Int) (v : (Int → Bool) → Int) (av : Int → Bool) (b : Int) : Int := 16 * w a b - 1 + v (zdl av b)
def zpp (a : Int) (av : Int → Bool) (b : Int) : Bool := av b && decide (a < b)
def zpf (w : Int → Int → Int) (c : Int) : Nat → (Int → Bool) → Int × Int × List Int
  | 0, _ => (0, 0, [])
  | f + 1, av => if av (c - 1 - (f : Int)) = true then (if zxV (zpp (c - 1 - (f : Int)) av) (zpg w (c - 1 - (f : Int)) (fun x => zpv (zpf w c f x)) av) c.toNat < zpv (zpf w c f av) then zpf w c f av else (w (c - 1 - (f : Int)) (zxX (zpp (c - 1 - (f : Int)) av) (zpg w (c - 1 - (f : Int)) (fun x => zpv (zpf w c f x)) av) c.toNat) + (zpf w c f (zdl av (zxX (zpp (c - 1 - (f : Int)) av) (zpg w (c - 1 - (f : Int)) (fun x => zpv (zpf w c f x)) av) c.toNat))).1, 1 + (zpf w c f (zdl av (zxX (zpp (c - 1 - (f : Int)) av) (zpg w (c - 1 - (f : Int)) (fun x => zpv (zpf w c f x)) av) c.toNat))).2.1, (c - 1 - (f : Int)) :: zxX (zpp (c - 1 - (f : Int)) av) (zpg w (c - 1 - (f : Int)) (fun x => zpv (zpf w c f x)) av) c.toNat :: (zpf w c f (zdl av (zxX (zpp (c - 1 - (f : Int)) av) (zpg w (c - 1 - (f : Int)) (fun x => zpv (zpf w c f x)) av) c.toNat))).2.2)) else zpf w c f av
/-- with a pair, the rest as r -/
def zpwr (w : Int → Int → Int) (a b : Int) (r : Int × Int × List Int) : Int × Int × List Int := (w a b + r.1, 1 + r.2.1, a :: b :: r.2.2)
theorem zpf_s {w : Int → Int → Int} {c a : Int} {f : Nat} {av : Int → Bool} (ha : c - 1 - (f : Int) = a) : zpf w c (f + 1) av = if av a = true then (if zxV (zpp a av) (zpg w a (fun x => zpv (zpf w c f x)) av) c.toNat < zpv (zpf w c f av) then zpf w c f av else zpwr w a (zxX (zpp a av) (zpg w a (fun x => zpv (zpf w c f x)) av) c.toNat) (zpf w c f (zdl av (zxX (zpp a av) (zpg w a (fun x => zpv (zpf w c f x)) av) c.toNat)))) else zpf w c f av := by
  subst ha; rfl
theorem zpv_w {w : Int → Int → Int} {c a b : Int} {f : Nat} {av : Int → Bool} : zpv (zpwr w a b (zpf w c f (zdl av b))) = zpg w a (fun x => zpv (zpf w c f x)) av b := by
  unfold zpv zpwr zpg; dsimp only; omega
theorem zpf_b {w : Int → Int → Int} {c : Int} (hw : ∀ a b, -8 ≤ w a b ∧ w a b ≤ 8) : ∀ (f : Nat) (av : Int → Bool), (0 ≤ (zpf w c f av).2.1 ∧ (zpf w c f av).2.1 ≤ f) ∧ (-8 * (zpf w c f av).2.1 ≤ (zpf w c f av).1 ∧ (zpf w c f av).1 ≤ 8 * (zpf w c f av).2.1) ∧ ((zpf w c f av).2.2.length : Int) = 2 * (zpf w c f av).2.1
  | 0, av => by
    show (0 ≤ (0 : Int) ∧ (0 : Int) ≤ 0) ∧ (-8 * (0 : Int) ≤ 0 ∧ (0 : Int) ≤ 8 * 0) ∧ ((0 : Nat) : Int) = 2 * 0
    omega
  | f + 1, av => by
    have h1 := zpf_b (c := c) hw f av
    rw [zpf_s rfl]
    split
    · split
      · exact ⟨by omega, h1.2⟩
      · generalize zxX _ _ _ = X
        have h2 := zpf_b (c := c) hw f (zdl av X)
        have := hw (c - 1 - (f : Int)) X
        unfold zpwr
        dsimp only
        rw [List.length_cons, List.length_cons]
        omega
    · exact ⟨by omega, h1.2⟩
theorem zpv_b {w : Int → Int → Int} {c : Int} (hw : ∀ a b, -8 ≤ w a b ∧ w a b ≤ 8) {f : Nat} (hf : f ≤ 8) (av : Int → Bool) : -2000 ≤ zpv (zpf w c f av) ∧ zpv (zpf w c f av) ≤ 2000 := by
  have := zpf_b (c := c) hw f av
  unfold zpv
  omega
/-- what the first house makes of it -/
theorem zpf_v {w : Int → Int → Int} {c a : Int} {f : Nat} {av : Int → Bool} (hw : ∀ a b, -8 ≤ w a b ∧ w a b ≤ 8) (hf : f ≤ 8) (ha : c - 1 - (f : Int) = a) (h : av a = true) : zpv (zpf w c (f + 1) av) = if zxV (zpp a av) (zpg w a (fun x => zpv (zpf w c f x)) av) c.toNat < zpv (zpf w c f av) then zpv (zpf w c f av) else zxV (zpp a av) (zpg w a (fun x => zpv (zpf w c f x)) av) c.toNat := by
  have b := zpv_b (c := c) hw hf av
  rw [zpf_s ha, if_pos h]
  by_cases q : zxV (zpp a av) (zpg w a (fun x => zpv (zpf w c f x)) av) c.toNat < zpv (zpf w c f av)
  · rw [if_pos q, if_pos q]
  · rw [if_neg q, if_neg q, zpv_w]
    rcases zxV_X (p := zpp a av) (g := zpg w a (fun x => zpv (zpf w c f x)) av) c.toNat with e | ⟨_, _, e, _⟩
    · omega
    · exact e
theorem zpf_c {w : Int → Int → Int} {c : Int} : ∀ (f : Nat) (av av' : Int → Bool), (∀ h, c - (f : Int) ≤ h → h < c → av h = av' h) → zpf w c f av = zpf w c f av'
  | 0, _, _, _ => rfl
  | f + 1, av, av', h => by
    have e1 := zpf_c (w := w) (c := c) f av av' (fun x a b => h x (by omega) b)
    have e2 : ∀ b, zpf w c f (zdl av b) = zpf w c f (zdl av' b) := fun b => zpf_c f _ _ (fun x y z => by
      unfold zdl
      split
      · rfl
      · exact h x (by omega) z)
    have e3 := zxV_c (p := zpp (c - 1 - (f : Int)) av) (p' := zpp (c - 1 - (f : Int)) av') (g := zpg w (c - 1 - (f : Int)) (fun x => zpv (zpf w c f x)) av) (g' := zpg w (c - 1 - (f : Int)) (fun x => zpv (zpf w c f x)) av') c.toNat (fun i a b => by
      constructor
      · unfold zpp
        by_cases q : c - 1 - (f : Int) < i
        · rw [h i (by omega) (by omega)]
        · rw [decide_eq_false q, Bool.and_false, Bool.and_false]
      · unfold zpg; dsimp only; rw [e2 i])
    rw [zpf_s rfl, zpf_s rfl, e3.1, e3.2, e1, e2]
    by_cases q : c - 1 - (f : Int) < c
    · rw [h (c - 1 - (f : Int)) (by omega) q]
    · omega
theorem zpf_sk {w : Int → Int → Int} {c : Int} : ∀ (k f : Nat) (av : Int → Bool), (∀ h, c - ((f + k : Nat) : Int) ≤ h → h < c - (f : Int) → av h = false) → zpf w c (f + k) av = zpf w c f av
  | 0, f, av, _ => rfl
  | k + 1, f, av, h => by
    have ih := zpf_sk (w := w) (c := c) k f av (fun x a b => h x (by omega) b)
    rw [show f + (k + 1) = (f + k) + 1 by omega, zpf_s rfl, if_neg (by rw [h (c - 1 - ((f + k : Nat) : Int)) (by omega) (by omega)]; decide)]
    exact ih
/-! what a marriage climbs -/
def zcmb (c : Int) (rk len nam : Int → Int) (h o : Int) : Int := zpl c rk len nam h - zpl c rk (tkL len h o) (tkN nam h o) h
def zcwb (c : Int) (rk len nam : Int → Int) (a b : Int) : Int := if zpl c rk len nam a ≤ zpl c rk len nam b then zcmb c rk len nam b a else zcmb c rk len nam a b
theorem zcwb_b {c : Int} {rk len nam : Int → Int} (hc : 0 ≤ c ∧ c ≤ 8) (a b : Int) : -8 ≤ zcwb c rk len nam a b ∧ zcwb c rk len nam a b ≤ 8 := by
  have r : ∀ (len nam : Int → Int) h, 0 ≤ zpl c rk len nam h ∧ zpl c rk len nam h ≤ ((c.toNat : Nat) : Int) := fun len nam h => zcn_le _ _
  unfold zcwb zcmb
  have h1 := r len nam a
  have h2 := r len nam b
  have h3 := r (tkL len b a) (tkN nam b a) b
  have h4 := r (tkL len a b) (tkN nam a b) a
  split <;> omega
theorem zky_tk {rk len nam : Int → Int} {h o : Int} : zky rk (tkL len h o) (tkN nam h o) h = zky rk len nam o - o + h := by
  have e : ∀ j, 0 ≤ j → j < 6 → zdg rk (tkL len h o) (tkN nam h o) h j = zdg rk len nam o j := fun j a b => by
    unfold zdg tkL tkN
    rw [if_pos rfl, if_pos (show 6 * h ≤ 6 * h + j ∧ 6 * h + j < 6 * h + 6 by omega), show 6 * o + (6 * h + j - 6 * h) = 6 * o + j by omega]
  unfold zky zk6
  rw [e 0 (by omega) (by omega), e 1 (by omega) (by omega), e 2 (by omega) (by omega), e 3 (by omega) (by omega), e 4 (by omega) (by omega), e 5 (by omega) (by omega)]
  omega
theorem zky_tk2 {rk len nam : Int → Int} {h o x : Int} (hx : x ≠ h) : zky rk (tkL len h o) (tkN nam h o) x = zky rk len nam x := by
  have e : ∀ j, 0 ≤ j → j < 6 → zdg rk (tkL len h o) (tkN nam h o) x j = zdg rk len nam x j := fun j a b => by
    unfold zdg tkL tkN
    rw [if_neg hx, if_neg (show ¬ (6 * h ≤ 6 * x + j ∧ 6 * x + j < 6 * h + 6) by omega)]
  unfold zky zk6
  rw [e 0 (by omega) (by omega), e 1 (by omega) (by omega), e 2 (by omega) (by omega), e 3 (by omega) (by omega), e 4 (by omega) (by omega), e 5 (by omega) (by omega)]
theorem s_Book_placeByName {d b : Nat} {c h o : Int} {ord len nam : Int → Int} {M : zM} {F : Int → zM → Prop} (ht : zTn c ord len nam) (hB : zBk M b c (zrk ord) len nam) (hh : 0 ≤ h ∧ h < c) (ho : 0 ≤ o ∧ o < c) (H : F (zpl c (zrk ord) (tkL len h o) (tkN nam h o) h) M) : zCi (d + 2) 105 [z_r (0, 0) b, z_i h, z_i o] M F := by
  have c8 := ht.1
  have hok : ∀ len nam, zTn c ord len nam → zok (zrk ord) len nam c := fun len nam ht => ⟨ht.1, ht.2.2.1, ht.2.2.2, fun x _ _ => zrk_r _ x, fun x y x0 x1 y0 y1 e => zrk_j ht.2.1 ⟨x0, x1⟩ ⟨y0, y1⟩ e⟩
  have h1 := hok len nam ht
  have ht2 := zTn_tk (h := h) ht ho
  have h2 := hok _ _ ht2
  obtain ⟨b1, b2, b3, b4⟩ := hB
  have kr := zky_r h1 ho
  refine e_Book_placeByName ⟨by omega, s_Book_placeByKey (by omega) ?_⟩
  rw [b1, b2 o ho.1 ho.2, zw (x := zky (zrk ord) len nam o - o) (by omega) (by omega), zw (x := zky (zrk ord) len nam o - o + h) (by omega) (by omega), ← zky_tk]
  rw [zpl_k h2 hh] at H
  rw [zcn_c (q := fun b => decide (zky (zrk ord) (tkL len h o) (tkN nam h o) b < zky (zrk ord) (tkL len h o) (tkN nam h o) h)) _ (fun x x0 x1 => ?_)]
  · exact H
  · by_cases q : x = h
    · rw [q, decide_eq_false (show ¬ (h ≠ h) by simp), Bool.false_and, decide_eq_false (by omega)]
    · rw [decide_eq_true q, Bool.true_and, zky_tk2 q, b2 x x0 (by omega)]
