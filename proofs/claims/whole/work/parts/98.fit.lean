/-! orders that fit: numbers -/
def zfk (D : Int → Int) (s l : Int) : Bool := decide (z_and (D l) (z_xor s (-1)) = 0)
def zcf (D : Int → Int) (s l : Int) : Bool := !zb s l && zfk D s l
def zpre (D : Int → Int) (t : Int → Int) : Nat → Bool
  | 0 => true
  | k + 1 => zpre D t k && zfk D (zset t k) (t (k : Int))
def zfw (D : Int → Int) (P : Int) (t : Int → Int) : Bool := decide (P = 1) && zpre D t 8
def zEn (D : Int → Int) (P : Int) : Nat → Int → Int
  | 0, _ => P
  | f + 1, s => zsm (fun l => if zcf D s l = true then zEn D P f (zbs s l) else 0) 8
def zfz (D : Int → Int) (w : (Int → Int) → Int) : Nat → (Int → Int) → Int → Int
  | 0, t, _ => w t
  | f + 1, t, s => zsm (fun l => if zcf D s l = true then zfz D w f (fun j => if j = 7 - (f : Int) then l else t j) (zbs s l) else 0) 8
/-- the first that counts -/
def zfX (e : Int → Int) : Nat → Int
  | 0 => 0
  | n + 1 => if 0 < zsm e n then zfX e n else (n : Int)
def zfA (D : Int → Int) (P : Int) : Nat → (Int → Int) → Int → (Int → Int)
  | 0, t, _ => t
  | f + 1, t, s => zfA D P f (fun j => if j = 7 - (f : Int) then zfX (fun l => if zcf D s l = true then zEn D P f (zbs s l) else 0) 8 else t j) (zbs s (zfX (fun l => if zcf D s l = true then zEn D P f (zbs s l) else 0) 8))
def zrb (t : Int → Int) (x : Int) : Int := if zrk t (x % 8) ≤ zrk t (x / 8) then 0 else 1
def zuf (W : (Int → Int) → Bool) (t : Int → Int) (q : Int × (Int → Int) × (Int → Int)) : Int × (Int → Int) × (Int → Int) := if W t = true then (z_wr (q.1 + 1), (fun x => z_wr (q.2.1 x + zrb t x)), if q.1 = 0 then t else q.2.2) else q
theorem zsm_nn {e : Int → Int} (h : ∀ l : Int, 0 ≤ l → l < 8 → 0 ≤ e l) : ∀ n : Nat, n ≤ 8 → 0 ≤ zsm e n
  | 0, _ => Int.le_refl _
  | n + 1, hn => by
    have := zsm_nn h n (by omega)
    have := h n (by omega) (by omega)
    show 0 ≤ zsm e n + e n
    omega
theorem zsm_up {e : Int → Int} (h : ∀ l : Int, 0 ≤ l → l < 8 → 0 ≤ e l) {n : Nat} (hn : n ≤ 8) : ∀ m : Nat, n + m ≤ 8 → zsm e n ≤ zsm e (n + m)
  | 0, _ => Int.le_refl _
  | m + 1, hm => by
    have := zsm_up h hn m (by omega)
    have := h ((n + m : Nat) : Int) (by omega) (by omega)
    show zsm e n ≤ zsm e (n + m) + e ((n + m : Nat) : Int)
    omega
theorem zEn_nn {D : Int → Int} {P : Int} (hP : P = 0 ∨ P = 1) : ∀ (f : Nat) (s : Int), 0 ≤ zEn D P f s
  | 0, s => by show 0 ≤ P; omega
  | f + 1, s => zsm_nn (fun l _ _ => by
      show 0 ≤ if zcf D s l = true then zEn D P f (zbs s l) else 0
      have := zEn_nn (D := D) hP f (zbs s l)
      split <;> omega) 8 (by omega)
theorem zEn_0 {D : Int → Int} : ∀ (f : Nat) (s : Int), zEn D 0 f s = 0
  | 0, s => rfl
  | f + 1, s => by
    show zsm (fun l => if zcf D s l = true then zEn D 0 f (zbs s l) else 0) 8 = 0
    rw [zsm_c (g := fun _ => 0) 8 (fun l _ _ => by
      show (if zcf D s l = true then zEn D 0 f (zbs s l) else 0) = 0
      rw [zEn_0 f (zbs s l)]; split <;> rfl)]
    rfl
theorem zfz_P {D : Int → Int} {P : Int} : ∀ (f : Nat) (t : Int → Int) (s : Int), zfz D (fun _ => P) f t s = zEn D P f s
  | 0, t, s => rfl
  | f + 1, t, s => zsm_c 8 (fun l _ _ => by
      show (if zcf D s l = true then zfz D (fun _ => P) f (fun j => if j = 7 - (f : Int) then l else t j) (zbs s l) else 0) = (if zcf D s l = true then zEn D P f (zbs s l) else 0)
      rw [zfz_P f])
theorem zfz_b {D : Int → Int} {P : Int} {w : (Int → Int) → Int} (hw : ∀ t, 0 ≤ w t ∧ w t ≤ P) : ∀ (f : Nat) (t : Int → Int) (s : Int), 0 ≤ zfz D w f t s ∧ zfz D w f t s ≤ zEn D P f s
  | 0, t, s => hw t
  | f + 1, t, s => by
    refine ⟨zsm_nn (fun l _ _ => ?_) 8 (by omega), zsm_le 8 (fun l _ _ => ?_)⟩
    · show 0 ≤ if zcf D s l = true then zfz D w f (fun j => if j = 7 - (f : Int) then l else t j) (zbs s l) else 0
      have := zfz_b (D := D) hw f (fun j => if j = 7 - (f : Int) then l else t j) (zbs s l)
      split <;> omega
    · show (if zcf D s l = true then zfz D w f (fun j => if j = 7 - (f : Int) then l else t j) (zbs s l) else 0) ≤ (if zcf D s l = true then zEn D P f (zbs s l) else 0)
      have := zfz_b (D := D) hw f (fun j => if j = 7 - (f : Int) then l else t j) (zbs s l)
      split <;> omega
theorem zpre_c {D t t' : Int → Int} : ∀ k : Nat, (∀ j : Int, 0 ≤ j → j < k → t j = t' j) → zpre D t k = zpre D t' k
  | 0, _ => rfl
  | k + 1, h => by
    show (zpre D t k && zfk D (zset t k) (t k)) = (zpre D t' k && zfk D (zset t' k) (t' k))
    rw [zpre_c k (fun j a b => h j a (by omega)), zset_c k (fun j a b => h j a (by omega)), h k (by omega) (by omega)]
theorem zpre_u {D t : Int → Int} {k : Nat} {n : Int} : zpre D (fun j => if j = (k : Int) then n else t j) (k + 1) = (zpre D t k && zfk D (zset t k) n) := by
  show (zpre D (fun j => if j = (k : Int) then n else t j) k && zfk D (zset (fun j => if j = (k : Int) then n else t j) k) (if (k : Int) = (k : Int) then n else t k)) = _
  rw [zpre_c (t' := t) k (fun j x y => by show (if j = (k : Int) then n else t j) = t j; rw [if_neg (by omega)]), zset_c (t' := t) k (fun j x y => by show (if j = (k : Int) then n else t j) = t j; rw [if_neg (by omega)]), if_pos rfl]
theorem zset_u {t : Int → Int} {k : Nat} {n : Int} : zset (fun j => if j = (k : Int) then n else t j) (k + 1) = zbs (zset t k) n := by
  show zbs (zset (fun j => if j = (k : Int) then n else t j) k) (if (k : Int) = (k : Int) then n else t k) = _
  rw [zset_c (t' := t) k (fun j x y => by show (if j = (k : Int) then n else t j) = t j; rw [if_neg (by omega)]), if_pos rfl]
theorem zgo_pre {D : Int → Int} {P : Int} : ∀ (f k : Nat) (t : Int → Int) (s : Int) (q : Int × (Int → Int) × (Int → Int)), k + f = 8 → zpre D t k = false → zgo (zuf (zfw D P)) f t s q = q
  | 0, k, t, s, q, hk, hp => by
    have : k = 8 := by omega
    subst this
    show (if zfw D P t = true then _ else q) = q
    have : zfw D P t = false := by unfold zfw; rw [hp, Bool.and_false]
    rw [if_neg (by rw [this]; decide)]
  | f + 1, k, t, s, q, hk, hp => by
    have ek : 7 - (f : Int) = (k : Int) := by omega
    have main : ∀ n : Nat, zglp (fun i q => if zb s i = true then q else zgo (zuf (zfw D P)) f (fun j => if j = 7 - (f : Int) then i else t j) (zbs s i) q) n q = q := by
      intro n
      induction n with
      | zero => rfl
      | succ n ih =>
        show (if zb s (n : Int) = true then _ else zgo (zuf (zfw D P)) f (fun j => if j = 7 - (f : Int) then (n : Int) else t j) (zbs s n) _) = q
        rw [ih, ek, zgo_pre f (k + 1) _ _ q (by omega) (by rw [zpre_u, hp]; rfl)]
        split <;> rfl
    exact main 8
theorem zgo_fit {D : Int → Int} {P : Int} (hP : P = 0 ∨ P = 1) : ∀ (f k : Nat) (t : Int → Int) (s c : Int) (a b : Int → Int), k + f = 8 → zset t k = s → zpre D t k = true → 0 ≤ c → (∀ x, 0 ≤ a x ∧ a x ≤ c) → c + zEn D P f s ≤ 2000000000 → zgo (zuf (zfw D P)) f t s (c, a, b) = (c + zEn D P f s, (fun x => a x + zfz D (fun t => P * zrb t x) f t s), if c = 0 ∧ 0 < zEn D P f s then zfA D P f t s else b) := by
  intro f
  induction f with
  | zero =>
    intro k t s c a b hk hs hp c0 ha hb
    have : k = 8 := by omega
    subst this
    have hb : c + P ≤ 2000000000 := hb
    show (if zfw D P t = true then (z_wr (c + 1), (fun x => z_wr (a x + zrb t x)), if c = 0 then t else b) else (c, a, b)) = (c + P, (fun x => a x + P * zrb t x), if c = 0 ∧ 0 < P then t else b)
    unfold zfw
    rw [hp, Bool.and_true]
    rcases hP with e | e
    · rw [e, if_neg (by decide), if_neg (by omega), Int.add_zero]
      congr 2
      funext x
      rw [Int.zero_mul, Int.add_zero]
    · rw [e, if_pos (by decide), zw (by omega) (by omega)]
      congr 2
      · funext x
        have := ha x
        have : zrb t x = 0 ∨ zrb t x = 1 := by unfold zrb; split <;> omega
        rw [Int.one_mul, zw (by omega) (by omega)]
      · by_cases z : c = 0
        · rw [if_pos z, if_pos ⟨z, by omega⟩]
        · rw [if_neg z, if_neg (fun y => z y.1)]
  | succ f ih =>
    intro k t s c a b hk hs hp c0 ha hb
    have ek : 7 - (f : Int) = (k : Int) := by omega
    have ee : zEn D P (f + 1) s = zsm (fun l => if zcf D s l = true then zEn D P f (zbs s l) else 0) 8 := rfl
    have eg : ∀ x, zfz D (fun t => P * zrb t x) (f + 1) t s = zsm (fun l => if zcf D s l = true then zfz D (fun t => P * zrb t x) f (fun j => if j = 7 - (f : Int) then l else t j) (zbs s l) else 0) 8 := fun x => rfl
    have eA : zfA D P (f + 1) t s = zfA D P f (fun j => if j = 7 - (f : Int) then zfX (fun l => if zcf D s l = true then zEn D P f (zbs s l) else 0) 8 else t j) (zbs s (zfX (fun l => if zcf D s l = true then zEn D P f (zbs s l) else 0) 8)) := rfl
    have e2 : (fun x => a x + zfz D (fun t => P * zrb t x) (f + 1) t s) = (fun x => a x + zsm (fun l => if zcf D s l = true then zfz D (fun t => P * zrb t x) f (fun j => if j = 7 - (f : Int) then l else t j) (zbs s l) else 0) 8) := rfl
    rw [e2, ee, eA]
    rw [ee] at hb
    generalize hE : (fun l => if zcf D s l = true then zEn D P f (zbs s l) else 0) = e at hb
    have eE : ∀ l, e l = if zcf D s l = true then zEn D P f (zbs s l) else 0 := fun l => by rw [← hE]
    have en : ∀ l, 0 ≤ e l := fun l => by
      rw [eE]
      have := zEn_nn (D := D) hP f (zbs s l)
      split <;> omega
    have gb : ∀ x l, 0 ≤ (if zcf D s l = true then zfz D (fun t => P * zrb t x) f (fun j => if j = 7 - (f : Int) then l else t j) (zbs s l) else 0) ∧ (if zcf D s l = true then zfz D (fun t => P * zrb t x) f (fun j => if j = 7 - (f : Int) then l else t j) (zbs s l) else 0) ≤ e l := fun x l => by
      rw [eE]
      have := zfz_b (D := D) (P := P) (w := fun t => P * zrb t x) (fun t => by
        show 0 ≤ P * zrb t x ∧ P * zrb t x ≤ P
        unfold zrb
        rcases hP with z | z <;> rw [z] <;> split <;> omega) f (fun j => if j = 7 - (f : Int) then l else t j) (zbs s l)
      split <;> omega
    have main : ∀ n : Nat, n ≤ 8 → zglp (fun i q => if zb s i = true then q else zgo (zuf (zfw D P)) f (fun j => if j = 7 - (f : Int) then i else t j) (zbs s i) q) n (c, a, b) = (c + zsm e n, (fun x => a x + zsm (fun l => if zcf D s l = true then zfz D (fun t => P * zrb t x) f (fun j => if j = 7 - (f : Int) then l else t j) (zbs s l) else 0) n), if c = 0 ∧ 0 < zsm e n then zfA D P f (fun j => if j = 7 - (f : Int) then zfX e n else t j) (zbs s (zfX e n)) else b) := by
      intro n
      induction n with
      | zero =>
        intro _
        show (c, a, b) = (c + 0, (fun x => a x + 0), if c = 0 ∧ (0 : Int) < 0 then _ else b)
        rw [if_neg (by omega), Int.add_zero]
        congr 2
        funext x
        rw [Int.add_zero]
      | succ n ihn =>
        intro hn8
        have ihn := ihn (by omega)
        have e1 : zglp (fun i q => if zb s i = true then q else zgo (zuf (zfw D P)) f (fun j => if j = 7 - (f : Int) then i else t j) (zbs s i) q) (n + 1) (c, a, b) = (if zb s (n : Int) = true then zglp (fun i q => if zb s i = true then q else zgo (zuf (zfw D P)) f (fun j => if j = 7 - (f : Int) then i else t j) (zbs s i) q) n (c, a, b) else zgo (zuf (zfw D P)) f (fun j => if j = 7 - (f : Int) then (n : Int) else t j) (zbs s n) (zglp (fun i q => if zb s i = true then q else zgo (zuf (zfw D P)) f (fun j => if j = 7 - (f : Int) then i else t j) (zbs s i) q) n (c, a, b))) := rfl
        rw [e1, ihn]
        have up := zsm_up (e := e) (fun l _ _ => en l) (n := n + 1) (by omega) (8 - (n + 1)) (by omega)
        rw [show n + 1 + (8 - (n + 1)) = 8 by omega] at up
        have sn := zsm_nn (e := e) (fun l _ _ => en l) n (by omega)
        have es : zsm e (n + 1) = zsm e n + e n := rfl
        have eX : zfX e (n + 1) = if 0 < zsm e n then zfX e n else (n : Int) := rfl
        have egs : ∀ x, zsm (fun l => if zcf D s l = true then zfz D (fun t => P * zrb t x) f (fun j => if j = 7 - (f : Int) then l else t j) (zbs s l) else 0) (n + 1) = zsm (fun l => if zcf D s l = true then zfz D (fun t => P * zrb t x) f (fun j => if j = 7 - (f : Int) then l else t j) (zbs s l) else 0) n + (if zcf D s (n : Int) = true then zfz D (fun t => P * zrb t x) f (fun j => if j = 7 - (f : Int) then (n : Int) else t j) (zbs s n) else 0) := fun x => rfl
        have ab : ∀ x, 0 ≤ a x + zsm (fun l => if zcf D s l = true then zfz D (fun t => P * zrb t x) f (fun j => if j = 7 - (f : Int) then l else t j) (zbs s l) else 0) n ∧ a x + zsm (fun l => if zcf D s l = true then zfz D (fun t => P * zrb t x) f (fun j => if j = 7 - (f : Int) then l else t j) (zbs s l) else 0) n ≤ c + zsm e n := fun x => by
          have u1 := zsm_nn (e := fun l => if zcf D s l = true then zfz D (fun t => P * zrb t x) f (fun j => if j = 7 - (f : Int) then l else t j) (zbs s l) else 0) (fun l _ _ => (gb x l).1) n (by omega)
          have u2 := zsm_le (f := fun l => if zcf D s l = true then zfz D (fun t => P * zrb t x) f (fun j => if j = 7 - (f : Int) then l else t j) (zbs s l) else 0) (g := e) n (fun l _ _ => (gb x l).2)
          have := ha x
          omega
        have fin : (c + zsm e (n + 1), (fun x => a x + zsm (fun l => if zcf D s l = true then zfz D (fun t => P * zrb t x) f (fun j => if j = 7 - (f : Int) then l else t j) (zbs s l) else 0) (n + 1)), if c = 0 ∧ 0 < zsm e (n + 1) then zfA D P f (fun j => if j = 7 - (f : Int) then zfX e (n + 1) else t j) (zbs s (zfX e (n + 1))) else b) = (c + zsm e n + e n, (fun x => a x + zsm (fun l => if zcf D s l = true then zfz D (fun t => P * zrb t x) f (fun j => if j = 7 - (f : Int) then l else t j) (zbs s l) else 0) n + (if zcf D s (n : Int) = true then zfz D (fun t => P * zrb t x) f (fun j => if j = 7 - (f : Int) then (n : Int) else t j) (zbs s n) else 0)), if c + zsm e n = 0 ∧ 0 < e n then zfA D P f (fun j => if j = 7 - (f : Int) then (n : Int) else t j) (zbs s n) else (if c = 0 ∧ 0 < zsm e n then zfA D P f (fun j => if j = 7 - (f : Int) then zfX e n else t j) (zbs s (zfX e n)) else b)) := by
          rw [es, eX]
          have := en n
          congr 1
          · omega
          · congr 1
            · funext x
              rw [egs x]; omega
            · by_cases z : 0 < zsm e n
              · rw [if_pos z]
                by_cases y : c = 0
                · rw [if_pos (show c = 0 ∧ 0 < zsm e n + e n by omega), if_neg (show ¬ (c + zsm e n = 0 ∧ 0 < e n) by omega), if_pos (show c = 0 ∧ 0 < zsm e n by omega)]
                · rw [if_neg (show ¬ (c = 0 ∧ 0 < zsm e n + e n) by omega), if_neg (show ¬ (c + zsm e n = 0 ∧ 0 < e n) by omega), if_neg (show ¬ (c = 0 ∧ 0 < zsm e n) by omega)]
              · rw [if_neg z, if_neg (show ¬ (c = 0 ∧ 0 < zsm e n) by omega)]
                by_cases y : c = 0 ∧ 0 < e n
                · rw [if_pos (show c = 0 ∧ 0 < zsm e n + e n by omega), if_pos (show c + zsm e n = 0 ∧ 0 < e n by omega)]
                · rw [if_neg (show ¬ (c = 0 ∧ 0 < zsm e n + e n) by omega), if_neg (show ¬ (c + zsm e n = 0 ∧ 0 < e n) by omega)]
        rw [fin]
        have un := en n
        by_cases z : zcf D s (n : Int) = true
        · have z1 : zb s (n : Int) = false ∧ zfk D s n = true := by
            unfold zcf at z
            rw [Bool.and_eq_true] at z
            refine ⟨?_, z.2⟩
            have := z.1
            simpa using this
          have e0 : e n = zEn D P f (zbs s n) := by rw [eE, if_pos z]
          rw [if_neg (by rw [z1.1]; decide)]
          simp only [z, if_true]
          rw [ek] at ab ⊢
          have := ih (k + 1) (fun j => if j = (k : Int) then (n : Int) else t j) (zbs s n) (c + zsm e n) (fun x => a x + zsm (fun l => if zcf D s l = true then zfz D (fun t => P * zrb t x) f (fun j => if j = (k : Int) then l else t j) (zbs s l) else 0) n) (if c = 0 ∧ 0 < zsm e n then zfA D P f (fun j => if j = (k : Int) then zfX e n else t j) (zbs s (zfX e n)) else b) (by omega) (by rw [zset_u, hs]) (by rw [zpre_u, hp, hs, z1.2]; rfl) (by omega) ab (by rw [← e0]; omega)
          rw [this, e0]
        · have e0 : e n = 0 := by rw [eE, if_neg z]
          have st : (if zb s (n : Int) = true then (c + zsm e n, (fun x => a x + zsm (fun l => if zcf D s l = true then zfz D (fun t => P * zrb t x) f (fun j => if j = 7 - (f : Int) then l else t j) (zbs s l) else 0) n), if c = 0 ∧ 0 < zsm e n then zfA D P f (fun j => if j = 7 - (f : Int) then zfX e n else t j) (zbs s (zfX e n)) else b) else zgo (zuf (zfw D P)) f (fun j => if j = 7 - (f : Int) then (n : Int) else t j) (zbs s n) (c + zsm e n, (fun x => a x + zsm (fun l => if zcf D s l = true then zfz D (fun t => P * zrb t x) f (fun j => if j = 7 - (f : Int) then l else t j) (zbs s l) else 0) n), if c = 0 ∧ 0 < zsm e n then zfA D P f (fun j => if j = 7 - (f : Int) then zfX e n else t j) (zbs s (zfX e n)) else b)) = (c + zsm e n, (fun x => a x + zsm (fun l => if zcf D s l = true then zfz D (fun t => P * zrb t x) f (fun j => if j = 7 - (f : Int) then l else t j) (zbs s l) else 0) n), if c = 0 ∧ 0 < zsm e n then zfA D P f (fun j => if j = 7 - (f : Int) then zfX e n else t j) (zbs s (zfX e n)) else b) := by
            by_cases y : zb s (n : Int) = true
            · rw [if_pos y]
            · rw [if_neg y]
              have no : zfk D s n = false := by
                cases w : zfk D s n
                · rfl
                · exfalso; apply z; unfold zcf; rw [w]; simpa using y
              rw [ek]
              exact zgo_pre f (k + 1) _ _ _ (by omega) (by rw [zpre_u, hs, no, Bool.and_false])
          rw [st, e0, if_neg (show ¬ (c + zsm e n = 0 ∧ (0 : Int) < 0) by omega), Int.add_zero]
          congr 2
          funext x
          rw [if_neg z, Int.add_zero]
    exact main 8 (by omega)
