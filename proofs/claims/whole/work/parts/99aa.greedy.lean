/-! the least order that fits, letter by letter -/
/-- the first letter that can follow a set; the order that is made so -/
def zg1 (D : Int → Int) (s : Int) : Int := zfX (fun l => if zcf D s l = true then 1 else 0) 8
def zgA (D : Int → Int) : Nat → (Int → Int) → Int → (Int → Int)
  | 0, t, _ => t
  | f + 1, t, s => zgA D f (fun j => if j = 7 - (f : Int) then zg1 D s else t j) (zbs s (zg1 D s))
/-- from a set on there is always a letter that can follow -/
def zGo (D : Int → Int) (s : Int) : Prop := ∀ s', (0 ≤ s' ∧ s' < 256) → (∀ x, 0 ≤ x → zb s x = true → zb s' x = true) → zcard s' < 8 → ∃ l, (0 ≤ l ∧ l < 8) ∧ zcf D s' l = true
def zbD (D : Int → Int) : Prop := ∀ l, 0 ≤ l → l < 8 → 0 ≤ D l ∧ D l < 256
theorem zfX_e {e e' : Int → Int} (h : ∀ l, 0 ≤ l → l < 8 → (0 < e l ↔ 0 < e' l)) (he : ∀ l, 0 ≤ e l) (he' : ∀ l, 0 ≤ e' l) : ∀ n : Nat, n ≤ 8 → (0 < zsm e n ↔ 0 < zsm e' n) ∧ zfX e n = zfX e' n
  | 0, _ => ⟨Iff.rfl, rfl⟩
  | n + 1, hn => by
    obtain ⟨a, b⟩ := zfX_e h he he' n (by omega)
    have s1 := zsm_nn (e := e) (fun l _ _ => he l) n (by omega)
    have s2 := zsm_nn (e := e') (fun l _ _ => he' l) n (by omega)
    have q := h n (by omega) (by omega)
    have q1 := he n
    have q2 := he' n
    refine ⟨?_, ?_⟩
    · show 0 < zsm e n + e n ↔ 0 < zsm e' n + e' n
      omega
    · show (if 0 < zsm e n then zfX e n else (n : Int)) = (if 0 < zsm e' n then zfX e' n else (n : Int))
      rw [b]
      by_cases z : 0 < zsm e n
      · rw [if_pos z, if_pos (a.mp z)]
      · rw [if_neg z, if_neg (fun y => z (a.mpr y))]
theorem zsm_pos {e : Int → Int} (he : ∀ l, 0 ≤ e l) {l : Int} (hl : 0 ≤ l) (hp : 0 < e l) : ∀ n : Nat, l < n → 0 < zsm e n
  | 0, h => by omega
  | n + 1, h => by
    have nn : ∀ m : Nat, 0 ≤ zsm e m := by
      intro m
      induction m with
      | zero => exact Int.le_refl _
      | succ m ih =>
        have := he m
        show 0 ≤ zsm e m + e m
        omega
    show 0 < zsm e n + e n
    by_cases q : l = n
    · rw [q] at hp
      have := nn n
      omega
    · have := zsm_pos he hl hp n (by omega)
      have := he n
      omega
theorem zg1_s {D : Int → Int} {s : Int} (h : ∃ l, (0 ≤ l ∧ l < 8) ∧ zcf D s l = true) : (0 ≤ zg1 D s ∧ zg1 D s < 8) ∧ zcf D s (zg1 D s) = true ∧ ∀ j, 0 ≤ j → j < zg1 D s → zcf D s j = false := by
  have en : ∀ l, 0 ≤ (fun l => if zcf D s l = true then (1 : Int) else 0) l := fun l => by
    show 0 ≤ if zcf D s l = true then (1 : Int) else 0
    split <;> omega
  obtain ⟨l, hl, z⟩ := h
  have hp : 0 < (fun l => if zcf D s l = true then (1 : Int) else 0) l := by
    show 0 < if zcf D s l = true then (1 : Int) else 0
    rw [if_pos z]; omega
  obtain ⟨x1, x2, x3⟩ := zfX_s en 8 (zsm_pos en hl.1 hp 8 (by omega))
  refine ⟨⟨x1.1, by have := x1.2; unfold zg1; omega⟩, ?_, fun j a b => ?_⟩
  · have x2 : 0 < (if zcf D s (zg1 D s) = true then (1 : Int) else 0) := x2
    by_cases w : zcf D s (zg1 D s) = true
    · exact w
    · rw [if_neg w] at x2; omega
  · have x3 : (if zcf D s j = true then (1 : Int) else 0) = 0 := x3 j a b
    cases w : zcf D s j
    · rfl
    · rw [if_pos w] at x3; omega
theorem zGo_m {D : Int → Int} {s l : Int} (h : zGo D s) (hs : 0 ≤ s ∧ s < 256) (hl : 0 ≤ l ∧ l < 8) : zGo D (zbs s l) := fun s' a b c => h s' a (fun x x0 z => b x x0 (zb_mo hs hl z)) c
theorem zcf_m {D : Int → Int} {s s' l : Int} (hD : zbD D) (hs : 0 ≤ s ∧ s < 256) (hs' : 0 ≤ s' ∧ s' < 256) (hl : 0 ≤ l ∧ l < 8) (sub : ∀ x, 0 ≤ x → zb s x = true → zb s' x = true) (z : zcf D s l = true) (w : zb s' l = false) : zcf D s' l = true := by
  unfold zcf at z ⊢
  rw [Bool.and_eq_true] at z
  rw [w]
  have := (zfk_b (hD l hl.1 hl.2) hs').mpr (fun h h0 h8 y => sub h h0 ((zfk_b (hD l hl.1 hl.2) hs).mp z.2 h h0 h8 y))
  rw [this]; rfl
theorem zEn_Go {D : Int → Int} (hD : zbD D) : ∀ (f : Nat) (s : Int), (0 ≤ s ∧ s < 256) → zcard s + f = 8 → (0 < zEn D 1 f s ↔ zGo D s) := by
  intro f
  induction f with
  | zero =>
    intro s hs hc
    refine ⟨fun _ s' hs' sub c => ?_, fun _ => by show (0 : Int) < 1; omega⟩
    have := (zsub_le hs hs' sub).2.1
    omega
  | succ f ih =>
    intro s hs hc
    have hE : zEn D 1 (f + 1) s = zsm (fun l => if zcf D s l = true then zEn D 1 f (zbs s l) else 0) 8 := rfl
    have en : ∀ l, 0 ≤ (fun l => if zcf D s l = true then zEn D 1 f (zbs s l) else 0) l := fun l => by
      show 0 ≤ if zcf D s l = true then zEn D 1 f (zbs s l) else 0
      have := zEn_nn (D := D) (P := 1) (Or.inr rfl) f (zbs s l)
      split <;> omega
    rw [hE]
    constructor
    · intro h
      obtain ⟨x1, x2, -⟩ := zfX_s en 8 h
      generalize zfX (fun l => if zcf D s l = true then zEn D 1 f (zbs s l) else 0) 8 = l0 at x1 x2
      have x2 : 0 < (if zcf D s l0 = true then zEn D 1 f (zbs s l0) else 0) := x2
      by_cases z : zcf D s l0 = true
      · rw [if_pos z] at x2
        have hl : 0 ≤ l0 ∧ l0 < 8 := by omega
        have G := (ih (zbs s l0) (zbs_lt hs hl) (by rw [zcard_zbs hs hl (zcf_f z)]; omega)).mp x2
        intro s' hs' sub c
        cases q : zb s' l0
        · exact ⟨l0, hl, zcf_m hD hs hs' hl sub z q⟩
        · refine G s' hs' (fun x x0 w => ?_) c
          rw [zb_zbs (by omega) (by omega) x0, Bool.or_eq_true] at w
          rcases w with w | w
          · exact sub x x0 w
          · rw [← of_decide_eq_true w]; exact q
      · rw [if_neg z] at x2; omega
    · intro G
      obtain ⟨l, hl, z⟩ := G s hs (fun _ _ w => w) (by omega)
      refine zsm_pos en hl.1 ?_ 8 (by omega)
      show 0 < if zcf D s l = true then zEn D 1 f (zbs s l) else 0
      rw [if_pos z]
      exact (ih (zbs s l) (zbs_lt hs hl) (by rw [zcard_zbs hs hl (zcf_f z)]; omega)).mpr (zGo_m G hs hl)
theorem zgA_f {D : Int → Int} (hD : zbD D) : ∀ (f : Nat) (t : Int → Int) (s : Int), (0 ≤ s ∧ s < 256) → zcard s + f = 8 → zGo D s → zgA D f t s = zfA D 1 f t s := by
  intro f
  induction f with
  | zero => intro t s _ _ _; rfl
  | succ f ih =>
    intro t s hs hc G
    have e : zg1 D s = zfX (fun l => if zcf D s l = true then zEn D 1 f (zbs s l) else 0) 8 := (zfX_e (e := fun l => if zcf D s l = true then 1 else 0) (e' := fun l => if zcf D s l = true then zEn D 1 f (zbs s l) else 0) (fun l l0 l8 => by
      show (0 < if zcf D s l = true then (1 : Int) else 0) ↔ (0 < if zcf D s l = true then zEn D 1 f (zbs s l) else 0)
      by_cases z : zcf D s l = true
      · rw [if_pos z, if_pos z]
        have := (zEn_Go hD f (zbs s l) (zbs_lt hs ⟨l0, l8⟩) (by rw [zcard_zbs hs ⟨l0, l8⟩ (zcf_f z)]; omega)).mpr (zGo_m G hs ⟨l0, l8⟩)
        omega
      · rw [if_neg z, if_neg z]) (fun l => by
      show 0 ≤ if zcf D s l = true then (1 : Int) else 0
      split <;> omega) (fun l => by
      show 0 ≤ if zcf D s l = true then zEn D 1 f (zbs s l) else 0
      have := zEn_nn (D := D) (P := 1) (Or.inr rfl) f (zbs s l)
      split <;> omega) 8 (by omega)).2
    obtain ⟨x1, x2, -⟩ := zg1_s (G s hs (fun _ _ w => w) (by omega))
    show zgA D f (fun j => if j = 7 - (f : Int) then zg1 D s else t j) (zbs s (zg1 D s)) = zfA D 1 f (fun j => if j = 7 - (f : Int) then zfX (fun l => if zcf D s l = true then zEn D 1 f (zbs s l) else 0) 8 else t j) (zbs s (zfX (fun l => if zcf D s l = true then zEn D 1 f (zbs s l) else 0) 8))
    rw [← e]
    exact ih _ _ (zbs_lt hs x1) (by rw [zcard_zbs hs x1 (zcf_f x2)]; omega) (zGo_m G hs x1)
/-- it is an order that fits, and the least one -/
theorem zgA_p {D : Int → Int} : ∀ (f k : Nat) (t : Int → Int) (s : Int), k + f = 8 → zPx (k : Int) t s → zset t k = s → zpre D t k = true → zcard s = k → zGo D s → (∀ j : Int, 0 ≤ j → j < k → zgA D f t s j = t j) ∧ zperm (zgA D f t s) ∧ zpre D (zgA D f t s) 8 = true ∧ ∀ u, zperm u → zpre D u 8 = true → ∀ i : Int, (k : Int) ≤ i → i < 8 → (∀ j, 0 ≤ j → j < i → u j = zgA D f t s j) → zgA D f t s i ≤ u i := by
  intro f
  induction f with
  | zero =>
    intro k t s hk hp hs hpre hc G
    have : k = 8 := by omega
    subst this
    exact ⟨fun _ _ _ => rfl, zPx_p hp, hpre, fun u _ _ i a b => by omega⟩
  | succ f ih =>
    intro k t s hk hp hs hpre hc G
    have ek : 7 - (f : Int) = (k : Int) := by omega
    have hs2 := hp.1
    obtain ⟨x1, x2, x3⟩ := zg1_s (G s hs2 (fun _ _ w => w) (by omega))
    have e : zgA D (f + 1) t s = zgA D f (fun j => if j = (k : Int) then zg1 D s else t j) (zbs s (zg1 D s)) := by
      show zgA D f (fun j => if j = 7 - (f : Int) then zg1 D s else t j) (zbs s (zg1 D s)) = _
      rw [ek]
    rw [e]
    generalize zg1 D s = l at x1 x2 x3
    have z2 : zfk D s l = true := by
      unfold zcf at x2
      rw [Bool.and_eq_true] at x2
      exact x2.2
    have px := zPx_s hp (by omega) x1 (zcf_f x2)
    rw [show (k : Int) + 1 = ((k + 1 : Nat) : Int) by omega] at px
    obtain ⟨y1, y2, y3, y4⟩ := ih (k + 1) (fun j => if j = (k : Int) then l else t j) (zbs s l) (by omega) px (by rw [zset_u, hs]) (by rw [zpre_u, hpre, hs, z2]; rfl) (by rw [zcard_zbs hs2 x1 (zcf_f x2)]; omega) (zGo_m G hs2 x1)
    refine ⟨fun j a b => ?_, y2, y3, fun u hu pu i a b eq => ?_⟩
    · rw [y1 j a (by omega)]
      exact if_neg (by omega)
    · by_cases q : i = k
      · have yk : zgA D f (fun j => if j = (k : Int) then l else t j) (zbs s l) (k : Int) = l := by
          rw [y1 k (by omega) (by omega)]
          exact if_pos rfl
        rw [q, yk]
        refine Int.not_lt.mp (fun lt => ?_)
        have uk := hu.1 k (by omega) (by omega)
        have no := x3 (u k) uk.1 lt
        have su : zset u k = s := by
          rw [← hs]
          refine zset_c k (fun j a' b' => ?_)
          rw [eq j a' (by omega), y1 j a' (by omega)]
          exact if_neg (by omega)
        have w : zcf D s (u k) = true := by
          unfold zcf
          rw [Bool.and_eq_true]
          refine ⟨?_, ?_⟩
          · cases z : zb s (u k)
            · rfl
            · exfalso
              rw [← su] at z
              obtain ⟨j, hj, ej⟩ := ((zset_b hu.1 k (by omega)).2 _ uk.1).mp z
              have := hu.2 j k hj.1 (by omega) (by omega) (by omega) ej
              omega
          · have := (zpre_a 8).mp pu k (by omega)
            rw [su] at this; exact this
        rw [w] at no; cases no
      · exact y4 u hu pu i (by omega) b eq
/-- where an order fits, no set is stuck -/
theorem zGo_of {D t : Int → Int} (hD : zbD D) (hp : zperm t) (h : zpre D t 8 = true) : zGo D 0 := by
  intro s' hs' _ c
  have ex : ∃ x : Int, (0 ≤ x ∧ x < 8) ∧ zb s' x = false := by
    refine Classical.byContradiction (fun no => ?_)
    have al : ∀ x : Int, 0 ≤ x → x < 8 → zb s' x = true := fun x a b => by
      cases z : zb s' x
      · exact absurd ⟨x, ⟨a, b⟩, z⟩ no
      · rfl
    unfold zcard at c
    rw [al 0 (by omega) (by omega), al 1 (by omega) (by omega), al 2 (by omega) (by omega), al 3 (by omega) (by omega), al 4 (by omega) (by omega), al 5 (by omega) (by omega), al 6 (by omega) (by omega), al 7 (by omega) (by omega)] at c
    exact absurd c (by decide)
  obtain ⟨x, hx, xs⟩ := ex
  obtain ⟨i, hi, ei⟩ := zperm_s hp x hx.1 hx.2
  have first : ∀ n : Nat, n ≤ 8 → (∃ j : Int, (0 ≤ j ∧ j < n) ∧ zb s' (t j) = false ∧ ∀ k : Int, 0 ≤ k → k < j → zb s' (t k) = true) ∨ ∀ k : Int, 0 ≤ k → k < n → zb s' (t k) = true := by
    intro n
    induction n with
    | zero => intro _; exact Or.inr (fun k a b => by omega)
    | succ n ih =>
      intro hn
      rcases ih (by omega) with ⟨j, hj, a, b⟩ | al
      · exact Or.inl ⟨j, by omega, a, b⟩
      · cases z : zb s' (t n)
        · exact Or.inl ⟨n, by omega, z, al⟩
        · refine Or.inr (fun k a b => ?_)
          by_cases e : k = n
          · rw [e]; exact z
          · exact al k a (by omega)
  rcases first 8 (by omega) with ⟨j, hj, a, b⟩ | al
  · have tj := hp.1 j hj.1 (by omega)
    refine ⟨t j, tj, ?_⟩
    unfold zcf
    rw [a]
    have pre := (zpre_a 8).mp h j.toNat (by omega)
    rw [show ((j.toNat : Nat) : Int) = j by omega] at pre
    have zs := zset_b hp.1 j.toNat (by omega)
    have := (zfk_b (hD (t j) tj.1 tj.2) hs').mpr (fun g g0 g8 y => by
      have w := (zfk_b (hD (t j) tj.1 tj.2) zs.1).mp pre g g0 g8 y
      obtain ⟨k, hk, ek⟩ := (zs.2 g g0).mp w
      rw [← ek]; exact b k hk.1 (by omega))
    rw [this]; rfl
  · have := al i hi.1 (by omega)
    rw [ei, xs] at this; cases this
theorem s_Orders_leastFollowing {d : Nat} {s : Int} {D : Int → Int} {M : zM} {F : Int → zM → Prop} (hD : M 148 = D) (hs : 0 ≤ s ∧ s < 256) (H1 : (∃ l, (0 ≤ l ∧ l < 8) ∧ zcf D s l = true) → F (zg1 D s) M) (H0 : (∀ l, 0 ≤ l → l < 8 → zcf D s l = false) → F (-1) M) : zCi (d + 3) 86 [z_r (2, 0) 144, z_i s] M F := by
  refine e_Orders_leastFollowing (fun P hP => ?_)
  have loop : ∀ (m : Nat) (l : Int), l + m = 8 → 0 ≤ l → (∀ j, 0 ≤ j → j < l → zcf D s j = false) → P s l M := by
    intro m
    induction m with
    | zero =>
      intro l hl l0 no
      exact hP _ _ _ ⟨fun _ => H0 (fun j a b => no j a (by omega)), fun z => absurd (by omega) z⟩
    | succ m ih =>
      intro l hl l0 no
      refine hP _ _ _ ⟨fun z => absurd z (by omega), fun _ => s_Orders_canFollow hs (by omega) ?_⟩
      rw [hD, zw (x := l + 1) (by omega) (by omega)]
      by_cases z : zcf D s l = true
      · rw [if_pos z]
        refine ⟨fun y => absurd y (by decide), fun _ => ?_⟩
        have ex : ∃ l, (0 ≤ l ∧ l < 8) ∧ zcf D s l = true := ⟨l, by omega, z⟩
        obtain ⟨x1, x2, x3⟩ := zg1_s ex
        have e : zg1 D s = l := by
          by_cases a : zg1 D s < l
          · rw [no _ x1.1 a] at x2; cases x2
          · by_cases b : l < zg1 D s
            · rw [x3 l l0 b] at z; cases z
            · omega
        have := H1 ex
        rw [e] at this; exact this
      · rw [if_neg z]
        refine ⟨fun _ => ih (l + 1) (by omega) (by omega) (fun j a b => ?_), fun y => absurd rfl y⟩
        by_cases e : j = l
        · rw [e]; cases w : zcf D s l
          · rfl
          · exact absurd w z
        · exact no j a (by omega)
  exact loop 8 0 (by omega) (by omega) (fun j a b => by omega)
theorem s_Orders_leastFit {d a : Nat} {D t0 : Int → Int} {M : zM} {F : Int → zM → Prop} (ha : a ≠ 148 ∧ a ≠ 144) (hD : M 148 = D) (hB : zbD D) (h4 : M 144 4 = 0 ∨ M 144 4 = 1) (H1 : zGo D 0 → ∀ M', (∀ b, b ≠ a → M' b = M b) → (∀ j, 0 ≤ j → j < 8 → M' a j = zgA D 8 t0 0 j) → F (M 144 4) M') (H0 : ¬ zGo D 0 → ∀ M', (∀ b, b ≠ a → M' b = M b) → F 0 M') : zCi (d + 4) 127 [z_r (2, 0) 144, z_r (100, 8) a] M F := by
  refine e_Orders_leastFit (fun P hP => ?_)
  have loop : ∀ (f k : Nat) (t : Int → Int) (s : Int) (M2 : zM), k + f = 8 → zPx (k : Int) t s → zset t k = s → zpre D t k = true → zcard s = k → (∀ b, b ≠ a → M2 b = M b) → (∀ j : Int, 0 ≤ j → j < k → M2 a j = t j) → zgA D f t s = zgA D 8 t0 0 → P 8 a s (k : Int) M2 := by
    intro f
    induction f with
    | zero =>
      intro k t s M2 hk hp hs hpre hc f2 o2 e2
      have : k = 8 := by omega
      subst this
      refine hP _ _ _ _ _ ⟨fun _ => ?_, fun z => absurd (by decide) z⟩
      rw [f2 144 ha.2.symm]
      refine ⟨h4, H1 (zGo_of hB (zPx_p hp) hpre) M2 f2 (fun j x y => ?_)⟩
      rw [o2 j x y, ← e2]; rfl
    | succ f ih =>
      intro k t s M2 hk hp hs hpre hc f2 o2 e2
      have hs2 := hp.1
      have ek : 7 - (f : Int) = (k : Int) := by omega
      refine hP _ _ _ _ _ ⟨fun z => absurd z (by omega), fun _ => s_Orders_leastFollowing (D := D) (by rw [f2 148 ha.1.symm]; exact hD) hs2 (fun ex => ?_) (fun no => ?_)⟩
      · obtain ⟨x1, x2, x3⟩ := zg1_s ex
        have e2 : zgA D f (fun j => if j = 7 - (f : Int) then zg1 D s else t j) (zbs s (zg1 D s)) = zgA D 8 t0 0 := e2
        rw [ek] at e2
        generalize zg1 D s = l at x1 x2 x3 e2
        have z2 : zfk D s l = true := by
          unfold zcf at x2
          rw [Bool.and_eq_true] at x2
          exact x2.2
        refine ⟨fun _ => ⟨by omega, ?_⟩, fun y => absurd (by omega) y⟩
        rw [zw (x := (k : Int) + 1) (by omega) (by omega), show (k : Int) + 1 = ((k + 1 : Nat) : Int) by omega]
        have px := zPx_s hp (by omega) x1 (zcf_f x2)
        rw [show (k : Int) + 1 = ((k + 1 : Nat) : Int) by omega] at px
        refine ih (k + 1) (fun j => if j = (k : Int) then l else t j) (zbs s l) (z_up M2 a k l) (by omega) px (by rw [zset_u, hs]) (by rw [zpre_u, hpre, hs, z2]; rfl) (by rw [zcard_zbs hs2 x1 (zcf_f x2)]; omega) (fun b hb => ?_) (fun j x y => ?_) e2
        · rw [zu_f hb]; exact f2 b hb
        · by_cases q : j = k
          · rw [q, zu_s]; exact (if_pos rfl).symm
          · rw [zu_i q, o2 j x (by omega)]; exact (if_neg q).symm
      · refine ⟨fun y => absurd rfl y, fun _ => H0 (fun G => ?_) M2 f2⟩
        obtain ⟨l, hl, z⟩ := G s hs2 (fun x _ w => by rw [zb_0] at w; cases w) (by omega)
        rw [no l hl.1 hl.2] at z; cases z
  exact loop 8 0 t0 0 M (by omega) (zPx_0 _) rfl rfl (by decide) (fun _ _ => rfl) (fun j x y => by omega) rfl
