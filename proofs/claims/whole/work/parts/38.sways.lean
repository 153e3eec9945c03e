/-! the least thirsty; sways() -/
theorem zsm_add (f g : Int → Int) : ∀ n : Nat, zsm (fun h => f h + g h) n = zsm f n + zsm g n
  | 0 => rfl
  | n + 1 => by
    show zsm (fun h => f h + g h) n + (f n + g n) = zsm f n + f n + (zsm g n + g n)
    rw [zsm_add f g n]; omega
theorem zsm_mul (t : Int) (f : Int → Int) : ∀ n : Nat, zsm (fun h => t * f h) n = t * zsm f n
  | 0 => by show (0 : Int) = t * 0; rw [Int.mul_zero]
  | n + 1 => by
    show zsm (fun h => t * f h) n + t * f n = t * (zsm f n + f n)
    rw [zsm_mul t f n, Int.mul_add]
theorem zsm_le {f g : Int → Int} : ∀ n : Nat, (∀ i : Int, 0 ≤ i → i < n → f i ≤ g i) → zsm f n ≤ zsm g n
  | 0, _ => Int.le_refl _
  | n + 1, h => by
    have h1 := zsm_le n (fun i a b => h i a (by omega))
    have h2 := h n (by omega) (by omega)
    show zsm f n + f n ≤ zsm g n + g n
    omega
/-- a sum over a set -/
def zss (f : Int → Int) (s : Int) : Int := zsm (fun h => if zb s h = true then f h else 0) 8
theorem zcard_ss (s : Int) : zcard s = zss (fun _ => 1) s := by
  show _ = (0 : Int) + (if zb s 0 = true then 1 else 0) + (if zb s 1 = true then 1 else 0) + (if zb s 2 = true then 1 else 0) + (if zb s 3 = true then 1 else 0) + (if zb s 4 = true then 1 else 0) + (if zb s 5 = true then 1 else 0) + (if zb s 6 = true then 1 else 0) + (if zb s 7 = true then 1 else 0)
  rw [Int.zero_add]; rfl
theorem zcard_r (s : Int) : 0 ≤ zcard s ∧ zcard s ≤ 8 := by
  rw [zcard_ss]
  show 0 ≤ zsm (fun h => if zb s h = true then (1 : Int) else 0) 8 ∧ zsm (fun h => if zb s h = true then (1 : Int) else 0) 8 ≤ 8
  have := zsm_b (f := fun h => if zb s h = true then (1 : Int) else 0) (B := 1) 8 (fun i a b => by
    show 0 ≤ (if zb s i = true then (1 : Int) else 0) ∧ (if zb s i = true then (1 : Int) else 0) ≤ 1
    split <;> omega)
  exact ⟨this.1, by have h2 := this.2; omega⟩
def zpw (h : Int) : Int := ((2 ^ h.toNat : Nat) : Int)
theorem zss_pw_d : ∀ n : Fin 256, zss zpw ((n.val : Nat) : Int) = ((n.val : Nat) : Int) := by decide +kernel
theorem zss_pw {s : Int} (h : 0 ≤ s ∧ s < 256) : zss zpw s = s := by
  have := zss_pw_d ⟨s.toNat, by omega⟩
  rw [show ((s.toNat : Nat) : Int) = s by omega] at this
  exact this
theorem zss_w {th : Int → Int} {s : Int} (h : 0 ≤ s ∧ s < 256) : zss (fun h => 256 * th h + zpw h) s = 256 * zss th s + s := by
  have e : zss (fun h => 256 * th h + zpw h) s = 256 * zss th s + zss zpw s := by
    unfold zss
    rw [← zsm_mul, ← zsm_add]
    refine zsm_c 8 (fun i a b => ?_)
    by_cases c : zb s i = true
    · rw [if_pos c, if_pos c, if_pos c]
    · rw [if_neg c, if_neg c, if_neg c]; rfl
  rw [e, zss_pw h]
theorem zpw_m {a b : Int} (h : a ≤ b) : zpw a ≤ zpw b := by
  have : 2 ^ a.toNat ≤ 2 ^ b.toNat := Nat.pow_le_pow_right (by omega) (by omega)
  unfold zpw; omega
theorem zpw_p (a : Int) : 1 ≤ zpw a := by
  have : 1 ≤ 2 ^ a.toNat := Nat.one_le_two_pow
  unfold zpw; omega
theorem zpw_7 {a : Int} (h : a < 8) : zpw a ≤ 128 := by
  have : 2 ^ a.toNat ≤ 2 ^ 7 := Nat.pow_le_pow_right (by omega) (by omega)
  unfold zpw; omega
/-- how the least thirsty stand out: behind (T, i) in thirst, then in number -/
def zlt (c A : Int) (th : Int → Int) (k S : Int) : Prop := (0 ≤ S ∧ S < 256) ∧ (∀ h, 0 ≤ h → zb S h = true → h < c ∧ zb A h = false) ∧ zcard S = k ∧ ∃ T i : Int, (0 ≤ i ∧ i < 8) ∧ ∀ h, 0 ≤ h → h < c → zb A h = false → (zb S h = true → th h < T ∨ (th h = T ∧ h ≤ i)) ∧ (zb S h = false → T < th h ∨ (th h = T ∧ i ≤ h))
theorem zlt_min {c A k S x : Int} {th : Int → Int} (hc : c ≤ 8) (hS : zlt c A th k S) (hx : 0 ≤ x ∧ x < 256) (h1 : ∀ h, 0 ≤ h → zb x h = true → h < c ∧ zb A h = false) (h2 : zcard x = k) : 256 * zss th S + S ≤ 256 * zss th x + x := by
  obtain ⟨s1, s2, s3, T, i, s4, s5⟩ := hS
  rw [← zss_w hx, ← zss_w s1]
  rw [zcard_ss] at s3 h2
  have key : zss (fun h => 256 * th h + zpw h) S + -(256 * T + zpw i) * zss (fun _ => 1) S ≤ zss (fun h => 256 * th h + zpw h) x + -(256 * T + zpw i) * zss (fun _ => 1) x := by
    unfold zss
    rw [← zsm_mul, ← zsm_mul, ← zsm_add, ← zsm_add]
    refine zsm_le 8 (fun h a b => ?_)
    show (if zb S h = true then 256 * th h + zpw h else 0) + -(256 * T + zpw i) * (if zb S h = true then 1 else 0) ≤ (if zb x h = true then 256 * th h + zpw h else 0) + -(256 * T + zpw i) * (if zb x h = true then 1 else 0)
    have p1 := zpw_p i
    have p2 := zpw_p h
    have p3 := zpw_7 (a := h) b
    have p4 := zpw_7 (a := i) s4.2
    by_cases e1 : zb S h = true <;> by_cases e2 : zb x h = true
    · rw [if_pos e1, if_pos e1, if_pos e2, if_pos e2]; exact Int.le_refl _
    · rw [if_pos e1, if_pos e1, if_neg e2, if_neg e2]
      obtain ⟨q1, q2⟩ := s2 h a e1
      rcases (s5 h a q1 q2).1 e1 with q | q
      · omega
      · have := zpw_m q.2; omega
    · rw [if_neg e1, if_neg e1, if_pos e2, if_pos e2]
      obtain ⟨q1, q2⟩ := h1 h a e2
      rcases (s5 h a q1 q2).2 (by simpa using e1) with q | q
      · omega
      · have := zpw_m q.2; omega
    · rw [if_neg e1, if_neg e1, if_neg e2, if_neg e2]; exact Int.le_refl _
  rw [s3, h2] at key
  omega
theorem zcard_zbs {S i : Int} (hS : 0 ≤ S ∧ S < 256) (hi : 0 ≤ i ∧ i < 8) (h : zb S i = false) : zcard (zbs S i) = zcard S + 1 := by
  have e : ∀ j : Int, 0 ≤ j → zb (zbs S i) j = (zb S j || decide (i = j)) := fun j hj => zb_zbs (by omega) (by omega) hj
  unfold zcard
  rw [e 0 (by omega), e 1 (by omega), e 2 (by omega), e 3 (by omega), e 4 (by omega), e 5 (by omega), e 6 (by omega), e 7 (by omega)]
  have : i = 0 ∨ i = 1 ∨ i = 2 ∨ i = 3 ∨ i = 4 ∨ i = 5 ∨ i = 6 ∨ i = 7 := by omega
  rcases this with q | q | q | q | q | q | q | q <;> subst q <;> rw [h] <;> simp <;> omega
/-- nobody is left -/
theorem zcard_all {c A S : Int} (hc : 0 ≤ c ∧ c ≤ 8) (hA : ∀ h, 0 ≤ h → zb A h = true → h < c) (hS : ∀ h, 0 ≤ h → zb S h = true → h < c ∧ zb A h = false) (hall : ∀ h, 0 ≤ h → h < c → zb A h = false → zb S h = true) : zcard S + zcard A = c := by
  have one : ∀ n : Nat, zsm (fun _ => 1) n = n := by
    intro n; induction n with
    | zero => rfl
    | succ n ih => show zsm (fun _ => 1) n + 1 = _; rw [ih]; omega
  rw [zcard_ss, zcard_ss]
  unfold zss
  rw [← zsm_add]
  have e := zsm_cut (fun _ => 1) c.toNat 8 (by omega)
  rw [one] at e
  rw [show ((c.toNat : Nat) : Int) = c by omega] at e
  rw [← e]
  refine zsm_c 8 (fun h a b => ?_)
  by_cases e1 : zb S h = true
  · obtain ⟨q1, q2⟩ := hS h a e1
    rw [if_pos e1, if_neg (by rw [q2]; decide), if_pos (decide_eq_true q1)]; rfl
  · by_cases e2 : zb A h = true
    · rw [if_neg e1, if_pos e2, if_pos (decide_eq_true (hA h a e2))]; rfl
    · have : ¬ h < c := fun q => e1 (hall h a q (by simpa using e2))
      rw [if_neg e1, if_neg e2, if_neg (by rw [decide_eq_false this]; decide)]; rfl
theorem s_W_leastThirsty {d : Nat} {A k : Int} {M : zM} {F : Int → zM → Prop} (hc : 0 ≤ M 23 5 ∧ M 23 5 ≤ 8) (hA : 0 ≤ A ∧ A < 256) (hA2 : ∀ h, 0 ≤ h → zb A h = true → h < M 23 5) (hk : 0 ≤ k ∧ k + zcard A ≤ M 23 5) (hth : ∀ h, 0 ≤ h → h < M 23 5 → 1 ≤ M 46 h ∧ M 46 h ≤ 9) (H : ∀ S, zlt (M 23 5) A (M 46) k S → F S M) : zCi (d + 2) 101 [z_r (10, 0) 0, z_i A, z_i k] M F := by
  refine e_W_leastThirsty (fun P Q hP hQ => ?_)
  -- what holds at thirst T and house i with S taken, j of them
  have mid : ∀ (m : Nat) (T : Int), T + m = 10 → 1 ≤ T → ∀ S j, (0 ≤ S ∧ S < 256) → (∀ h, 0 ≤ h → zb S h = true → h < M 23 5 ∧ zb A h = false) → zcard S = j → j ≤ k → (j < k → ∀ h, 0 ≤ h → h < M 23 5 → zb A h = false → (zb S h = true ↔ M 46 h < T)) → (j = k → zlt (M 23 5) A (M 46) k S) → P A k j S T M := by
    intro m
    induction m with
    | zero =>
      intro T hT T1 S j s1 s2 s3 s4 s5 s6
      refine hP _ _ _ _ _ _ ⟨fun _ => ?_, fun z => absurd (by omega) z⟩
      by_cases e : j = k
      · exact H S (s6 e)
      · have := zcard_all hc hA2 s2 (fun h a b z => (s5 (by omega) h a b z).mpr (by have := hth h a b; omega))
        omega
    | succ m ih =>
      intro T hT T1 S j s1 s2 s3 s4 s5 s6
      refine hP _ _ _ _ _ _ ⟨fun z => absurd z (by omega), fun _ => ?_⟩
      have inner : ∀ (l : Nat) (i : Int), i + l = M 23 5 → 0 ≤ i → ∀ S j, (0 ≤ S ∧ S < 256) → (∀ h, 0 ≤ h → zb S h = true → h < M 23 5 ∧ zb A h = false) → zcard S = j → j ≤ k → (j < k → ∀ h, 0 ≤ h → h < M 23 5 → zb A h = false → (zb S h = true ↔ (M 46 h < T ∨ (M 46 h = T ∧ h < i)))) → (j = k → zlt (M 23 5) A (M 46) k S) → Q A k j S T i M := by
        intro l
        induction l with
        | zero =>
          intro i hi i0 S j s1 s2 s3 s4 s5 s6
          refine hQ _ _ _ _ _ _ _ ⟨fun _ => ?_, fun z => absurd (by omega) z⟩
          rw [zw (by omega) (by omega)]
          refine ih (T + 1) (by omega) (by omega) S j s1 s2 s3 s4 (fun q h a b z => ?_) s6
          rw [s5 q h a b z]; omega
        | succ l ihl =>
          intro i hi i0 S j s1 s2 s3 s4 s5 s6
          refine hQ _ _ _ _ _ _ _ ⟨fun z => absurd z (by omega), fun _ => ⟨fun z => ?_, fun z => ⟨by omega, fun e => ?_, fun e => s_W_isIn ⟨hA.1, by omega⟩ (by omega) ?_⟩⟩⟩
          · rw [zw (by omega) (by omega)]
            exact ih (T + 1) (by omega) (by omega) S j s1 s2 s3 s4 (fun q => absurd q (by omega)) s6
          · rw [zw (by omega) (by omega)]
            refine ihl (i + 1) (by omega) (by omega) S j s1 s2 s3 s4 (fun q h a b z => ?_) s6
            rw [s5 q h a b z]
            by_cases hx : h = i
            · subst hx; omega
            · omega
          · have e := Classical.not_not.mp e
            by_cases cA : zb A i = true
            · rw [if_pos cA]
              refine ⟨fun _ => ?_, fun z => absurd (by decide) z⟩
              rw [zw (by omega) (by omega)]
              refine ihl (i + 1) (by omega) (by omega) S j s1 s2 s3 s4 (fun q h a b z => ?_) s6
              rw [s5 q h a b z]
              have : h ≠ i := fun hx => by subst hx; rw [cA] at z; cases z
              omega
            · rw [if_neg cA]
              have cA : zb A i = false := by simpa using cA
              refine ⟨fun z => absurd rfl z, fun _ => ?_⟩
              have cS : zb S i = false := by
                cases q : zb S i with
                | false => rfl
                | true => have := (s5 (by omega) i i0 (by omega) cA).mp q; omega
              have cr := zcard_r S
              have cr2 := zcard_r A
              rw [zw (x := i + 1) (by omega) (by omega), zw (x := j + 1) (by omega) (by omega)]
              have r := zbs_lt s1 (i := i) (by omega)
              have eb : ∀ h, 0 ≤ h → zb (zbs S i) h = (zb S h || decide (i = h)) := fun h hh => zb_zbs (by omega) (by omega) hh
              have w2 : ∀ h, 0 ≤ h → zb (zbs S i) h = true → h < M 23 5 ∧ zb A h = false := by
                intro h a q
                rw [eb h a] at q
                by_cases hx : i = h
                · subst hx; exact ⟨by omega, cA⟩
                · rw [decide_eq_false hx, Bool.or_false] at q; exact s2 h a q
              have w5 : ∀ h, 0 ≤ h → h < M 23 5 → zb A h = false → (zb (zbs S i) h = true ↔ (M 46 h < T ∨ (M 46 h = T ∧ h < i + 1))) := by
                intro h a b z'
                rw [eb h a]
                by_cases hx : i = h
                · subst hx; rw [decide_eq_true rfl, Bool.or_true]; exact ⟨fun _ => Or.inr ⟨e, by omega⟩, fun _ => rfl⟩
                · rw [decide_eq_false hx, Bool.or_false, s5 (by omega) h a b z']; omega
              refine ihl (i + 1) (by omega) (by omega) (zbs S i) (j + 1) r w2 (by rw [zcard_zbs s1 (by omega) cS, s3]) (by omega) (fun _ => w5) (fun q => ⟨r, w2, by rw [zcard_zbs s1 (by omega) cS, s3]; exact q, T, i, by omega, fun h a b z' => ⟨fun y => ?_, fun y => ?_⟩⟩)
              · have := (w5 h a b z').mp y; omega
              · have : ¬ (M 46 h < T ∨ (M 46 h = T ∧ h < i + 1)) := fun y2 => by rw [(w5 h a b z').mpr y2] at y; cases y
                omega
      refine inner (M 23 5).toNat 0 (by omega) (by omega) S j s1 s2 s3 s4 (fun q h a b z => ?_) s6
      rw [s5 q h a b z]; omega
  refine mid 9 1 (by omega) (by omega) 0 0 (by omega) (fun h a b => by rw [zb_0] at b; cases b) (by decide) hk.1 (fun _ h a b _ => ?_) (fun e => ⟨by omega, fun h a b => (by rw [zb_0] at b; cases b), (by rw [← e]; decide), 0, 0, by omega, fun h a b _ => ⟨fun y => (by rw [zb_0] at y; cases y), fun _ => ?_⟩⟩)
  · rw [zb_0]
    have := hth h a b
    constructor
    · intro q; cases q
    · intro q; omega
  · have := hth h a b; omega
theorem s_M_thirstOf {d : Nat} {s : Int} {th : Int → Int} {M : zM} {F : Int → zM → Prop} (hc : 0 ≤ M 179 3 ∧ M 179 3 ≤ 8) (hs : 0 ≤ s ∧ s < 256) (hb : ∀ h, 0 ≤ h → zb s h = true → h < M 179 3) (hv : ∀ h, 0 ≤ h → h < M 179 3 → M 182 h = th h ∧ 1 ≤ th h ∧ th h ≤ 9) (H : F (zss th s) M) : zCi (d + 2) 226 [z_r (11, 0) 179, z_i s] M F := by
  refine e_M_thirstOf (fun P hP => ?_)
  have bnd : ∀ i : Nat, (i : Int) ≤ M 179 3 → 0 ≤ zsm (fun h => if zb s h = true then th h else 0) i ∧ zsm (fun h => if zb s h = true then th h else 0) i ≤ i * 9 := fun i hi => zsm_b (B := 9) i (fun j a b => by
    show 0 ≤ (if zb s j = true then th j else 0) ∧ (if zb s j = true then th j else 0) ≤ 9
    have := hv j a (by omega)
    split <;> omega)
  have cut : zsm (fun h => if zb s h = true then th h else 0) (M 179 3).toNat = zss th s := by
    unfold zss
    rw [← zsm_cut (fun h => if zb s h = true then th h else 0) (M 179 3).toNat 8 (by omega)]
    refine zsm_c 8 (fun i a b => ?_)
    rw [show (((M 179 3).toNat : Nat) : Int) = M 179 3 by omega]
    by_cases q : i < M 179 3
    · rw [if_pos (decide_eq_true q)]
    · rw [if_neg (by rw [decide_eq_false q]; decide), if_neg (fun z => q (hb i a z))]
  have loop : ∀ (n : Nat) (i : Nat), (i : Int) + n = M 179 3 → P s (zsm (fun h => if zb s h = true then th h else 0) i) (i : Int) M := by
    intro n
    induction n with
    | zero =>
      intro i hi
      refine hP _ _ _ _ ⟨fun _ => ?_, fun c => absurd (by omega) c⟩
      rw [show i = (M 179 3).toNat by omega, cut]; exact H
    | succ n ih =>
      intro i hi
      have hn := ih (i + 1) (by omega)
      have hb := bnd i (by omega)
      have hvi := hv i (by omega) (by omega)
      rw [show ((i + 1 : Nat) : Int) = (i : Int) + 1 by omega] at hn
      have e2 : zsm (fun h => if zb s h = true then th h else 0) (i + 1) = zsm (fun h => if zb s h = true then th h else 0) i + (if zb s i = true then th i else 0) := rfl
      rw [e2] at hn
      refine hP _ _ _ _ ⟨fun c => absurd c (by omega), fun _ => s_M_has ⟨hs.1, by omega⟩ (by omega) ?_⟩
      rw [zw (x := (i : Int) + 1) (by omega) (by omega)]
      by_cases c : zb s i = true
      · rw [if_pos c] at hn ⊢
        refine ⟨fun z => absurd z (by decide), fun _ => ⟨by omega, ?_⟩⟩
        rw [hvi.1, zw (by omega) (by omega)]; exact hn
      · rw [if_neg c] at hn ⊢
        refine ⟨fun _ => ?_, fun z => absurd rfl z⟩
        rw [zw (x := _ + 0) (by omega) (by omega)]; exact hn
  exact loop (M 179 3).toNat 0 (by omega)
theorem z_and_0 {x A : Int} (hx : 0 ≤ x ∧ x < 256) (hA : 0 ≤ A ∧ A < 256) : z_and x A = 0 ↔ ∀ h, 0 ≤ h → zb x h = true → zb A h = false := by
  rw [z_and_n (by omega) (by omega)]
  constructor
  · intro e h a b
    have e2 : x.toNat &&& A.toNat = 0 := by omega
    have e3 : (x.toNat &&& A.toNat).testBit h.toNat = false := by rw [e2]; simp
    rw [Nat.testBit_and] at e3
    unfold zb at b ⊢
    rw [b, Bool.true_and] at e3
    exact e3
  · intro q
    have : x.toNat &&& A.toNat = 0 := by
      refine Nat.eq_of_testBit_eq (fun i => ?_)
      rw [Nat.testBit_and, Nat.zero_testBit]
      have := q (i : Int) (by omega)
      unfold zb at this
      rw [show ((i : Int).toNat) = i from rfl] at this
      cases c : x.toNat.testBit i with
      | false => rfl
      | true => rw [this c]; rfl
    rw [this]; rfl
theorem zb_lt2 {x c : Int} (hc : 0 ≤ c ∧ c ≤ 8) (hx : 0 ≤ x) : x < ((2 ^ c.toNat : Nat) : Int) ↔ ∀ h, 0 ≤ h → zb x h = true → h < c := by
  constructor
  · intro q h a b
    refine Classical.byContradiction (fun n => ?_)
    unfold zb at b
    have e : x.toNat < 2 ^ h.toNat := Nat.lt_of_lt_of_le (by omega) (Nat.pow_le_pow_right (by omega) (show c.toNat ≤ h.toNat by omega))
    rw [Nat.testBit_lt_two_pow e] at b
    cases b
  · intro q
    have : x.toNat < 2 ^ c.toNat := Nat.lt_pow_two_of_testBit _ (fun i hi => by
      have := q (i : Int) (by omega)
      unfold zb at this
      rw [show ((i : Int).toNat) = i from rfl] at this
      cases e : x.toNat.testBit i with
      | false => rfl
      | true => have := this e; omega)
    omega
theorem zcard_le {c A : Int} (hc : 0 ≤ c ∧ c ≤ 8) (hA : ∀ h, 0 ≤ h → zb A h = true → h < c) : zcard A ≤ c := by
  have one : ∀ n : Nat, zsm (fun _ => 1) n = n := by
    intro n; induction n with
    | zero => rfl
    | succ n ih => show zsm (fun _ => 1) n + 1 = _; rw [ih]; omega
  rw [zcard_ss]
  unfold zss
  have e := zsm_cut (fun _ => 1) c.toNat 8 (by omega)
  rw [one] at e
  rw [show ((c.toNat : Nat) : Int) = c by omega] at e
  have q := zsm_le (f := fun h => if zb A h = true then 1 else 0) (g := fun h => if decide (h < c) = true then 1 else 0) 8 (fun h a b => by
    show (if zb A h = true then (1 : Int) else 0) ≤ (if decide (h < c) = true then 1 else 0)
    by_cases z : zb A h = true
    · rw [if_pos z, if_pos (decide_eq_true (hA h a z))]; omega
    · rw [if_neg z]; split <;> omega)
  rw [e] at q
  exact q
def znd (c k : Int) : Int := if 0 < (z_wr ((z_wr ((z_wr (Int.tdiv c 2)) + 1)) - k)) then (z_wr ((z_wr ((z_wr (Int.tdiv c 2)) + 1)) - k)) else 0
theorem znd_r {c k : Int} (hc : 1 ≤ c ∧ c ≤ 8) (hk : 0 ≤ k ∧ k ≤ c) : 0 ≤ znd c k ∧ znd c k + k ≤ c := by
  unfold znd
  rw [Int.tdiv_eq_ediv_of_nonneg (by omega), zw (x := c / 2) (by omega) (by omega), zw (x := c / 2 + 1) (by omega) (by omega), zw (by omega) (by omega)]
  split <;> omega
theorem p_sways {d : Nat} {n : Int} {M : zM} (hI : zI n M) (hn : n < 512) : zQ (d + 10) 100 225 [z_r (10, 0) 0] [z_r (11, 0) 179] n M := by
  obtain ⟨hb, ⟨t1, t2, t3, t4⟩, hR, hJ⟩ := hI
  have hJ0 := hJ
  have hJ1 := hJ.1
  have hH := hJ.2.1
  obtain ⟨ht, hr⟩ := tR_Rw hJ1
  have ht : zTn (M 179 3) (M 24) (M 26) (M 25) := ht
  have hr : zRw M 183 (M 179 3) (M 24) (M 26) (M 25) := hr
  have hc2 := ht.1
  have ez : zro (M 179 11) (M 185) 8 0 0 = zro (M 1 1) (M 2) 8 0 0 := by
    rw [← t1]
    exact zro_c 8 0 0 (fun j x y => (t4 j x y).1.symm)
  unfold zQ
  refine e_W_sways (s_W_readOtherOrder ⟨t2, t3⟩ hJ1 (fun hc => ?_) (fun hc M1 f1 w1 b1 b2 => ?_))
  · have hs := zro_s (M 1 1) (M 2) 8 0 0 (by omega) (by omega) (by omega)
    refine ⟨fun q => absurd q (by omega), fun _ => ?_⟩
    rw [zw (by omega) (by omega)]
    have f1 : zf [] [(1, 1)] M (z_up M 1 1 0) := zf_uj zf_rf (by decide)
    generalize hM1 : z_up M 1 1 0 = M1 at f1
    have u11 : (z_up M1 179 0 0) 179 11 = M 179 11 := by rw [zu_i (by decide), zf_c f1 179 rfl]
    have u187 : (z_up M1 179 0 0) 185 = M 185 := by rw [zu_f (by decide), zf_c f1 185 rfl]
    refine e_M_sways (fun P hP1 => s_M_readsOrder (by rw [u11, ← t1]; exact ⟨t2, t3⟩) (fun M4 f4 b1 b2 => ?_))
    rw [u11, u187, ez, ← t1, if_neg hc]
    have F := zf_tr (zf_tr f1 (zf_uj (zf_rf (S := []) (J := [(179, 0)])) (by decide))) f4
    refine ⟨fun z => absurd z (by omega), fun _ => ⟨?_, ⟨by omega, by omega⟩, ?_, ?_, ?_⟩⟩
    · rw [zw (x := -1 - _ + 1) (by omega) (by omega), zw (by omega) (by omega)]; omega
    · exact iT_0 (by rw [zf_a f4 1 1 rfl, zu_c (by decide), ← hM1, zu_s]) b1
    · exact iR_f hR F rfl
    · exact zJ_n (zJ_f hJ0 F rfl) (by omega)
  · refine ⟨fun _ => ?_, fun q => absurd rfl q⟩
    refine s_Book_earlierIn (by rw [b1.1]; exact hc2) ?_
    rw [b1.1]
    rw [zst_c (q := fun h => decide (zpl (M 179 3) (zrk (fun i => zle (M 2 i))) (M 26) (M 25) h < zpl (M 179 3) (zrk (M 24)) (M 26) (M 25) h)) (M 179 3).toNat (fun i a b => by rw [b1.2.2.1 i a (by omega), b2.2.2.1 i a (by omega)])]
    have r1 := zst_r (fun h => decide (zpl (M 179 3) (zrk (fun i => zle (M 2 i))) (M 26) (M 25) h < zpl (M 179 3) (zrk (M 24)) (M 26) (M 25) h)) (M 179 3).toNat (by omega)
    have rb := zst_b (fun h => decide (zpl (M 179 3) (zrk (fun i => zle (M 2 i))) (M 26) (M 25) h < zpl (M 179 3) (zrk (M 24)) (M 26) (M 25) h)) (M 179 3).toNat (by omega)
    generalize hA : zst (fun h => decide (zpl (M 179 3) (zrk (fun i => zle (M 2 i))) (M 26) (M 25) h < zpl (M 179 3) (zrk (M 24)) (M 26) (M 25) h)) (M 179 3).toNat = A at r1 rb
    have hA2 : ∀ h, 0 ≤ h → zb A h = true → h < M 179 3 := by
      intro h a b
      rw [rb h a, Bool.and_eq_true] at b
      have := of_decide_eq_true b.1
      omega
    have hcA := zcard_le hc2 hA2
    have hcA0 := zcard_r A
    have e15 : M1 23 5 = M 179 3 := by rw [zf_a f1 23 5 rfl]; exact hJ1.1
    have e46 : M1 46 = M 46 := zf_c f1 46 rfl
    have rest : ∀ k, (0 ≤ k ∧ k + zcard A ≤ M 179 3) → (M 179 3 = 0 → k = 0) → (M 179 3 ≠ 0 → k = znd (M 179 3) (zcard A)) → zCi (d + 9) 101 [z_r (10, 0) 0, z_i A, z_i k] M1 (fun v10 M9 => zCv (d + 9) 56 [z_r (5, 0) 3, z_l v10] M9 (fun M11 => zCi (d + 10) 225 [z_r (11, 0) 179] M11 (fun v' M2 => k = v' ∧ zI (n + 1) M2))) := by
      intro k hk k0 k1
      refine s_W_leastThirsty (by rw [e15]; exact hc2) r1 (by rw [e15]; exact hA2) (by rw [e15]; exact hk) (fun h a b => by rw [e46]; exact (hH h a (by omega)).2) (fun S hS => s_Row_tellOne (fun M2 f2 r2 r3 => ?_))
      rw [e15, e46] at hS
      have f12 := zf_tr f1 f2
      have u11 : (z_up M2 179 0 0) 179 11 = M 179 11 := by rw [zu_i (by decide), zf_c f12 179 rfl]
      have u187 : (z_up M2 179 0 0) 185 = M 185 := by rw [zu_f (by decide), zf_c f12 185 rfl]
      refine e_M_sways (fun P hP1 => s_M_readsOrder (by rw [u11, ← t1]; exact ⟨t2, t3⟩) (fun M4 f4 c1 c2 => ?_))
      rw [u11, u187, ez, ← t1] at c2 ⊢
      rw [if_pos hc]
      have c2 := c2 hc
      have F4 : zf [36, 37, 38, 39, 41, 42, 43, 44, 160, 4, 202] [(35, 4), (40, 4), (1, 1), (3, 1), (179, 0), (179, 11), (179, 12), (179, 13), (179, 14)] M M4 := zf_ww (zf_tr (zf_tr f12 (zf_uj (zf_rf (S := []) (J := [(179, 0)])) (by decide))) f4) rfl rfl
      have e204 : ∀ i, 0 ≤ i → i < 8 → M4 202 i = zle (M 2 i) := fun i a b => by rw [c2 i a b, (t4 i a (by omega)).1]
      have e3 : M4 179 3 = M 179 3 := zf_a F4 179 3 rfl
      refine ⟨fun _ => s_M_earlier (ord := M 24) (len := M 26) (nam := M 25) (by rw [e3]; exact ht) (by rw [e3]; exact zRw_f (S := []) (J := []) hr (zf_c F4 183 rfl)) (zperm_c (zio_p hc) e204) (fun M5 f5 p5 => ?_), fun z => absurd (by decide) z⟩
      rw [e3, zrk_c e204]
      rw [hA]
      have F5 : zf [36, 37, 38, 39, 41, 42, 43, 44, 160, 4, 202, 194, 195, 196, 197, 198, 199, 209] [(35, 4), (40, 4), (1, 1), (3, 1), (179, 0), (179, 11), (179, 12), (179, 13), (179, 14)] M M5 := zf_ww (zf_tr F4 f5) rfl rfl
      have e5 : M5 179 3 = M 179 3 := zf_a F5 179 3 rfl
      have f45 := zf_tr (zf_tr (zf_uj (zf_rf (M := M2) (S := []) (J := [(179, 0)])) (by decide)) f4) f5
      have e184 : ∀ h, 0 ≤ h → h < M5 179 3 → M5 182 h = M 46 h ∧ 1 ≤ M 46 h ∧ M 46 h ≤ 9 := fun h a b => by
        have := hH h a (by omega)
        rw [zf_c F5 182 rfl]; exact ⟨this.1.symm, this.2⟩
      have sS : ∀ h, 0 ≤ h → zb S h = true → h < M 179 3 := fun h a b => (hS.2.1 h a b).1
      have hN : z_shl 1 (M 179 3) = ((2 ^ (M 179 3).toNat : Nat) : Int) := z_shl1 (by omega)
      have hN2 : ((2 ^ (M 179 3).toNat : Nat) : Int) ≤ 256 := by
        have : 2 ^ (M 179 3).toNat ≤ 2 ^ 8 := Nat.pow_le_pow_right (by omega) (by omega)
        omega
      have hSN : S < ((2 ^ (M 179 3).toNat : Nat) : Int) := (zb_lt2 hc2 hS.1.1).mpr sS
      have bits : ∀ x : Int, 0 ≤ x → x < ((2 ^ (M 179 3).toNat : Nat) : Int) → ∀ h, 0 ≤ h → zb x h = true → h < M 179 3 := fun x a b => (zb_lt2 hc2 a).mp b
      generalize ((2 ^ (M 179 3).toNat : Nat) : Int) = N at hN hN2 hSN bits
      have sb : zss (M 46) S < 1000000 := by
        have := zsm_b (f := fun h => if zb S h = true then M 46 h else 0) (B := 9) 8 (fun i a b => by
          show 0 ≤ (if zb S i = true then M 46 i else 0) ∧ (if zb S i = true then M 46 i else 0) ≤ 9
          by_cases q : zb S i = true
          · have := hH i a (sS i a q); rw [if_pos q]; omega
          · rw [if_neg q]; omega)
        unfold zss
        have h2 := this.2
        omega
      have loop : ∀ (m : Nat) (i b mn : Int), i + m = N → 0 ≤ i → (i ≤ S → zss (M 46) S < mn) → (S < i → b = S ∧ mn = zss (M 46) S) → P 0 A k b mn i M5 := by
        intro m
        induction m with
        | zero =>
          intro i b mn hi i0 q1 q2
          obtain ⟨rfl, rfl⟩ := q2 (by omega)
          refine hP1 _ _ _ _ _ _ _ ⟨fun _ => ?_, fun z => absurd (by rw [e5, hN]; omega) z⟩
          refine s_M_enters (by rw [zu_s]; omega) ?_
          rw [zu_s]
          have F6 : zf [36, 37, 38, 39, 41, 42, 43, 44, 160, 4, 202, 194, 195, 196, 197, 198, 199, 209, 180] [(35, 4), (40, 4), (1, 1), (3, 1), (179, 0), (179, 11), (179, 12), (179, 13), (179, 14), (179, 1)] M (z_up (z_up (z_up M5 179 1 0) 180 0 b) 179 1 (0 + 1)) := zf_uj (zf_us (zf_uj (zf_ww F5 rfl rfl) (by decide)) (by decide)) (by decide)
          refine ⟨rfl, ⟨by omega, by omega⟩, ?_, ?_, zJ_n (zJ_f hJ0 F6 rfl) (by omega)⟩
          · refine iT_0 ?_ ?_
            · rw [zu_c (by decide), zu_c (by decide), zu_c (by decide), zf_a f45 1 1 rfl, zf_a f2 1 1 rfl]; exact w1
            · rw [zu_i (by decide), zu_c (by decide), zu_i (by decide), zf_a f5 179 11 rfl]; exact c1
          · have k3 : (z_up (z_up (z_up M5 179 1 0) 180 0 b) 179 1 (0 + 1)) 3 1 = 1 := by
              rw [zu_c (by decide), zu_c (by decide), zu_c (by decide), zf_a f45 3 1 rfl]; exact r2
            have k4 : ∀ i, (z_up (z_up (z_up M5 179 1 0) 180 0 b) 179 1 (0 + 1)) 4 i = M2 4 i := fun i => by
              rw [zu_c (by decide), zu_c (by decide), zu_c (by decide), zf_c f45 4 rfl]
            refine ⟨by rw [k3, zu_s]; rfl, by rw [k3]; omega, by rw [k3]; omega, fun i i0 i1 => ?_⟩
            rw [k3] at i1
            have : i = 0 := by omega
            subst this
            rw [k4, r3, zu_c (by decide), zu_s]
        | succ m ih =>
          intro i b mn hi i0 q1 q2
          have hbi := bits i i0 (by omega)
          refine hP1 _ _ _ _ _ _ _ ⟨fun z => absurd z (by rw [e5, hN]; omega), fun _ => ⟨fun z => ?_, fun z => s_bitCount (by omega) ⟨fun z2 => ?_, fun z2 => ?_⟩⟩⟩
          · rw [zw (by omega) (by omega)]
            have : i ≠ S := fun e => z (by subst e; exact (z_and_0 (by omega) r1).mpr (fun h a b => (hS.2.1 h a b).2))
            exact ih (i + 1) b mn (by omega) (by omega) (fun y => q1 (by omega)) (fun y => q2 (by omega))
          · rw [zw (by omega) (by omega)]
            have : i ≠ S := fun e => z2 (by subst e; exact hS.2.2.1)
            exact ih (i + 1) b mn (by omega) (by omega) (fun y => q1 (by omega)) (fun y => q2 (by omega))
          · have z := Classical.not_not.mp z
            have z2 := Classical.not_not.mp z2
            have hz := (z_and_0 (x := i) (by omega) r1).mp z
            have opt := zlt_min hc2.2 hS (x := i) (by omega) (fun h a b => ⟨hbi h a b, hz h a b⟩) z2
            refine s_M_thirstOf (th := M 46) (by rw [e5]; exact hc2) (by omega) (by rw [e5]; exact hbi) e184 ⟨fun y => ?_, fun y => ?_⟩
            · rw [zw (by omega) (by omega)]
              have : i ≠ S := fun e => by subst e; have := q1 (by omega); omega
              exact ih (i + 1) b mn (by omega) (by omega) (fun y => q1 (by omega)) (fun y => q2 (by omega))
            · refine s_M_thirstOf (th := M 46) (by rw [e5]; exact hc2) (by omega) (by rw [e5]; exact hbi) e184 ?_
              rw [zw (by omega) (by omega)]
              refine ih (i + 1) i _ (by omega) (by omega) (fun y => by omega) (fun y => ?_)
              by_cases e : i = S
              · subst e; exact ⟨rfl, rfl⟩
              · have := q2 (by omega); have := hS.1; omega
      have start : P 0 A k 0 1000000 0 M5 := loop N.toNat 0 0 1000000 (by have := hS.1; omega) (by omega) (fun _ => sb) (fun y => by have := hS.1; omega)
      rw [e5]
      refine ⟨fun z => s_bitCount r1 ?_, fun z => ?_⟩
      · have := k1 z
        unfold znd at this
        rw [← this]
        exact start
      · have := k0 (Classical.not_not.mp z)
        subst this
        exact start
    rw [e15]
    refine ⟨fun z => s_bitCount r1 ?_, fun z => ?_⟩
    · exact rest (znd (M 179 3) (zcard A)) (znd_r (by omega) ⟨hcA0.1, hcA⟩) (fun y => absurd y z) (fun _ => rfl)
    · exact rest 0 (by omega) (fun _ => rfl) (fun y => absurd y z)
