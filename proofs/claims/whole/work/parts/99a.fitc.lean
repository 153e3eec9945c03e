/-! orders that fit: the class -/
theorem zwr_k (x : Int) : (∃ k, z_wr x = x + 4294967296 * k) ∧ -2147483648 ≤ z_wr x ∧ z_wr x ≤ 2147483647 := ⟨⟨-((x + 2147483648) / 4294967296), by unfold z_wr; omega⟩, by unfold z_wr; omega⟩
theorem z_255 {s : Int} (hs : 0 ≤ s ∧ s < 256) (h : zcard s = 8) : s = 255 := by
  have all : ∀ i, 0 ≤ i → i < 8 → zb s i = true := fun i a b => by
    cases y : zb s i
    · have := zcard_zbs hs ⟨a, b⟩ y
      have := zcard_r (zbs s i)
      omega
    · rfl
  refine zb_ext hs.1 (by omega) (fun j j0 => ?_)
  by_cases w : j < 8
  · rw [all j j0 w]
    have : j = 0 ∨ j = 1 ∨ j = 2 ∨ j = 3 ∨ j = 4 ∨ j = 5 ∨ j = 6 ∨ j = 7 := by omega
    rcases this with rfl | rfl | rfl | rfl | rfl | rfl | rfl | rfl <;> decide
  · rw [zb_ge hs (by omega), zb_ge (by omega) (by omega)]
theorem s_Orders_canFollow {d : Nat} {s l : Int} {M : zM} {F : Int → zM → Prop} (hs : 0 ≤ s ∧ s < 256) (hl : 0 ≤ l ∧ l < 8) (H : F (if zcf (M 148) s l = true then 1 else 0) M) : zCi (d + 2) 126 [z_r (2, 0) 144, z_i s, z_i l] M F := by
  refine e_Orders_canFollow (s_W_isIn (by omega) (by omega) ?_)
  unfold zcf zfk at H
  by_cases z : zb s l = true
  · rw [if_pos z]
    rw [if_neg (by rw [z]; simp)] at H
    exact ⟨fun _ => H, fun y => absurd (by decide) y⟩
  · rw [if_neg z]
    have z' : zb s l = false := by simpa using z
    refine ⟨fun y => absurd rfl y, fun _ => ⟨hl, fun y => ?_, fun y => ?_⟩⟩
    · rw [decide_eq_false y, if_neg (by simp)] at H; exact H
    · rw [decide_eq_true (Classical.byContradiction y), z', if_pos (by decide)] at H; exact H
/-- how many behind a set -/
def zVn (D : Int → Int) (P s : Int) : Int := zEn D P (8 - zcard s).toNat s
theorem zVn_b {D : Int → Int} {P s : Int} (hP : P = 0 ∨ P = 1) (hs : 0 ≤ s ∧ s < 256) : 0 ≤ zVn D P s ∧ zVn D P s ≤ 40320 := by
  have cr := zcard_r s
  refine ⟨zEn_nn hP _ _, ?_⟩
  have b := zEn_b (D := D) hP (8 - zcard s).toNat s hs (by omega)
  have : zfact (8 - zcard s).toNat ≤ 40320 := by
    have : (8 - zcard s).toNat ≤ 8 := by omega
    generalize (8 - zcard s).toNat = n at this
    have : n = 0 ∨ n = 1 ∨ n = 2 ∨ n = 3 ∨ n = 4 ∨ n = 5 ∨ n = 6 ∨ n = 7 ∨ n = 8 := by omega
    rcases this with rfl | rfl | rfl | rfl | rfl | rfl | rfl | rfl | rfl <;> decide
  show zEn D P (8 - zcard s).toNat s ≤ 40320
  omega
theorem zVn_s {D : Int → Int} {P s l : Int} (hs : 0 ≤ s ∧ s < 256) (hl : 0 ≤ l ∧ l < 8) (z : zcf D s l = true) : zVn D P (zbs s l) = zEn D P (7 - zcard s).toNat (zbs s l) := by
  unfold zVn
  rw [zcard_zbs hs hl (zcf_f z), show (8 - (zcard s + 1)).toNat = (7 - zcard s).toNat by omega]
theorem zVn_e {D : Int → Int} {P s : Int} (hs : 0 ≤ s ∧ s < 256) (h : zcard s < 8) : zsm (fun l => if zcf D s l = true then zVn D P (zbs s l) else 0) 8 = zVn D P s := by
  have cr := zcard_r s
  have e : zVn D P s = zEn D P ((7 - zcard s).toNat + 1) s := by unfold zVn; rw [show (8 - zcard s).toNat = (7 - zcard s).toNat + 1 by omega]
  rw [e]
  refine zsm_c 8 (fun l a b => ?_)
  show (if zcf D s l = true then zVn D P (zbs s l) else 0) = (if zcf D s l = true then zEn D P (7 - zcard s).toNat (zbs s l) else 0)
  by_cases z : zcf D s l = true
  · rw [if_pos z, if_pos z, zVn_s hs ⟨a, b⟩ z]
  · rw [if_neg z, if_neg z]
theorem zVn_rec {D : Int → Int} {P s : Int} (hs : 0 ≤ s ∧ s < 256) : (if s = 255 then P else 0) + zsm (fun l => if zcf D s l = true then zVn D P (zbs s l) else 0) 8 = zVn D P s := by
  have cr := zcard_r s
  by_cases q : zcard s = 8
  · rw [if_pos (z_255 hs q), zsm_c (g := fun _ => 0) 8 (fun l a b => by
      show (if zcf D s l = true then _ else 0) = 0
      rw [if_neg (by rw [zcf_full hs q ⟨a, b⟩]; decide)])]
    unfold zVn
    rw [q]
    show P + 0 = P
    omega
  · rw [if_neg (fun e => q (by rw [e]; decide)), zVn_e hs (by omega)]; omega
theorem s_Orders_fitDemands {d : Nat} {P : Int} {D : Int → Int} {M : zM} {F : Int → zM → Prop} (hD : M 148 = D) (hP : P = 0 ∨ P = 1) (h4 : M 144 4 = P) (H : ∀ M', zf [149, 150] [] M M' → zPsi D P 256 0 (M' 149) → (∀ s, 0 ≤ s → s < 256 → M' 150 s = zVn D P s) → F (zEn D P 8 0) M') : zCi (d + 3) 125 [z_r (2, 0) 144] M F := by
  refine e_Orders_fitDemands (fun Pa Pb Pc Pd hA hB hC hE => s_fill (by decide) (fun M1 f1 z1 => s_fill (by decide) (fun M2 f2 z2 => ?_)))
  have f12 : zf [149, 150] [] M M2 := zf_ww (zf_tr f1 f2) rfl rfl
  have e4 : M2 144 4 = P := by rw [zf_a f12 144 4 rfl]; exact h4
  have e148 : ∀ M3, zf [149, 150] [] M M3 → M3 148 = D := fun M3 f3 => by rw [zf_c f3 148 rfl]; exact hD
  -- the sets from the last to the first
  have down : ∀ (b : Int → Int), zPsi D P 256 0 b → ∀ (m : Nat) (s : Int) (M3 : zM), s + 1 = m → s < 256 → zf [149, 150] [] M M3 → M3 149 = b → (∀ x, s < x → x < 256 → M3 150 x = zVn D P x) → (∀ x, 0 ≤ x → x ≤ s → M3 150 x = if x = 255 then P else 0) → Pc s M3 := by
    intro b hb m
    induction m with
    | zero =>
      intro s M3 hs s8 f3 e3 v3 w3
      have v0 := v3 0 (by omega) (by omega)
      refine hC _ _ ⟨fun _ => ⟨by decide, ?_⟩, fun z => absurd (by omega) z⟩
      rw [v0]
      exact H M3 f3 (by rw [e3]; exact hb) (fun x a c => v3 x (by omega) c)
    | succ m ih =>
      intro s M3 hs s8 f3 e3 v3 w3
      have s0 : 0 ≤ s ∧ s < 256 := by omega
      refine hC _ _ ⟨fun z => absurd z (by omega), fun _ => ?_⟩
      have inner : ∀ (k n : Nat) (M4 : zM), n + k = 8 → zf [149, 150] [] M M4 → M4 149 = b → (∀ x, s < x → x < 256 → M4 150 x = zVn D P x) → (∀ x, 0 ≤ x → x < s → M4 150 x = if x = 255 then P else 0) → M4 150 s = (if s = 255 then P else 0) + zsm (fun l => if zcf D s l = true then zVn D P (zbs s l) else 0) n → Pd s (n : Int) M4 := by
        intro k
        induction k with
        | zero =>
          intro n M4 hn f4 e4 v4 w4 x4
          have : n = 8 := by omega
          subst this
          refine hE _ _ _ ⟨fun _ => ?_, fun z => absurd (by decide) z⟩
          rw [zw (x := s + -1) (by omega) (by omega)]
          refine ih (s + -1) M4 (by omega) (by omega) f4 e4 (fun x a c => ?_) (fun x a c => w4 x a (by omega))
          by_cases q : x = s
          · rw [q, x4, zVn_rec s0]
          · exact v4 x (by omega) c
        | succ k ih2 =>
          intro n M4 hn f4 e4 v4 w4 x4
          have nx := ih2 (n + 1)
          have es : zsm (fun l => if zcf D s l = true then zVn D P (zbs s l) else 0) (n + 1) = zsm (fun l => if zcf D s l = true then zVn D P (zbs s l) else 0) n + (if zcf D s (n : Int) = true then zVn D P (zbs s n) else 0) := rfl
          rw [show ((n + 1 : Nat) : Int) = (n : Int) + 1 by omega, es] at nx
          refine hE _ _ _ ⟨fun z => absurd z (by omega), fun _ => s_Orders_canFollow s0 (by omega) ?_⟩
          rw [e148 M4 f4, zw (x := (n : Int) + 1) (by omega) (by omega)]
          by_cases z : zcf D s (n : Int) = true
          · have hn8 : 0 ≤ (n : Int) ∧ (n : Int) < 8 := by omega
            have gt := zbs_gt s0 hn8 (zcf_f z)
            have lt := zbs_lt s0 hn8
            have tb := v4 _ gt lt.2
            have nn : ∀ l : Int, 0 ≤ l → l < 8 → 0 ≤ (if zcf D s l = true then zVn D P (zbs s l) else 0) := fun l a c => by
              have := zVn_b (D := D) hP (zbs_lt s0 ⟨a, c⟩)
              split <;> omega
            have u1 := zsm_up (e := fun l => if zcf D s l = true then zVn D P (zbs s l) else 0) nn (n := n + 1) (by omega) (8 - (n + 1)) (by omega)
            rw [show n + 1 + (8 - (n + 1)) = 8 by omega, es, if_pos z] at u1
            have u2 := zsm_nn (e := fun l => if zcf D s l = true then zVn D P (zbs s l) else 0) nn n (by omega)
            have rc := zVn_rec (D := D) (P := P) s0
            have vb := zVn_b (D := D) hP s0
            have vb2 := zVn_b (D := D) hP lt
            have pb : 0 ≤ (if s = 255 then P else 0) := by split <;> omega
            rw [if_pos z] at nx ⊢
            refine ⟨fun y => absurd y (by decide), fun _ => ⟨s0, lt, s0, ?_⟩⟩
            show Pd s ((n : Int) + 1) (z_up M4 150 s (z_wr (M4 150 s + M4 150 (zbs s n))))
            rw [tb, x4, zw (x := _ + zVn D P (zbs s n)) (by omega) (by omega)]
            refine nx _ (by omega) (zf_us f4 (by decide)) (by rw [← e4]; funext y; rw [zu_c (by decide)]) (fun x a c => by rw [zu_i (by omega)]; exact v4 x a c) (fun x a c => by rw [zu_i (by omega)]; exact w4 x a c) ?_
            rw [zu_s]; omega
          · rw [if_neg z] at nx ⊢
            exact ⟨fun _ => nx M4 (by omega) f4 e4 v4 w4 (by rw [x4]; omega), fun y => absurd rfl y⟩
      exact inner 8 0 M3 (by omega) f3 e3 v3 (fun x a c => w3 x a (by omega)) (by rw [w3 s s0.1 (by omega)]; show _ = _ + (0 : Int); omega)
  -- the sets from the first to the last
  have up : ∀ (m : Nat) (s : Nat) (M3 : zM), s + m = 256 → zf [149, 150] [] M M3 → zPsi D P s 0 (M3 149) → (∀ x, 0 ≤ x → x < 256 → M3 150 x = if x = 255 then P else 0) → Pa (s : Int) M3 := by
    intro m
    induction m with
    | zero =>
      intro s M3 hs f3 p3 w3
      have : s = 256 := by omega
      subst this
      refine hA _ _ ⟨fun _ => ?_, fun z => absurd (by omega) z⟩
      exact down (M3 149) p3 256 255 M3 (by omega) (by omega) f3 rfl (fun x a c => by omega) (fun x a c => w3 x a (by omega))
    | succ m ih =>
      intro s M3 hs f3 p3 w3
      have s0 : 0 ≤ (s : Int) ∧ (s : Int) < 256 := by omega
      refine hA _ _ ⟨fun z => absurd z (by omega), fun _ => ?_⟩
      have inner : ∀ (k n : Nat) (M4 : zM), n + k = 8 → zf [149, 150] [] M M4 → zPsi D P s n (M4 149) → (∀ x, 0 ≤ x → x < 256 → M4 150 x = if x = 255 then P else 0) → Pb (s : Int) (n : Int) M4 := by
        intro k
        induction k with
        | zero =>
          intro n M4 hn f4 p4 w4
          have : n = 8 := by omega
          subst this
          refine hB _ _ _ ⟨fun _ => ?_, fun z => absurd (by decide) z⟩
          rw [zw (x := (s : Int) + 1) (by omega) (by omega)]
          have := ih (s + 1) M4 (by omega) f4 (by rw [show ((s + 1 : Nat) : Int) = (s : Int) + 1 by omega]; exact zPsi_n s0 p4) w4
          rw [show ((s + 1 : Nat) : Int) = (s : Int) + 1 by omega] at this
          exact this
        | succ k ih2 =>
          intro n M4 hn f4 p4 w4
          have nx := ih2 (n + 1)
          rw [show ((n + 1 : Nat) : Int) = (n : Int) + 1 by omega] at nx
          refine hB _ _ _ ⟨fun z => absurd z (by omega), fun _ => s_Orders_canFollow s0 (by omega) ?_⟩
          rw [e148 M4 f4, zw (x := (n : Int) + 1) (by omega) (by omega)]
          by_cases z : zcf D s (n : Int) = true
          · have hn8 : 0 ≤ (n : Int) ∧ (n : Int) < 8 := by omega
            have lt := zbs_lt s0 hn8
            rw [if_pos z]
            refine ⟨fun y => absurd y (by decide), fun _ => ⟨lt, s0, lt, ?_⟩⟩
            show Pb s ((n : Int) + 1) (z_up M4 149 (zbs s n) (z_wr (M4 149 (zbs s n) + M4 149 s)))
            obtain ⟨⟨k, ek⟩, _⟩ := zwr_k (M4 149 (zbs s n) + M4 149 s)
            refine nx _ (by omega) (zf_us f4 (by decide)) (zPsi_push (k := k) s0 (by omega) z ?_ (fun x ne => ?_) p4) (fun x a c => by rw [zu_c (by decide)]; exact w4 x a c)
            · rw [zu_s, ek]
            · rw [zu_i ne]
          · have z' : zcf D s (n : Int) = false := by simpa using z
            rw [if_neg z]
            exact ⟨fun _ => nx M4 (by omega) f4 (zPsi_skip z' p4) w4, fun y => absurd rfl y⟩
      exact inner 8 0 M3 (by omega) f3 p3 w3
  have go : Pa 0 (z_up (z_up M2 149 0 P) 150 255 P) := up 256 0 _ (by omega) (zf_us (zf_us f12 (by decide)) (by decide)) (zPsi_0 hP (by rw [zu_c (by decide), zu_s]) (fun s a c => by
    rw [zu_c (by decide), zu_i (by omega), zf_c f2 149 rfl]; exact z1 s (by omega) c)) (fun x a c => by
    by_cases q : x = 255
    · rw [q, zu_s, if_pos rfl]
    · rw [zu_i q, if_neg q, zu_c (by decide)]; exact z2 x a c)
  have e5 : ∀ v, (z_up M2 149 0 v) 144 4 = P := fun v => by rw [zu_c (by decide)]; exact e4
  rcases hP with z | z
  · refine ⟨fun _ => ⟨by decide, fun _ => ⟨by decide, by rw [z] at go; exact go⟩, fun y => absurd ((e5 0).trans z) y⟩, fun y => absurd (e4.trans z) y⟩
  · refine ⟨fun y => absurd y (by omega), fun _ => ⟨by decide, fun y => absurd y (by rw [e5]; omega), fun _ => ⟨by decide, by rw [z] at go; exact go⟩⟩⟩
theorem s_Orders_fitsWith {d : Nat} {P i j : Int} {D : Int → Int} {M : zM} {F : Int → zM → Prop} (hD : M 148 = D) (hP : P = 0 ∨ P = 1) (hp : zPsi D P 256 0 (M 149)) (hv : ∀ s, 0 ≤ s → s < 256 → M 150 s = zVn D P s) (hi : 0 ≤ i ∧ i < 8) (hj : 0 ≤ j ∧ j < 8) (hij : i ≠ j) (H : F (zG D P i j 8 0) M) : zCi (d + 3) 130 [z_r (2, 0) 144, z_i i, z_i j] M F := by
  obtain ⟨q, eq⟩ := zPsi_end hp i j hi hj hij
  have gb := zG_b (D := D) hP hi hj hij
  have eb := zEn_8 (D := D) hP
  refine e_Orders_fitsWith (fun Pa hA => ?_)
  have loop : ∀ (m s : Nat) (x k : Int), s + m = 256 → (-2147483648 ≤ x ∧ x ≤ 2147483647) → x = zsm (fun s => M 149 s * zh D P i j s) s + 4294967296 * k → Pa i j x (s : Int) M := by
    intro m
    induction m with
    | zero =>
      intro s x k hs hx ex
      have : s = 256 := by omega
      subst this
      refine hA _ _ _ _ _ ⟨fun _ => ?_, fun z => absurd (by omega) z⟩
      rw [eq] at ex
      rw [show x = zG D P i j 8 0 by omega]
      exact H
    | succ m ih =>
      intro s x k hs hx ex
      have s0 : 0 ≤ (s : Int) ∧ (s : Int) < 256 := by omega
      have nx := ih (s + 1)
      have es : zsm (fun s => M 149 s * zh D P i j s) (s + 1) = zsm (fun s => M 149 s * zh D P i j s) s + M 149 s * zh D P i j s := rfl
      rw [show ((s + 1 : Nat) : Int) = (s : Int) + 1 by omega, es] at nx
      have skip : zh D P i j s = 0 → Pa i j x (z_wr ((s : Int) + 1)) M := fun z => by
        rw [zw (x := (s : Int) + 1) (by omega) (by omega)]
        exact nx x k (by omega) hx (by rw [z, Int.mul_zero, ex]; omega)
      refine hA _ _ _ _ _ ⟨fun z => absurd z (by omega), fun _ => s_W_isIn (by omega) (by omega) ?_⟩
      by_cases z : zb (s : Int) j = true
      · rw [if_pos z]
        refine ⟨fun _ => skip (by unfold zh; rw [if_neg (fun y => by rw [z] at y; cases y.1)]), fun y => absurd (by decide) y⟩
      · rw [if_neg z]
        have z' : zb (s : Int) j = false := by simpa using z
        refine ⟨fun y => absurd rfl y, fun _ => s_Orders_canFollow s0 hi ?_⟩
        rw [hD]
        by_cases w : zcf D s i = true
        · rw [if_pos w]
          refine ⟨fun y => absurd y (by decide), fun _ => ⟨s0, zbs_lt s0 hi, ?_⟩⟩
          show Pa i j (z_wr (x + z_wr (M 149 s * M 150 (zbs s i)))) (z_wr ((s : Int) + 1)) M
          rw [zw (x := (s : Int) + 1) (by omega) (by omega), hv _ (zbs_lt s0 hi).1 (zbs_lt s0 hi).2, zVn_s s0 hi w, zwr_b]
          have eh : zh D P i j s = zEn D P (7 - zcard s).toNat (zbs s i) := by unfold zh; rw [if_pos ⟨z', w⟩]
          rw [eh] at nx
          obtain ⟨⟨k2, e2⟩, r2⟩ := zwr_k (x + M 149 s * zEn D P (7 - zcard s).toNat (zbs s i))
          refine nx _ (k + k2) (by omega) r2 ?_
          rw [e2, ex]; omega
        · rw [if_neg w]
          refine ⟨fun _ => skip (by unfold zh; rw [if_neg (fun y => w y.2)]), fun y => absurd rfl y⟩
  exact loop 256 0 0 0 (by omega) (by omega) rfl
theorem zfX_s {e : Int → Int} (he : ∀ l, 0 ≤ e l) : ∀ n : Nat, 0 < zsm e n → (0 ≤ zfX e n ∧ zfX e n < n) ∧ 0 < e (zfX e n) ∧ ∀ j : Int, 0 ≤ j → j < zfX e n → e j = 0
  | 0, h => by
    have h : (0 : Int) < 0 := h
    omega
  | n + 1, h => by
    have h : 0 < zsm e n + e n := h
    have eX : zfX e (n + 1) = if 0 < zsm e n then zfX e n else (n : Int) := rfl
    rw [eX]
    by_cases q : 0 < zsm e n
    · rw [if_pos q]
      obtain ⟨a, b, c⟩ := zfX_s he n q
      exact ⟨by omega, b, c⟩
    · rw [if_neg q]
      refine ⟨by omega, by have := he n; omega, fun j a b => ?_⟩
      have : ∀ m : Nat, zsm e m ≤ 0 → ∀ j : Int, 0 ≤ j → j < m → e j = 0 := by
        intro m
        induction m with
        | zero => intro _ j a b; omega
        | succ m ih =>
          intro hm j a b
          have hm : zsm e m + e m ≤ 0 := hm
          have em := he m
          have nn : 0 ≤ zsm e m := by
            have : ∀ m : Nat, 0 ≤ zsm e m := by
              intro m
              induction m with
              | zero => exact Int.le_refl _
              | succ m ih => have := he m; show 0 ≤ zsm e m + e m; omega
            exact this m
          by_cases w : j = m
          · rw [w]; omega
          · exact ih (by omega) j a (by omega)
      exact this n (by omega) j a b
