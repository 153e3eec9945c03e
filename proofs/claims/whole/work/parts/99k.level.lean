/-! the order that leaves the fewest dry: a level of the class's search -/
theorem zb_andn {a b j : Int} (ha : 0 ≤ a ∧ a < 2147483648) (hb : 0 ≤ b ∧ b < 2147483648) : zb (z_and a (z_xor b (-1))) j = (zb a j && !zb b j) := by
  rw [z_and_not ha hb]
  unfold zb
  rw [Int.toNat_natCast, Nat.testBit_xor, Nat.testBit_and]
  cases a.toNat.testBit j.toNat <;> cases b.toNat.testBit j.toNat <;> rfl
theorem zb_sh1 {i j : Int} (hi : 0 ≤ i ∧ i < 31) (hj : 0 ≤ j) : zb (z_shl 1 i) j = decide (i = j) := by
  rw [z_shl1 hi]
  unfold zb
  rw [Int.toNat_natCast, Nat.testBit_two_pow]
  by_cases h : i = j
  · subst h; simp
  · rw [decide_eq_false h, decide_eq_false (by omega)]
theorem z_sh1_lt {i : Int} (hi : 0 ≤ i ∧ i < 8) : 0 ≤ z_shl 1 i ∧ z_shl 1 i < 256 := by
  rw [z_shl1 ⟨hi.1, by omega⟩]
  have : (2 : Nat) ^ i.toNat < 2 ^ 8 := Nat.pow_lt_pow_right (by omega) (by omega)
  exact ⟨Int.natCast_nonneg _, by omega⟩
theorem zts_1 {th : Int → Int} {o : Int} (ho : 0 ≤ o ∧ o < 8) : zts th (z_shl 1 o) = th o := by
  unfold zts
  rw [zsm_one (k0 := o) 8 (fun k a b ne => by
    show (if zb (z_shl 1 o) k = true then th k else 0) = 0
    rw [zb_sh1 ⟨ho.1, by omega⟩ a, if_neg]
    intro e
    exact ne (of_decide_eq_true e).symm), if_pos ⟨ho.1, by omega⟩]
  rw [zb_sh1 ⟨ho.1, by omega⟩ ho.1, if_pos (decide_eq_true rfl)]
def zOq (c A B h : Int) : Int := z_and (z_wr ((z_shl 1 c) - 1)) (z_xor (z_or (z_or A B) (z_shl 1 h)) (-1))
theorem zOq_b {c A B h : Int} (hc : 0 ≤ c ∧ c ≤ 8) (hA : 0 ≤ A ∧ A < 256) (hB : 0 ≤ B ∧ B < 256) (hh : 0 ≤ h ∧ h < 8) : (0 ≤ zOq c A B h ∧ zOq c A B h < 256) ∧ ∀ o, 0 ≤ o → (zb (zOq c A B h) o = true ↔ o < c ∧ zb A o = false ∧ zb B o = false ∧ h ≠ o) := by
  have p1 : (2 : Nat) ^ c.toNat ≤ 2 ^ 8 := Nat.pow_le_pow_right (by omega) (by omega)
  have p0 : 0 < (2 : Nat) ^ c.toNat := Nat.pow_pos (by omega)
  have hm : z_wr ((z_shl 1 c) - 1) = ((2 ^ c.toNat - 1 : Nat) : Int) := by
    rw [z_shl1 ⟨hc.1, by omega⟩, zw (by omega) (by omega)]; omega
  have o1 := z_or_lt hA hB
  have o2 : 0 ≤ z_or (z_or A B) (z_shl 1 h) ∧ z_or (z_or A B) (z_shl 1 h) < 256 := z_or_lt o1 (z_sh1_lt hh)
  have bits : ∀ o, 0 ≤ o → (zb (zOq c A B h) o = true ↔ o < c ∧ zb A o = false ∧ zb B o = false ∧ h ≠ o) := fun o o0 => by
    unfold zOq
    rw [hm, zb_andn (by omega) (by omega), zb_or (by omega) (by have := z_sh1_lt hh; omega), zb_or (by omega) (by omega), zb_sh1 (by omega) o0]
    have eb : zb ((2 ^ c.toNat - 1 : Nat) : Int) o = decide (o < c) := by
      unfold zb
      rw [Int.toNat_natCast, Nat.testBit_two_pow_sub_one]
      by_cases q : o < c
      · rw [decide_eq_true q, decide_eq_true (by omega)]
      · rw [decide_eq_false q, decide_eq_false (by omega)]
    rw [eb]
    by_cases q1 : o < c <;> by_cases q2 : h = o <;> cases zb A o <;> cases zb B o <;> simp [q1, q2]
  refine ⟨?_, bits⟩
  unfold zOq
  rw [hm, z_and_not (by omega) (by omega)]
  refine ⟨Int.natCast_nonneg _, ?_⟩
  have h2 : ((2 ^ c.toNat - 1 : Nat) : Int).toNat ^^^ (((2 ^ c.toNat - 1 : Nat) : Int).toNat &&& (z_or (z_or A B) (z_shl 1 h)).toNat) < 2 ^ 8 := by
    refine Nat.xor_lt_two_pow ?_ (Nat.lt_of_le_of_lt Nat.and_le_left ?_)
    · rw [Int.toNat_natCast]; omega
    · rw [Int.toNat_natCast]; omega
  omega
/-- what stays: the sums, the row by thirst, the letters that tell -/
def zTf (c w tb : Int) (th len nam bt : Int → Int) (M : zM) : Prop := M 151 8 = c ∧ M 151 9 = w ∧ M 151 4 = tb ∧ (∀ s, 0 ≤ s → s < ((2 ^ c.toNat : Nat) : Int) → M 153 s = zts th s) ∧ (∀ i, 0 ≤ i → i < c → M 154 i = bt i) ∧ ∀ a b, 0 ≤ a → a < c → 0 ≤ b → b < c → M 155 (a * 8 + b) = zmi len nam a b
theorem zTf_f {c w tb : Int} {th len nam bt : Int → Int} {M M' : zM} (h : zTf c w tb th len nam bt M) (f : zf [152, 156, 157, 158] [(151, 10), (151, 11)] M M') : zTf c w tb th len nam bt M' := by
  unfold zTf at *
  rw [zf_a f 151 8 rfl, zf_a f 151 9 rfl, zf_a f 151 4 rfl, zf_c f 153 rfl, zf_c f 154 rfl, zf_c f 155 rfl]
  exact h
/-- a level: who is surely ahead, who behind -/
def zLw (c : Int) (R : Int → Int → Prop) (A : Int) (h : Int) : Prop := (0 ≤ A ∧ A < 256) ∧ ∀ o, 0 ≤ o → (zb A o = true ↔ o < c ∧ R o h)
def zLv (c : Int) (len nam p : Int → Int) (n : Int) (M : zM) : Prop := ∀ h, 0 ≤ h → h < c → zLw c (fun o h => zEA len nam p n o h) (M 156 (n * 8 + h)) h ∧ zLw c (fun o h => zEA len nam p n h o) (M 157 (n * 8 + h)) h
theorem s_Thrift_openFor {d : Nat} {n h c : Int} {M : zM} {F : Int → zM → Prop} (h8 : M 151 8 = c) (hc : c ≤ 8) (hn : 0 ≤ n ∧ n ≤ 8) (hh : 0 ≤ h ∧ h < c) (H : F (zOq c (M 156 (n * 8 + h)) (M 157 (n * 8 + h)) h) M) : zCi (d + 1) 85 [z_r (8, 0) 151, z_i n, z_i h] M F := by
  refine e_Thrift_openFor ?_
  rw [zw (x := n * 8) (by omega) (by omega), zw (x := n * 8 + h) (by omega) (by omega), h8]
  exact ⟨by omega, by omega, H⟩
def zHv (c w : Int) (th bt : Int → Int) (n : Int) (M : zM) (h : Int) : Int := zHw c w th bt (fun h => M 156 (n * 8 + h)) (zOq c (M 156 (n * 8 + h)) (M 157 (n * 8 + h)) h) h
theorem zts_9 {th : Int → Int} {s c : Int} (hth : ∀ h, 0 ≤ h → h < c → 1 ≤ th h ∧ th h ≤ 9) (hs : ∀ o, 0 ≤ o → zb s o = true → o < c) : 0 ≤ zts th s ∧ zts th s ≤ 72 := by
  have := zsm_b (f := fun h => if zb s h = true then th h else 0) (B := 9) 8 (fun i a b => by
    show 0 ≤ (if zb s i = true then th i else 0) ∧ (if zb s i = true then th i else 0) ≤ 9
    split
    · rename_i q; have := hth i a (hs i a q); omega
    · omega)
  exact ⟨this.1, by have := this.2; unfold zts; omega⟩
theorem s_Thrift_hopeWithLast {d : Nat} {c w tb n h : Int} {th len nam bt : Int → Int} {M : zM} {F : Int → zM → Prop} (hc : 0 ≤ c ∧ c ≤ 8) (hw : 0 ≤ w ∧ w ≤ 99) (hth : ∀ h, 0 ≤ h → h < c → 1 ≤ th h ∧ th h ≤ 9) (hT : zTf c w tb th len nam bt M) (hbt : zByt c th bt) (hn : 0 ≤ n ∧ n ≤ 8) (hL : ∀ h, 0 ≤ h → h < c → (0 ≤ M 156 (n * 8 + h) ∧ M 156 (n * 8 + h) < 256) ∧ (∀ o, 0 ≤ o → zb (M 156 (n * 8 + h)) o = true → o < c) ∧ 0 ≤ M 157 (n * 8 + h) ∧ M 157 (n * 8 + h) < 256) (hh : 0 ≤ h ∧ h < c) (H : F (zHv c w th bt n M h) M) : zCi (d + 2) 84 [z_r (8, 0) 151, z_i n, z_i h] M F := by
  obtain ⟨t1, t2, t3, t4, t5, t6⟩ := hT
  obtain ⟨a1, a2, a3⟩ := hL h hh.1 hh.2
  have ix : z_wr (z_wr (n * 8) + h) = n * 8 + h := by rw [zw (x := n * 8) (by omega) (by omega), zw (by omega) (by omega)]
  have sr := zbs_lt a1 (i := h) (by omega)
  have sb : ∀ o, 0 ≤ o → zb (zbs (M 156 (n * 8 + h)) h) o = true → o < c := fun o o0 z => by
    rw [zb_zbs (by omega) (by omega) o0, Bool.or_eq_true, decide_eq_true_iff] at z
    rcases z with z | z
    · exact a2 o o0 z
    · omega
  have lt := (zb_lt2 hc sr.1).mpr sb
  have r9 := zts_9 hth sb
  have es := t4 _ sr.1 lt
  unfold zHv zHw at H
  dsimp only at H
  refine e_Thrift_hopeWithLast (fun P hP => ?_)
  rw [ix, t2]
  show (0 ≤ n * 8 + h ∧ n * 8 + h < 72) ∧ (0 ≤ zbs (M 156 (n * 8 + h)) h ∧ zbs (M 156 (n * 8 + h)) h < 256) ∧ ((0 ≤ z_wr (w - M 153 (zbs (M 156 (n * 8 + h)) h)) → zCi (d + 1) 255 [z_i (zbs (M 156 (n * 8 + h)) h)] M (fun v14 M13 => zCi (d + 1) 85 [z_r (8, 0) 151, z_i n, z_i h] M13 (fun v16 M15 => P n h (zbs (M 156 (n * 8 + h)) h) (z_wr (w - M 153 (zbs (M 156 (n * 8 + h)) h))) v14 v16 0 M15))) ∧ (¬ 0 ≤ z_wr (w - M 153 (zbs (M 156 (n * 8 + h)) h)) → F 0 M))
  rw [es, zw (x := w - zts th (zbs (M 156 (n * 8 + h)) h)) (by omega) (by omega)]
  refine ⟨by omega, sr, fun q => ?_, fun q => by rw [if_pos (by omega)] at H; exact H⟩
  rw [if_neg (by omega)] at H
  refine s_bitCount sr (s_Thrift_openFor t1 hc.2 hn hh ?_)
  have ob := (zOq_b hc a1 a3 (h := h) (by omega)).1
  generalize zOq c (M 156 (n * 8 + h)) (M 157 (n * 8 + h)) h = op at H ob
  have cr := zcard_r (zbs (M 156 (n * 8 + h)) h)
  generalize hS : zbs (M 156 (n * 8 + h)) h = S at H sr sb lt r9 cr q
  have loop : ∀ (m : Nat) (i r k : Int), i + m = c → 0 ≤ i → (0 ≤ r ∧ r ≤ 99) → (0 ≤ k ∧ k ≤ 8 + i) → F (k + zgd (fun i => zb op (bt i) && decide (zts th (zbs (z_or S (M 156 (n * 8 + bt i))) (bt i)) ≤ w)) (fun i => th (bt i)) m i r) M → P n h S r k op i M := by
    intro m
    induction m with
    | zero =>
      intro i r k hi i0 hr hk hF
      have hF : F (k + 0) M := hF
      rw [Int.add_zero] at hF
      exact hP _ _ _ _ _ _ _ _ ⟨fun _ => hF, fun z => absurd (by omega) z⟩
    | succ m ih =>
      intro i r k hi i0 hr hk hF
      have hF : F (k + (if (zb op (bt i) && decide (zts th (zbs (z_or S (M 156 (n * 8 + bt i))) (bt i)) ≤ w)) = true ∧ th (bt i) ≤ r then 1 + zgd (fun i => zb op (bt i) && decide (zts th (zbs (z_or S (M 156 (n * 8 + bt i))) (bt i)) ≤ w)) (fun i => th (bt i)) m (i + 1) (r - th (bt i)) else zgd (fun i => zb op (bt i) && decide (zts th (zbs (z_or S (M 156 (n * 8 + bt i))) (bt i)) ≤ w)) (fun i => th (bt i)) m (i + 1) r)) M := hF
      have nx := ih (i + 1)
      obtain ⟨b1, b2⟩ := hbt.1 i i0 (by omega)
      have e5 := t5 i i0 (by omega)
      have t9 := hth _ b1 b2
      obtain ⟨c1, c2, c3⟩ := hL _ b1 b2
      have ix2 : z_wr (z_wr (n * 8) + bt i) = n * 8 + bt i := by rw [zw (x := n * 8) (by omega) (by omega), zw (by omega) (by omega)]
      have e1 : M 153 (z_shl 1 (bt i)) = th (bt i) := by
        have l1 := z_sh1_lt (i := bt i) (by omega)
        rw [t4 _ l1.1 ((zb_lt2 hc l1.1).mpr (fun o o0 z => by rw [zb_sh1 (by omega) o0] at z; have := of_decide_eq_true z; omega)), zts_1 (by omega)]
      have or1 := z_or_lt sr c1
      have nr := zbs_lt or1 (i := bt i) (by omega)
      have nb : ∀ o, 0 ≤ o → zb (zbs (z_or S (M 156 (n * 8 + bt i))) (bt i)) o = true → o < c := fun o o0 z => by
        rw [zb_zbs (by omega) (by omega) o0, zb_or (by omega) (by omega), Bool.or_eq_true, Bool.or_eq_true, decide_eq_true_iff] at z
        rcases z with (z | z) | z
        · exact sb o o0 z
        · exact c2 o o0 z
        · omega
      have e2 := t4 _ nr.1 ((zb_lt2 hc nr.1).mpr nb)
      refine hP _ _ _ _ _ _ _ _ ⟨fun z => absurd z (by omega), fun _ => ?_⟩
      rw [e5, e1, ix2, zw (x := i + 1) (by omega) (by omega)]
      refine ⟨by omega, z_sh1_lt (by omega), s_W_isIn (by omega) (by omega) ?_⟩
      have skip : ¬ ((zb op (bt i) && decide (zts th (zbs (z_or S (M 156 (n * 8 + bt i))) (bt i)) ≤ w)) = true ∧ th (bt i) ≤ r) → P n h S r k op (i + 1) M := fun no => by
        rw [if_neg no] at hF
        exact nx r k (by omega) (by omega) hr (by omega) hF
      by_cases z : zb op (bt i) = true
      · rw [if_pos z]
        refine ⟨fun y => absurd y (by decide), fun _ => ⟨fun y => skip (fun no => by have := no.2; omega), fun y => ⟨by omega, nr, ?_⟩⟩⟩
        show (M 151 9 < M 153 (zbs (z_or S (M 156 (n * 8 + bt i))) (bt i)) → _) ∧ (¬ M 151 9 < M 153 (zbs (z_or S (M 156 (n * 8 + bt i))) (bt i)) → _)
        rw [e2, t2]
        refine ⟨fun u => skip (fun no => ?_), fun u => ?_⟩
        · have := no.1
          rw [Bool.and_eq_true, decide_eq_true_iff] at this
          omega
        · rw [if_pos ⟨by rw [z, decide_eq_true (by omega)]; rfl, by omega⟩] at hF
          rw [zw (x := r - th (bt i)) (by omega) (by omega), zw (x := k + 1) (by omega) (by omega)]
          refine nx (r - th (bt i)) (k + 1) (by omega) (by omega) (by omega) (by omega) ?_
          rw [show k + 1 + zgd (fun i => zb op (bt i) && decide (zts th (zbs (z_or S (M 156 (n * 8 + bt i))) (bt i)) ≤ w)) (fun i => th (bt i)) m (i + 1) (r - th (bt i)) = k + (1 + zgd (fun i => zb op (bt i) && decide (zts th (zbs (z_or S (M 156 (n * 8 + bt i))) (bt i)) ≤ w)) (fun i => th (bt i)) m (i + 1) (r - th (bt i))) by omega]
          exact hF
      · rw [if_neg z]
        refine ⟨fun _ => skip (fun no => ?_), fun y => absurd rfl y⟩
        have := no.1
        rw [Bool.and_eq_true] at this
        exact z this.1
  exact loop c.toNat 0 _ _ (by omega) (by omega) (by omega) (by omega) H
theorem zLv_r {c n : Int} {len nam p : Int → Int} {M : zM} (h : zLv c len nam p n M) : ∀ h, 0 ≤ h → h < c → (0 ≤ M 156 (n * 8 + h) ∧ M 156 (n * 8 + h) < 256) ∧ (∀ o, 0 ≤ o → zb (M 156 (n * 8 + h)) o = true → o < c) ∧ 0 ≤ M 157 (n * 8 + h) ∧ M 157 (n * 8 + h) < 256 := fun x a b => by
  obtain ⟨⟨h1, h2⟩, h3, h4⟩ := h x a b
  exact ⟨h1, fun o o0 z => ((h2 o o0).mp z).1, h3⟩
theorem s_Thrift_hope {d : Nat} {c w tb n : Int} {th len nam bt p : Int → Int} {M : zM} {F : Int → zM → Prop} (hc : 0 ≤ c ∧ c ≤ 8) (hw : 0 ≤ w ∧ w ≤ 99) (hth : ∀ h, 0 ≤ h → h < c → 1 ≤ th h ∧ th h ≤ 9) (hT : zTf c w tb th len nam bt M) (hbt : zByt c th bt) (hn : 0 ≤ n ∧ n ≤ 8) (hL : zLv c len nam p n M) (H : F (zmx (zHv c w th bt n M) c.toNat) M) : zCi (d + 3) 83 [z_r (8, 0) 151, z_i n] M F := by
  refine e_Thrift_hope (fun P hP => ?_)
  have h8 := hT.1
  have loop : ∀ (m i : Nat), (i : Int) + m = c → P n (zmx (zHv c w th bt n M) i) (i : Int) M := by
    intro m
    induction m with
    | zero =>
      intro i hi
      refine hP _ _ _ _ ⟨fun _ => ?_, fun z => absurd (by omega) z⟩
      rw [show i = c.toNat by omega]; exact H
    | succ m ih =>
      intro i hi
      refine hP _ _ _ _ ⟨fun z => absurd z (by omega), fun _ => s_Thrift_hopeWithLast hc hw hth hT hbt hn (zLv_r hL) (by omega) ?_⟩
      have nx := ih (i + 1) (by omega)
      rw [zw (x := (i : Int) + 1) (by omega) (by omega)]
      rw [show ((i + 1 : Nat) : Int) = (i : Int) + 1 by omega] at nx
      exact nx
  exact loop c.toNat 0 (by omega)
theorem s_Thrift_isSettled {d : Nat} {n c : Int} {M : zM} {F : Int → zM → Prop} (h8 : M 151 8 = c) (hc : 0 ≤ c ∧ c ≤ 8) (hn : 0 ≤ n ∧ n ≤ 8) (H1 : (∀ h, 0 ≤ h → h < c → zOq c (M 156 (n * 8 + h)) (M 157 (n * 8 + h)) h = 0) → F 1 M) (H0 : (∃ h, (0 ≤ h ∧ h < c) ∧ zOq c (M 156 (n * 8 + h)) (M 157 (n * 8 + h)) h ≠ 0) → F 0 M) : zCi (d + 2) 86 [z_r (8, 0) 151, z_i n] M F := by
  refine e_Thrift_isSettled (fun P hP => ?_)
  have loop : ∀ (m i : Nat), (i : Int) + m = c → (∀ h, 0 ≤ h → h < (i : Int) → zOq c (M 156 (n * 8 + h)) (M 157 (n * 8 + h)) h = 0) → P n (i : Int) M := by
    intro m
    induction m with
    | zero =>
      intro i hi e
      exact hP _ _ _ ⟨fun _ => H1 (fun h a b => e h a (by omega)), fun z => absurd (by omega) z⟩
    | succ m ih =>
      intro i hi e
      refine hP _ _ _ ⟨fun z => absurd z (by omega), fun _ => s_Thrift_openFor h8 hc.2 hn (by omega) ⟨fun z => ?_, fun z => H0 ⟨i, by omega, z⟩⟩⟩
      have nx := ih (i + 1) (by omega) (fun h a b => by
        by_cases q : h = i
        · rw [q]; exact z
        · exact e h a (by omega))
      rw [zw (x := (i : Int) + 1) (by omega) (by omega)]
      rw [show ((i + 1 : Nat) : Int) = (i : Int) + 1 by omega] at nx
      exact nx
  exact loop c.toNat 0 (by omega) (fun h a b => by omega)
/-- what a level says of an order that begins so -/
theorem zLv_St {c tb n : Int} {len nam p t : Int → Int} {M : zM} (ht : zTn c t len nam) (hb : zTl c tb len nam) (hL : zLv c len nam p n M) (hX : zXt tb p n t) : zSty c (zPg c t len nam) (fun h => M 156 (n * 8 + h)) (fun h => zOq c (M 156 (n * 8 + h)) (M 157 (n * 8 + h)) h) := by
  have hc := ht.1
  refine ⟨fun h h0 h1 => ?_, fun h h0 h1 o o0 o1 l z => ?_⟩
  · obtain ⟨⟨r1, r2⟩, -⟩ := hL h h0 h1
    refine ⟨r1, fun o o0 z => ?_⟩
    obtain ⟨y1, y2⟩ := (r2 o o0).mp z
    exact ⟨y1, zEA_lt ht hb hX ⟨o0, y1⟩ ⟨h0, h1⟩ y2⟩
  · obtain ⟨⟨r1, r2⟩, r3, r4⟩ := hL h h0 h1
    show zb (zOq c (M 156 (n * 8 + h)) (M 157 (n * 8 + h)) h) o = true
    refine ((zOq_b hc r1 r3 (h := h) (by omega)).2 o o0).mpr ⟨o1, z, ?_, fun e => by rw [e] at l; omega⟩
    cases y : zb (M 157 (n * 8 + h)) o
    · rfl
    · have := ((r4 o o0).mp y).2
      have := zEA_lt ht hb hX ⟨h0, h1⟩ ⟨o0, o1⟩ this
      omega
/-- settled, if all letters stand -/
theorem zLv_all {c tb n : Int} {len nam p : Int → Int} {M : zM} (hn : znm c len nam) (hb : zTl c tb len nam) (hL : zLv c len nam p n M) (all : ∀ y, 0 ≤ y → y < 8 → zb tb y = true → ∃ j, (0 ≤ j ∧ j < n) ∧ p j = y) : ∀ h, 0 ≤ h → h < c → zOq c (M 156 (n * 8 + h)) (M 157 (n * 8 + h)) h = 0 := fun h h0 h1 => by
  have hc := hn.1
  obtain ⟨⟨r1, r2⟩, r3, r4⟩ := hL h h0 h1
  obtain ⟨b1, b2⟩ := zOq_b hc r1 r3 (h := h) (by omega)
  refine zb_ext b1.1 (by omega) (fun o o0 => ?_)
  rw [zb_0]
  cases y : zb (zOq c (M 156 (n * 8 + h)) (M 157 (n * 8 + h)) h) o
  · rfl
  · obtain ⟨y1, y2, y3, y4⟩ := (b2 o o0).mp y
    rcases zEA_all hn hb ⟨o0, y1⟩ ⟨h0, h1⟩ (fun e => y4 e.symm) all with z | z
    · have := (r2 o o0).mpr ⟨y1, z⟩
      rw [y2] at this; cases this
    · have := (r4 o o0).mpr ⟨y1, z⟩
      rw [y3] at this; cases this
