/-! BITS: sets of small numbers -/
theorem zb_of {a : Int} (h0 : 0 ≤ a) (h1 : a < 2147483648) : (Int32.ofInt a).toBitVec.toNat = a.toNat := by
  have h2 : (Int32.ofInt a).toBitVec = BitVec.ofInt 32 a := rfl
  rw [h2, BitVec.toNat_ofInt]
  omega
theorem zb_back {x : Int32} {n : Nat} (h : x.toBitVec.toNat = n) (hn : n < 2147483648) : x.toInt = (n : Int) := by
  show x.toBitVec.toInt = n
  rw [BitVec.toInt_eq_toNat_of_lt (by rw [h]; omega), h]
theorem z_and_n {a b : Int} (ha : 0 ≤ a ∧ a < 2147483648) (hb : 0 ≤ b ∧ b < 2147483648) : z_and a b = ((a.toNat &&& b.toNat : Nat) : Int) := by
  unfold z_and
  have hlt : a.toNat &&& b.toNat < 2147483648 := Nat.lt_of_le_of_lt Nat.and_le_left (by omega)
  refine zb_back ?_ hlt
  rw [Int32.toBitVec_and, BitVec.toNat_and, zb_of ha.1 ha.2, zb_of hb.1 hb.2]
theorem z_or_n {a b : Int} (ha : 0 ≤ a ∧ a < 2147483648) (hb : 0 ≤ b ∧ b < 2147483648) : z_or a b = ((a.toNat ||| b.toNat : Nat) : Int) := by
  unfold z_or
  have hlt : a.toNat ||| b.toNat < 2 ^ 31 := Nat.or_lt_two_pow (by omega) (by omega)
  refine zb_back ?_ (by omega)
  rw [Int32.toBitVec_or, BitVec.toNat_or, zb_of ha.1 ha.2, zb_of hb.1 hb.2]
theorem z_and_not {a b : Int} (ha : 0 ≤ a ∧ a < 2147483648) (hb : 0 ≤ b ∧ b < 2147483648) : z_and a (z_xor b (-1)) = ((a.toNat ^^^ (a.toNat &&& b.toNat) : Nat) : Int) := by
  unfold z_and z_xor
  have hlt : a.toNat ^^^ (a.toNat &&& b.toNat) < 2 ^ 31 := Nat.xor_lt_two_pow (by omega) (Nat.lt_of_le_of_lt Nat.and_le_left (by omega))
  refine zb_back ?_ (by omega)
  rw [Int32.ofInt_toInt, Int32.toBitVec_and, Int32.toBitVec_xor, BitVec.toNat_and, BitVec.toNat_xor, zb_of ha.1 ha.2, zb_of hb.1 hb.2]
  have hm : (Int32.ofInt (-1)).toBitVec.toNat = 2 ^ 32 - 1 := by decide
  rw [hm]
  apply Nat.eq_of_testBit_eq
  intro i
  simp only [Nat.testBit_and, Nat.testBit_xor, Nat.testBit_two_pow_sub_one]
  by_cases hi : i < 32
  · simp only [hi, decide_true]
    cases a.toNat.testBit i <;> cases b.toNat.testBit i <;> rfl
  · have : a.toNat.testBit i = false := Nat.testBit_lt_two_pow (Nat.lt_of_lt_of_le (show a.toNat < 2 ^ 32 by omega) (Nat.pow_le_pow_right (by omega) (by omega)))
    rw [this]; rfl
/-- the shifts that occur: by 0 .. 30 -/
theorem zb_sh {i : Int} (h : 0 ≤ i ∧ i < 32) : (Int32.ofInt i &&& 31) = Int32.ofInt i := by
  have h2 : z_and i 31 = i := by
    rw [z_and_n ⟨h.1, by omega⟩ ⟨by decide, by decide⟩]
    have : i.toNat &&& 31 = i.toNat := by
      rw [show (31 : Nat) = 2 ^ 5 - 1 from rfl, Nat.and_two_pow_sub_one_eq_mod]
      omega
    rw [show (31 : Int).toNat = 31 from rfl, this]
    omega
  have h3 : (Int32.ofInt i &&& Int32.ofInt 31).toInt = i := h2
  apply Int32.toInt_inj.mp
  rw [zn_t ⟨by omega, by omega⟩]
  exact h3
theorem z_shl1 {i : Int} (h : 0 ≤ i ∧ i < 31) : z_shl 1 i = ((2 ^ i.toNat : Nat) : Int) := by
  obtain ⟨n, rfl⟩ := Int.eq_ofNat_of_zero_le h.1
  have hn : n < 31 := by omega
  have key : ∀ n, n < 31 → z_shl 1 (Int.ofNat n) = ((2 ^ n : Nat) : Int) := by decide +kernel
  exact key n hn
theorem z_shr_n {a i : Int} (ha : 0 ≤ a ∧ a < 2147483648) (h : 0 ≤ i ∧ i < 32) : z_shr a i = ((a.toNat / 2 ^ i.toNat : Nat) : Int) := by
  unfold z_shr
  rw [zb_sh h]
  have hi : ((Int32.ofInt i).toBitVec.smod 32).toNat = i.toNat := by
    obtain ⟨n, rfl⟩ := Int.eq_ofNat_of_zero_le h.1
    have hn : n < 32 := by omega
    have key : ∀ n, n < 32 → ((Int32.ofInt (Int.ofNat n)).toBitVec.smod 32).toNat = (Int.ofNat n).toNat := by decide +kernel
    exact key n hn
  have h2 := pk_shr (Int32.ofInt a) (Int32.ofInt i) i.toNat hi
  rw [h2, zn_t ⟨by omega, ha.2⟩]
  obtain ⟨n, rfl⟩ := Int.eq_ofNat_of_zero_le ha.1
  show ((n : Int) >>> i.toNat) = _
  rw [Int.shiftRight_eq_div_pow]
  simp
/-- is i in the set s -/
def zb (s i : Int) : Bool := s.toNat.testBit i.toNat
theorem zb_isIn {s i : Int} (hs : 0 ≤ s ∧ s < 2147483648) (h : 0 ≤ i ∧ i < 31) : z_and (z_shr s i) 1 = if zb s i = true then 1 else 0 := by
  rw [z_shr_n hs ⟨h.1, by omega⟩]
  have hlt : s.toNat / 2 ^ i.toNat ≤ s.toNat := Nat.div_le_self _ _
  rw [z_and_n ⟨Int.natCast_nonneg _, by omega⟩ ⟨by decide, by decide⟩]
  unfold zb
  rw [Nat.testBit_eq_decide_div_mod_eq]
  rw [show ((s.toNat / 2 ^ i.toNat : Nat) : Int).toNat = s.toNat / 2 ^ i.toNat from rfl, show (1 : Int).toNat = 1 from rfl, Nat.and_one_is_mod]
  rcases Nat.mod_two_eq_zero_or_one (s.toNat / 2 ^ i.toNat) with h1 | h1
  · rw [h1]; rfl
  · rw [h1]; rfl
theorem s_W_isIn {d : Nat} {s i : Int} {M : zM} {F : Int → zM → Prop} (hs : 0 ≤ s ∧ s < 2147483648) (hi : 0 ≤ i ∧ i < 31) (h : F (if zb s i = true then 1 else 0) M) : zCi (d + 1) 17 [z_i s, z_i i] M F := by
  refine e_W_isIn ?_
  rw [zb_isIn hs hi]
  split
  · rename_i q; rw [if_pos q] at h; exact ⟨fun z => absurd z (by decide), fun _ => h⟩
  · rename_i q; rw [if_neg q] at h; exact ⟨fun _ => h, fun z => absurd rfl z⟩
theorem s_M_has {d : Nat} {s i : Int} {M : zM} {F : Int → zM → Prop} (hs : 0 ≤ s ∧ s < 2147483648) (hi : 0 ≤ i ∧ i < 31) (h : F (if zb s i = true then 1 else 0) M) : zCi (d + 1) 192 [z_i s, z_i i] M F := by
  refine e_M_has ?_
  rw [zb_isIn hs hi]
  split
  · rename_i q; rw [if_pos q] at h; exact ⟨fun z => absurd rfl z, fun _ => h⟩
  · rename_i q; rw [if_neg q] at h; exact ⟨fun _ => h, fun z => absurd (by decide) z⟩
/-- i is put into s -/
def zbs (s i : Int) : Int := z_or s (z_shl 1 i)
theorem zbs_n {s i : Int} (hs : 0 ≤ s ∧ s < 2147483648) (hi : 0 ≤ i ∧ i < 31) : zbs s i = ((s.toNat ||| 2 ^ i.toNat : Nat) : Int) := by
  unfold zbs
  have h2 : (2 : Nat) ^ i.toNat < 2 ^ 31 := Nat.pow_lt_pow_right (by omega) (by omega)
  rw [z_shl1 hi, z_or_n hs ⟨Int.natCast_nonneg _, by omega⟩]
  rfl
theorem zbs_lt {s i : Int} (hs : 0 ≤ s ∧ s < 256) (hi : 0 ≤ i ∧ i < 8) : 0 ≤ zbs s i ∧ zbs s i < 256 := by
  rw [zbs_n ⟨hs.1, by omega⟩ ⟨hi.1, by omega⟩]
  have h2 : s.toNat ||| 2 ^ i.toNat < 2 ^ 8 := Nat.or_lt_two_pow (by omega) (Nat.pow_lt_pow_right (by omega) (by omega))
  exact ⟨Int.natCast_nonneg _, by omega⟩
theorem zb_zbs {s i j : Int} (hs : 0 ≤ s ∧ s < 2147483648) (hi : 0 ≤ i ∧ i < 31) (hj : 0 ≤ j) : zb (zbs s i) j = (zb s j || decide (i = j)) := by
  rw [zbs_n hs hi]
  unfold zb
  rw [show ((s.toNat ||| 2 ^ i.toNat : Nat) : Int).toNat = s.toNat ||| 2 ^ i.toNat from rfl, Nat.testBit_or, Nat.testBit_two_pow]
  congr 1
  by_cases h : i = j
  · subst h; simp
  · rw [decide_eq_false h, decide_eq_false (by omega)]
/-- i is taken out of s -/
def zbr (s i : Int) : Int := z_and s (z_xor (z_shl 1 i) (-1))
theorem zbr_n {s i : Int} (hs : 0 ≤ s ∧ s < 2147483648) (hi : 0 ≤ i ∧ i < 31) : zbr s i = ((s.toNat ^^^ (s.toNat &&& 2 ^ i.toNat) : Nat) : Int) := by
  unfold zbr
  have h2 : (2 : Nat) ^ i.toNat < 2 ^ 31 := Nat.pow_lt_pow_right (by omega) (by omega)
  rw [z_shl1 hi, z_and_not hs ⟨Int.natCast_nonneg _, by omega⟩]
  rfl
theorem zb_zbr {s i j : Int} (hs : 0 ≤ s ∧ s < 2147483648) (hi : 0 ≤ i ∧ i < 31) (hj : 0 ≤ j) : zb (zbr s i) j = (zb s j && !decide (i = j)) := by
  rw [zbr_n hs hi]
  unfold zb
  rw [show ((s.toNat ^^^ (s.toNat &&& 2 ^ i.toNat) : Nat) : Int).toNat = s.toNat ^^^ (s.toNat &&& 2 ^ i.toNat) from rfl, Nat.testBit_xor, Nat.testBit_and, Nat.testBit_two_pow]
  by_cases h : i = j
  · subst h
    cases s.toNat.testBit i.toNat <;> simp
  · rw [decide_eq_false h, decide_eq_false (show ¬ i.toNat = j.toNat by omega)]
    cases s.toNat.testBit j.toNat <;> rfl
theorem zbr_lt {s i : Int} (hs : 0 ≤ s ∧ s < 256) (hi : 0 ≤ i ∧ i < 31) : 0 ≤ zbr s i ∧ zbr s i < 256 := by
  rw [zbr_n ⟨hs.1, by omega⟩ hi]
  have h2 : s.toNat ^^^ (s.toNat &&& 2 ^ i.toNat) < 2 ^ 8 := Nat.xor_lt_two_pow (by omega) (Nat.lt_of_le_of_lt Nat.and_le_left (by omega))
  exact ⟨Int.natCast_nonneg _, by omega⟩
/-- sets of at most n numbers are equal if they hold the same -/
theorem zb_ext {s t : Int} (hs : 0 ≤ s) (ht : 0 ≤ t) (h : ∀ j, 0 ≤ j → zb s j = zb t j) : s = t := by
  have h2 : s.toNat = t.toNat := Nat.eq_of_testBit_eq (fun i => h (i : Int) (by omega))
  omega
theorem zb_0 (j : Int) : zb 0 j = false := by unfold zb; simp
theorem zb_ge {s j : Int} (hs : 0 ≤ s ∧ s < 256) (hj : 8 ≤ j) : zb s j = false := by
  unfold zb
  exact Nat.testBit_lt_two_pow (Nat.lt_of_lt_of_le (show s.toNat < 2 ^ 8 by omega) (Nat.pow_le_pow_right (by omega) (by omega)))
/-- how many of 0 .. 7 a set holds -/
def zcard (s : Int) : Int := (if zb s 0 then 1 else 0) + (if zb s 1 then 1 else 0) + (if zb s 2 then 1 else 0) + (if zb s 3 then 1 else 0) + (if zb s 4 then 1 else 0) + (if zb s 5 then 1 else 0) + (if zb s 6 then 1 else 0) + (if zb s 7 then 1 else 0)
theorem s_bitCount {d : Nat} {s : Int} {M : zM} {F : Int → zM → Prop} (hs : 0 ≤ s ∧ s < 256) (h : F (zcard s) M) : zCi (d + 1) 255 [z_i s] M F := by
  refine e_Integer_bitCount ?_
  obtain ⟨n, rfl⟩ := Int.eq_ofNat_of_zero_le hs.1
  have hn : n < 256 := by omega
  have key : ∀ n, n < 256 → zcard (Int.ofNat n) = (z_and (z_wr ((z_wr ((z_and (z_wr ((z_wr ((z_and (z_wr ((Int.ofNat n) - (z_and (z_ushr (Int.ofNat n) 1) 1431655765))) 858993459) + (z_and (z_ushr (z_wr ((Int.ofNat n) - (z_and (z_ushr (Int.ofNat n) 1) 1431655765))) 2) 858993459))) + (z_ushr (z_wr ((z_and (z_wr ((Int.ofNat n) - (z_and (z_ushr (Int.ofNat n) 1) 1431655765))) 858993459) + (z_and (z_ushr (z_wr ((Int.ofNat n) - (z_and (z_ushr (Int.ofNat n) 1) 1431655765))) 2) 858993459))) 4))) 252645135) + (z_ushr (z_and (z_wr ((z_wr ((z_and (z_wr ((Int.ofNat n) - (z_and (z_ushr (Int.ofNat n) 1) 1431655765))) 858993459) + (z_and (z_ushr (z_wr ((Int.ofNat n) - (z_and (z_ushr (Int.ofNat n) 1) 1431655765))) 2) 858993459))) + (z_ushr (z_wr ((z_and (z_wr ((Int.ofNat n) - (z_and (z_ushr (Int.ofNat n) 1) 1431655765))) 858993459) + (z_and (z_ushr (z_wr ((Int.ofNat n) - (z_and (z_ushr (Int.ofNat n) 1) 1431655765))) 2) 858993459))) 4))) 252645135) 8))) + (z_ushr (z_wr ((z_and (z_wr ((z_wr ((z_and (z_wr ((Int.ofNat n) - (z_and (z_ushr (Int.ofNat n) 1) 1431655765))) 858993459) + (z_and (z_ushr (z_wr ((Int.ofNat n) - (z_and (z_ushr (Int.ofNat n) 1) 1431655765))) 2) 858993459))) + (z_ushr (z_wr ((z_and (z_wr ((Int.ofNat n) - (z_and (z_ushr (Int.ofNat n) 1) 1431655765))) 858993459) + (z_and (z_ushr (z_wr ((Int.ofNat n) - (z_and (z_ushr (Int.ofNat n) 1) 1431655765))) 2) 858993459))) 4))) 252645135) + (z_ushr (z_and (z_wr ((z_wr ((z_and (z_wr ((Int.ofNat n) - (z_and (z_ushr (Int.ofNat n) 1) 1431655765))) 858993459) + (z_and (z_ushr (z_wr ((Int.ofNat n) - (z_and (z_ushr (Int.ofNat n) 1) 1431655765))) 2) 858993459))) + (z_ushr (z_wr ((z_and (z_wr ((Int.ofNat n) - (z_and (z_ushr (Int.ofNat n) 1) 1431655765))) 858993459) + (z_and (z_ushr (z_wr ((Int.ofNat n) - (z_and (z_ushr (Int.ofNat n) 1) 1431655765))) 2) 858993459))) 4))) 252645135) 8))) 16))) 63) := by decide +kernel
  have h : F (zcard (Int.ofNat n)) M := h
  rw [key n hn] at h
  exact h
