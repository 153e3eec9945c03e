/-! NUMBERS: ints and longs of the machine beside integers -/
abbrev z_ri (x : Int) : Prop := -2147483648 ≤ x ∧ x < 2147483648
abbrev z_rl (x : Int) : Prop := -9223372036854775808 ≤ x ∧ x < 9223372036854775808
theorem zn_wr (x : Int) : z_wr x = x.bmod 4294967296 := by
  unfold z_wr
  have h := Int.bmod_def x 4294967296
  rw [h]
  split <;> omega
theorem zn_wl (x : Int) : z_wl x = x.bmod 18446744073709551616 := by
  unfold z_wl
  have h := Int.bmod_def x 18446744073709551616
  rw [h]
  split <;> omega
theorem zn_wr_r (x : Int) : z_ri (z_wr x) := by
  unfold z_wr z_ri
  omega
theorem zn_wl_r (x : Int) : z_rl (z_wl x) := by
  unfold z_wl z_rl
  omega
theorem zn_id {x : Int} (h : z_ri x) : z_wr x = x := by
  unfold z_wr; unfold z_ri at h
  omega
theorem zn_idl {x : Int} (h : z_rl x) : z_wl x = x := by
  unfold z_wl; unfold z_rl at h
  omega
theorem zn_of (x : Int) : (Int32.ofInt x).toInt = z_wr x := by
  rw [Int32.toInt_ofInt, zn_wr]
theorem zn_ofl (x : Int) : (Int64.ofInt x).toInt = z_wl x := by
  rw [Int64.toInt_ofInt, zn_wl]
theorem zn_t {x : Int} (h : z_ri x) : (Int32.ofInt x).toInt = x := by rw [zn_of, zn_id h]
theorem zn_tl {x : Int} (h : z_rl x) : (Int64.ofInt x).toInt = x := by rw [zn_ofl, zn_idl h]
theorem zn_o (x : Int) : Int32.ofInt (z_wr x) = Int32.ofInt x := Int32.toInt_inj.mp (by rw [zn_of, zn_of, zn_id (zn_wr_r x)])
theorem zn_ol (x : Int) : Int64.ofInt (z_wl x) = Int64.ofInt x := Int64.toInt_inj.mp (by rw [zn_ofl, zn_ofl, zn_idl (zn_wl_r x)])
theorem zn_r (x : Int32) : z_ri x.toInt := by
  have h1 := Int32.le_toInt x
  have h2 := Int32.toInt_lt x
  unfold z_ri
  omega
theorem zn_rl (x : Int64) : z_rl x.toInt := by
  have h1 := Int64.le_toInt x
  have h2 := Int64.toInt_lt x
  unfold z_rl
  omega
theorem zn_back (x : Int32) : Int32.ofInt x.toInt = x := Int32.ofInt_toInt x
theorem zn_add (a b : Int) : Int32.ofInt a + Int32.ofInt b = Int32.ofInt (z_wr (a + b)) := by rw [zn_o, Int32.ofInt_add]
theorem zn_sub (a b : Int) : Int32.ofInt a - Int32.ofInt b = Int32.ofInt (z_wr (a - b)) := by rw [zn_o, Int32.ofInt_sub]
theorem zn_mul (a b : Int) : Int32.ofInt a * Int32.ofInt b = Int32.ofInt (z_wr (a * b)) := by rw [zn_o, Int32.ofInt_mul]
theorem zn_neg (a : Int) : -Int32.ofInt a = Int32.ofInt (z_wr (-a)) := by rw [zn_o, Int32.ofInt_neg]
theorem zn_addl (a b : Int) : Int64.ofInt a + Int64.ofInt b = Int64.ofInt (z_wl (a + b)) := by rw [zn_ol, Int64.ofInt_add]
theorem zn_mull (a b : Int) : Int64.ofInt a * Int64.ofInt b = Int64.ofInt (z_wl (a * b)) := by rw [zn_ol, Int64.ofInt_mul]
theorem zn_div {a b : Int} (ha : z_ri a) (hb : z_ri b) : Int32.ofInt a / Int32.ofInt b = Int32.ofInt (z_wr (a.tdiv b)) := by
  apply Int32.toInt_inj.mp
  rw [zn_o, Int32.toInt_div, zn_t ha, zn_t hb, zn_of, zn_wr]
theorem zn_divl {a b : Int} (ha : z_rl a) (hb : z_rl b) : Int64.ofInt a / Int64.ofInt b = Int64.ofInt (z_wl (a.tdiv b)) := by
  apply Int64.toInt_inj.mp
  rw [zn_ol, Int64.toInt_div, zn_tl ha, zn_tl hb, zn_ofl, zn_wl]
theorem zn_tmod_r {a b : Int} (ha : z_ri a) : z_ri (a.tmod b) := by
  unfold z_ri at *
  have h1 : (a.tmod b).natAbs ≤ a.natAbs := by
    rw [Int.natAbs_tmod]
    exact Nat.mod_le _ _
  rcases Int.le_total 0 a with h | h
  · have := Int.tmod_nonneg b h
    omega
  · have h2 : a.tmod b = -((-a).tmod b) := by rw [Int.neg_tmod]; omega
    have := Int.tmod_nonneg b (show 0 ≤ -a by omega)
    omega
theorem zn_tmodl_r {a b : Int} (ha : z_rl a) : z_rl (a.tmod b) := by
  unfold z_rl at *
  have h1 : (a.tmod b).natAbs ≤ a.natAbs := by
    rw [Int.natAbs_tmod]
    exact Nat.mod_le _ _
  rcases Int.le_total 0 a with h | h
  · have := Int.tmod_nonneg b h
    omega
  · have h2 : a.tmod b = -((-a).tmod b) := by rw [Int.neg_tmod]; omega
    have := Int.tmod_nonneg b (show 0 ≤ -a by omega)
    omega
theorem zn_rem {a b : Int} (ha : z_ri a) (hb : z_ri b) : Int32.ofInt a - Int32.ofInt a / Int32.ofInt b * Int32.ofInt b = Int32.ofInt (a.tmod b) := by
  rw [zn_div ha hb, zn_o, ← Int32.ofInt_mul, ← Int32.ofInt_sub]
  congr 1
  have := Int.tdiv_mul_add_tmod a b
  omega
theorem zn_reml {a b : Int} (ha : z_rl a) (hb : z_rl b) : Int64.ofInt a - Int64.ofInt a / Int64.ofInt b * Int64.ofInt b = Int64.ofInt (a.tmod b) := by
  rw [zn_divl ha hb, zn_ol, ← Int64.ofInt_mul, ← Int64.ofInt_sub]
  congr 1
  have := Int.tdiv_mul_add_tmod a b
  omega
theorem zn_eq {a b : Int} (ha : z_ri a) (hb : z_ri b) : Int32.ofInt a = Int32.ofInt b ↔ a = b := by
  rw [← Int32.toInt_inj, zn_t ha, zn_t hb]
theorem zn_lt {a b : Int} (ha : z_ri a) (hb : z_ri b) : Int32.ofInt a < Int32.ofInt b ↔ a < b := by
  rw [Int32.lt_iff_toInt_lt, zn_t ha, zn_t hb]
theorem zn_le {a b : Int} (ha : z_ri a) (hb : z_ri b) : Int32.ofInt a ≤ Int32.ofInt b ↔ a ≤ b := by
  rw [Int32.le_iff_toInt_le, zn_t ha, zn_t hb]
theorem zn_eql {a b : Int} (ha : z_rl a) (hb : z_rl b) : Int64.ofInt a = Int64.ofInt b ↔ a = b := by
  rw [← Int64.toInt_inj, zn_tl ha, zn_tl hb]
theorem zn_ltl {a b : Int} (ha : z_rl a) (hb : z_rl b) : Int64.ofInt a < Int64.ofInt b ↔ a < b := by
  rw [Int64.lt_iff_toInt_lt, zn_tl ha, zn_tl hb]
theorem zn_i2l {a : Int} (ha : z_ri a) : (Int32.ofInt a).toInt64 = Int64.ofInt a := by
  apply Int64.toInt_inj.mp
  rw [Int32.toInt_toInt64, zn_t ha, zn_tl (by unfold z_ri at ha; unfold z_rl; omega)]
theorem zn_0 : Int32.ofInt 0 = 0 := rfl
theorem zn_r0 : z_ri 0 := by unfold z_ri; omega
theorem zn_cl {a : Int} (ha : z_ri a) (h : 0 ≤ a) : (Int32.ofInt a).toNatClampNeg = a.toNat := by
  show (Int32.ofInt a).toInt.toNat = a.toNat
  rw [zn_t ha]
theorem zn_in {a : Int} {n : Nat} (ha : z_ri a) (h0 : 0 ≤ a) (h : a < n) : vp_in (Int32.ofInt a) n := by
  rw [vp_in_iff, zn_t ha]
  exact ⟨h0, h⟩
