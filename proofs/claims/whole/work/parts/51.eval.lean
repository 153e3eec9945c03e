/-! the class's streaming reader of a rule has the value of the code -/
def zKv (a0 : Nat) (sg : Int → Int) (e : Int) (E : Int → Int → Int → zM → Prop) (m : Nat) (k p p' v : Int) : Prop := match m with
  | 0 => ∀ (B : zM) (x q : Int) (M : zM), B a0 1 = e → B (a0 + 1) = sg → zRL a0 B k x 0 0 43 q 0 0 M → (∀ (x' c' s' a' q' o' : Int) (M' : zM), zRL a0 B k x' c' s' a' q' o' 0 M' → zcv c' x' (zcm s' a' q') = v → E 1 0 p' M') → E 0 0 p M
  | 1 => ∀ (B : zM) (x c q : Int) (M : zM), B a0 1 = e → B (a0 + 1) = sg → zRL a0 B k x c 0 43 q 0 0 M → (∀ (s' a' q' o' : Int) (M' : zM), zRL a0 B k x c s' a' q' o' 0 M' → zcm s' a' q' = v → E 1 0 p' M') → E 0 0 p M
  | 2 => ∀ (B : zM) (x c s a q : Int) (M : zM), B a0 1 = e → B (a0 + 1) = sg → zRL a0 B k x c s a q 0 0 M → (∀ (o' : Int) (M' : zM), zRL a0 B k x c s a v o' 0 M' → E 1 0 p' M') → E 0 0 p M
  | _ => ∀ (B : zM) (x c s a q o n : Int) (M : zM), B a0 1 = e → B (a0 + 1) = sg → zRL a0 B k x c s a q o n M → (∀ M' : zM, zRL a0 B k x c s a (ztk o q (if n = 0 then v else z_wr (-v))) o 0 M' → E 1 0 p' M') → E 0 0 p M
def zKg (a0 : Nat) (sg : Int → Int) (e : Int) (E : Int → Int → Int → zM → Prop) (m : Nat) (k p p' : Int) (g : Int → Int) : Prop := match m with
  | 0 => ∀ (B : zM) (x s a q o : Int) (M : zM), B a0 1 = e → B (a0 + 1) = sg → zRL a0 B k x 0 s a q o 0 M → (∀ (x' c' s' a' q' o' : Int) (M' : zM), zRL a0 B k x' c' s' a' q' o' 0 M' → zcv c' x' (zcm s' a' q') = g (zcm s a q) → E 1 0 p' M') → E 1 0 p M
  | 1 => ∀ (B : zM) (x c s a q o : Int) (M : zM), B a0 1 = e → B (a0 + 1) = sg → zRL a0 B k x c s a q o 0 M → (∀ (s' a' q' o' : Int) (M' : zM), zRL a0 B k x c s' a' q' o' 0 M' → zcm s' a' q' = g (zcm s a q) → E 1 0 p' M') → E 1 0 p M
  | _ => ∀ (B : zM) (x c s a q o : Int) (M : zM), B a0 1 = e → B (a0 + 1) = sg → zRL a0 B k x c s a q o 0 M → (∀ (o' : Int) (M' : zM), zRL a0 B k x c s a (g q) o' 0 M' → E 1 0 p' M') → E 1 0 p M
theorem zat_lt {sg : Int → Int} {e p : Int} (h : zat sg e p ≠ -1) : p < e ∧ zat sg e p = sg p := by
  unfold zat at *
  by_cases c : p < e
  · rw [if_pos c]; exact ⟨c, rfl⟩
  · rw [if_neg c] at h; exact absurd rfl h
theorem znum_no {sg : Int → Int} {e p v : Int} (h : ¬ (48 ≤ zat sg e p ∧ zat sg e p ≤ 57)) : ∀ k : Nat, znum sg e k p v = (v, p)
  | 0 => rfl
  | k + 1 => by unfold znum; rw [if_neg h]
theorem znum_p (sg : Int → Int) (e : Int) : ∀ (k : Nat) (p v : Int), p ≤ e → p ≤ (znum sg e k p v).2 ∧ (znum sg e k p v).2 ≤ e
  | 0, p, v, h => ⟨Int.le_refl _, h⟩
  | k + 1, p, v, h => by
    unfold znum
    by_cases c : 48 ≤ zat sg e p ∧ zat sg e p ≤ 57
    · rw [if_pos c]
      have l := (zat_lt (sg := sg) (e := e) (p := p) (by omega)).1
      have := znum_p sg e k (p + 1) (10 * v + zat sg e p - 48) (by omega)
      omega
    · rw [if_neg c]; exact ⟨Int.le_refl _, h⟩
/-- what a step of the class's loop is -/
def zSt (d a0 : Nat) (sg : Int → Int) (e : Int) (vr : Int → Int) (E : Int → Int → Int → zM → Prop) : Prop := ∀ (B : zM) (k x c s a q o n x5 v p : Int) (M : zM), B a0 1 = e → B (a0 + 1) = sg → zRL a0 B k x c s a q o n M → 0 ≤ p → p < e →
  (48 ≤ sg p → sg p ≤ 57 → 0 ≤ v → v ≤ 99 → ¬ (48 ≤ zat sg e (p + 1) ∧ zat sg e (p + 1) ≤ 57) → (∀ M', zRL a0 B k x c s a (ztk o q (if n = 0 then 10 * v + sg p - 48 else z_wr (-(10 * v + sg p - 48)))) o 0 M' → E 1 0 (p + 1) M') → E x5 v p M) ∧
  (48 ≤ sg p → sg p ≤ 57 → 0 ≤ v → v ≤ 99 → (48 ≤ zat sg e (p + 1) ∧ zat sg e (p + 1) ≤ 57) → E 1 (10 * v + sg p - 48) (p + 1) M → E x5 v p M) ∧
  (0 ≤ zvar (sg p) → (∀ M', zRL a0 B k x c s a (ztk o q (if n = 0 then vr (zvar (sg p)) else z_wr (-(vr (zvar (sg p)))))) o 0 M' → E 1 0 (p + 1) M') → E x5 0 p M) ∧
  (¬ (48 ≤ sg p ∧ sg p ≤ 57) → zvar (sg p) < 0 → zCv (d + 2) 51 [z_r (6, 0) a0, z_i (sg p), z_i x5] M (fun M' => E (if sg p = 41 then 1 else 0) 0 (p + 1) M') → E x5 0 p M)
theorem zev_num {d a0 : Nat} {sg : Int → Int} {e : Int} {vr : Int → Int} {E : Int → Int → Int → zM → Prop} (hS : zSt d a0 sg e vr E) {B : zM} {k x c s a q o n : Int} {M : zM} (b1 : B a0 1 = e) (b2 : B (a0 + 1) = sg) (hr : zRL a0 B k x c s a q o n M) : ∀ (kk : Nat) (x5 p v : Int), kk ≤ 3 → 0 ≤ v → (kk = 3 → v = 0) → (kk = 2 → v ≤ 9) → (kk = 1 → v ≤ 99) → 0 ≤ p → 48 ≤ zat sg e p ∧ zat sg e p ≤ 57 → ¬ (48 ≤ zat sg e (znum sg e kk p v).2 ∧ zat sg e (znum sg e kk p v).2 ≤ 57) → (∀ M', zRL a0 B k x c s a (ztk o q (if n = 0 then (znum sg e kk p v).1 else z_wr (-(znum sg e kk p v).1))) o 0 M' → E 1 0 (znum sg e kk p v).2 M') → E x5 v p M
  | 0, x5, p, v, _, _, _, _, _, _, hd, hn, _ => absurd hd hn
  | kk + 1, x5, p, v, h3, v0, u3, u2, u1, p0, hd, hn, H => by
    obtain ⟨l1, l2⟩ := zat_lt (sg := sg) (e := e) (p := p) (by omega)
    have eu : znum sg e (kk + 1) p v = znum sg e kk (p + 1) (10 * v + zat sg e p - 48) := by
      show (if 48 ≤ zat sg e p ∧ zat sg e p ≤ 57 then znum sg e kk (p + 1) (10 * v + zat sg e p - 48) else (v, p)) = _
      rw [if_pos hd]
    rw [eu] at hn H
    obtain ⟨s1, s2, -, -⟩ := hS B k x c s a q o n x5 v p M b1 b2 hr p0 l1
    by_cases c1 : 48 ≤ zat sg e (p + 1) ∧ zat sg e (p + 1) ≤ 57
    · refine s2 (by omega) (by omega) v0 (by omega) c1 ?_
      rw [← l2]
      exact zev_num hS b1 b2 hr kk 1 (p + 1) (10 * v + zat sg e p - 48) (by omega) (by omega) (by omega) (by omega) (by omega) (by omega) c1 hn H
    · rw [znum_no c1] at H
      refine s1 (by omega) (by omega) v0 (by omega) c1 ?_
      rw [← l2]
      exact H
theorem zwr_nn {v : Int} (h : z_ri v) : z_wr (-(z_wr (-v))) = v := by unfold z_ri at h; unfold z_wr; omega
theorem zwk_ri (o x y : Int) : z_ri (zwk o x y) := by
  have t : ∀ b : Prop, [Decidable b] → z_ri (if b then 0 else 1) := fun b _ => by split <;> (unfold z_ri; omega)
  unfold zwk
  split
  · exact t _
  split
  · exact t _
  split
  · exact t _
  split
  · exact zn_wr_r _
  split
  · exact zn_wr_r _
  split
  · exact zn_wr_r _
  split
  · exact zn_wr_r _
  · unfold z_ri; omega
theorem zpr_nd {sg : Int → Int} {e : Int} {f m : Nat} {p k : Int} {cs : List Int} {p' k' : Int} {cs' : List Int} (hm : 10 ≤ m ∧ m ≤ 12) (h : zpr sg e f m p k cs = (true, p', k', cs')) (hn : ¬ (48 ≤ zat sg e p' ∧ zat sg e p' ≤ 57)) : ¬ (48 ≤ zat sg e p ∧ zat sg e p ≤ 57) := by
  cases f with
  | zero => unfold zpr at h; cases h
  | succ f =>
    unfold zpr at h
    rw [if_neg (by omega), if_neg (by omega)] at h
    by_cases c1 : zop (m - 10) (zat sg e p) < 0
    · rw [if_pos c1] at h
      obtain ⟨rfl, -, -⟩ : p = p' ∧ k = k' ∧ cs = cs' := by simpa using h
      exact hn
    · intro q
      apply c1
      unfold zop
      split <;> (repeat' (first | omega | split))
