/-! the class's rule at level k: what stands there; the rest is as in B -/
def zRL (a0 : Nat) (B : zM) (k x c s a p o n : Int) (M : zM) : Prop := (M a0 9 = k ∧ 0 ≤ k ∧ k < 5) ∧ (M (a0 + 2) k = x ∧ M (a0 + 3) k = c ∧ M (a0 + 4) k = s ∧ M (a0 + 5) k = a ∧ M (a0 + 6) k = p ∧ M (a0 + 7) k = o ∧ M (a0 + 8) k = n) ∧ ∀ (b : Nat) (j : Int), (b = a0 ∧ j = 9) ∨ (a0 + 2 ≤ b ∧ b ≤ a0 + 8 ∧ k ≤ j) ∨ M b j = B b j
theorem zRB {a0 : Nat} {B M : zM} {k v : Int} {e : Nat} (he : a0 + 2 ≤ e ∧ e ≤ a0 + 8) (h : ∀ (b : Nat) (j : Int), (b = a0 ∧ j = 9) ∨ (a0 + 2 ≤ b ∧ b ≤ a0 + 8 ∧ k ≤ j) ∨ M b j = B b j) : ∀ (b : Nat) (j : Int), (b = a0 ∧ j = 9) ∨ (a0 + 2 ≤ b ∧ b ≤ a0 + 8 ∧ k ≤ j) ∨ z_up M e k v b j = B b j := by
  intro b j
  by_cases q : b = e ∧ j = k
  · exact Or.inr (Or.inl ⟨by omega, by omega, by omega⟩)
  · rw [z_up_ne M v q]; exact h b j
theorem zRL_x {a0 : Nat} {B M : zM} {k x c s a p o n : Int} (v : Int) (h : zRL a0 B k x c s a p o n M) : zRL a0 B k v c s a p o n (z_up M (a0 + 2) k v) := by
  obtain ⟨⟨l1, l2⟩, ⟨h1, h2, h3, h4, h5, h6, h7⟩, hb⟩ := h
  exact ⟨⟨(zu_c (by omega)).trans l1, l2⟩, ⟨zu_s _ _ _ _, (zu_c (by omega)).trans h2, (zu_c (by omega)).trans h3, (zu_c (by omega)).trans h4, (zu_c (by omega)).trans h5, (zu_c (by omega)).trans h6, (zu_c (by omega)).trans h7⟩, zRB (by omega) hb⟩
theorem zRL_c {a0 : Nat} {B M : zM} {k x c s a p o n : Int} (v : Int) (h : zRL a0 B k x c s a p o n M) : zRL a0 B k x v s a p o n (z_up M (a0 + 3) k v) := by
  obtain ⟨⟨l1, l2⟩, ⟨h1, h2, h3, h4, h5, h6, h7⟩, hb⟩ := h
  exact ⟨⟨(zu_c (by omega)).trans l1, l2⟩, ⟨(zu_c (by omega)).trans h1, zu_s _ _ _ _, (zu_c (by omega)).trans h3, (zu_c (by omega)).trans h4, (zu_c (by omega)).trans h5, (zu_c (by omega)).trans h6, (zu_c (by omega)).trans h7⟩, zRB (by omega) hb⟩
theorem zRL_s {a0 : Nat} {B M : zM} {k x c s a p o n : Int} (v : Int) (h : zRL a0 B k x c s a p o n M) : zRL a0 B k x c v a p o n (z_up M (a0 + 4) k v) := by
  obtain ⟨⟨l1, l2⟩, ⟨h1, h2, h3, h4, h5, h6, h7⟩, hb⟩ := h
  exact ⟨⟨(zu_c (by omega)).trans l1, l2⟩, ⟨(zu_c (by omega)).trans h1, (zu_c (by omega)).trans h2, zu_s _ _ _ _, (zu_c (by omega)).trans h4, (zu_c (by omega)).trans h5, (zu_c (by omega)).trans h6, (zu_c (by omega)).trans h7⟩, zRB (by omega) hb⟩
theorem zRL_a {a0 : Nat} {B M : zM} {k x c s a p o n : Int} (v : Int) (h : zRL a0 B k x c s a p o n M) : zRL a0 B k x c s v p o n (z_up M (a0 + 5) k v) := by
  obtain ⟨⟨l1, l2⟩, ⟨h1, h2, h3, h4, h5, h6, h7⟩, hb⟩ := h
  exact ⟨⟨(zu_c (by omega)).trans l1, l2⟩, ⟨(zu_c (by omega)).trans h1, (zu_c (by omega)).trans h2, (zu_c (by omega)).trans h3, zu_s _ _ _ _, (zu_c (by omega)).trans h5, (zu_c (by omega)).trans h6, (zu_c (by omega)).trans h7⟩, zRB (by omega) hb⟩
theorem zRL_p {a0 : Nat} {B M : zM} {k x c s a p o n : Int} (v : Int) (h : zRL a0 B k x c s a p o n M) : zRL a0 B k x c s a v o n (z_up M (a0 + 6) k v) := by
  obtain ⟨⟨l1, l2⟩, ⟨h1, h2, h3, h4, h5, h6, h7⟩, hb⟩ := h
  exact ⟨⟨(zu_c (by omega)).trans l1, l2⟩, ⟨(zu_c (by omega)).trans h1, (zu_c (by omega)).trans h2, (zu_c (by omega)).trans h3, (zu_c (by omega)).trans h4, zu_s _ _ _ _, (zu_c (by omega)).trans h6, (zu_c (by omega)).trans h7⟩, zRB (by omega) hb⟩
theorem zRL_o {a0 : Nat} {B M : zM} {k x c s a p o n : Int} (v : Int) (h : zRL a0 B k x c s a p o n M) : zRL a0 B k x c s a p v n (z_up M (a0 + 7) k v) := by
  obtain ⟨⟨l1, l2⟩, ⟨h1, h2, h3, h4, h5, h6, h7⟩, hb⟩ := h
  exact ⟨⟨(zu_c (by omega)).trans l1, l2⟩, ⟨(zu_c (by omega)).trans h1, (zu_c (by omega)).trans h2, (zu_c (by omega)).trans h3, (zu_c (by omega)).trans h4, (zu_c (by omega)).trans h5, zu_s _ _ _ _, (zu_c (by omega)).trans h7⟩, zRB (by omega) hb⟩
theorem zRL_n {a0 : Nat} {B M : zM} {k x c s a p o n : Int} (v : Int) (h : zRL a0 B k x c s a p o n M) : zRL a0 B k x c s a p o v (z_up M (a0 + 8) k v) := by
  obtain ⟨⟨l1, l2⟩, ⟨h1, h2, h3, h4, h5, h6, h7⟩, hb⟩ := h
  exact ⟨⟨(zu_c (by omega)).trans l1, l2⟩, ⟨(zu_c (by omega)).trans h1, (zu_c (by omega)).trans h2, (zu_c (by omega)).trans h3, (zu_c (by omega)).trans h4, (zu_c (by omega)).trans h5, (zu_c (by omega)).trans h6, zu_s _ _ _ _⟩, zRB (by omega) hb⟩
def zcm (s a p : Int) : Int := z_wr (s + (if a = 43 then p else z_wr (-p)))
theorem l_close {d a0 : Nat} {B M : zM} {k x c s a p o n : Int} {F : zM → Prop} (h : zRL a0 B k x c s a p o n M) (H : ∀ M', zRL a0 B k x c (zcm s a p) a p 0 n M' → F M') : zCv (d + 1) 52 [z_r (6, 0) a0] M F := by
  refine s_Rule_closeProduct h.1.1 h.1.2 (H _ ?_)
  rw [h.2.1.2.2.1, h.2.1.2.2.2.1, h.2.1.2.2.2.2.1]
  exact zRL_o 0 (zRL_s _ h)
theorem l_open {d a0 : Nat} {B M : zM} {k x c s a p o n : Int} {F : zM → Prop} (h : zRL a0 B k x c s a p o n M) (H : ∀ M', zRL a0 B k x c 0 43 p 0 0 M' → F M') : zCv (d + 1) 49 [z_r (6, 0) a0] M F :=
  s_Rule_openSum h.1.1 h.1.2 (H _ (zRL_n 0 (zRL_o 0 (zRL_a 43 (zRL_s 0 h)))))
theorem l_thing {d a0 : Nat} {B M : zM} {k x c s a p o n v : Int} {F : zM → Prop} (h : zRL a0 B k x c s a p o n M) (H : ∀ M', zRL a0 B k x c s a (ztk o p (if n = 0 then v else z_wr (-v))) o 0 M' → F M') : zCv (d + 1) 50 [z_r (6, 0) a0, z_i v] M F := by
  refine s_Rule_takeThing h.1.1 h.1.2 (H _ ?_)
  rw [h.2.1.2.2.2.2.2.1, h.2.1.2.2.2.2.1, h.2.1.2.2.2.2.2.2]
  exact zRL_p _ (zRL_n 0 h)
theorem l_value {d a0 : Nat} {B M : zM} {k x c s a p o n : Int} {F : Int → zM → Prop} (h : zRL a0 B k x c s a p o n M) (H : F (zcv c x s) M) : zCi (d + 1) 53 [z_r (6, 0) a0] M F := by
  refine s_Rule_comparedValue h.1.1 h.1.2 ?_
  rw [h.2.1.2.1, h.2.1.1, h.2.1.2.2.1]
  exact H
/-! a sign taken -/
theorem l_minus {d a0 : Nat} {B M : zM} {k x c s a p o n : Int} {F : zM → Prop} (h : zRL a0 B k x c s a p o n M) (H : ∀ M', zRL a0 B k x c s a p o (if n = 0 then 1 else 0) M' → F M') : zCv (d + 2) 51 [z_r (6, 0) a0, z_i 45, z_i 0] M F := by
  refine e_Rule_takeSign ⟨fun _ => ⟨fun _ => ⟨fun z => absurd rfl z, fun _ => ?_⟩, fun z => absurd (by decide) z⟩, fun z => absurd (by decide) z⟩
  rw [h.1.1, h.2.1.2.2.2.2.2.2]
  refine ⟨h.1.2, fun q => ⟨h.1.2, H _ ?_⟩, fun q => ⟨h.1.2, H _ ?_⟩⟩
  · rw [if_neg q]; exact zRL_n 0 h
  · rw [if_pos (Classical.not_not.mp q)]; exact zRL_n 1 h
theorem l_fac {d a0 : Nat} {B M : zM} {k x c s a p o n g : Int} {F : zM → Prop} (h : zRL a0 B k x c s a p o n M) (hg : g = 42 ∨ g = 47) (H : ∀ M', zRL a0 B k x c s a p g n M' → F M') : zCv (d + 2) 51 [z_r (6, 0) a0, z_i g, z_i 1] M F := by
  refine e_Rule_takeSign ⟨fun _ => ⟨fun _ => ⟨fun _ => ?_, fun z => absurd (by decide) z⟩, fun z => absurd (by omega) z⟩, fun z => absurd (by omega) z⟩
  have e : (0 ≤ M a0 9 ∧ M a0 9 < 5) ∧ F (z_up M (a0 + 7) (M a0 9) g) := by
    rw [h.1.1]; exact ⟨h.1.2, H _ (zRL_o g h)⟩
  refine e_Rule_isFactoring ⟨fun z => ⟨fun w => absurd w (by decide), fun _ => e⟩, fun z => ⟨fun w => absurd w (by omega), fun _ => ⟨fun w => absurd w (by decide), fun _ => e⟩⟩⟩
theorem l_add {d a0 : Nat} {B M : zM} {k x c s a p o n g : Int} {F : zM → Prop} (h : zRL a0 B k x c s a p o n M) (hg : g = 43 ∨ g = 45) (H : ∀ M', zRL a0 B k x c (zcm s a p) g p 0 n M' → F M') : zCv (d + 2) 51 [z_r (6, 0) a0, z_i g, z_i 1] M F := by
  refine e_Rule_takeSign ⟨fun _ => ⟨fun _ => ⟨fun _ => ?_, fun z => absurd (by decide) z⟩, fun z => absurd (by omega) z⟩, fun z => absurd (by omega) z⟩
  have e : zCv (d + 1) 52 [z_r (6, 0) a0] M (fun M17 => ((0 ≤ (M17 a0 9) ∧ (M17 a0 9) < 5) ∧ F (z_up M17 (a0 + 5) (M17 a0 9) g))) := by
    refine l_close h (fun M1 h1 => ?_)
    rw [h1.1.1]
    exact ⟨h1.1.2, H _ (zRL_a g h1)⟩
  refine e_Rule_isFactoring ⟨fun z => absurd z (by omega), fun _ => ⟨fun _ => ⟨fun _ => ?_, fun w => absurd rfl w⟩, fun w => absurd (by omega) w⟩⟩
  refine e_Rule_isAdding ⟨fun z => ⟨fun w => absurd w (by decide), fun _ => e⟩, fun z => ⟨fun w => absurd w (by omega), fun _ => ⟨fun w => absurd w (by decide), fun _ => e⟩⟩⟩
theorem l_cmp {d a0 : Nat} {B M : zM} {k x c s a p o n g : Int} {F : zM → Prop} (h : zRL a0 B k x c s a p o n M) (hg : g = 60 ∨ g = 61 ∨ g = 62) (H : ∀ M', zRL a0 B k (zcm s a p) g 0 43 p 0 0 M' → F M') : zCv (d + 2) 51 [z_r (6, 0) a0, z_i g, z_i 1] M F := by
  refine e_Rule_takeSign ⟨fun _ => ⟨fun _ => ⟨fun _ => ?_, fun z => absurd (by decide) z⟩, fun z => absurd (by omega) z⟩, fun z => absurd (by omega) z⟩
  refine e_Rule_isFactoring ⟨fun z => absurd z (by omega), fun _ => ⟨fun _ => ⟨fun _ => ?_, fun w => absurd rfl w⟩, fun w => absurd (by omega) w⟩⟩
  refine e_Rule_isAdding ⟨fun z => absurd z (by omega), fun _ => ⟨fun _ => ⟨fun _ => ?_, fun w => absurd rfl w⟩, fun w => absurd (by omega) w⟩⟩
  refine l_close h (fun M1 h1 => ?_)
  have e1 : (z_up M1 (a0 + 2) k (zcm s a p)) a0 9 = k := (zu_c (by omega)).trans h1.1.1
  rw [h1.1.1, h1.2.1.2.2.1, e1]
  exact ⟨h1.1.2, h1.1.2, h1.1.2, l_open (zRL_c g (zRL_x _ h1)) H⟩
/-- the level k, seen from within -/
theorem l_paren {d a0 : Nat} {B M : zM} {k x c s a p o n : Int} {F : zM → Prop} (h : zRL a0 B k x c s a p o n M) (hk : k < 4) (H : ∀ x' p' M', zRL a0 M (k + 1) x' 0 0 43 p' 0 0 M' → F M') : zCv (d + 2) 51 [z_r (6, 0) a0, z_i 40, z_i 0] M F := by
  have k0 := h.1.2.1
  refine e_Rule_takeSign ⟨fun z => absurd rfl z, fun _ => ?_⟩
  rw [h.1.1, zu_s, zw (x := k + 1) (by omega) (by omega)]
  refine ⟨fun z => absurd z (by omega), fun _ => ⟨⟨by omega, by omega⟩, ?_⟩⟩
  have h2 : zRL a0 M (k + 1) (M (a0 + 2) (k + 1)) (M (a0 + 3) (k + 1)) (M (a0 + 4) (k + 1)) (M (a0 + 5) (k + 1)) (M (a0 + 6) (k + 1)) (M (a0 + 7) (k + 1)) (M (a0 + 8) (k + 1)) (z_up M a0 9 (k + 1)) := by
    refine ⟨⟨zu_s _ _ _ _, by omega, by omega⟩, ⟨zu_c (by omega), zu_c (by omega), zu_c (by omega), zu_c (by omega), zu_c (by omega), zu_c (by omega), zu_c (by omega)⟩, fun b j => ?_⟩
    by_cases q : b = a0 ∧ j = 9
    · exact Or.inl q
    · rw [z_up_ne M _ q]; exact Or.inr (Or.inr rfl)
  exact l_open (zRL_c 0 h2) (fun M' h' => H _ _ M' h')
theorem l_back {a0 : Nat} {B M M' : zM} {k x c s a p o n x2 c2 s2 a2 p2 o2 n2 : Int} (h : zRL a0 B k x c s a p o n M) (h2 : zRL a0 M (k + 1) x2 c2 s2 a2 p2 o2 n2 M') : zRL a0 B k x c s a p o n (z_up M' a0 9 k) := by
  obtain ⟨⟨l1, l2⟩, ⟨h1, h2', h3, h4, h5, h6, h7⟩, hb⟩ := h
  obtain ⟨-, -, hb2⟩ := h2
  have t : ∀ i : Nat, 2 ≤ i → i ≤ 8 → (z_up M' a0 9 k) (a0 + i) k = M (a0 + i) k := by
    intro i i1 i2
    rw [zu_c (by omega)]
    rcases hb2 (a0 + i) k with q | q | q
    · omega
    · omega
    · exact q
  refine ⟨⟨zu_s _ _ _ _, l2⟩, ⟨(t 2 (by omega) (by omega)).trans h1, (t 3 (by omega) (by omega)).trans h2', (t 4 (by omega) (by omega)).trans h3, (t 5 (by omega) (by omega)).trans h4, (t 6 (by omega) (by omega)).trans h5, (t 7 (by omega) (by omega)).trans h6, (t 8 (by omega) (by omega)).trans h7⟩, fun b j => ?_⟩
  by_cases q : b = a0 ∧ j = 9
  · exact Or.inl q
  · rw [z_up_ne M' _ q]
    rcases hb2 b j with q | q | q
    · exact Or.inl q
    · exact Or.inr (Or.inl ⟨q.1, q.2.1, by omega⟩)
    · rw [q]; exact hb b j
theorem l_unparen {d a0 : Nat} {B M M1 : zM} {k x c s a p o n x2 c2 s2 a2 p2 o2 n2 : Int} {b : Int} {F : zM → Prop} (h : zRL a0 B k x c s a p o n M) (h2 : zRL a0 M (k + 1) x2 c2 s2 a2 p2 o2 n2 M1) (H : ∀ M', zRL a0 B k x c s a (ztk o p (if n = 0 then zcv c2 x2 (zcm s2 a2 p2) else z_wr (-(zcv c2 x2 (zcm s2 a2 p2))))) o 0 M' → F M') : zCv (d + 2) 51 [z_r (6, 0) a0, z_i 41, z_i b] M1 F := by
  have k0 := h.1.2
  refine e_Rule_takeSign ⟨fun _ => ⟨fun z => absurd rfl z, fun _ => ?_⟩, fun z => absurd (by decide) z⟩
  refine l_close h2 (fun M2 h3 => l_value h3 ?_)
  rw [h3.1.1, zw (x := k + 1 - 1) (by omega) (by omega), show k + 1 - 1 = k by omega]
  exact ⟨fun z => absurd z (by omega), fun _ => l_thing (l_back h h3) H⟩
