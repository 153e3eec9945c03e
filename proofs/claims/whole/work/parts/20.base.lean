/-! WORDS FOR WHAT FOLLOWS: memory, frames -/
theorem zw {x : Int} (h1 : -2147483648 ≤ x) (h2 : x < 2147483648) : z_wr x = x := zn_id ⟨h1, h2⟩
theorem zwl {x : Int} (h1 : -9223372036854775808 ≤ x) (h2 : x < 9223372036854775808) : z_wl x = x := zn_idl ⟨h1, h2⟩
theorem zu_s (M : zM) (a : Nat) (i v : Int) : z_up M a i v a i = v := z_up_same M a i v
theorem zu_e {M : zM} {a : Nat} {i j v : Int} (h : j = i) : z_up M a i v a j = v := by rw [h]; exact z_up_same M a i v
theorem zu_c {M : zM} {a b : Nat} {i j v : Int} (h : b ≠ a) : z_up M a i v b j = M b j := z_up_ne M v (fun q => h q.1)
theorem zu_i {M : zM} {a b : Nat} {i j v : Int} (h : j ≠ i) : z_up M a i v b j = M b j := z_up_ne M v (fun q => h q.2)
theorem zu_f {M : zM} {a b : Nat} {i v : Int} (h : b ≠ a) : z_up M a i v b = M b := by funext j; exact zu_c h
theorem zc_in {M : zM} {a b : Nat} {sp dp n j : Int} (h1 : dp ≤ j) (h2 : j < dp + n) : z_cp M a sp b dp n b j = M a (sp + (j - dp)) := by
  unfold z_cp; rw [if_pos ⟨rfl, h1, h2⟩]
theorem zc_out {M : zM} {a b c : Nat} {sp dp n j : Int} (h : j < dp ∨ dp + n ≤ j) : z_cp M a sp b dp n c j = M c j := by
  unfold z_cp; rw [if_neg (by omega)]
theorem zc_c {M : zM} {a b c : Nat} {sp dp n j : Int} (h : c ≠ b) : z_cp M a sp b dp n c j = M c j := by
  unfold z_cp; rw [if_neg (by omega)]
theorem zc_f {M : zM} {a b c : Nat} {sp dp n : Int} (h : c ≠ b) : z_cp M a sp b dp n c = M c := by funext j; exact zc_c h
/-- nothing has changed but in the cells S and at the places J -/
def zf (S : List Nat) (J : List (Nat × Int)) (M M' : zM) : Prop := ∀ (b : Nat) (j : Int), b ∉ S → (b, j) ∉ J → M' b j = M b j
theorem zf_rf {S : List Nat} {J : List (Nat × Int)} {M : zM} : zf S J M M := fun _ _ _ _ => rfl
theorem zf_up {S : List Nat} {J : List (Nat × Int)} {M M' : zM} {a : Nat} {i v : Int} (h : zf S J M M') (ha : a ∈ S ∨ (a, i) ∈ J) : zf S J M (z_up M' a i v) := fun b j hb hj => by
  rw [z_up_ne M' v (fun q => by rcases ha with h1 | h1; exact hb (by rw [q.1]; exact h1); exact hj (by rw [q.1, q.2]; exact h1))]
  exact h b j hb hj
theorem zf_us {S : List Nat} {J : List (Nat × Int)} {M M' : zM} {a : Nat} {i v : Int} (h : zf S J M M') (ha : a ∈ S) : zf S J M (z_up M' a i v) := zf_up h (Or.inl ha)
theorem zf_uj {S : List Nat} {J : List (Nat × Int)} {M M' : zM} {a : Nat} {i v : Int} (h : zf S J M M') (ha : (a, i) ∈ J) : zf S J M (z_up M' a i v) := zf_up h (Or.inr ha)
theorem zf_cp {S : List Nat} {J : List (Nat × Int)} {M M' : zM} {a b : Nat} {i j n : Int} (h : zf S J M M') (hb : b ∈ S) : zf S J M (z_cp M' a i b j n) := fun c q hc hj => by
  rw [zc_c (fun z => hc (by rw [z]; exact hb))]
  exact h c q hc hj
theorem zf_tr {S T : List Nat} {J K : List (Nat × Int)} {M M' M'' : zM} (h1 : zf S J M M') (h2 : zf T K M' M'') : zf (S ++ T) (J ++ K) M M'' := fun b j hb hj =>
  (h2 b j (fun q => hb (List.mem_append_right _ q)) (fun q => hj (List.mem_append_right _ q))).trans (h1 b j (fun q => hb (List.mem_append_left _ q)) (fun q => hj (List.mem_append_left _ q)))
theorem zf_w {S T : List Nat} {J K : List (Nat × Int)} {M M' : zM} (h : zf S J M M') (hS : ∀ b ∈ S, b ∈ T) (hJ : ∀ q ∈ J, q.1 ∈ T ∨ q ∈ K) : zf T K M M' := fun b j hb hj =>
  h b j (fun q => hb (hS b q)) (fun q => by rcases hJ _ q with z | z; exact hb z; exact hj z)
theorem zf_ww {S T : List Nat} {J K : List (Nat × Int)} {M M' : zM} (h : zf S J M M') (hS : S.all (fun b => T.any (fun c => Nat.beq b c)) = true) (hJ : J.all (fun q => T.any (fun c => Nat.beq q.1 c) || K.any (fun p => Nat.beq q.1 p.1 && decide (q.2 = p.2))) = true) : zf T K M M' := by
  refine zf_w h (fun b hb => ?_) (fun q hq => ?_)
  · obtain ⟨c, hc, e⟩ := List.any_eq_true.mp (List.all_eq_true.mp hS b hb)
    rw [Nat.eq_of_beq_eq_true e]; exact hc
  · have h1 := List.all_eq_true.mp hJ q hq
    rw [Bool.or_eq_true] at h1
    rcases h1 with h1 | h1
    · obtain ⟨c, hc, e⟩ := List.any_eq_true.mp h1
      exact Or.inl (by rw [Nat.eq_of_beq_eq_true e]; exact hc)
    · obtain ⟨c, hc, e⟩ := List.any_eq_true.mp h1
      rw [Bool.and_eq_true, decide_eq_true_eq] at e
      refine Or.inr ?_
      rw [show q = c from Prod.ext (Nat.eq_of_beq_eq_true e.1) e.2]; exact hc
/-- a whole cell is as it was -/
theorem zf_c {S : List Nat} {J : List (Nat × Int)} {M M' : zM} (h : zf S J M M') (b : Nat) (h1 : (S.all (fun c => !(Nat.beq b c)) && J.all (fun q => !(Nat.beq b q.1))) = true) : M' b = M b := by
  rw [Bool.and_eq_true] at h1
  have aux : ∀ n, Nat.beq n n = true := fun n => Nat.beq_refl n
  funext j
  refine h b j (fun q => ?_) (fun q => ?_)
  · have := List.all_eq_true.mp h1.1 b q
    rw [aux] at this; cases this
  · have := List.all_eq_true.mp h1.2 _ q
    rw [aux] at this; cases this
/-- a place is as it was -/
theorem zf_a {S : List Nat} {J : List (Nat × Int)} {M M' : zM} (h : zf S J M M') (b : Nat) (j : Int) (h1 : (S.all (fun c => !(Nat.beq b c)) && J.all (fun q => !(Nat.beq b q.1 && decide (j = q.2)))) = true) : M' b j = M b j := by
  rw [Bool.and_eq_true] at h1
  have aux : ∀ n, Nat.beq n n = true := fun n => Nat.beq_refl n
  refine h b j (fun q => ?_) (fun q => ?_)
  · have := List.all_eq_true.mp h1.1 b q
    rw [aux] at this; cases this
  · have := List.all_eq_true.mp h1.2 _ q
    rw [aux] at this; simp at this
/-- a loop that counts up: i from a to e -/
theorem zl_up {P : Int → zM → Prop} {I : Int → zM → Prop} (e : Int) (hx : ∀ M, I e M → P e M) (hs : ∀ i M, I i M → i < e → (∀ M', I (i + 1) M' → P (i + 1) M') → P i M) : ∀ (n : Nat) (i : Int) (M : zM), i + n = e → I i M → P i M
  | 0, i, M, h, hI => by
    have : i = e := by omega
    subst this
    exact hx M hI
  | n + 1, i, M, h, hI => hs i M hI (by omega) (fun M' hI' => zl_up e hx hs n (i + 1) M' (by omega) hI')
/-- a loop with any state: a measure falls -/
theorem zl_m {σ : Type} {P I : σ → Prop} (μ : σ → Nat) (hs : ∀ s, I s → (∀ s', I s' → μ s' < μ s → P s') → P s) (s : σ) (h : I s) : P s := by
  have aux : ∀ (n : Nat) (s : σ), μ s < n → I s → P s := by
    intro n
    induction n with
    | zero => intro s h; exact absurd h (Nat.not_lt_zero _)
    | succ n ih => intro s hn hI; exact hs s hI (fun s' hI' hlt => ih s' (by omega) hI')
  exact aux (μ s + 1) s (Nat.lt_succ_self _) h
theorem s_M_in {d : Nat} {a b c : Int} {M : zM} {F : Int → zM → Prop} (h : F (if b ≤ a ∧ a ≤ c then 1 else 0) M) : zCi (d + 1) 151 [z_l a, z_l b, z_l c] M F := by
  refine e_M_in ?_
  unfold z_cmp
  refine ⟨fun q => ?_, fun q => ⟨fun q2 => ?_, fun q2 => ?_⟩⟩
  · rw [if_neg (by split at q <;> (try split at q) <;> omega)] at h; exact h
  · rw [if_neg (by split at q2 <;> (try split at q2) <;> omega)] at h; exact h
  · rw [if_pos (by split at q <;> split at q2 <;> (try split at q) <;> (try split at q2) <;> omega)] at h; exact h
