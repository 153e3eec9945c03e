/-! WORDS FOR WHAT FOLLOWS: memory, frames, bits -/
theorem zw {x : Int} (h1 : -2147483648 ≤ x) (h2 : x < 2147483648) : z_wr x = x := zn_id ⟨h1, h2⟩
theorem zwl {x : Int} (h1 : -9223372036854775808 ≤ x) (h2 : x < 9223372036854775808) : z_wl x = x := zn_idl ⟨h1, h2⟩
theorem zu_s (M : zM) (a : Nat) (i v : Int) : z_up M a i v a i = v := z_up_same M a i v
theorem zu_e {M : zM} {a : Nat} {i j v : Int} (h : j = i) : z_up M a i v a j = v := by rw [h]; exact z_up_same M a i v
theorem zu_c {M : zM} {a b : Nat} {i j v : Int} (h : b ≠ a) : z_up M a i v b j = M b j := z_up_ne M v (fun q => h q.1)
theorem zu_i {M : zM} {a b : Nat} {i j v : Int} (h : j ≠ i) : z_up M a i v b j = M b j := z_up_ne M v (fun q => h q.2)
theorem zu_f {M : zM} {a b : Nat} {i v : Int} (h : b ≠ a) : z_up M a i v b = M b := by funext j; exact zu_c h
/-- nothing has changed but in the cells S -/
def zf (S : List Nat) (M M' : zM) : Prop := ∀ b, b ∉ S → M' b = M b
theorem zf_rf {S : List Nat} {M : zM} : zf S M M := fun _ _ => rfl
theorem zf_up {S : List Nat} {M M' : zM} {a : Nat} {i v : Int} (h : zf S M M') (ha : a ∈ S) : zf S M (z_up M' a i v) := fun b hb => by
  rw [zu_f (fun q => hb (by rw [q]; exact ha))]
  exact h b hb
theorem zf_cp {S : List Nat} {M M' : zM} {a b : Nat} {i j n : Int} (h : zf S M M') (hb : b ∈ S) : zf S M (z_cp M' a i b j n) := fun c hc => by
  rw [← h c hc]
  funext q
  unfold z_cp
  rw [if_neg (fun z => hc (by rw [z.1]; exact hb))]
theorem zf_tr {S T : List Nat} {M M' M'' : zM} (h1 : zf S M M') (h2 : zf T M' M'') (hS : ∀ b ∈ S, b ∈ T) : zf T M M'' := fun b hb => (h2 b hb).trans (h1 b (fun q => hb (hS b q)))
theorem zf_trS {S T : List Nat} {M M' M'' : zM} (h1 : zf S M M') (h2 : zf T M' M'') (hT : ∀ b ∈ T, b ∈ S) : zf S M M'' := fun b hb => (h2 b (fun q => hb (hT b q))).trans (h1 b hb)
theorem zf_mono {S T : List Nat} {M M' : zM} (h1 : zf S M M') (hS : ∀ b ∈ S, b ∈ T) : zf T M M' := fun b hb => h1 b (fun q => hb (hS b q))
/-- a loop that counts up: i from a to e -/
theorem zl_up {P : Int → zM → Prop} {I : Int → zM → Prop} (e : Int) (hx : ∀ M, I e M → P e M) (hs : ∀ i M, I i M → i < e → (∀ M', I (i + 1) M' → P (i + 1) M') → P i M) : ∀ (n : Nat) (i : Int) (M : zM), i + n = e → I i M → P i M
  | 0, i, M, h, hI => by
    have : i = e := by omega
    subst this
    exact hx M hI
  | n + 1, i, M, h, hI => hs i M hI (by omega) (fun M' hI' => zl_up e hx hs n (i + 1) M' (by omega) hI')
theorem s_M_in {d : Nat} {a b c : Int} {M : zM} {F : Int → zM → Prop} (h : F (if b ≤ a ∧ a ≤ c then 1 else 0) M) : zCi (d + 1) 151 [z_l a, z_l b, z_l c] M F := by
  refine e_M_in ?_
  unfold z_cmp
  refine ⟨fun q => ?_, fun q => ⟨fun q2 => ?_, fun q2 => ?_⟩⟩
  · rw [if_neg (by split at q <;> (try split at q) <;> omega)] at h; exact h
  · rw [if_neg (by split at q2 <;> (try split at q2) <;> omega)] at h; exact h
  · rw [if_pos (by split at q <;> split at q2 <;> (try split at q) <;> (try split at q2) <;> omega)] at h; exact h
theorem s_W_end {d : Nat} {n : Int} {M : zM} {F : Int → zM → Prop} (h1 : 0 ≤ n → n ≤ M 1 1 → F 1 (z_up M 1 1 n)) (h0 : ¬ (0 ≤ n ∧ n ≤ M 1 1) → F 0 M) : zCi (d + 1) 2 [z_r (10, 0) 0, z_i n] M F := by
  refine e_W_end ⟨fun q => h0 (by omega), fun q => ⟨fun q2 => h1 (by omega) q2, fun q2 => h0 (by omega)⟩⟩
theorem s_M_end {d : Nat} {n : Int} {M : zM} {F : Int → zM → Prop} (h1 : 0 ≤ n → n ≤ M 181 11 → F 1 (z_up (z_up M 181 0 0) 181 11 n)) (h0 : ¬ (0 ≤ n ∧ n ≤ M 181 11) → F 0 (z_up M 181 0 0)) : zCi (d + 2) 150 [z_r (11, 0) 181, z_i n] M F := by
  refine e_M_end (s_M_in ?_)
  simp (disch := omega) only [zu_i]
  by_cases hc : 0 ≤ n ∧ n ≤ M 181 11
  · rw [if_pos hc]
    exact ⟨fun _ => h1 hc.1 hc.2, fun q => absurd (by decide) q⟩
  · rw [if_neg hc]
    exact ⟨fun q => absurd rfl q, fun _ => h0 hc⟩
