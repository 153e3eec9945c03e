/-! THE WORLD: the machine's cells beside the abstract memory -/
def z_val (ad adK : Nat → Nat) : zU → Value
  | .inl x => .int (Int32.ofInt x)
  | .inr (.inl x) => .long (Int64.ofInt x)
  | .inr (.inr (k, a)) => .ref (cond (Nat.beq k.1 104) (adK a) (ad a))
def z_good : zU → Prop
  | .inl x => z_ri x
  | .inr (.inl x) => z_rl x
  | .inr (.inr (k, a)) => (k.1 = 104 ∧ a < 7 ∧ k.2 = ((z_sl.getD a 0 : Nat) : Int)) ∨ (k.1 ≠ 104 ∧ z_kt[a]? = some k)
def z_mok (M : zM) : Prop := ∀ (a : Nat) (k : zD), z_kt[a]? = some k → ∀ j : Int, (k.1 = 101 → z_rl (M a j)) ∧ (k.1 ≠ 101 → z_ri (M a j))
def z_lv (ad adK : Nat → Nat) : Nat → List zV → List (Nat × Value)
  | _, [] => []
  | i, none :: l => z_lv ad adK (i + 1) l
  | i, some u :: l => (i, z_val ad adK u) :: z_lv ad adK (i + 1) l
theorem z_lv_get {ad adK : Nat → Nat} : ∀ (l : List zV) (j k : Nat) (u : zU), z_get l k = some u → (j + k, z_val ad adK u) ∈ z_lv ad adK j l
  | [], _, _, _, h => by cases h
  | none :: l, j, 0, u, h => by cases h
  | some w :: l, j, 0, u, h => by
    cases h
    exact List.mem_cons_self
  | none :: l, j, k + 1, u, h => by
    have := z_lv_get (ad := ad) (adK := adK) l (j + 1) k u h
    rw [show j + (k + 1) = j + 1 + k by omega]
    exact this
  | some w :: l, j, k + 1, u, h => by
    have := z_lv_get (ad := ad) (adK := adK) l (j + 1) k u h
    rw [show j + (k + 1) = j + 1 + k by omega]
    exact List.mem_cons_of_mem _ this
theorem z_lv_ge {ad adK : Nat → Nat} : ∀ (l : List zV) (j : Nat) (q : Nat × Value), q ∈ z_lv ad adK j l → j ≤ q.1
  | [], _, _, h => by cases h
  | none :: l, j, q, h => by
    have := z_lv_ge l (j + 1) q h
    omega
  | some w :: l, j, q, h => by
    rcases List.mem_cons.mp h with h | h
    · subst h; exact Nat.le_refl _
    · have := z_lv_ge l (j + 1) q h
      omega
theorem z_cat_val {ad adK : Nat → Nat} (u : zU) : (z_val ad adK u).category = z_cat u := by
  rcases u with x | x | ⟨k, a⟩ <;> rfl
theorem z_lv_hd {ad adK : Nat → Nat} (l : List zV) (j : Nat) (q : Nat × Value) (h : q ∈ z_lv ad adK j (z_hd l)) : q ∈ z_lv ad adK j l ∧ q.1 ≠ j := by
  cases l with
  | nil => cases h
  | cons w l =>
    have h2 : q ∈ z_lv ad adK (j + 1) l := h
    have h3 := z_lv_ge l (j + 1) q h2
    refine ⟨?_, by omega⟩
    cases w with
    | none => exact h2
    | some w => exact List.mem_cons_of_mem _ h2
theorem z_lv_put {ad adK : Nat → Nat} (u : zU) : ∀ (l : List zV) (j k : Nat) (q : Nat × Value), q ∈ z_lv ad adK j (z_put l k u) →
    q = (j + k, z_val ad adK u) ∨ (q ∈ z_lv ad adK j l ∧ q.1 ≠ j + k ∧ ¬ (q.1 + 1 = j + k ∧ q.2.category = 2) ∧ (z_cat u = 2 → q.1 ≠ j + k + 1))
  | [], j, k, q, h => by cases h
  | w :: l, j, 0, q, h => by
    have h' : q ∈ (j, z_val ad adK u) :: z_lv ad adK (j + 1) (cond (z_isl (some u)) (z_hd l) l) := h
    rcases List.mem_cons.mp h' with h | h
    · exact Or.inl h
    · right
      have up : ∀ q, q ∈ z_lv ad adK (j + 1) l → q ∈ z_lv ad adK j (w :: l) := by
        intro q hq
        cases w with
        | none => exact hq
        | some w => exact List.mem_cons_of_mem _ hq
      rcases u with x | x | x
      · have h1 : q ∈ z_lv ad adK (j + 1) l := h
        have h2 := z_lv_ge l (j + 1) q h1
        exact ⟨up q h1, by omega, by omega, fun c => by cases c⟩
      · have h1 : q ∈ z_lv ad adK (j + 1) (z_hd l) := h
        obtain ⟨h3, h4⟩ := z_lv_hd l (j + 1) q h1
        have h2 := z_lv_ge l (j + 1) q h3
        exact ⟨up q h3, by omega, by omega, fun _ => by omega⟩
      · have h1 : q ∈ z_lv ad adK (j + 1) l := h
        have h2 := z_lv_ge l (j + 1) q h1
        exact ⟨up q h1, by omega, by omega, fun c => by cases c⟩
  | w :: l, j, k + 1, q, h => by
    have h' : q ∈ z_lv ad adK j (cond (Nat.beq k 0) (cond (z_isl w) none w) w :: z_put l k u) := h
    have tail : q ∈ z_lv ad adK (j + 1) (z_put l k u) → q = (j + (k + 1), z_val ad adK u) ∨ (q ∈ z_lv ad adK j (w :: l) ∧ q.1 ≠ j + (k + 1) ∧ ¬ (q.1 + 1 = j + (k + 1) ∧ q.2.category = 2) ∧ (z_cat u = 2 → q.1 ≠ j + (k + 1) + 1)) := by
      intro hq
      rcases z_lv_put u l (j + 1) k q hq with h1 | ⟨h1, h2, h3, h4⟩
      · left; rw [h1]; congr 1; omega
      · right
        refine ⟨?_, by omega, fun c => h3 ⟨by omega, c.2⟩, fun c => by have := h4 c; omega⟩
        cases w with
        | none => exact h1
        | some w => exact List.mem_cons_of_mem _ h1
    cases w with
    | none =>
      have : q ∈ z_lv ad adK (j + 1) (z_put l k u) := by
        cases hk : Nat.beq k 0 <;> rw [hk] at h' <;> exact h'
      exact tail this
    | some w =>
      by_cases hc : cond (Nat.beq k 0) (cond (z_isl (some w)) none (some w)) (some w) = some w
      · rw [hc] at h'
        rcases List.mem_cons.mp h' with h | h
        · right
          refine ⟨by rw [h]; exact List.mem_cons_self, by rw [h]; show j ≠ _; omega, ?_, fun _ => by rw [h]; show j ≠ _; omega⟩
          rintro ⟨h1, h2⟩
          rw [h] at h1 h2
          have hk0 : k = 0 := by
            have : j + 1 = j + (k + 1) := h1
            omega
          subst hk0
          rcases w with x | x | x
          · cases h2
          · cases hc
          · cases h2
        · exact tail h
      · have hn : cond (Nat.beq k 0) (cond (z_isl (some w)) none (some w)) (some w) = none := by
          cases hk : Nat.beq k 0 <;> rw [hk] at hc
          · exact absurd rfl hc
          · cases hw : z_isl (some w) <;> rw [hw] at hc
            · exact absurd rfl hc
            · rfl
        rw [hn] at h'
        exact tail h'
theorem z_lv_weak {ls : Array Slot} {n : Nat} {l l' : List (Nat × Value)} (h : lv_has ls n l) (hs : ∀ q ∈ l', q ∈ l) : lv_has ls n l' := ⟨h.1, h.2.1, fun q hq => h.2.2 q (hs q hq)⟩
theorem z_put_len (u : zU) : ∀ (l : List zV) (k : Nat), (z_put l k u).length = l.length
  | [], _ => rfl
  | w :: l, 0 => by
    show (cond (z_isl (some u)) (z_hd l) l).length + 1 = l.length + 1
    cases z_isl (some u)
    · rfl
    · cases l <;> rfl
  | w :: l, k + 1 => by
    show (z_put l k u).length + 1 = l.length + 1
    rw [z_put_len u l k]
theorem z_hd_mem {l : List zV} {w : zU} (h : some w ∈ z_hd l) : some w ∈ l := by
  cases l with
  | nil => cases h
  | cons a l =>
    rcases List.mem_cons.mp h with h | h
    · cases h
    · exact List.mem_cons_of_mem _ h
theorem z_put_mem (u : zU) : ∀ (l : List zV) (k : Nat) (w : zU), some w ∈ z_put l k u → w = u ∨ some w ∈ l
  | [], _, _, h => by cases h
  | a :: l, 0, w, h => by
    have h' : some w ∈ some u :: cond (z_isl (some u)) (z_hd l) l := h
    rcases List.mem_cons.mp h' with h | h
    · left; cases h; rfl
    · right
      cases hi : z_isl (some u) <;> rw [hi] at h
      · exact List.mem_cons_of_mem _ h
      · exact List.mem_cons_of_mem _ (z_hd_mem h)
  | a :: l, k + 1, w, h => by
    have h' : some w ∈ cond (Nat.beq k 0) (cond (z_isl a) none a) a :: z_put l k u := h
    rcases List.mem_cons.mp h' with h | h
    · right
      cases hk : Nat.beq k 0 <;> rw [hk] at h
      · rw [show some w = a from h]; exact List.mem_cons_self
      · cases hw : z_isl a <;> rw [hw] at h
        · rw [show some w = a from h]; exact List.mem_cons_self
        · cases h
    · rcases z_put_mem u l k w h with h | h
      · exact Or.inl h
      · exact Or.inr (List.mem_cons_of_mem _ h)
def z_gl (l : List zV) : Prop := ∀ u : zU, some u ∈ l → z_good u
def z_gs (l : List zU) : Prop := ∀ u ∈ l, z_good u
theorem z_get_mem : ∀ (l : List zV) (k : Nat) (u : zU), z_get l k = some u → some u ∈ l
  | [], _, _, h => by cases h
  | a :: l, 0, u, h => by rw [show a = some u from h]; exact List.mem_cons_self
  | a :: l, k + 1, u, h => List.mem_cons_of_mem _ (z_get_mem l k u h)
theorem z_gl_put {l : List zV} {k : Nat} {u : zU} (h : z_gl l) (hu : z_good u) : z_gl (z_put l k u) := by
  intro w hw
  rcases z_put_mem u l k w hw with h1 | h1
  · rw [h1]; exact hu
  · exact h w h1
theorem z_gs_c {u : zU} {l : List zU} : z_gs (u :: l) ↔ z_good u ∧ z_gs l := List.forall_mem_cons
/-- the fields of an object -/
def z_f1 (ad : Nat → Nat) (M : zM) (a j : Nat) (q : Nat × Nat) : Value := cond (Nat.beq q.1 1) (.ref (ad (a + q.2))) (.int (Int32.ofInt (M a (j : Int))))
def z_fs (ad : Nat → Nat) (M : zM) (a : Nat) : Nat → List (Nat × Nat) → List Value
  | _, [] => []
  | j, q :: l => z_f1 ad M a j q :: z_fs ad M a (j + 1) l
theorem z_fs_get {ad : Nat → Nat} {M : zM} {a : Nat} : ∀ (l : List (Nat × Nat)) (j i : Nat), (z_fs ad M a j l)[i]? = l[i]?.map (fun q => z_f1 ad M a (j + i) q)
  | [], _, _ => rfl
  | q :: l, j, 0 => rfl
  | q :: l, j, i + 1 => by
    show (z_fs ad M a (j + 1) l)[i]? = l[i]?.map _
    rw [z_fs_get l (j + 1) i, show j + 1 + i = j + (i + 1) by omega]
theorem z_fs_len {ad : Nat → Nat} {M : zM} {a : Nat} : ∀ (l : List (Nat × Nat)) (j : Nat), (z_fs ad M a j l).length = l.length
  | [], _ => rfl
  | _ :: l, j => by
    show (z_fs ad M a (j + 1) l).length + 1 = l.length + 1
    rw [z_fs_len l (j + 1)]
theorem z_up_same (M : zM) (a : Nat) (i v : Int) : z_up M a i v a i = v := by simp [z_up]
theorem z_up_ne (M : zM) {a b : Nat} {i j : Int} (v : Int) (h : ¬ (b = a ∧ j = i)) : z_up M a i v b j = M b j := by simp [z_up, h]
theorem z_fs_set {ad : Nat → Nat} {M : zM} {a i : Nat} {v : Int} {q : Nat × Nat} {l : List (Nat × Nat)} (h : l[i]? = some q) (hq : Nat.beq q.1 1 = false) : (z_fs ad M a 0 l).set i (.int (Int32.ofInt v)) = z_fs ad (z_up M a (i : Int) v) a 0 l := by
  apply List.ext_getElem?
  intro n
  rw [List.getElem?_set, z_fs_get, z_fs_get, z_fs_len]
  have hlt : i < l.length := (List.getElem?_eq_some_iff.mp h).1
  by_cases hn : i = n
  · subst hn
    rw [if_pos rfl, if_pos hlt, h]
    simp only [Option.map_some, z_f1, hq, cond_false, Nat.zero_add, z_up_same]
  · rw [if_neg hn]
    cases l[n]? with
    | none => rfl
    | some r =>
      simp only [Option.map_some, z_f1, Nat.zero_add]
      rw [z_up_ne]
      intro c
      exact hn (by have := c.2; omega)
/-- a cell -/
def z_e (ad : Nat → Nat) (cA : Nat → ClassId) (M : zM) (a : Nat) (k : zD) : va_E :=
  cond (Nat.beq k.1 100) (.inl (cA 0, k.2.toNat, .inl fun j => Int32.ofInt (M a (j : Int))))
  (cond (Nat.beq k.1 101) (.inl (cA 1, k.2.toNat, .inr (.inl fun j => Int64.ofInt (M a (j : Int)))))
  (cond (Nat.beq k.1 102) (.inl (cA 2, k.2.toNat, .inl fun j => Int32.ofInt (M a (j : Int))))
  (cond (Nat.beq k.1 103) (.inl (cA 3, k.2.toNat, .inr (.inr (.inr (.inr fun j => some (ad (z_el a (j : Int))))))))
  (.inr (k.1, z_fs ad M a 0 (z_ft.getD k.1 []))))))
def z_wf (ad : Nat → Nat) (cA : Nat → ClassId) (M : zM) : Nat → List zD → va_W
  | _, [] => []
  | a, k :: l => (ad a, z_e ad cA M a k) :: z_wf ad cA M (a + 1) l
theorem z_wf_get {ad : Nat → Nat} {cA : Nat → ClassId} {M : zM} : ∀ (l : List zD) (a i : Nat), (z_wf ad cA M a l)[i]? = l[i]?.map (fun k => (ad (a + i), z_e ad cA M (a + i) k))
  | [], _, _ => rfl
  | k :: l, a, 0 => rfl
  | k :: l, a, i + 1 => by
    show (z_wf ad cA M (a + 1) l)[i]? = l[i]?.map _
    rw [z_wf_get l (a + 1) i, show a + 1 + i = a + (i + 1) by omega]
def z_w (ad : Nat → Nat) (cA : Nat → ClassId) (M : zM) : va_W := z_wf ad cA M 0 z_kt
theorem z_w_get {ad : Nat → Nat} {cA : Nat → ClassId} {M : zM} (a : Nat) : (z_w ad cA M)[a]? = z_kt[a]?.map (fun k => (ad a, z_e ad cA M a k)) := by
  unfold z_w
  rw [z_wf_get, Nat.zero_add]
theorem z_w_at {ad : Nat → Nat} {cA : Nat → ClassId} {M : zM} {a : Nat} {k : zD} (h : z_kt[a]? = some k) : (z_w ad cA M)[a]? = some (ad a, z_e ad cA M a k) := by
  rw [z_w_get, h]; rfl
theorem z_fs_ext {ad : Nat → Nat} {M M' : zM} {a : Nat} (h : M' a = M a) : ∀ (l : List (Nat × Nat)) (j : Nat), z_fs ad M' a j l = z_fs ad M a j l
  | [], _ => rfl
  | q :: l, j => by
    show z_f1 ad M' a j q :: z_fs ad M' a (j + 1) l = z_f1 ad M a j q :: z_fs ad M a (j + 1) l
    rw [z_fs_ext h l (j + 1)]
    simp only [z_f1, h]
theorem z_e_ext {ad : Nat → Nat} {cA : Nat → ClassId} {M M' : zM} {a : Nat} {k : zD} (h : M' a = M a) : z_e ad cA M' a k = z_e ad cA M a k := by
  unfold z_e
  rw [z_fs_ext h, h]
theorem z_w_set {ad : Nat → Nat} {cA : Nat → ClassId} {M M' : zM} {a : Nat} {k : zD} {E : va_E} (h : z_kt[a]? = some k) (hE : E = z_e ad cA M' a k) (ho : ∀ b, b ≠ a → M' b = M b) : (z_w ad cA M).set a (ad a, E) = z_w ad cA M' := by
  subst hE
  apply List.ext_getElem?
  intro n
  rw [List.getElem?_set, z_w_get, z_w_get]
  have hlt : a < (z_w ad cA M).length := (List.getElem?_eq_some_iff.mp (z_w_at (ad := ad) (cA := cA) (M := M) h)).1
  by_cases hn : a = n
  · subst hn
    rw [if_pos rfl, if_pos hlt, h]
    rfl
  · rw [if_neg hn]
    cases z_kt[n]? with
    | none => rfl
    | some r =>
      simp only [Option.map_some]
      rw [z_e_ext (ho n (fun c => hn c.symm))]
theorem z_w_D {ad : Nat → Nat} {cA : Nat → ClassId} {M : zM} {A : Nat → Prop} (h1 : ∀ i j, i < z_kt.length → j < z_kt.length → ad i = ad j → i = j) (h2 : ∀ i, i < z_kt.length → A (ad i)) : va_D A (z_w ad cA M) := by
  have get : ∀ (i : Nat) (p : Nat × va_E), (z_w ad cA M)[i]? = some p → i < z_kt.length ∧ p.1 = ad i := by
    intro i p hp
    rw [z_w_get] at hp
    cases hk : z_kt[i]? with
    | none => rw [hk] at hp; cases hp
    | some k =>
      rw [hk] at hp
      cases hp
      exact ⟨(List.getElem?_eq_some_iff.mp hk).1, rfl⟩
  refine ⟨fun i j p q hp hq he => ?_, fun k q hq => ?_⟩
  · obtain ⟨a1, a2⟩ := get i p hp
    obtain ⟨b1, b2⟩ := get j q hq
    exact h1 i j a1 b1 (by rw [← a2, ← b2]; exact he)
  · obtain ⟨a1, a2⟩ := get k q hq
    rw [a2]; exact h2 k a1
