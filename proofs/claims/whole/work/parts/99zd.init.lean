/-! BEHIND THE CONSTRUCTORS: all references stand; the invariant holds -/
def zn_S0 : Nat → Nat → Bool := fun _ _ => false
def zn_M0 : zM := fun _ _ => 0
def zn_SF : Nat → Nat → Bool := zS_Mo (zS_W zn_S0)
def zn_MF : zM := zM_Mo (zM_W zn_M0)
theorem zn_idm_ne {M : zM} {b a : Nat} (h : a ≠ b) : ∀ n, zn_idm M b n a = M a
  | 0 => rfl
  | n + 1 => by
    show z_up (zn_idm M b n) b (n : Int) (n : Int) a = M a
    rw [zu_f h, zn_idm_ne h n]
theorem zn_idm_in {M : zM} {b : Nat} {j : Int} : ∀ n : Nat, 0 ≤ j → j < n → zn_idm M b n b j = j
  | 0, h1, h2 => absurd h2 (by omega)
  | n + 1, h1, h2 => by
    show z_up (zn_idm M b n) b (n : Int) (n : Int) b j = j
    by_cases h : j = n
    · rw [h, z_up_same]
    · rw [z_up_ne _ _ (fun q => h q.2)]
      exact zn_idm_in n h1 (by omega)
theorem zn_idm_out {M : zM} {b : Nat} {j : Int} : ∀ n : Nat, (n : Int) ≤ j → zn_idm M b n b j = M b j
  | 0, _ => rfl
  | n + 1, h1 => by
    show z_up (zn_idm M b n) b (n : Int) (n : Int) b j = M b j
    rw [z_up_ne _ _ (fun q => by omega)]
    exact zn_idm_out n (by omega)
theorem zM_tow_ne {b0 a : Nat} {M : zM} : ∀ n, (∀ i, i < n → a ≠ b0 + 6 * i + 1) → zM_tow b0 M n a = M a
  | 0, _ => rfl
  | n + 1, h => by
    show zn_idm (zM_tow b0 M n) (b0 + 6 * n + 1) 8 a = M a
    rw [zn_idm_ne (h n (by omega)), zM_tow_ne n (fun i hi => h i (by omega))]
theorem zn_MF_ne {a : Nat} (h0 : a ≠ 183) (h9 : a ≠ 179) (h1 : ∀ i, i < 3 → a ≠ 161 + 6 * i + 1) (h2 : ∀ i, i < 15 → a ≠ 51 + 6 * i + 1) (h3 : a ≠ 45) : zn_MF a = zn_idm (zn_idm zn_M0 24 8) 30 8 a := by
  show zn_idm (z_up (zM_tow 161 (zM_tow 51 (z_up (zn_idm (zn_idm zn_M0 24 8) 30 8) 45 2 1) 15) 3) 179 5 1) 183 8 a = _
  rw [zn_idm_ne h0, zu_f h9, zM_tow_ne 3 h1, zM_tow_ne 15 h2, zu_f h3]
theorem zn_MF_0 {a : Nat} {j : Int} (h0 : a ≠ 183) (h9 : a ≠ 179) (h1 : ∀ i, i < 3 → a ≠ 161 + 6 * i + 1) (h2 : ∀ i, i < 15 → a ≠ 51 + 6 * i + 1) (h3 : a ≠ 45) (h4 : a ≠ 24) (h5 : a ≠ 30) : zn_MF a j = 0 := by
  rw [zn_MF_ne h0 h9 h1 h2 h3, zn_idm_ne h5, zn_idm_ne h4]; rfl
theorem zn_MF_24 {j : Int} (h1 : 0 ≤ j) (h2 : j < 8) : zn_MF 24 j = j := by
  rw [zn_MF_ne (by decide) (by decide) (by decide) (by decide) (by decide), zn_idm_ne (by decide)]
  exact zn_idm_in 8 h1 h2
theorem zn_MF_185 {j : Int} (h1 : 0 ≤ j) (h2 : j < 8) : zn_MF 183 j = j := zn_idm_in 8 h1 h2
theorem zn_MF_185o {j : Int} (h1 : 8 ≤ j) : zn_MF 183 j = 0 := by
  have h : zn_MF 183 j = (z_up (zM_W zn_M0) 179 5 1) 183 j := zn_idm_out 8 h1
  rw [h, zu_c (by decide)]
  show (zM_tow 161 (zM_tow 51 (z_up (zn_idm (zn_idm zn_M0 24 8) 30 8) 45 2 1) 15) 3) 183 j = 0
  rw [zM_tow_ne 3 (by decide), zM_tow_ne 15 (by decide), zu_c (by decide), zn_idm_ne (by decide), zn_idm_ne (by decide)]; rfl
theorem zn_MF_45 {j : Int} : zn_MF 45 j = if j = 2 then 1 else 0 := by
  show zn_idm (z_up (zM_tow 161 (zM_tow 51 (z_up (zn_idm (zn_idm zn_M0 24 8) 30 8) 45 2 1) 15) 3) 179 5 1) 183 8 45 j = _
  rw [zn_idm_ne (by decide), zu_c (by decide), zM_tow_ne 3 (by decide), zM_tow_ne 15 (by decide)]
  by_cases h : j = 2
  · rw [if_pos h, h, zu_s]
  · rw [if_neg h, zu_i h, zn_idm_ne (by decide), zn_idm_ne (by decide)]; rfl
theorem zn_MF_181 {j : Int} : zn_MF 179 j = if j = 5 then 1 else 0 := by
  show zn_idm (z_up (zM_tow 161 (zM_tow 51 (z_up (zn_idm (zn_idm zn_M0 24 8) 30 8) 45 2 1) 15) 3) 179 5 1) 183 8 179 j = _
  rw [zn_idm_ne (by decide)]
  by_cases h : j = 5
  · rw [if_pos h, h, zu_s]
  · rw [if_neg h, zu_i h, zM_tow_ne 3 (by decide), zM_tow_ne 15 (by decide), zu_c (by decide), zn_idm_ne (by decide), zn_idm_ne (by decide)]; rfl
/-- all numbers are small -/
def zn_sm (M : zM) : Prop := ∀ a j, 0 ≤ M a j ∧ M a j ≤ 8
theorem zn_sm_up {M : zM} {a : Nat} {i v : Int} (h : zn_sm M) (hv : 0 ≤ v ∧ v ≤ 8) : zn_sm (z_up M a i v) := by
  intro b j
  by_cases hq : b = a ∧ j = i
  · rw [hq.1, hq.2, z_up_same]; exact hv
  · rw [z_up_ne M v hq]; exact h b j
theorem zn_sm_id {M : zM} {b : Nat} (h : zn_sm M) : ∀ n : Nat, n ≤ 8 → zn_sm (zn_idm M b n)
  | 0, _ => h
  | n + 1, hn => zn_sm_up (zn_sm_id h n (by omega)) (by omega)
theorem zn_sm_tow {M : zM} {b0 : Nat} (h : zn_sm M) : ∀ n : Nat, zn_sm (zM_tow b0 M n)
  | 0 => h
  | n + 1 => zn_sm_id (b := b0 + 6 * n + 1) (zn_sm_tow h n) 8 (by decide)
theorem zn_sm_F : zn_sm zn_MF := by
  show zn_sm (zn_idm (z_up (zM_tow 161 (zM_tow 51 (z_up (zn_idm (zn_idm zn_M0 24 8) 30 8) 45 2 1) 15) 3) 179 5 1) 183 8)
  exact zn_sm_id (zn_sm_up (zn_sm_tow (zn_sm_tow (zn_sm_up (zn_sm_id (zn_sm_id (fun _ _ => ⟨Int.le_refl 0, show (0 : Int) ≤ 8 by decide⟩) 8 (by decide)) 8 (by decide)) (by decide)) 15) 3) (by decide)) 8 (by decide)
theorem zn_mok : z_mok zn_MF := by
  intro a k _ j
  have h := zn_sm_F a j
  refine ⟨fun _ => ?_, fun _ => ?_⟩
  · unfold z_rl; omega
  · unfold z_ri; omega
theorem zn_I0 : zI 0 zn_MF := by
  have z0 : ∀ (a : Nat) (j : Int), (!(Nat.beq a 183) && (!(Nat.beq a 179) && (!(Nat.beq a 45) && (!(Nat.beq a 24) && (!(Nat.beq a 30) && ((List.range 3).all (fun i => !(Nat.beq a (161 + 6 * i + 1))) && (List.range 15).all (fun i => !(Nat.beq a (51 + 6 * i + 1))))))))) = true → zn_MF a j = 0 := by
    intro a j h
    simp only [Bool.and_eq_true, Bool.not_eq_true'] at h
    obtain ⟨h1, h2, h3, h4, h5, h6, h7⟩ := h
    have nb : ∀ x y : Nat, Nat.beq x y = false → x ≠ y := fun x y q e => by rw [e, Nat.beq_refl] at q; cases q
    refine zn_MF_0 (nb _ _ h1) (nb _ _ h2) (fun i hi => ?_) (fun i hi => ?_) (nb _ _ h3) (nb _ _ h4) (nb _ _ h5)
    · have := List.all_eq_true.mp h6 i (List.mem_range.mpr hi)
      exact nb _ _ (by simpa using this)
    · have := List.all_eq_true.mp h7 i (List.mem_range.mpr hi)
      exact nb _ _ (by simpa using this)
  have c3 : zn_MF 179 3 = 0 := by rw [zn_MF_181]; rfl
  have zb0 : ∀ i, zb 0 i = false := fun i => by
    unfold zb
    simp
  refine ⟨by omega, ?_, ?_, ?_, ?_, ?_, ?_, ?_, ?_, ?_, ?_⟩
  · refine ⟨?_, ?_, ?_, fun p h1 h2 => ?_⟩
    · rw [z0 1 1 rfl, zn_MF_181]; rfl
    · rw [z0 1 1 rfl]; omega
    · rw [z0 1 1 rfl]; omega
    · rw [z0 1 1 rfl] at h2; omega
  · refine ⟨?_, ?_, ?_, fun p h1 h2 => ?_⟩
    · rw [z0 3 1 rfl, zn_MF_181]; rfl
    · rw [z0 3 1 rfl]; omega
    · rw [z0 3 1 rfl]; omega
    · rw [z0 3 1 rfl] at h2; omega
  · rw [c3]
    refine ⟨z0 23 5 rfl, ⟨by omega, ?_, ?_, ?_, ?_, ?_, ?_, ?_⟩, ?_, ?_, ?_, ?_, ?_, ?_⟩
    · rw [z0 23 6 rfl]; omega
    · intro i h1 h2
      show 0 ≤ zn_MF 24 i ∧ zn_MF 24 i < 8
      rw [zn_MF_24 h1 h2]; omega
    · intro i j h1 h2 h3 h4 h5
      have h5 : zn_MF 24 i = zn_MF 24 j := h5
      rw [zn_MF_24 h1 h2, zn_MF_24 h3 h4] at h5
      exact h5
    · intro k h1 h2
      rw [z0 (23 + 2) k rfl]; omega
    · intro h h1 h2; omega
    · intro h h1 h2
      rw [z0 (23 + 3) h rfl, z0 (23 + 4) h rfl, z0 (23 + 5) h rfl]; omega
    · intro h h1 h2
      rw [z0 (23 + 4) h rfl, z0 (23 + 5) h rfl, z0 23 6 rfl]; omega
    · intro i h1 h2
      show zn_MF 24 i = zn_MF 183 (0 + i)
      rw [zn_MF_24 h1 h2, zn_MF_185 (by omega) (by omega)]; omega
    · intro h h1 h2
      show zn_MF 26 h = zn_MF 183 (0 + (8 + h))
      rw [z0 26 h rfl, zn_MF_185o (by omega)]
    · intro h i h1 h2; omega
    · intro h h1 h2
      show zn_MF 27 h = zn_MF 183 (0 + (64 + h))
      rw [z0 27 h rfl, zn_MF_185o (by omega)]
    · intro h h1 h2
      show zn_MF 28 h = zn_MF 183 (0 + (72 + h))
      rw [z0 28 h rfl, zn_MF_185o (by omega)]
    · show zn_MF 23 6 = zn_MF 183 (0 + 80)
      rw [z0 23 6 rfl, zn_MF_185o (by omega)]
  · intro h h1 h2
    rw [c3] at h2; omega
  · refine ⟨?_, ?_, ?_, fun i h1 h2 => ?_⟩
    · rw [zn_MF_45, zn_MF_181]; rfl
    · rw [zn_MF_45]; decide
    · rw [zn_MF_45]; decide
    · rw [z0 47 i rfl, z0 181 i rfl]; omega
  · refine Or.inl ⟨z0 5 1 rfl, ?_⟩
    rw [zn_MF_181]; rfl
  · refine ⟨?_, ?_, ?_, fun j h1 h2 => ?_⟩
    · rw [z0 49 2 rfl, zn_MF_181]; rfl
    · rw [z0 49 1 rfl]; omega
    · rw [z0 49 2 rfl]; omega
    · rw [z0 49 2 rfl] at h2; omega
  · have c4 : zn_MF 179 4 = 0 := by rw [zn_MF_181]; rfl
    refine ⟨?_, ?_, ?_, ?_⟩
    · rw [z0 0 11 rfl]; omega
    · rw [c4]; omega
    · intro i h1 h2
      rw [z0 219 i rfl, z0 220 i rfl, c4, z0 0 11 rfl, zb0]
      refine ⟨Or.inl rfl, by omega, ?_⟩
      constructor
      · intro q; cases q
      · intro q; omega
    · intro i h1 h2 h3
      rw [z0 0 11 rfl, zb0] at h3
      cases h3
  · refine ⟨?_, ?_, ?_, fun i h1 h2 => ?_⟩
    · rw [z0 0 14 rfl, zn_MF_181]; rfl
    · rw [z0 0 14 rfl]; omega
    · rw [z0 0 14 rfl]; omega
    · rw [z0 0 14 rfl] at h2; omega
  · exact ⟨z0 159 0 rfl, z0 154 0 rfl⟩
def zn_ok (S : Nat → Nat → Bool) : Bool := (List.range z_kt.length).all (fun a => match z_kt[a]? with
  | some q => cond (Nat.ble q.1 11) ((List.range (z_ft.getD q.1 []).length).all (fun j => match (z_ft.getD q.1 [])[j]? with
    | some t => cond (Nat.beq t.1 1) (S a j) true
    | none => true)) (cond (Nat.beq q.1 103) ((List.range q.2.toNat).all (fun j => S a j)) (Nat.ble 100 q.1 && Nat.ble q.1 102))
  | none => true)
theorem zn_ok_F : zn_ok zn_SF = true := by decide +kernel
theorem zn_arr {c : ClassId} {n : Nat} {f g : Nat → Value} (h : ∀ j, j < n → f j = g j) : arrV c n f = arrV c n g := by
  have e : (fun j : Fin n => f j.val) = (fun j : Fin n => g j.val) := funext (fun j => h j.val j.isLt)
  unfold arrV
  rw [e]
theorem zk_len : z_kt.length ≤ 223 := by decide +kernel
theorem zn_full {base : Nat} {D : va_G} {cA : Nat → ClassId} {S : Nat → Nat → Bool} {M : zM} {H : Heap} (hS : zn_ok S = true) (hP : zn_P base D cA S M 223 H) : va_P D z_cl (z_w (fun i => base + i) cA M) H := by
  intro a e he
  rw [z_w_get] at he
  cases hq : z_kt[a]? with
  | none => rw [hq] at he; cases he
  | some q =>
    rw [hq] at he
    have he : (base + a, z_e (fun i => base + i) cA M a q) = e := Option.some.inj he
    subst he
    have hlt : a < z_kt.length := (List.getElem?_eq_some_iff.mp hq).1
    have h1 := List.all_eq_true.mp hS a (List.mem_range.mpr hlt)
    rw [hq] at h1
    have h2 := hP.2.1 a _ (zn_w_at hq (Nat.lt_of_lt_of_le hlt zk_len))
    dsimp only at h1
    cases h12 : Nat.ble q.1 11 with
    | true =>
      rw [h12, cond_true] at h1
      have h12 : q.1 < 12 := by have := Nat.le_of_ble_eq_true h12; omega
      rw [zn_e_obj h12] at h2
      rw [z_e_obj h12]
      have ef : zn_fs base S M a 0 (z_ft.getD q.1 []) = z_fs (fun i => base + i) M a 0 (z_ft.getD q.1 []) := by
        apply List.ext_getElem?
        intro n
        rw [zn_fs_get, z_fs_get]
        cases ht : (z_ft.getD q.1 [])[n]? with
        | none => rfl
        | some t =>
          have h3 := List.all_eq_true.mp h1 n (List.mem_range.mpr (List.getElem?_eq_some_iff.mp ht).1)
          rw [ht] at h3
          simp only [Option.map_some, zn_f1, z_f1, Nat.zero_add]
          cases hb : Nat.beq t.1 1 with
          | false => rfl
          | true =>
            have h3 : cond (Nat.beq t.1 1) (S a n) true = true := h3
            rw [hb] at h3
            have h3 : S a n = true := h3
            rw [h3]; rfl
      rw [ef] at h2
      exact h2
    | false =>
      rw [h12, cond_false] at h1
      cases h13 : Nat.beq q.1 103 with
      | true =>
        rw [h13, cond_true] at h1
        have h13 := Nat.eq_of_beq_eq_true h13
        have e1 : zn_e base cA S M a q = .inl (cA 3, q.2.toNat, .inr (.inr (.inr (.inr fun j => cond (S a j) (some (base + z_el a (j : Int))) none)))) := by
          unfold zn_e; rw [h13]; rfl
        rw [e1] at h2
        rw [z_e_town h13]
        have h2 : H[base + a]? = some (vp_cell (cA 3) (q.2.toNat, .inr (.inr (.inr (.inr fun j => cond (S a j) (some (base + z_el a (j : Int))) none))))) := h2
        show H[base + a]? = some (vp_cell (cA 3) (q.2.toNat, .inr (.inr (.inr (.inr fun j => some (base + z_el a (j : Int)))))))
        rw [h2, vp_cell_q, vp_cell_q]
        rw [zn_arr (fun j hj => ?_)]
        have h3 := List.all_eq_true.mp h1 j (List.mem_range.mpr hj)
        have h3 : S a j = true := h3
        rw [h3]; rfl
      | false =>
        rw [h13, cond_false, Bool.and_eq_true] at h1
        have g1 := Nat.le_of_ble_eq_true h1.1
        have g2 := Nat.le_of_ble_eq_true h1.2
        have e1 : zn_e base cA S M a q = z_e (fun i => base + i) cA M a q := by
          rcases (show q.1 = 100 ∨ q.1 = 101 ∨ q.1 = 102 by omega) with h | h | h
          · rw [z_e_int h]; unfold zn_e; rw [h]; rfl
          · rw [z_e_long h]; unfold zn_e; rw [h]; rfl
          · rw [z_e_bool h]; unfold zn_e; rw [h]; rfl
        rw [e1] at h2
        exact h2
