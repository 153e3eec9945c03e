/-! the cups of a day -/
/-- what is left behind k in turn -/
def zcw (T th : Int → Int) (w : Int) : Nat → Int
  | 0 => w
  | k + 1 => zcw T th w k - (if zcw T th w k < th (T (k : Int)) then zcw T th w k else th (T (k : Int)))
def zcu (pl T th : Int → Int) (w h : Int) : Int := if zcw T th w (pl h).toNat < th h then zcw T th w (pl h).toNat else th h
def zdd (pl T th : Int → Int) (w h : Int) : Bool := decide (zcu pl T th w h < th h)
theorem zcw_r {T th : Int → Int} {w : Int} (hw : 0 ≤ w ∧ w ≤ 99) : ∀ n : Nat, (∀ k : Int, 0 ≤ k → k < n → 0 ≤ th (T k)) → 0 ≤ zcw T th w n ∧ zcw T th w n ≤ 99
  | 0, _ => hw
  | n + 1, h => by
    have ih := zcw_r hw n (fun k a b => h k a (by omega))
    have := h n (by omega) (by omega)
    show 0 ≤ zcw T th w n - (if zcw T th w n < th (T (n : Int)) then zcw T th w n else th (T (n : Int))) ∧ zcw T th w n - (if zcw T th w n < th (T (n : Int)) then zcw T th w n else th (T (n : Int))) ≤ 99
    split <;> omega
theorem zcw_c {T T' th th' : Int → Int} {w : Int} : ∀ n : Nat, (∀ k : Int, 0 ≤ k → k < n → T k = T' k ∧ th (T k) = th' (T k)) → zcw T th w n = zcw T' th' w n
  | 0, _ => rfl
  | n + 1, h => by
    obtain ⟨h1, h2⟩ := h n (by omega) (by omega)
    show zcw T th w n - (if zcw T th w n < th (T (n : Int)) then zcw T th w n else th (T (n : Int))) = zcw T' th' w n - (if zcw T' th' w n < th' (T' (n : Int)) then zcw T' th' w n else th' (T' (n : Int)))
    rw [zcw_c n (fun k a b => h k a (by omega)), h2, h1]
theorem zcu_c {pl pl' T T' th th' : Int → Int} {w c : Int} (hb : zbk c pl T) (e1 : ∀ h, 0 ≤ h → h < c → pl h = pl' h) (e2 : ∀ k, 0 ≤ k → k < c → T k = T' k) (e3 : ∀ h, 0 ≤ h → h < c → th h = th' h) {h : Int} (hh : 0 ≤ h ∧ h < c) : zcu pl T th w h = zcu pl' T' th' w h := by
  have p := hb.1 h hh.1 hh.2
  have e : zcw T th w (pl h).toNat = zcw T' th' w (pl' h).toNat := by
    rw [← e1 h hh.1 hh.2]
    exact zcw_c _ (fun k a b => ⟨e2 k a (by omega), e3 _ (hb.2 k a (by omega)).1 (hb.2 k a (by omega)).2.1⟩)
  unfold zcu
  rw [e, e3 h hh.1 hh.2]
theorem zcu_r {pl T th : Int → Int} {w c : Int} (hb : zbk c pl T) (hw : 0 ≤ w ∧ w ≤ 99) (ht : ∀ h, 0 ≤ h → h < c → 0 ≤ th h ∧ th h ≤ 9) {h : Int} (hh : 0 ≤ h ∧ h < c) : 0 ≤ zcu pl T th w h ∧ zcu pl T th w h ≤ th h := by
  have p := hb.1 h hh.1 hh.2
  have r := zcw_r (T := T) (th := th) hw (pl h).toNat (fun k a b => (ht _ (hb.2 k a (by omega)).1 (hb.2 k a (by omega)).2.1).1)
  have := ht h hh.1 hh.2
  unfold zcu
  split <;> omega
theorem s_Pump_pour {d b : Nat} {c w : Int} {pl T : Int → Int} {M : zM} {F : Int → zM → Prop} (hb : b < 44) (hc : 0 ≤ c ∧ c ≤ 8) (hb4 : M b 4 = c) (hT : ∀ k, 0 ≤ k → k < c → M (b + 1) k = T k) (hk : zbk c pl T) (hth : ∀ h, 0 ≤ h → h < c → 0 ≤ M 46 h ∧ M 46 h ≤ 9) (hw : 0 ≤ w ∧ w ≤ 99)
    (H : ∀ M', zf [48] [(45, 4), (45, 5)] M M' → M' 45 4 = zcw T (M 46) w c.toNat → (∀ h, 0 ≤ h → h < c → M' 48 h = zcu pl T (M 46) w h) → M' 45 5 = zst (zdd pl T (M 46) w) c.toNat → F (zcard (zst (zdd pl T (M 46) w) c.toNat)) M') : zCi (d + 2) 54 [z_r (4, 0) 45, z_r (0, 0) b, z_i w] M F := by
  refine e_Pump_pour (fun P hP => ?_)
  have fb : ∀ M1, zf [48] [(45, 4), (45, 5)] M M1 → ∀ e, e < 45 → M1 e = M e := by
    intro M1 f e he
    funext j
    refine f e j (fun q => ?_) (fun q => ?_)
    · simp at q; omega
    · simp at q; omega
  have loop : ∀ (n i : Nat) (M1 : zM), (i : Int) + n = c → zf [48] [(45, 4), (45, 5)] M M1 → M1 45 4 = zcw T (M 46) w i → (∀ h, 0 ≤ h → h < c → pl h < i → M1 48 h = zcu pl T (M 46) w h) → (0 ≤ M1 45 5 ∧ M1 45 5 < 256) → (∀ j, 0 ≤ j → zb (M1 45 5) j = (decide (j < c) && (decide (pl j < i) && zdd pl T (M 46) w j))) → P b w (i : Int) M1 := by
    intro n
    induction n with
    | zero =>
      intro i M1 hi f1 e1 e2 e3 e4
      have ci : i = c.toNat := by omega
      have eD : M1 45 5 = zst (zdd pl T (M 46) w) c.toNat := by
        refine zb_ext e3.1 (zst_r _ _ (by omega)).1 (fun j j0 => ?_)
        rw [e4 j j0, zst_b _ _ (by omega) j j0]
        by_cases q : j < c
        · rw [decide_eq_true q, decide_eq_true (by have := hk.1 j j0 q; omega), decide_eq_true (by omega)]; simp
        · rw [decide_eq_false q, decide_eq_false (show ¬ j < ((c.toNat : Nat) : Int) by omega)]; simp
      refine hP _ _ _ _ ⟨fun _ => s_bitCount e3 ?_, fun z => absurd (by rw [fb M1 f1 b (by omega)]; omega) z⟩
      rw [eD]
      rw [ci] at e1 e2
      exact H M1 f1 e1 (fun h a b => e2 h a b (by have := hk.1 h a b; omega)) eD
    | succ n ih =>
      intro i M1 hi f1 e1 e2 e3 e4
      obtain ⟨t1, t2, t3⟩ := hk.2 i (by omega) (by omega)
      have tT : M1 (b + 1) i = T i := by rw [fb M1 f1 (b + 1) (by omega)]; exact hT i (by omega) (by omega)
      refine hP _ _ _ _ ⟨fun z => absurd z (by rw [fb M1 f1 b (by omega)]; omega), fun _ => ?_⟩
      rw [tT]
      generalize hh : T (i : Int) = h at *
      have e46 : M1 46 = M 46 := zf_c f1 46 rfl
      have r1 : ∀ v, (z_up M1 48 h v) 45 4 = M1 45 4 := fun v => zu_c (by decide)
      have r2 : ∀ v, (z_up M1 48 h v) 48 h = v := fun v => zu_s _ _ _ _
      have r3 : ∀ v x, (z_up (z_up M1 48 h v) 45 4 x) 46 h = M 46 h := fun v x => by rw [zu_c (by decide), zu_c (by decide), e46]
      have r4 : ∀ v x, (z_up (z_up M1 48 h v) 45 4 x) 48 h = v := fun v x => by rw [zu_c (by decide), zu_s]
      have r5 : ∀ v x, (z_up (z_up M1 48 h v) 45 4 x) 45 5 = M1 45 5 := fun v x => by rw [zu_i (by decide), zu_c (by decide)]
      have rw0 := zcw_r (T := T) (th := M 46) hw i (fun k a b => (hth _ (hk.2 k a (by omega)).1 (hk.2 k a (by omega)).2.1).1)
      have eu : zcu pl T (M 46) w h = if zcw T (M 46) w i < M 46 h then zcw T (M 46) w i else M 46 h := by
        unfold zcu; rw [t3, show ((i : Int)).toNat = i by omega]
      have ur := zcu_r hk hw hth (h := h) ⟨t1, t2⟩
      have h9 := hth h t1 t2
      have ew : zcw T (M 46) w (i + 1) = zcw T (M 46) w i - zcu pl T (M 46) w h := by
        rw [eu, ← hh]; rfl
      rw [r1, r2, r3, r4, r5, e46, e1, ← eu, zw (x := zcw T (M 46) w i - zcu pl T (M 46) w h) (by omega) (by omega), ← ew, zw (x := (i : Int) + 1) (by omega) (by omega)]
      have pj : ∀ j, 0 ≤ j → j < c → pl j = i → j = h := fun j j0 j1 q => by
        have := (hk.1 j j0 j1).2.2; rw [q, hh] at this; exact this.symm
      have g48 : ∀ x, ∀ j, 0 ≤ j → j < c → pl j < ((i + 1 : Nat) : Int) → (z_up (z_up M1 48 h (zcu pl T (M 46) w h)) 45 4 x) 48 j = zcu pl T (M 46) w j := by
        intro x j j0 j1 q
        rw [zu_c (by decide)]
        by_cases q2 : j = h
        · rw [q2, zu_s]
        · rw [zu_i q2]
          have : pl j ≠ i := fun z => q2 (pj j j0 j1 z)
          exact e2 j j0 j1 (by omega)
      refine ⟨⟨by omega, by omega⟩, ⟨t1, by omega⟩, ⟨t1, by omega⟩, ⟨t1, by omega⟩, ⟨t1, by omega⟩, ⟨t1, by omega⟩, fun z => ?_, fun z => ?_⟩
      · refine ih (i + 1) _ (by omega) (zf_uj (zf_us f1 (by decide)) (by decide)) (zu_s _ _ _ _) (g48 _) (by rw [r5]; exact e3) (fun j j0 => ?_)
        rw [r5, e4 j j0]
        by_cases q : j < c
        · by_cases q2 : j = h
          · have : zdd pl T (M 46) w j = false := by unfold zdd; rw [q2]; exact decide_eq_false (by omega)
            rw [this]; simp
          · have : pl j ≠ i := fun z => q2 (pj j j0 q z)
            have : decide (pl j < (i : Int)) = decide (pl j < ((i + 1 : Nat) : Int)) := by
              by_cases q3 : pl j < i
              · rw [decide_eq_true q3, decide_eq_true (by omega)]
              · rw [decide_eq_false q3, decide_eq_false (by omega)]
            rw [this]
        · rw [decide_eq_false q]; simp
      · refine ih (i + 1) _ (by omega) (zf_uj (zf_uj (zf_us f1 (by decide)) (by decide)) (by decide)) (by rw [zu_i (by decide)]; exact zu_s _ _ _ _) (fun j j0 j1 q => by rw [zu_c (by decide)]; exact g48 _ j j0 j1 q) (by rw [zu_s]; exact zbs_lt e3 ⟨t1, by omega⟩) (fun j j0 => ?_)
        rw [zu_s]
        show zb (zbs (M1 45 5) h) j = _
        rw [zb_zbs (by omega) (by omega) j0, e4 j j0]
        by_cases q : j < c
        · by_cases q2 : h = j
          · have : zdd pl T (M 46) w j = true := by unfold zdd; rw [← q2]; exact decide_eq_true (by omega)
            rw [this, decide_eq_true q2, decide_eq_true q, decide_eq_true (show pl j < ((i + 1 : Nat) : Int) by rw [← q2, t3]; omega)]; simp
          · have : pl j ≠ i := fun z => q2 (pj j j0 q z).symm
            have : decide (pl j < (i : Int)) = decide (pl j < ((i + 1 : Nat) : Int)) := by
              by_cases q3 : pl j < i
              · rw [decide_eq_true q3, decide_eq_true (by omega)]
              · rw [decide_eq_false q3, decide_eq_false (by omega)]
            rw [this, decide_eq_false q2]; simp
        · rw [decide_eq_false q, decide_eq_false (show ¬ h = j by omega)]; simp
  have f0 : zf [48] [(45, 4), (45, 5)] M (z_up (z_up M 45 4 w) 45 5 0) := zf_uj (zf_uj zf_rf (by decide)) (by decide)
  refine loop c.toNat 0 _ (by omega) f0 (by rw [zu_i (by decide), zu_s]; rfl) (fun h a b q => by have := hk.1 h a b; omega) (by rw [zu_s]; omega) (fun j j0 => ?_)
  rw [zu_s, zb_0]
  by_cases q : j < c
  · rw [decide_eq_false (show ¬ pl j < ((0 : Nat) : Int) by have := hk.1 j j0 q; omega)]; simp
  · rw [decide_eq_false q]; simp
theorem s_M_gives {d : Nat} {c w : Int} {pl T th : Int → Int} {M : zM} {F : Int → zM → Prop} (hc : 0 ≤ c ∧ c ≤ 8) (hb4 : M 179 3 = c) (hT : ∀ k, 0 ≤ k → k < c → M 199 k = T k) (hk : zbk c pl T) (hth : ∀ h, 0 ≤ h → h < c → M 182 h = th h ∧ 0 ≤ th h ∧ th h ≤ 9) (hw : 0 ≤ w ∧ w ≤ 99)
    (H : ∀ M', zf [200] [] M M' → (∀ h, 0 ≤ h → h < c → M' 200 h = zcu pl T th w h) → F (zcw T th w c.toNat) M') : zCi (d + 1) 186 [z_r (11, 0) 179, z_i w] M F := by
  refine e_M_gives (fun P hP => ?_)
  have loop : ∀ (n i : Nat) (M1 : zM), (i : Int) + n = c → zf [200] [] M M1 → (∀ h, 0 ≤ h → h < c → pl h < i → M1 200 h = zcu pl T th w h) → P w (zcw T th w i) (i : Int) M1 := by
    intro n
    induction n with
    | zero =>
      intro i M1 hi f1 e2
      have ci : i = c.toNat := by omega
      refine hP _ _ _ _ ⟨fun _ => ?_, fun z => absurd (by rw [zf_a f1 179 3 rfl]; omega) z⟩
      rw [ci] at e2 ⊢
      exact H M1 f1 (fun h a b => e2 h a b (by have := hk.1 h a b; omega))
    | succ n ih =>
      intro i M1 hi f1 e2
      obtain ⟨t1, t2, t3⟩ := hk.2 i (by omega) (by omega)
      have tT : M1 199 i = T i := by rw [zf_c f1 199 rfl]; exact hT i (by omega) (by omega)
      refine hP _ _ _ _ ⟨fun z => absurd z (by rw [zf_a f1 179 3 rfl]; omega), fun _ => ?_⟩
      rw [tT]
      generalize hh : T (i : Int) = h at *
      obtain ⟨h8, h9⟩ := hth h t1 t2
      have e46 : M1 182 h = th h := by rw [zf_c f1 182 rfl]; exact h8
      have rw0 := zcw_r (T := T) (th := th) hw i (fun k a b => (hth _ (hk.2 k a (by omega)).1 (hk.2 k a (by omega)).2.1).2.1)
      have eu : zcu pl T th w h = if zcw T th w i < th h then zcw T th w i else th h := by
        unfold zcu; rw [t3, show ((i : Int)).toNat = i by omega]
      have ur := zcu_r hk hw (fun h a b => (hth h a b).2) (h := h) ⟨t1, t2⟩
      have ew : zcw T th w (i + 1) = zcw T th w i - zcu pl T th w h := by
        rw [eu, ← hh]; rfl
      have r2 : ∀ v, (z_up M1 200 h v) 200 h = v := fun v => zu_s _ _ _ _
      rw [r2, e46, ← eu, zw (x := zcw T th w i - zcu pl T th w h) (by omega) (by omega), ← ew, zw (x := (i : Int) + 1) (by omega) (by omega)]
      have pj : ∀ j, 0 ≤ j → j < c → pl j = i → j = h := fun j j0 j1 q => by
        have := (hk.1 j j0 j1).2.2; rw [q, hh] at this; exact this.symm
      refine ⟨⟨by omega, by omega⟩, ⟨t1, by omega⟩, ⟨t1, by omega⟩, ⟨t1, by omega⟩, ih (i + 1) _ (by omega) (zf_us f1 (by decide)) (fun j j0 j1 q => ?_)⟩
      by_cases q2 : j = h
      · rw [q2, zu_s]
      · rw [zu_i q2]
        have : pl j ≠ i := fun z => q2 (pj j j0 j1 z)
        exact e2 j j0 j1 (by omega)
  exact loop c.toNat 0 M (by omega) zf_rf (fun h a b q => by have := hk.1 h a b; omega)
