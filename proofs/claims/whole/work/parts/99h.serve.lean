/-! how many are served: numbers -/
theorem zsm_0 : ∀ n : Nat, zsm (fun _ => 0) n = 0
  | 0 => rfl
  | n + 1 => by
    show zsm (fun _ => 0) n + 0 = 0
    rw [zsm_0 n]; rfl
theorem zsm_sw (g : Int → Int → Int) (n : Nat) : ∀ m : Nat, zsm (fun h => zsm (fun k => g h k) n) m = zsm (fun k => zsm (fun h => g h k) m) n
  | 0 => (zsm_0 n).symm
  | m + 1 => by
    show zsm (fun h => zsm (fun k => g h k) n) m + zsm (fun k => g m k) n = zsm (fun k => zsm (fun h => g h k) m + g m k) n
    rw [zsm_sw g n m, zsm_add]
theorem zsm_pm {T f : Int → Int} {n : Nat} (hT : ∀ k : Int, 0 ≤ k → k < n → 0 ≤ T k ∧ T k < n) (hj : ∀ i j : Int, 0 ≤ i → i < n → 0 ≤ j → j < n → T i = T j → i = j) : zsm f n = zsm (fun k => f (T k)) n := by
  have e1 : zsm f n = zsm (fun h => zsm (fun k => if T k = h then f h else 0) n) n := zsm_c n (fun h a b => by
    obtain ⟨k, hk, e⟩ := zp_surjI (c := (n : Int)) (by omega) T hT hj h a b
    rw [zsm_one (k0 := k) n (fun k' x y ne => if_neg (fun e' => ne (hj k' k x y hk.1 hk.2 (by rw [e', e])))), if_pos hk, if_pos e])
  rw [e1, zsm_sw]
  refine zsm_c n (fun k a b => ?_)
  have hk := hT k a b
  show zsm (fun h => if T k = h then f h else 0) n = f (T k)
  rw [zsm_one (k0 := T k) n (fun h _ _ ne => if_neg (fun e => ne e.symm)), if_pos hk, if_pos rfl]
/-- one that is first by a measure -/
theorem z_min {p : Int → Bool} (m : Int → Int) : ∀ n : Nat, (∃ i : Int, (0 ≤ i ∧ i < n) ∧ p i = true) → ∃ i : Int, (0 ≤ i ∧ i < n) ∧ p i = true ∧ ∀ j : Int, 0 ≤ j → j < n → p j = true → m i ≤ m j
  | 0, h => by obtain ⟨i, hi, _⟩ := h; omega
  | n + 1, h => by
    by_cases ex : ∃ i : Int, (0 ≤ i ∧ i < n) ∧ p i = true
    · obtain ⟨i, hi, pi, mi⟩ := z_min m n ex
      by_cases q : p n = true ∧ m n < m i
      · refine ⟨n, by omega, q.1, fun j a b pj => ?_⟩
        by_cases e : j = n
        · rw [e]; omega
        · have := mi j a (by omega) pj
          have := q.2
          omega
      · refine ⟨i, by omega, pi, fun j a b pj => ?_⟩
        by_cases e : j = n
        · rw [e] at pj ⊢
          have : ¬ m n < m i := fun y => q ⟨pj, y⟩
          omega
        · exact mi j a (by omega) pj
    · obtain ⟨i, hi, pi⟩ := h
      have e : i = n := Classical.byContradiction (fun y => ex ⟨i, by omega, pi⟩)
      refine ⟨i, by omega, pi, fun j a b pj => ?_⟩
      have : j = n := Classical.byContradiction (fun y => ex ⟨j, by omega, pj⟩)
      rw [e, this]; omega
/-- the houses up to one, in turn; whether it is served; how many are -/
def zFr (c : Int) (pl : Int → Int) (h : Int) : Int := zst (fun o => decide (pl o ≤ pl h)) c.toNat
def zFs (c w : Int) (th pl : Int → Int) (h : Int) : Bool := decide (zts th (zFr c pl h) ≤ w)
def zFn (c w : Int) (th pl : Int → Int) : Int := zcn (zFs c w th pl) c.toNat
theorem zcw_p {T th : Int → Int} {w : Int} (hw : 0 ≤ w) : ∀ n : Nat, (∀ k : Int, 0 ≤ k → k < n → 0 ≤ th (T k)) → zcw T th w n = if w - zsm (fun k => th (T k)) n < 0 then 0 else w - zsm (fun k => th (T k)) n
  | 0, _ => by
    show w = if w - 0 < 0 then 0 else w - 0
    rw [if_neg (by omega)]; omega
  | n + 1, h => by
    have ih := zcw_p (th := th) hw n (fun k a b => h k a (by omega))
    have hn := h n (by omega) (by omega)
    show zcw T th w n - (if zcw T th w n < th (T (n : Int)) then zcw T th w n else th (T (n : Int))) = if w - (zsm (fun k => th (T k)) n + th (T (n : Int))) < 0 then 0 else w - (zsm (fun k => th (T k)) n + th (T (n : Int)))
    rw [ih]
    generalize zsm (fun k => th (T k)) n = s
    generalize th (T (n : Int)) = t at hn
    (repeat' split) <;> omega
theorem zFr_b {c : Int} {pl : Int → Int} {h : Int} (hc : 0 ≤ c ∧ c ≤ 8) : (0 ≤ zFr c pl h ∧ zFr c pl h < 256) ∧ ∀ o, 0 ≤ o → (zb (zFr c pl h) o = true ↔ o < c ∧ pl o ≤ pl h) := by
  refine ⟨zst_r _ _ (by omega), fun o o0 => ?_⟩
  unfold zFr
  rw [zst_b _ _ (by omega) o o0, Bool.and_eq_true, decide_eq_true_iff, decide_eq_true_iff]
  omega
theorem zts_r {c : Int} {pl T th : Int → Int} {h : Int} (hc : 0 ≤ c ∧ c ≤ 8) (hb : zbk c pl T) (hh : 0 ≤ h ∧ h < c) : zts th (zFr c pl h) = zsm (fun k => th (T k)) (pl h).toNat + th h := by
  have p := hb.1 h hh.1 hh.2
  have e1 : zts th (zFr c pl h) = zsm (fun o => if decide (o < ((c.toNat : Nat) : Int)) = true then (if pl o ≤ pl h then th o else 0) else 0) 8 := by
    unfold zts
    refine zsm_c 8 (fun o a b => ?_)
    show (if zb (zFr c pl h) o = true then th o else 0) = _
    by_cases q : zb (zFr c pl h) o = true
    · have := ((zFr_b hc).2 o a).mp q
      rw [if_pos q, if_pos (decide_eq_true (by omega)), if_pos this.2]
    · rw [if_neg q]
      by_cases w : o < c
      · rw [if_pos (decide_eq_true (by omega)), if_neg (fun y => q (((zFr_b hc).2 o a).mpr ⟨w, y⟩))]
      · rw [if_neg (by rw [decide_eq_false (by omega)]; decide)]
  rw [e1, zsm_cut _ c.toNat 8 (by omega), zsm_pm (T := T) (fun k a b => by have := hb.2 k a (by omega); omega) (fun i j a b a' b' e => by
    have x := (hb.2 i a (by omega)).2.2
    have y := (hb.2 j a' (by omega)).2.2
    rw [← x, ← y, e])]
  have e2 : zsm (fun k => if pl (T k) ≤ pl h then th (T k) else 0) c.toNat = zsm (fun k => if decide (k < (((pl h).toNat + 1 : Nat) : Int)) = true then th (T k) else 0) c.toNat := zsm_c _ (fun k a b => by
    show (if pl (T k) ≤ pl h then th (T k) else 0) = _
    rw [(hb.2 k a (by omega)).2.2]
    by_cases q : k ≤ pl h
    · rw [if_pos q, if_pos (decide_eq_true (by omega))]
    · rw [if_neg q, if_neg (by rw [decide_eq_false (by omega)]; decide)])
  rw [e2, zsm_cut _ ((pl h).toNat + 1) c.toNat (by omega)]
  show zsm (fun k => th (T k)) (pl h).toNat + th (T (((pl h).toNat : Nat) : Int)) = _
  rw [show (((pl h).toNat : Nat) : Int) = pl h by omega, p.2.2]
theorem zdd_s {c w : Int} {pl T th : Int → Int} {h : Int} (hc : 0 ≤ c ∧ c ≤ 8) (hw : 0 ≤ w) (hb : zbk c pl T) (hth : ∀ h, 0 ≤ h → h < c → 1 ≤ th h) (hh : 0 ≤ h ∧ h < c) : zdd pl T th w h = !zFs c w th pl h := by
  have p := hb.1 h hh.1 hh.2
  have t := hth h hh.1 hh.2
  have e := zcw_p (T := T) (th := th) hw (pl h).toNat (fun k a b => by have := hb.2 k a (by omega); have := hth _ this.1 this.2.1; omega)
  unfold zdd zcu zFs
  rw [zts_r hc hb hh, e]
  generalize zsm (fun k => th (T k)) (pl h).toNat = s
  by_cases q : s + th h ≤ w
  · rw [decide_eq_true q, decide_eq_false]
    · rfl
    · (repeat' split) <;> omega
  · rw [decide_eq_false q, decide_eq_true]
    · rfl
    · (repeat' split) <;> omega
theorem zcn_not (p : Int → Bool) : ∀ n : Nat, zsm (fun h => if (!p h) = true then 1 else 0) n = n - zcn p n
  | 0 => rfl
  | n + 1 => by
    have ih := zcn_not p n
    show zsm (fun h => if (!p h) = true then 1 else 0) n + (if (!p n) = true then 1 else 0) = ((n + 1 : Nat) : Int) - (zcn p n + (if p n = true then 1 else 0))
    rw [ih]
    cases p n <;> simp <;> omega
/-- the cost of an order -/
theorem zUd_n {c w : Int} {u len nam th : Int → Int} (ht : zTn c u len nam) (hw : 0 ≤ w) (hth : ∀ h, 0 ≤ h → h < c → 1 ≤ th h) : zsm (fun h => if zUd c u len nam th w h = true then 1 else 0) c.toNat = c - zFn c w th (zPg c u len nam) := by
  rw [zsm_c (g := fun h => if (!zFs c w th (zPg c u len nam) h) = true then 1 else 0) c.toNat (fun h a b => by
    show (if zUd c u len nam th w h = true then (1 : Int) else 0) = _
    unfold zUd
    rw [zdd_s ht.1 hw (zbk_g ht) hth ⟨a, by omega⟩]), zcn_not]
  have := ht.1
  unfold zFn
  omega
theorem zts_le {th : Int → Int} {x A : Int} (hth : ∀ h, 0 ≤ h → h < 8 → zb A h = true → 0 ≤ th h) (h : ∀ h, 0 ≤ h → h < 8 → zb x h = true → zb A h = true) : zts th x ≤ zts th A := by
  unfold zts
  refine zsm_le 8 (fun i a b => ?_)
  show (if zb x i = true then th i else 0) ≤ (if zb A i = true then th i else 0)
  by_cases q : zb x i = true
  · rw [if_pos q, if_pos (h i a b q)]; omega
  · rw [if_neg q]
    by_cases w : zb A i = true
    · rw [if_pos w]; exact hth i a b w
    · rw [if_neg w]; omega
