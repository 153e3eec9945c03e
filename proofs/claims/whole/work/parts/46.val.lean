/-! the value of code: v on top of the stack; g of what is on top -/
theorem zex_app (vr : Int → Int) : ∀ (a b : List Int) (q : Nat × (Int → Int)), zex vr (a ++ b) q = zex vr b (zex vr a q)
  | [], _, _ => rfl
  | c :: a, b, q => zex_app vr a b (zac vr c q)
def zVl (vr : Int → Int) (ds : List Int) (v : Int) : Prop := ∀ q : Nat × (Int → Int), (zex vr ds q).1 = q.1 + 1 ∧ (∀ j : Int, 0 ≤ j → j < q.1 → (zex vr ds q).2 j = q.2 j) ∧ (zex vr ds q).2 (q.1 : Int) = v
def zGl (vr : Int → Int) (ds : List Int) (g : Int → Int) : Prop := ∀ q : Nat × (Int → Int), 1 ≤ q.1 → (zex vr ds q).1 = q.1 ∧ (∀ j : Int, 0 ≤ j → j < (q.1 : Int) - 1 → (zex vr ds q).2 j = q.2 j) ∧ (zex vr ds q).2 ((q.1 : Int) - 1) = g (q.2 ((q.1 : Int) - 1))
theorem zVl_num {vr : Int → Int} {c : Int} (h : c < 1000) : zVl vr [c] c := by
  intro q
  show (zac vr c q).1 = q.1 + 1 ∧ (∀ j : Int, 0 ≤ j → j < q.1 → (zac vr c q).2 j = q.2 j) ∧ (zac vr c q).2 (q.1 : Int) = c
  unfold zac
  rw [if_neg (by omega), if_pos h]
  exact ⟨rfl, fun j a b => if_neg (by omega), if_pos rfl⟩
theorem zVl_var {vr : Int → Int} {x : Int} (h : 0 ≤ x ∧ x < 4) : zVl vr [1000 + x] (vr x) := by
  intro q
  show (zac vr (1000 + x) q).1 = q.1 + 1 ∧ (∀ j : Int, 0 ≤ j → j < q.1 → (zac vr (1000 + x) q).2 j = q.2 j) ∧ (zac vr (1000 + x) q).2 (q.1 : Int) = vr x
  unfold zac
  rw [if_neg (by omega), if_neg (by omega), if_pos (by omega), show 1000 + x - 1000 = x by omega]
  exact ⟨rfl, fun j a b => if_neg (by omega), if_pos rfl⟩
theorem zVl_neg {vr : Int → Int} {ds : List Int} {v : Int} (h : zVl vr ds v) : zVl vr (ds ++ [3000]) (z_wr (-v)) := by
  intro q
  obtain ⟨h1, h2, h3⟩ := h q
  rw [zex_app]
  generalize zex vr ds q = r at h1 h2 h3
  show (zac vr 3000 r).1 = q.1 + 1 ∧ (∀ j : Int, 0 ≤ j → j < q.1 → (zac vr 3000 r).2 j = q.2 j) ∧ (zac vr 3000 r).2 (q.1 : Int) = z_wr (-v)
  unfold zac
  rw [if_pos rfl]
  refine ⟨h1, fun j a b => ?_, ?_⟩
  · show (if j = (r.1 : Int) - 1 then z_wr (-(r.2 j)) else r.2 j) = q.2 j
    rw [if_neg (by omega)]; exact h2 j a b
  · show (if (q.1 : Int) = (r.1 : Int) - 1 then z_wr (-(r.2 (q.1 : Int))) else r.2 (q.1 : Int)) = z_wr (-v)
    rw [if_pos (by omega), h3]
theorem zVl_G {vr g : Int → Int} {ds dt : List Int} {v : Int} (h : zVl vr ds v) (h' : zGl vr dt g) : zVl vr (ds ++ dt) (g v) := by
  intro q
  obtain ⟨h1, h2, h3⟩ := h q
  rw [zex_app]
  generalize zex vr ds q = r at h1 h2 h3
  obtain ⟨k1, k2, k3⟩ := h' r (by omega)
  refine ⟨by omega, fun j a b => ?_, ?_⟩
  · rw [k2 j a (by omega)]; exact h2 j a b
  · rw [show (r.1 : Int) - 1 = (q.1 : Int) by omega] at k3
    rw [k3, h3]
theorem zGl_nil {vr : Int → Int} : zGl vr [] (fun x => x) := fun _ _ => ⟨rfl, fun _ _ _ => rfl, rfl⟩
theorem zGl_op {vr g : Int → Int} {ds dt : List Int} {v o : Int} (ho : 0 ≤ o ∧ o < 7) (h : zVl vr ds v) (h' : zGl vr dt g) : zGl vr (ds ++ ([2000 + o] ++ dt)) (fun x => g (zwk o x v)) := by
  intro q hq
  obtain ⟨h1, h2, h3⟩ := h q
  rw [zex_app, zex_app]
  generalize zex vr ds q = r at h1 h2 h3
  have e1 : (zex vr [2000 + o] r).1 = q.1 := by
    show (zac vr (2000 + o) r).1 = q.1
    unfold zac
    rw [if_neg (by omega), if_neg (by omega), if_neg (by omega)]
    show r.1 - 1 = q.1
    omega
  have e2 : ∀ j : Int, (zex vr [2000 + o] r).2 j = if j = (r.1 : Int) - 2 then zwk o (r.2 ((r.1 : Int) - 2)) (r.2 ((r.1 : Int) - 1)) else r.2 j := by
    intro j
    show (zac vr (2000 + o) r).2 j = _
    unfold zac
    rw [if_neg (by omega), if_neg (by omega), if_neg (by omega), show 2000 + o - 2000 = o by omega]
  generalize zex vr [2000 + o] r = t at e1 e2
  obtain ⟨k1, k2, k3⟩ := h' t (by omega)
  refine ⟨by omega, fun j a b => ?_, ?_⟩
  · rw [k2 j a (by omega), e2 j, if_neg (by omega)]; exact h2 j a (by omega)
  · rw [e1] at k3
    rw [k3, e2, if_pos (by omega), show (r.1 : Int) - 2 = (q.1 : Int) - 1 by omega, show (r.1 : Int) - 1 = (q.1 : Int) by omega, h3, h2 _ (by omega) (by omega)]
