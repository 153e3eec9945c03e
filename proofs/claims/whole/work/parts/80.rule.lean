/-! rule() -/
theorem zat_c {sg sg' : Int → Int} {e p : Int} (h : ∀ j, 0 ≤ j → j < e → sg j = sg' j) (p0 : 0 ≤ p) : zat sg e p = zat sg' e p := by
  unfold zat
  by_cases q : p < e
  · rw [if_pos q, if_pos q]; exact h p p0 q
  · rw [if_neg q, if_neg q]
theorem znum_c {sg sg' : Int → Int} {e : Int} (h : ∀ j, 0 ≤ j → j < e → sg j = sg' j) : ∀ (k : Nat) (p v : Int), 0 ≤ p → znum sg e k p v = znum sg' e k p v
  | 0, _, _, _ => rfl
  | k + 1, p, v, p0 => by
    unfold znum
    rw [zat_c h p0, znum_c h k (p + 1) _ (by omega)]
theorem zpr_c {sg sg' : Int → Int} {e : Int} (h : ∀ j, 0 ≤ j → j < e → sg j = sg' j) : ∀ (f m : Nat) (p k : Int) (cs : List Int), (m ≤ 3 ∨ (10 ≤ m ∧ m ≤ 12)) → 0 ≤ p → p ≤ e → zpr sg e f m p k cs = zpr sg' e f m p k cs := by
  intro f
  induction f with
  | zero => intro m p k cs _ _ _; rfl
  | succ f ih =>
    intro m p k cs hm p0 pe
    have ea := zat_c h p0
    have nx : ∀ (m : Nat) (k : Int) (cs : List Int), m ≤ 3 → zat sg' e p ≠ -1 → zpr sg e f m (p + 1) k cs = zpr sg' e f m (p + 1) k cs := fun m k cs hm hz => ih m (p + 1) k cs (by omega) (by omega) (by have := (zat_lt hz).1; omega)
    have go : ∀ (m' m2 : Nat) (q k : Int) (cs : List Int) (b : Bool) (p1 k1 : Int) (c1 : List Int), (m' ≤ 3 ∨ (10 ≤ m' ∧ m' ≤ 12)) → (m2 ≤ 3 ∨ (10 ≤ m2 ∧ m2 ≤ 12)) → 0 ≤ q → q ≤ e → zpr sg' e f m' q k cs = (b, p1, k1, c1) → ∀ k2 c2, zpr sg e f m2 p1 k2 c2 = zpr sg' e f m2 p1 k2 c2 := by
      intro m' m2 q k cs b p1 k1 c1 h1 h2 q0 qe hr k2 c2
      obtain ⟨l1, ⟨ds, -, l2⟩, -⟩ := zpr_len sg' e f m' q k cs b p1 k1 c1 h1 qe hr
      exact ih m2 p1 k2 c2 h2 (by omega) l1
    unfold zpr
    rw [ea]
    by_cases m3 : m = 3
    · rw [if_pos m3, if_pos m3]
      by_cases c1 : zat sg' e p = 45
      · rw [if_pos c1, if_pos c1, nx 3 k cs (by omega) (by omega)]
      · rw [if_neg c1, if_neg c1, znum_c h 3 p 0 p0]
        by_cases c2 : 48 ≤ zat sg' e p ∧ zat sg' e p ≤ 57
        · rw [if_pos c2, if_pos c2]
        · rw [if_neg c2, if_neg c2]
          by_cases c3 : 0 ≤ zvar (zat sg' e p)
          · rw [if_pos c3, if_pos c3]
          · rw [if_neg c3, if_neg c3]
            by_cases c4 : k = 4 ∨ zat sg' e p ≠ 40
            · rw [if_pos c4, if_pos c4]
            · rw [if_neg c4, if_neg c4, nx 0 (k + 1) cs (by omega) (by omega)]
              rcases hr : zpr sg' e f 0 (p + 1) (k + 1) cs with ⟨b, p1, k1, c1'⟩
              have l := (zat_lt (sg := sg') (e := e) (p := p) (by omega)).1
              obtain ⟨l1, ⟨ds, -, l2⟩, -⟩ := zpr_len sg' e f 0 (p + 1) (k + 1) cs b p1 k1 c1' (by omega) (by omega) hr
              have e1 := zat_c h (p := p1) (by omega)
              cases b with
              | false => rfl
              | true =>
                show (if zat sg e p1 = 41 then (true, p1 + 1, k1 - 1, c1') else (false, p1, k1, c1')) = (if zat sg' e p1 = 41 then (true, p1 + 1, k1 - 1, c1') else (false, p1, k1, c1'))
                rw [e1]
    · rw [if_neg m3, if_neg m3]
      by_cases m2 : m < 3
      · rw [if_pos m2, if_pos m2, ih (m + 1) p k cs (by omega) p0 pe]
        rcases hr : zpr sg' e f (m + 1) p k cs with ⟨b, p1, k1, c1'⟩
        cases b with
        | false => rfl
        | true => exact go (m + 1) (m + 10) p k cs true p1 k1 c1' (by omega) (by omega) p0 pe hr k1 c1'
      · rw [if_neg m2, if_neg m2]
        by_cases c1 : zop (m - 10) (zat sg' e p) < 0
        · rw [if_pos c1, if_pos c1]
        · rw [if_neg c1, if_neg c1]
          have hz : zat sg' e p ≠ -1 := fun z => by
            apply c1; rw [z]; unfold zop; split <;> decide
          rw [nx (m - 10 + 1) k cs (by omega) hz]
          rcases hr : zpr sg' e f (m - 10 + 1) (p + 1) k cs with ⟨b, p1, k1, c1'⟩
          cases b with
          | false => rfl
          | true =>
            by_cases c5 : m = 10
            · show (if m = 10 then _ else _) = (if m = 10 then _ else _)
              rw [if_pos c5, if_pos c5]
            · show (if m = 10 then _ else _) = (if m = 10 then _ else _)
              rw [if_neg c5, if_neg c5]
              have := (zat_lt hz).1
              exact go (m - 10 + 1) m (p + 1) k cs true p1 k1 c1' (by omega) hm (by omega) (by omega) hr k1 _
/-- the text as a rule: what the reader says, how long it may be, the fault (-1: none) -/
def zre (n : Int) : Int := if n < 40 then n else 40
def zrr (n : Int) (sg : Int → Int) : Bool × Int × Int × List Int := if n = 0 then (true, 0, 0, []) else zpr sg (zre n) 400 0 0 0 []
def zrf (n : Int) (sg : Int → Int) : Int := if (zrr n sg).1 = true ∧ (zrr n sg).2.1 = zre n ∧ n ≤ 40 then -1 else (zrr n sg).2.1
theorem zrr_b {n : Int} {sg : Int → Int} (h : 0 ≤ n) : (0 ≤ (zrr n sg).2.1 ∧ (zrr n sg).2.1 ≤ zre n) ∧ ((zrr n sg).2.2.2.length : Int) ≤ (zrr n sg).2.1 ∧ zre n ≤ 40 := by
  have e40 : 0 ≤ zre n ∧ zre n ≤ 40 := by unfold zre; split <;> omega
  unfold zrr
  by_cases q : n = 0
  · rw [if_pos q]
    refine ⟨⟨by show (0 : Int) ≤ 0; omega, by show (0 : Int) ≤ zre n; omega⟩, by show (([] : List Int).length : Int) ≤ 0; simp, e40.2⟩
  · rw [if_neg q]
    rcases hr : zpr sg (zre n) 400 0 0 0 [] with ⟨b, p', k', cs'⟩
    obtain ⟨l1, ⟨ds, l0, l2⟩, -⟩ := zpr_len sg (zre n) 400 0 0 0 [] b p' k' cs' (by omega) e40.1 hr
    have : cs' = ds := by rw [l0]; rfl
    subst this
    exact ⟨⟨by show 0 ≤ p'; omega, l1⟩, by show (cs'.length : Int) ≤ p'; omega, e40.2⟩
theorem s_faultIn {d : Nat} {M : zM} {F : Int → zM → Prop} (hn : 1 ≤ M 1 1 ∧ M 1 1 ≤ 80) (H : F (zrf (M 1 1) (M 2)) M) : zCi (d + 3) 16 [z_r (7, 0) 1] M F := by
  refine s_Rule_faultIn rfl (by omega) (fun E hS => ?_)
  have hS : zFS (M 2) (M 1 1) (zre (M 1 1)) (fun v => F v M) E := hS
  have e40 : 0 ≤ zre (M 1 1) ∧ zre (M 1 1) ≤ 40 := by unfold zre; split <;> omega
  have er : zrr (M 1 1) (M 2) = zpr (M 2) (zre (M 1 1)) 400 0 0 0 [] := by unfold zrr; rw [if_neg (by omega)]
  unfold zrf at H
  rw [er] at H
  rcases hr : zpr (M 2) (zre (M 1 1)) 400 0 0 0 [] with ⟨b, p', k', cs'⟩
  rw [hr] at H
  have H : F (if b = true ∧ p' = zre (M 1 1) ∧ M 1 1 ≤ 40 then -1 else p') M := H
  obtain ⟨l1, ⟨ds, l0, l2⟩, -⟩ := zpr_len (M 2) (zre (M 1 1)) 400 0 0 0 [] b p' k' cs' (by omega) e40.1 hr
  have i1 := (zsc_all hS 400 0 0 0 [] b p' k' cs' (by omega) (by omega) e40.1 (by omega) (by have : zfn 0 (zre (M 1 1)) 0 = 8 * (zre (M 1 1) - 0) + (8 - ((0 : Nat) : Int)) := rfl; omega) hr 0 (by omega)).1 (by omega) (fun _ => zb_0 0)
  cases b with
  | false =>
    rw [if_neg (fun z => absurd z.1 (by decide))] at H
    exact i1.2 rfl H
  | true =>
    refine i1.1 rfl (fun g bits cg nn bt => ?_)
    have st := hS 0 bits g 1 p' (by omega) bt.1 cg.1 (Or.inr rfl) (by omega)
    by_cases q : p' < zre (M 1 1)
    · rw [if_neg (fun z => by omega)] at H
      have ea : zat (M 2) (zre (M 1 1)) p' = M 2 p' := by unfold zat; rw [if_pos q]
      by_cases dg : 48 ≤ M 2 p' ∧ M 2 p' ≤ 57
      · refine st.2.2.1 q dg rfl ?_ H
        have cg2 := cg.2
        rw [ea] at cg2
        have cg1 := cg.1
        by_cases g1 : g = 1 ∨ g = 2
        · exact absurd dg (cg2 g1)
        · omega
      · refine st.2.2.2.1 q dg ?_ H
        rw [← ea]
        unfold zcs
        rw [if_pos (by decide)]
        by_cases c41 : zat (M 2) (zre (M 1 1)) p' = 41
        · rw [if_pos c41]; rfl
        · rw [if_neg c41, decide_eq_false (by have := nn.2.1 (by omega); omega), decide_eq_false (by have := nn.1 (by omega); omega), Bool.false_or, Bool.false_or]
          by_cases q0 : 0 ≤ zop 0 (zat (M 2) (zre (M 1 1)) p')
          · rw [nn.2.2 rfl q0]; simp
          · rw [decide_eq_false q0]; rfl
    · refine st.1 (by omega) ?_
      have pe : p' = zre (M 1 1) := by omega
      by_cases q4 : M 1 1 ≤ 40
      · rw [if_pos ⟨rfl, pe, q4⟩] at H
        rw [if_pos ⟨by decide, rfl, q4⟩]; exact H
      · rw [if_neg (fun z => q4 z.2.2)] at H
        rw [if_neg (fun z => q4 z.2.2), ← pe]; exact H
theorem s_Rule_take {d a : Nat} {M : zM} {F : zM → Prop} (ha : a ≠ 2 ∧ a + 1 ≠ 2 ∧ a ≠ 1) (hn : 0 ≤ M 1 1 ∧ M 1 1 ≤ 40) (H : ∀ M', zf [a + 1] [(a, 1)] M M' → M' a 1 = M 1 1 → (∀ j, 0 ≤ j → j < M 1 1 → M' (a + 1) j = M 2 j) → F M') : zCv (d + 1) 23 [z_r (6, 0) a, z_r (7, 0) 1] M F := by
  refine e_Rule_take ?_
  rw [if_neg (show ¬ (40 : Int) < M 1 1 by omega), zu_s]
  refine ⟨⟨by decide, by decide, by omega, by omega, by omega⟩, H _ (zf_cp (zf_uj zf_rf List.mem_cons_self) List.mem_cons_self) ?_ (fun j a0 b => ?_)⟩
  · rw [zc_c (by omega), zu_s]
  · rw [zc_in (by omega) (by omega), zu_c (by omega)]
    rw [show (0 : Int) + (j - 0) = j by omega]
/-- the class takes the text as a rule -/
theorem s_W_takeRule {d a : Nat} {M : zM} {F : Int → zM → Prop} (ha : a ≠ 2 ∧ a + 1 ≠ 2 ∧ a ≠ 1 ∧ a + 1 ≠ 1) (hn : 0 ≤ M 1 1 ∧ M 1 1 ≤ 80) (H1 : zrf (M 1 1) (M 2) = -1 → ∀ M', zf [a + 1] [(a, 1), (1, 1)] M M' → M' 1 1 = 0 → M' a 1 = M 1 1 → (∀ j, 0 ≤ j → j < M 1 1 → M' (a + 1) j = M 2 j) → F (-1) M') (H0 : zrf (M 1 1) (M 2) ≠ -1 → F (zrf (M 1 1) (M 2)) (z_up M 1 1 0)) : zCi (d + 4) 15 [z_r (10, 0) 0, z_r (6, 0) a] M F := by
  have tk : M 1 1 ≤ 40 → zrf (M 1 1) (M 2) = -1 → zCv (d + 3) 23 [z_r (6, 0) a, z_r (7, 0) 1] M (fun M6 => F (-1) (z_up M6 1 1 0)) := by
    intro h40 hf
    refine s_Rule_take ⟨ha.1, ha.2.1, ha.2.2.1⟩ (by omega) (fun M' f e1 e2 => H1 hf _ (zf_uj (zf_w f (fun b hb => hb) (fun q hq => Or.inr (by rw [List.mem_singleton.mp hq]; exact List.mem_cons_self))) ?_) (zu_s _ _ _ _) ?_ (fun j x y => ?_))
    · exact List.mem_cons_of_mem _ List.mem_cons_self
    · rw [zu_c (by omega)]; exact e1
    · rw [zu_c (by omega)]; exact e2 j x y
  refine e_W_takeRule ⟨fun z => s_faultIn (by omega) ⟨fun z2 => H0 z2, fun z2 => ?_⟩, fun z => ⟨fun z2 => absurd rfl z2, fun _ => ?_⟩⟩
  · have hf := Classical.not_not.mp z2
    have hb := zrr_b (n := M 1 1) (sg := M 2) hn.1
    have h40 : M 1 1 ≤ 40 := Classical.byContradiction (fun q => by
      unfold zrf at hf
      rw [if_neg (fun w => q w.2.2)] at hf
      omega)
    rw [hf]
    exact tk h40 hf
  · have n0 := Classical.not_not.mp z
    refine tk (by omega) ?_
    unfold zrf zrr zre
    rw [n0, if_pos rfl]; rfl
