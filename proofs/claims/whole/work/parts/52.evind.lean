/-! one induction over the reader of rules -/
theorem zop0 (c : Int) : zop 0 c = if c = 60 then 0 else if c = 62 then 1 else if c = 61 then 2 else -1 := rfl
theorem zop1 (c : Int) : zop 1 c = if c = 43 then 3 else if c = 45 then 4 else -1 := rfl
theorem zop2 (c : Int) : zop 2 c = if c = 42 then 5 else if c = 47 then 6 else -1 := rfl
def zKK (a0 : Nat) (sg : Int → Int) (e : Int) (vr : Int → Int) (E : Int → Int → Int → zM → Prop) (m : Nat) (k p p' : Int) (ds : List Int) : Prop := (m ≤ 3 → ∃ v, z_ri v ∧ zVl vr ds v ∧ zKv a0 sg e E m k p p' v) ∧ (10 ≤ m → ∃ g, (∀ x, z_ri x → z_ri (g x)) ∧ zGl vr ds g ∧ zKg a0 sg e E (m - 10) k p p' g)
theorem zev_ind {d a0 : Nat} {sg : Int → Int} {e : Int} {vr : Int → Int} {E : Int → Int → Int → zM → Prop} (hS : zSt d a0 sg e vr E) (hvr : ∀ i, 0 ≤ i → i < 4 → z_ri (vr i)) : ∀ (f m : Nat) (p k : Int) (cs : List Int) (p' k' : Int) (cs' : List Int), (m ≤ 3 ∨ (10 ≤ m ∧ m ≤ 12)) → 0 ≤ p → p ≤ e → 0 ≤ k → k ≤ 4 → zpr sg e f m p k cs = (true, p', k', cs') → ¬ (48 ≤ zat sg e p' ∧ zat sg e p' ≤ 57) → k' = k ∧ p ≤ p' ∧ p' ≤ e ∧ ∃ ds, cs' = cs ++ ds ∧ zKK a0 sg e vr E m k p p' ds := by
  intro f
  induction f with
  | zero => intro m p k cs p' k' cs' _ _ _ _ _ h; unfold zpr at h; cases h
  | succ f ih =>
    intro m p k cs p' k' cs' hm p0 pe k0 k4 h hnd
    unfold zpr at h
    by_cases m3 : m = 3
    · rw [if_pos m3] at h
      subst m3
      by_cases c1 : zat sg e p = 45
      · rw [if_pos c1] at h
        rcases hr : zpr sg e f 3 (p + 1) k cs with ⟨b, p1, k1, c1'⟩
        rw [hr] at h
        obtain ⟨rfl, rfl, rfl, rfl⟩ : b = true ∧ p1 = p' ∧ k1 = k' ∧ c1' ++ [3000] = cs' := by simpa using h
        obtain ⟨l1, l2⟩ := zat_lt (sg := sg) (e := e) (p := p) (by omega)
        obtain ⟨rfl, i1, i2, ds, rfl, hA, -⟩ := ih 3 (p + 1) k cs _ _ _ (by omega) (by omega) (by omega) k0 k4 hr hnd
        obtain ⟨v, hv, hV, hK⟩ := hA (by omega)
        clear hA
        refine ⟨rfl, by omega, i2, ds ++ [3000], by simp, fun _ => ⟨z_wr (-v), zn_wr_r _, zVl_neg hV, ?_⟩, fun z => by omega⟩
        intro B x c s a q o n M b1 b2 hr1 H
        obtain ⟨-, -, -, s4⟩ := hS B _ x c s a q o n 0 0 p M b1 b2 hr1 p0 l1
        rw [← l2, c1] at s4
        refine s4 (by omega) (by decide) (l_minus hr1 (fun M' hr2 => ?_))
        rw [if_neg (by decide)]
        refine hK B x c s a q o _ M' b1 b2 hr2 (fun M2 hr3 => H M2 ?_)
        by_cases n0 : n = 0
        · rw [if_pos n0] at hr3 ⊢; rw [if_neg (by decide)] at hr3; exact hr3
        · rw [if_neg n0] at hr3 ⊢; rw [if_pos rfl] at hr3; rw [zwr_nn hv]; exact hr3
      · rw [if_neg c1] at h
        by_cases c2 : 48 ≤ zat sg e p ∧ zat sg e p ≤ 57
        · rw [if_pos c2] at h
          obtain ⟨rfl, rfl, rfl⟩ : (znum sg e 3 p 0).2 = p' ∧ k = k' ∧ cs ++ [(znum sg e 3 p 0).1] = cs' := by simpa using h
          have r := znum_r sg e 3 p 0 (by omega)
          have r2 : (znum sg e 3 p 0).1 < 1000 := by have := r.2; simp at this; omega
          have i := znum_p sg e 3 p 0 pe
          refine ⟨rfl, i.1, i.2, [(znum sg e 3 p 0).1], rfl, fun _ => ⟨(znum sg e 3 p 0).1, by unfold z_ri; omega, zVl_num r2, ?_⟩, fun z => by omega⟩
          intro B x c s a q o n M b1 b2 hr1 H
          exact zev_num hS b1 b2 hr1 3 0 p 0 (by omega) (by omega) (by omega) (by omega) (by omega) p0 c2 hnd H
        · rw [if_neg c2] at h
          by_cases c3 : 0 ≤ zvar (zat sg e p)
          · rw [if_pos c3] at h
            obtain ⟨rfl, rfl, rfl⟩ : p + 1 = p' ∧ k = k' ∧ cs ++ [1000 + zvar (zat sg e p)] = cs' := by simpa using h
            have r := zvar_r (zat sg e p)
            obtain ⟨l1, l2⟩ := zat_lt (sg := sg) (e := e) (p := p) (fun z => by rw [z] at c3; revert c3; decide)
            refine ⟨rfl, by omega, by omega, [1000 + zvar (zat sg e p)], rfl, fun _ => ⟨vr (zvar (zat sg e p)), hvr _ c3 r, zVl_var ⟨c3, r⟩, ?_⟩, fun z => by omega⟩
            intro B x c s a q o n M b1 b2 hr1 H
            obtain ⟨-, -, s3, -⟩ := hS B k x c s a q o n 0 0 p M b1 b2 hr1 p0 l1
            rw [← l2] at s3
            exact s3 c3 H
          · rw [if_neg c3] at h
            by_cases c4 : k = 4 ∨ zat sg e p ≠ 40
            · rw [if_pos c4] at h; cases h
            · rw [if_neg c4] at h
              rcases hr : zpr sg e f 0 (p + 1) (k + 1) cs with ⟨b, p1, k1, c1'⟩
              rw [hr] at h
              cases b with
              | false => cases h
              | true =>
                by_cases c5 : zat sg e p1 = 41
                · have h : (true, p1 + 1, k1 - 1, c1') = (true, p', k', cs') := by simpa [c5] using h
                  obtain ⟨rfl, rfl, rfl⟩ : p1 + 1 = p' ∧ k1 - 1 = k' ∧ c1' = cs' := by simpa using h
                  have c40 : zat sg e p = 40 := by omega
                  obtain ⟨l1, l2⟩ := zat_lt (sg := sg) (e := e) (p := p) (by omega)
                  obtain ⟨l3, l4⟩ := zat_lt (sg := sg) (e := e) (p := p1) (by omega)
                  obtain ⟨rfl, i1, i2, ds, rfl, hA, -⟩ := ih 0 (p + 1) (k + 1) cs _ _ _ (by omega) (by omega) (by omega) (by omega) (by omega) hr (by omega)
                  obtain ⟨v, hv, hV, hK⟩ := hA (by omega)
                  clear hA
                  refine ⟨by omega, by omega, by omega, ds, rfl, fun _ => ⟨v, hv, hV, ?_⟩, fun z => by omega⟩
                  intro B x c s a q o n M b1 b2 hr1 H
                  obtain ⟨-, -, -, s4⟩ := hS B k x c s a q o n 0 0 p M b1 b2 hr1 p0 l1
                  rw [← l2, c40] at s4
                  refine s4 (by omega) (by decide) (l_paren hr1 (by omega) (fun x' p2 M' hr2 => ?_))
                  rw [if_neg (by decide)]
                  have e1 : M a0 1 = e := by
                    rcases hr1.2.2 a0 1 with z | z | z
                    · omega
                    · omega
                    · rw [z]; exact b1
                  have e2 : M (a0 + 1) = sg := by
                    funext j
                    rcases hr1.2.2 (a0 + 1) j with z | z | z
                    · omega
                    · omega
                    · rw [z, b2]
                  refine hK M x' p2 M' e1 e2 hr2 (fun x3 c3' s3' a3 q3 o3 M3 hr3 ev => ?_)
                  obtain ⟨-, -, -, s4⟩ := hS M (k + 1) x3 c3' s3' a3 q3 o3 0 1 0 p1 M3 e1 e2 hr3 (by omega) l3
                  rw [← l4, c5] at s4
                  refine s4 (by omega) (by decide) (l_unparen hr1 hr3 (fun M4 hr4 => ?_))
                  rw [if_pos rfl]
                  rw [ev] at hr4
                  exact H M4 hr4
                · simp [c5] at h
    · rw [if_neg m3] at h
      by_cases m2 : m < 3
      · rw [if_pos m2] at h
        rcases hr : zpr sg e f (m + 1) p k cs with ⟨b, p1, k1, c1'⟩
        rw [hr] at h
        cases b with
        | false => cases h
        | true =>
          have h : zpr sg e f (m + 10) p1 k1 c1' = (true, p', k', cs') := h
          obtain ⟨rfl, i1, i2, ds, rfl, hA, -⟩ := ih (m + 1) p k cs _ _ _ (by omega) p0 pe k0 k4 hr (zpr_nd (by omega) h hnd)
          have hm10 : 10 ≤ m + 10 := by omega
          have hm4 : m + 1 ≤ 3 := by omega
          have hmp : 0 ≤ p1 := by omega
          have hmm : m + 10 ≤ 3 ∨ (10 ≤ m + 10 ∧ m + 10 ≤ 12) := by omega
          obtain ⟨v, hv, hV, hK⟩ := hA hm4
          clear hA
          obtain ⟨rfl, i3, i4, dt, rfl, -, hB⟩ := ih (m + 10) p1 k1 _ _ _ _ hmm hmp i2 k0 k4 h hnd
          obtain ⟨g, hg, hG, hL⟩ := hB hm10
          clear hB
          refine ⟨rfl, by omega, i4, ds ++ dt, by simp, fun _ => ⟨g v, hg v hv, zVl_G hV hG, ?_⟩, fun z => by omega⟩
          have h012 : m = 0 ∨ m = 1 ∨ m = 2 := by omega
          rcases h012 with rfl | rfl | rfl
          · intro B x q M b1 b2 hr1 H
            refine hK B x 0 q M b1 b2 hr1 (fun s' a' q' o' M' hr2 ev => ?_)
            refine hL B x s' a' q' o' M' b1 b2 hr2 ?_
            rw [ev]
            exact H
          · intro B x c q M b1 b2 hr1 H
            refine hK B x c 0 43 q M b1 b2 hr1 (fun o' M' hr2 => ?_)
            refine hL B x c 0 43 v o' M' b1 b2 hr2 ?_
            rw [show zcm 0 43 v = v by unfold zcm; rw [if_pos rfl, Int.zero_add]; exact zn_id hv]
            exact H
          · intro B x c s a q M b1 b2 hr1 H
            refine hK B x c s a q 0 0 M b1 b2 hr1 (fun M' hr2 => ?_)
            rw [if_pos rfl, show ztk 0 q v = v from by unfold ztk; rw [if_neg (by decide), if_neg (by decide)]] at hr2
            exact hL B x c s a v 0 M' b1 b2 hr2 H
      · rw [if_neg m2] at h
        by_cases c1 : zop (m - 10) (zat sg e p) < 0
        · rw [if_pos c1] at h
          obtain ⟨rfl, rfl, rfl⟩ : p = p' ∧ k = k' ∧ cs = cs' := by simpa using h
          refine ⟨rfl, Int.le_refl _, pe, [], by simp, fun z => by omega, fun _ => ⟨fun x => x, fun x hx => hx, zGl_nil, ?_⟩⟩
          have h012 : m = 10 ∨ m = 11 ∨ m = 12 := by omega
          rcases h012 with rfl | rfl | rfl
          · intro B x s a q o M b1 b2 hr1 H
            exact H x 0 s a q o M hr1 rfl
          · intro B x c s a q o M b1 b2 hr1 H
            exact H s a q o M hr1 rfl
          · intro B x c s a q o M b1 b2 hr1 H
            exact H o M hr1
        · rw [if_neg c1] at h
          have ro := zop_r (m - 10) (zat sg e p)
          rcases hr : zpr sg e f (m - 10 + 1) (p + 1) k cs with ⟨b, p1, k1, c1'⟩
          rw [hr] at h
          cases b with
          | false => cases h
          | true =>
            have l : p < e ∧ zat sg e p = sg p := zat_lt (fun z => by
              apply c1; rw [z]; unfold zop; split <;> decide)
            by_cases c5 : m = 10
            · subst c5
              have h : (true, p1, k1, c1' ++ [2000 + zop 0 (zat sg e p)]) = (true, p', k', cs') := h
              obtain ⟨rfl, rfl, rfl⟩ : p1 = p' ∧ k1 = k' ∧ c1' ++ [2000 + zop 0 (zat sg e p)] = cs' := by simpa using h
              obtain ⟨rfl, i1, i2, ds, rfl, hA, -⟩ := ih 1 (p + 1) k cs _ _ _ (by omega) (by omega) (by omega) k0 k4 hr hnd
              obtain ⟨v, hv, hV, hK⟩ := hA (by omega)
              clear hA
              have ro : zop 0 (zat sg e p) < 7 := ro
              have c1 : ¬ zop 0 (zat sg e p) < 0 := c1
              refine ⟨rfl, by omega, i2, ds ++ ([2000 + zop 0 (zat sg e p)] ++ []), by simp, fun z => by omega, fun _ => ⟨fun x => zwk (zop 0 (zat sg e p)) x v, fun x _ => zwk_ri _ _ _, zGl_op ⟨by omega, ro⟩ hV zGl_nil, ?_⟩⟩
              intro B x s a q o M b1 b2 hr1 H
              obtain ⟨-, -, -, s4⟩ := hS B _ x 0 s a q o 0 1 0 p M b1 b2 hr1 p0 l.1
              rw [← l.2] at s4
              have cc : (zat sg e p = 60 ∧ zop 0 (zat sg e p) = 0) ∨ (zat sg e p = 62 ∧ zop 0 (zat sg e p) = 1) ∨ (zat sg e p = 61 ∧ zop 0 (zat sg e p) = 2) := by
                revert c1; rw [zop0]; (repeat' split) <;> omega
              have nv : zvar (zat sg e p) < 0 := by unfold zvar; (repeat' split) <;> omega
              refine s4 (by omega) nv (l_cmp hr1 (by omega) (fun M' hr2 => ?_))
              rw [if_neg (by omega)]
              refine hK B _ _ q M' b1 b2 hr2 (fun s' a' q' o' M2 hr3 ev => H _ _ s' a' q' o' M2 hr3 ?_)
              rw [ev]
              show _ = zwk (zop 0 (zat sg e p)) (zcm s a q) v
              rcases cc with ⟨w1, w2⟩ | ⟨w1, w2⟩ | ⟨w1, w2⟩ <;> rw [w2, w1] <;> rfl
            · have h : zpr sg e f m p1 k1 (c1' ++ [2000 + zop (m - 10) (zat sg e p)]) = (true, p', k', cs') := by simpa [c5] using h
              obtain ⟨rfl, i1, i2, ds, rfl, hA, -⟩ := ih (m - 10 + 1) (p + 1) k cs _ _ _ (by omega) (by omega) (by omega) k0 k4 hr (zpr_nd (by omega) h hnd)
              obtain ⟨v, hv, hV, hK⟩ := hA (by omega)
              clear hA
              have hm10 : 10 ≤ m := by omega
              have hmp : 0 ≤ p1 := by omega
              obtain ⟨rfl, i3, i4, dt, rfl, -, hB⟩ := ih m p1 k1 _ _ _ _ hm hmp i2 k0 k4 h hnd
              obtain ⟨g, hg, hG, hL⟩ := hB hm10
              clear hB
              refine ⟨rfl, by omega, i4, ds ++ ([2000 + zop (m - 10) (zat sg e p)] ++ dt), by simp, fun z => by omega, fun _ => ⟨fun x => g (zwk (zop (m - 10) (zat sg e p)) x v), fun x _ => hg _ (zwk_ri _ _ _), zGl_op ⟨by omega, ro⟩ hV hG, ?_⟩⟩
              have h12 : m = 11 ∨ m = 12 := by omega
              rcases h12 with rfl | rfl
              · intro B x c s a q o M b1 b2 hr1 H
                obtain ⟨-, -, -, s4⟩ := hS B _ x c s a q o 0 1 0 p M b1 b2 hr1 p0 l.1
                rw [← l.2] at s4
                have c1 : ¬ zop 1 (zat sg e p) < 0 := c1
                have cc : (zat sg e p = 43 ∧ zop 1 (zat sg e p) = 3) ∨ (zat sg e p = 45 ∧ zop 1 (zat sg e p) = 4) := by
                  revert c1; rw [zop1]; (repeat' split) <;> omega
                have nv : zvar (zat sg e p) < 0 := by unfold zvar; (repeat' split) <;> omega
                refine s4 (by omega) nv (l_add hr1 (by omega) (fun M' hr2 => ?_))
                rw [if_neg (by omega)]
                refine hK B x c _ _ q M' b1 b2 hr2 (fun o' M2 hr3 => hL B x c _ _ v o' M2 b1 b2 hr3 ?_)
                have ev : zcm (zcm s a q) (zat sg e p) v = zwk (zop 1 (zat sg e p)) (zcm s a q) v := by
                  generalize zcm s a q = V
                  rcases cc with ⟨w1, w2⟩ | ⟨w1, w2⟩
                  · rw [w2, w1]; rfl
                  · rw [w2, w1]
                    show z_wr (V + z_wr (-v)) = z_wr (V - v)
                    rw [zwr_b]; rfl
                rw [ev]
                exact H
              · intro B x c s a q o M b1 b2 hr1 H
                obtain ⟨-, -, -, s4⟩ := hS B _ x c s a q o 0 1 0 p M b1 b2 hr1 p0 l.1
                rw [← l.2] at s4
                have c1 : ¬ zop 2 (zat sg e p) < 0 := c1
                have cc : (zat sg e p = 42 ∧ zop 2 (zat sg e p) = 5) ∨ (zat sg e p = 47 ∧ zop 2 (zat sg e p) = 6) := by
                  revert c1; rw [zop2]; (repeat' split) <;> omega
                have nv : zvar (zat sg e p) < 0 := by unfold zvar; (repeat' split) <;> omega
                refine s4 (by omega) nv (l_fac hr1 (by omega) (fun M' hr2 => ?_))
                rw [if_neg (by omega)]
                refine hK B x c s a q _ 0 M' b1 b2 hr2 (fun M2 hr3 => ?_)
                have ev : ztk (zat sg e p) q (if (0 : Int) = 0 then v else z_wr (-v)) = zwk (zop 2 (zat sg e p)) q v := by
                  rw [if_pos rfl]
                  rcases cc with ⟨w1, w2⟩ | ⟨w1, w2⟩ <;> rw [w2, w1] <;> rfl
                rw [ev] at hr3
                exact hL B x c s a _ _ M2 b1 b2 hr3 H
