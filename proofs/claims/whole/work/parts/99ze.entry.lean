/-! THE LAW'S ENTRY: what the tables and the start say. Written by gen_start.py -/
theorem zq_arr {s : State} {args : Array Value} {ty : FieldType} (h : (Cond.arrayClass ty).before args s = true) (hty : ∀ U c, va_RA U c ty = (U.vm.findClass ("[" ++ ty.toString) = some c)) : ∃ c : ClassId, ArrOfT s c ty ∧ va_RA s c ty := by
  obtain ⟨c, k, comp, h1, h2, h3⟩ := Cond.arrayClass_spec h
  exact ⟨c, fun n z => ⟨fun k h => (by cases h), k, h2, comp, h3⟩, by rw [hty]; exact h1⟩
theorem zq_arrO {s : State} {args : Array Value} {C : String} (h : (Cond.arrayOver (.object C)).before args s = true) : ∃ c : ClassId, ArrOfT s c (.object C) ∧ va_RA s c (.object C) := by
  obtain ⟨comp, c, k, f1, f2, f3, f4, f5⟩ := Cond.arrayOver_spec h
  exact ⟨c, fun n z => ⟨fun k h => (by cases h), k, f3, comp, f4⟩, k, comp, f3, f4, f1, f5⟩
def zq_ix : List Nat := [213, 225, 264, 269, 271, 273, 371]
def zq_tm (i : Nat) : Term := .string "WaterByLettersModel" (zq_ix.getD i 0)
def zq_fl : List Cond := flatC (Jvm.Cond.and given_1 narrow_1)
def zq_in (c : Cond) : Bool := zq_fl.any (fun w => decide (w = c))
theorem zq_of {s : State} {args : Array Value} (h : (Jvm.Cond.and given_1 narrow_1).before args s = true) {c : Cond} (hc : zq_in c = true) : c.before args s = true := by
  obtain ⟨w, hw, e⟩ := List.any_eq_true.mp hc
  have e := of_decide_eq_true e
  subst e
  exact flat_of_before _ h w hw
theorem zq_s1 : (List.range 7).all (fun i => zq_in (Cond.exactly (zq_tm i) "java/lang/String") && (zq_in (Cond.eq (.field (zq_tm i) "java/lang/String" "coder" "B") (.int 0)) && (zq_in (Cond.arrayOf (.field (zq_tm i) "java/lang/String" "value" "[B") .byte) && (zq_in (Cond.eq (.length (.field (zq_tm i) "java/lang/String" "value" "[B")) (.int (Int32.ofNat (z_sl.getD i 0)))) && (List.range (z_sl.getD i 0)).all (fun j => zq_in (Cond.eq (.elem (.field (zq_tm i) "java/lang/String" "value" "[B") (.int (Int32.ofNat j))) (.int ((z_sb.getD i []).getD j 0)))))))) = true := by decide +kernel
theorem zq_s2 : (List.range 7).all (fun i => (List.range 7).all (fun j => decide (i = j) || (zq_in (Cond.not (Cond.eq (zq_tm i) (zq_tm j))) || zq_in (Cond.not (Cond.eq (zq_tm j) (zq_tm i)))))) = true := by decide +kernel
theorem zq_str {s : State} {args : Array Value} (h : (Jvm.Cond.and given_1 narrow_1).before args s = true) : ∃ adK adV : Nat → Nat, vk_S 7 z_sl z_sb adK adV (fun q => s.heap.size ≤ q) s s.heap ∧ ∀ i : Nat, i < 7 → (zq_tm i).eval args s none [] s = some (.ref (adK i)) := by
  have g : ∀ i, i < 7 → _ := fun i hi => List.all_eq_true.mp zq_s1 i (List.mem_range.mpr hi)
  simp only [Bool.and_eq_true] at g
  refine vk_Sof (by decide) (fun i hi => zq_of h (g i hi).1) (fun i hi => zq_of h (g i hi).2.1) (fun i hi => zq_of h (g i hi).2.2.1) (fun i hi => zq_of h (g i hi).2.2.2.1) (fun i hi j hj => zq_of h (List.all_eq_true.mp (g i hi).2.2.2.2 j (List.mem_range.mpr hj))) (fun i j hi hj hij => ?_) (fun a ha hb => by omega)
  have g2 := List.all_eq_true.mp (List.all_eq_true.mp zq_s2 i (List.mem_range.mpr hi)) j (List.mem_range.mpr hj)
  rw [Bool.or_eq_true, Bool.or_eq_true] at g2
  rcases g2 with q | q | q
  · exact absurd (of_decide_eq_true q) hij
  · exact Or.inl (zq_of h q)
  · exact Or.inr (zq_of h q)
set_option maxRecDepth 20000 in
theorem zq_K {s : State} {args : Array Value} (hts : ∀ w ∈ lw_tbl, w.before args s = true) : ∃ (D : va_G) (cA : Nat → ClassId), va_K D z_cl (z_ty cA) s := by
  have htz : ∀ w ∈ z_tb, w.before args s = true := fun w hw => hts w (List.mem_filter.mp hw).1
  obtain ⟨c0, iS0, hKn0⟩ := u_known (C := "WaterByLetters$Book") (T := zF0) (N := 5) (n := 5) htz (z_cl_in (ci := 0) (by decide) rfl) (htz _ (z_has_tb (w := some (1, 149)) (by decide +kernel) rfl))
  obtain ⟨c1, iS1, hKn1⟩ := u_known (C := "WaterByLetters$Matching") (T := zF1) (N := 2) (n := 2) htz (z_cl_in (ci := 1) (by decide) rfl) (htz _ (z_has_tb (w := some (2, 50)) (by decide +kernel) rfl))
  obtain ⟨c2, iS2, hKn2⟩ := u_known (C := "WaterByLetters$Orders") (T := zF2) (N := 7) (n := 7) htz (z_cl_in (ci := 2) (by decide) rfl) (htz _ (z_has_tb (w := some (1, 236)) (by decide +kernel) rfl))
  obtain ⟨c3, iS3, hKn3⟩ := u_known (C := "WaterByLetters$Past") (T := zF3) (N := 3) (n := 3) htz (z_cl_in (ci := 3) (by decide) rfl) (htz _ (z_has_tb (w := some (1, 216)) (by decide +kernel) rfl))
  obtain ⟨c4, iS4, hKn4⟩ := u_known (C := "WaterByLetters$Pump") (T := zF4) (N := 8) (n := 8) htz (z_cl_in (ci := 4) (by decide) rfl) (htz _ (z_has_tb (w := some (1, 178)) (by decide +kernel) rfl))
  obtain ⟨c5, iS5, hKn5⟩ := u_known (C := "WaterByLetters$Row") (T := zF5) (N := 2) (n := 2) htz (z_cl_in (ci := 5) (by decide) rfl) (htz _ (z_has_tb (w := some (1, 52)) (by decide +kernel) rfl))
  obtain ⟨c6, iS6, hKn6⟩ := u_known (C := "WaterByLetters$Rule") (T := zF6) (N := 10) (n := 10) htz (z_cl_in (ci := 6) (by decide) rfl) (htz _ (z_has_tb (w := some (1, 69)) (by decide +kernel) rfl))
  obtain ⟨c7, iS7, hKn7⟩ := u_known (C := "WaterByLetters$Text") (T := zF7) (N := 2) (n := 2) htz (z_cl_in (ci := 7) (by decide) rfl) (htz _ (z_has_tb (w := some (1, 34)) (by decide +kernel) rfl))
  obtain ⟨c8, iS8, hKn8⟩ := u_known (C := "WaterByLetters$Thrift") (T := zF8) (N := 6) (n := 6) htz (z_cl_in (ci := 8) (by decide) rfl) (htz _ (z_has_tb (w := some (2, 24)) (by decide +kernel) rfl))
  obtain ⟨c9, iS9, hKn9⟩ := u_known (C := "WaterByLetters$Town") (T := zF9) (N := 7) (n := 7) htz (z_cl_in (ci := 9) (by decide) rfl) (htz _ (z_has_tb (w := some (1, 107)) (by decide +kernel) rfl))
  obtain ⟨c10, iS10, hKn10⟩ := u_known (C := "WaterByLetters") (T := zF10) (N := 20) (n := 20) htz (z_cl_in (ci := 10) (by decide) rfl) (htz _ (z_has_tb (w := some (1, 26)) (by decide +kernel) rfl))
  obtain ⟨c11, iS11, hKn11⟩ := u_known (C := "WaterByLettersModel") (T := zF11) (N := 65) (n := 65) htz (z_cl_in (ci := 11) (by decide) rfl) (htz _ (z_has_tb (w := some (5, 102)) (by decide +kernel) rfl))
  obtain ⟨a0, e0⟩ := zq_arr (ty := .int) (htz _ wn_arr_int) (fun _ _ => rfl)
  obtain ⟨a1, e1⟩ := zq_arr (ty := .long) (htz _ wn_arr_long) (fun _ _ => rfl)
  obtain ⟨a2, e2⟩ := zq_arr (ty := .boolean) (htz _ wn_arr_boolean) (fun _ _ => rfl)
  obtain ⟨a3, e3⟩ := zq_arrO (C := "WaterByLetters$Town") (hts _ (z_has_tbl (w := some (1, 222)) (by decide +kernel)))
  refine ⟨(fun k => [c0, c1, c2, c3, c4, c5, c6, c7, c8, c9, c10, c11].getD k c0, fun k => [iS0, iS1, iS2, iS3, iS4, iS5, iS6, iS7, iS8, iS9, iS10, iS11].getD k iS0), fun k => [a0, a1, a2].getD k a3, fun k q hq => ?_, fun k q hq => ?_⟩
  · match k, hq with
    | 0, hq => cases hq; exact hKn0
    | 1, hq => cases hq; exact hKn1
    | 2, hq => cases hq; exact hKn2
    | 3, hq => cases hq; exact hKn3
    | 4, hq => cases hq; exact hKn4
    | 5, hq => cases hq; exact hKn5
    | 6, hq => cases hq; exact hKn6
    | 7, hq => cases hq; exact hKn7
    | 8, hq => cases hq; exact hKn8
    | 9, hq => cases hq; exact hKn9
    | 10, hq => cases hq; exact hKn10
    | 11, hq => cases hq; exact hKn11
    | k + 12, hq => simp [z_cl] at hq
  · match k, hq with
    | 0, hq => cases hq; exact e0
    | 1, hq => cases hq; exact e1
    | 2, hq => cases hq; exact e2
    | 3, hq => cases hq; exact e3
    | k + 4, hq => simp [z_ty] at hq
theorem zq_sta {s : State} {args : Array Value} (hts : ∀ w ∈ lw_tbl, w.before args s = true) (h : (Jvm.Cond.and given_1 narrow_1).before args s = true) : z_sta (fun q => s.heap.size ≤ q) s s.heap := by
  refine ⟨va_Zof (args := args) (hts _ (z_has_tbl (w := some (6, 105)) (by decide +kernel))) (hts _ (z_has_tbl (w := some (1, 14)) (by decide +kernel))) (va_eqt (zq_of h (by decide +kernel))) (fun a ha hb => by omega), va_Zqof (args := args) (hts _ (z_has_tbl (w := some (6, 121)) (by decide +kernel))) (hts _ (z_has_tbl (w := some (1, 16)) (by decide +kernel))) (zq_of h (by decide +kernel)) (fun a ha hb => by omega)⟩
theorem zq_thr {s : State} {args : Array Value} (hts : ∀ w ∈ lw_tbl, w.before args s = true) (h : (Jvm.Cond.and given_1 narrow_1).before args s = true) : z_thr (fun q => s.heap.size ≤ q) s s.heap := by
  refine ⟨vx_Zqof (args := args) (hts _ (z_has_tbl (w := some (5, 49)) (by decide +kernel))) (hts _ (z_has_tbl (w := some (1, 19)) (by decide +kernel))) (zq_of h (by decide +kernel)) (fun a ha hb => by omega), vx_Zqof (args := args) (hts _ (z_has_tbl (w := some (5, 51)) (by decide +kernel))) (hts _ (z_has_tbl (w := some (1, 19)) (by decide +kernel))) (zq_of h (by decide +kernel)) (fun a ha hb => by omega), va_Nw.of rfl (hts _ (z_has_tbl (w := some (5, 25)) (by decide +kernel))), va_Nw.of rfl (hts _ (z_has_tbl (w := some (5, 27)) (by decide +kernel))), va_Nw.of rfl (hts _ (z_has_tbl (w := some (5, 29)) (by decide +kernel))), va_Nw.of rfl (hts _ (z_has_tbl (w := some (5, 24)) (by decide +kernel)))⟩
theorem zq_nest {s : State} {args : Array Value} (hts : ∀ w ∈ lw_tbl, w.before args s = true) : z_nest s := fun a i x h hm => va_Nw.of rfl (hts _ hm)
theorem zq_R {s : State} {args : Array Value} {adK : Nat → Nat} (hts : ∀ w ∈ lw_tbl, w.before args s = true) (he : ∀ i : Nat, i < 7 → (zq_tm i).eval args s none [] s = some (.ref (adK i))) : ∀ j q, z_st[j]? = some q → vk_R q.1 q.2.1 q.2.2 (adK j) s := by
  intro j q hq
  match j, hq with
  | 0, hq => cases hq; exact vk_R.of (hts _ (z_has_tbl (w := some (6, 91)) (by decide +kernel))) (he 0 (by decide))
  | 1, hq => cases hq; exact vk_R.of (hts _ (z_has_tbl (w := some (6, 151)) (by decide +kernel))) (he 1 (by decide))
  | 2, hq => cases hq; exact vk_R.of (hts _ (z_has_tbl (w := some (6, 199)) (by decide +kernel))) (he 2 (by decide))
  | 3, hq => cases hq; exact vk_R.of (hts _ (z_has_tbl (w := some (6, 200)) (by decide +kernel))) (he 3 (by decide))
  | 4, hq => cases hq; exact vk_R.of (hts _ (z_has_tbl (w := some (6, 201)) (by decide +kernel))) (he 4 (by decide))
  | 5, hq => cases hq; exact vk_R.of (hts _ (z_has_tbl (w := some (6, 202)) (by decide +kernel))) (he 5 (by decide))
  | 6, hq => cases hq; exact vk_R.of (hts _ (z_has_tbl (w := some (7, 103)) (by decide +kernel))) (he 6 (by decide))
  | j + 7, hq => simp [z_st] at hq
