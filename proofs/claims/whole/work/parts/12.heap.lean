/-! THE MACHINE FOLLOWS z_step: fields, arrays, Math, arraycopy (written by gen_step2.py) -/
theorem z_mok_up {M : zM} {a : Nat} {j w : Int} (h : z_mok M) (hw : ∀ k : zD, z_kt[a]? = some k → (k.1 = 101 → z_rl w) ∧ (k.1 ≠ 101 → z_ri w)) : z_mok (z_up M a j w) := by
  intro b k hk i
  by_cases hc : b = a ∧ i = j
  · obtain ⟨rfl, rfl⟩ := hc
    rw [z_up_same]
    exact hw k hk
  · rw [z_up_ne M w hc]
    exact h b k hk i
theorem z_mok_cp {M : zM} {a b : Nat} {sp dp n : Int} (h : z_mok M) {ka kb : zD} (ha : z_kt[a]? = some ka) (hb : z_kt[b]? = some kb) (h1 : ka.1 = 100) (h2 : kb.1 = 100) : z_mok (z_cp M a sp b dp n) := by
  intro c k hk i
  unfold z_cp
  split
  · rename_i hc
    obtain ⟨rfl, -⟩ := hc
    rw [hb] at hk
    cases hk
    refine ⟨fun q => absurd q (by omega), fun _ => (h a ka ha _).2 (by omega)⟩
  · exact h c k hk i
theorem z_kt_ok : ∀ a, a < z_kt.length → ∀ k, z_kt[a]? = some k → (0 ≤ k.2 ∧ k.2 < 2147483648) ∧ k.1 ≠ 104 ∧ k.1 ≠ 105 ∧ (k.1 < 12 ∨ k.1 = 100 ∨ k.1 = 101 ∨ k.1 = 102 ∨ k.1 = 103) ∧ (k.1 = 103 → ∀ j, j < k.2.toNat → z_kt[z_el a (j : Int)]? = some (9, 0)) := by
  have h : (List.range z_kt.length).all (fun a => match z_kt[a]? with
    | none => true
    | some k => decide ((0 ≤ k.2 ∧ k.2 < 2147483648) ∧ k.1 ≠ 104 ∧ k.1 ≠ 105 ∧ (k.1 < 12 ∨ k.1 = 100 ∨ k.1 = 101 ∨ k.1 = 102 ∨ k.1 = 103)) && (!(Nat.beq k.1 103) || (List.range k.2.toNat).all (fun j => decide (z_kt[z_el a (j : Int)]? = some (9, 0))))) = true := by decide +kernel
  intro a ha k hk
  have h1 := List.all_eq_true.mp h a (List.mem_range.mpr ha)
  rw [hk] at h1
  simp only [Bool.and_eq_true, decide_eq_true_eq, Bool.or_eq_true] at h1
  obtain ⟨⟨h2, h3, h4, h5⟩, h6⟩ := h1
  refine ⟨h2, h3, h4, h5, fun hq j hj => ?_⟩
  rcases h6 with h6 | h6
  · rw [hq] at h6; cases h6
  · exact of_decide_eq_true (List.all_eq_true.mp h6 j (List.mem_range.mpr hj))
theorem z_beqf {a b : Nat} (h : a ≠ b) : Nat.beq a b = false := by
  cases hb : Nat.beq a b
  · rfl
  · exact absurd (Nat.eq_of_beq_eq_true hb) h
theorem z_kt_lt {a : Nat} {k : zD} (h : z_kt[a]? = some k) : a < z_kt.length := (List.getElem?_eq_some_iff.mp h).1
theorem z_good_ref {k : zD} {a : Nat} (h : z_good (z_r k a)) (hk : k.1 ≠ 104) : z_kt[a]? = some k := by
  rcases h with h | h
  · exact absurd h.1 hk
  · exact h.2
theorem z_val_ref {ad adK : Nat → Nat} {k : zD} {a : Nat} (hk : k.1 ≠ 104) : z_val ad adK (z_r k a) = .ref (ad a) := by
  show Value.ref (cond (Nat.beq k.1 104) (adK a) (ad a)) = _
  rw [show Nat.beq k.1 104 = false from z_beqf hk]
  rfl
theorem z_e_obj {ad : Nat → Nat} {cA : Nat → ClassId} {M : zM} {a : Nat} {k : zD} (h : k.1 < 12) : z_e ad cA M a k = .inr (k.1, z_fs ad M a 0 (z_ft.getD k.1 [])) := by
  unfold z_e
  rw [show Nat.beq k.1 100 = false from z_beqf (by omega), show Nat.beq k.1 101 = false from z_beqf (by omega), show Nat.beq k.1 102 = false from z_beqf (by omega), show Nat.beq k.1 103 = false from z_beqf (by omega)]
  rfl
theorem z_e_int {ad : Nat → Nat} {cA : Nat → ClassId} {M : zM} {a : Nat} {k : zD} (h : k.1 = 100) : z_e ad cA M a k = .inl (cA 0, k.2.toNat, .inl fun j => Int32.ofInt (M a (j : Int))) := by
  unfold z_e; rw [h]; rfl
theorem z_e_long {ad : Nat → Nat} {cA : Nat → ClassId} {M : zM} {a : Nat} {k : zD} (h : k.1 = 101) : z_e ad cA M a k = .inl (cA 1, k.2.toNat, .inr (.inl fun j => Int64.ofInt (M a (j : Int)))) := by
  unfold z_e; rw [h]; rfl
theorem z_e_bool {ad : Nat → Nat} {cA : Nat → ClassId} {M : zM} {a : Nat} {k : zD} (h : k.1 = 102) : z_e ad cA M a k = .inl (cA 2, k.2.toNat, .inl fun j => Int32.ofInt (M a (j : Int))) := by
  unfold z_e; rw [h]; rfl
theorem z_e_town {ad : Nat → Nat} {cA : Nat → ClassId} {M : zM} {a : Nat} {k : zD} (h : k.1 = 103) : z_e ad cA M a k = .inl (cA 3, k.2.toNat, .inr (.inr (.inr (.inr fun j => some (ad (z_el a (j : Int))))))) := by
  unfold z_e; rw [h]; rfl
section
variable {p : Program} {l : Launch} {e : Env} {R : Room} {s : State} {m : MethodId} {args : Array Value} {below : List Frame} {meth : Method} {c : Code} {cc : ByteArray} {nL : Nat} {own : String} {D : va_G} {cA : Nat → ClassId} {ad adK : Nat → Nat} {A : Nat → Prop} {Qj : State → Prop} {pc : Nat} {zl : List zV} {zs : List zU} {M : zM}
theorem zs_iaload (cx : z_cx p R s m args c cc nL own D cA ad adK A) {k : zD} {a : Nat} {j : Int} (hd : decode cc pc = .ok (.iaload, 1)) (hk : k.1 = 100) (hj0 : 0 ≤ j ∧ j < k.2) (h : z_X p l e R s m args below meth c nL D cA ad adK A Qj (pc + 1) zl (z_i (M a j) :: zs) M) : z_X p l e R s m args below meth c nL D cA ad adK A Qj pc zl (z_i j :: z_r k a :: zs) M := by
  obtain ⟨hx, hb, hml, hown, hts, hK, hinj, hinA, hstr, hroom⟩ := cx
  intro hl hg hs hm H locs ls hP hS hv
  obtain ⟨hj, hs2⟩ := z_gs_c.mp hs
  obtain ⟨hr, h3⟩ := z_gs_c.mp hs2
  have hj : z_ri j := hj
  have hk4 : k.1 ≠ 104 := by omega
  have hkt := z_good_ref hr hk4
  obtain ⟨⟨k0, k1⟩, -⟩ := z_kt_ok a (z_kt_lt hkt) k hkt
  have hh := h hl hg (z_gs_c.mpr ⟨(hm a k hkt j).2 (by omega), h3⟩) hm H locs ls hP hS hv
  have ha := z_w_at (ad := ad) (cA := cA) (M := M) hkt
  rw [z_e_int hk] at ha
  show W p l e R s m args below meth c H locs 0 0 Qj (F0 m pc ls (.int (Int32.ofInt j) :: z_val ad adK (z_r k a) :: zs.map (z_val ad adK)))
  rw [z_val_ref hk4]
  refine va_iald hx hb hK hP a 0 ha rfl (zn_in hj hj0.1 (by omega)) hd ?_
  rw [zn_cl hj hj0.1, Int.toNat_of_nonneg hj0.1]
  exact hh
theorem zs_laload (cx : z_cx p R s m args c cc nL own D cA ad adK A) {k : zD} {a : Nat} {j : Int} (hd : decode cc pc = .ok (.laload, 1)) (hk : k.1 = 101) (hj0 : 0 ≤ j ∧ j < k.2) (h : z_X p l e R s m args below meth c nL D cA ad adK A Qj (pc + 1) zl (z_l (M a j) :: zs) M) : z_X p l e R s m args below meth c nL D cA ad adK A Qj pc zl (z_i j :: z_r k a :: zs) M := by
  obtain ⟨hx, hb, hml, hown, hts, hK, hinj, hinA, hstr, hroom⟩ := cx
  intro hl hg hs hm H locs ls hP hS hv
  obtain ⟨hj, hs2⟩ := z_gs_c.mp hs
  obtain ⟨hr, h3⟩ := z_gs_c.mp hs2
  have hj : z_ri j := hj
  have hk4 : k.1 ≠ 104 := by omega
  have hkt := z_good_ref hr hk4
  obtain ⟨⟨k0, k1⟩, -⟩ := z_kt_ok a (z_kt_lt hkt) k hkt
  have hh := h hl hg (z_gs_c.mpr ⟨(hm a k hkt j).1 hk, h3⟩) hm H locs ls hP hS hv
  have ha := z_w_at (ad := ad) (cA := cA) (M := M) hkt
  rw [z_e_long hk] at ha
  show W p l e R s m args below meth c H locs 0 0 Qj (F0 m pc ls (.int (Int32.ofInt j) :: z_val ad adK (z_r k a) :: zs.map (z_val ad adK)))
  rw [z_val_ref hk4]
  refine va_lald hx hb hK hP a 1 ha rfl (zn_in hj hj0.1 (by omega)) hd ?_
  rw [zn_cl hj hj0.1, Int.toNat_of_nonneg hj0.1]
  exact hh
theorem zs_baload (cx : z_cx p R s m args c cc nL own D cA ad adK A) {k : zD} {a : Nat} {j : Int} (hd : decode cc pc = .ok (.baload, 1)) (hk : k.1 = 102) (hj0 : 0 ≤ j ∧ j < k.2) (h : z_X p l e R s m args below meth c nL D cA ad adK A Qj (pc + 1) zl (z_i (M a j) :: zs) M) : z_X p l e R s m args below meth c nL D cA ad adK A Qj pc zl (z_i j :: z_r k a :: zs) M := by
  obtain ⟨hx, hb, hml, hown, hts, hK, hinj, hinA, hstr, hroom⟩ := cx
  intro hl hg hs hm H locs ls hP hS hv
  obtain ⟨hj, hs2⟩ := z_gs_c.mp hs
  obtain ⟨hr, h3⟩ := z_gs_c.mp hs2
  have hj : z_ri j := hj
  have hk4 : k.1 ≠ 104 := by omega
  have hkt := z_good_ref hr hk4
  obtain ⟨⟨k0, k1⟩, -⟩ := z_kt_ok a (z_kt_lt hkt) k hkt
  have hh := h hl hg (z_gs_c.mpr ⟨(hm a k hkt j).2 (by omega), h3⟩) hm H locs ls hP hS hv
  have ha := z_w_at (ad := ad) (cA := cA) (M := M) hkt
  rw [z_e_bool hk] at ha
  show W p l e R s m args below meth c H locs 0 0 Qj (F0 m pc ls (.int (Int32.ofInt j) :: z_val ad adK (z_r k a) :: zs.map (z_val ad adK)))
  rw [z_val_ref hk4]
  refine va_zald hx hb hK hP a 2 ha rfl (zn_in hj hj0.1 (by omega)) hd ?_
  rw [zn_cl hj hj0.1, Int.toNat_of_nonneg hj0.1]
  exact hh
theorem zs_aaload (cx : z_cx p R s m args c cc nL own D cA ad adK A) {k : zD} {a : Nat} {j : Int} (hd : decode cc pc = .ok (.aaload, 1)) (hk : k.1 = 103) (hj0 : 0 ≤ j ∧ j < k.2) (h : z_X p l e R s m args below meth c nL D cA ad adK A Qj (pc + 1) zl (z_r (9, 0) (z_el a j) :: zs) M) : z_X p l e R s m args below meth c nL D cA ad adK A Qj pc zl (z_i j :: z_r k a :: zs) M := by
  obtain ⟨hx, hb, hml, hown, hts, hK, hinj, hinA, hstr, hroom⟩ := cx
  intro hl hg hs hm H locs ls hP hS hv
  obtain ⟨hj, hs2⟩ := z_gs_c.mp hs
  obtain ⟨hr, h3⟩ := z_gs_c.mp hs2
  have hj : z_ri j := hj
  have hk4 : k.1 ≠ 104 := by omega
  have hkt := z_good_ref hr hk4
  obtain ⟨⟨k0, k1⟩, -⟩ := z_kt_ok a (z_kt_lt hkt) k hkt
  have hel := (z_kt_ok a (z_kt_lt hkt) k hkt).2.2.2.2 hk j.toNat (by omega)
  rw [Int.toNat_of_nonneg hj0.1] at hel
  have hh := h hl hg (z_gs_c.mpr ⟨Or.inr ⟨by decide, hel⟩, h3⟩) hm H locs ls hP hS hv
  have ha := z_w_at (ad := ad) (cA := cA) (M := M) hkt
  rw [z_e_town hk] at ha
  show W p l e R s m args below meth c H locs 0 0 Qj (F0 m pc ls (.int (Int32.ofInt j) :: z_val ad adK (z_r k a) :: zs.map (z_val ad adK)))
  rw [z_val_ref hk4]
  refine va_aldq hx hb hK hP a 3 ha rfl (zn_in hj hj0.1 (by omega)) hd ?_
  rw [zn_cl hj hj0.1, Int.toNat_of_nonneg hj0.1]
  exact hh
theorem zs_iastore (cx : z_cx p R s m args c cc nL own D cA ad adK A) {k : zD} {a : Nat} {j w : Int} (hd : decode cc pc = .ok (.iastore, 1)) (hk : k.1 = 100) (hj0 : 0 ≤ j ∧ j < k.2)  (h : z_X p l e R s m args below meth c nL D cA ad adK A Qj (pc + 1) zl zs (z_up M a j w)) : z_X p l e R s m args below meth c nL D cA ad adK A Qj pc zl (z_i w :: z_i j :: z_r k a :: zs) M := by
  obtain ⟨hx, hb, hml, hown, hts, hK, hinj, hinA, hstr, hroom⟩ := cx
  intro hl hg hs hm H locs ls hP hS hv
  obtain ⟨hw, hs1⟩ := z_gs_c.mp hs
  obtain ⟨hj, hs2⟩ := z_gs_c.mp hs1
  obtain ⟨hr, h3⟩ := z_gs_c.mp hs2
  have hj : z_ri j := hj
  have hk4 : k.1 ≠ 104 := by omega
  have hkt := z_good_ref hr hk4
  obtain ⟨⟨k0, k1⟩, -⟩ := z_kt_ok a (z_kt_lt hkt) k hkt
  have hm2 : z_mok (z_up M a j w) := z_mok_up hm (fun k' hk' => by rw [hkt] at hk'; cases hk'; exact ⟨fun q => absurd q (by omega), fun _ => hw⟩)
  have ha := z_w_at (ad := ad) (cA := cA) (M := M) hkt
  rw [z_e_int hk] at ha
  show W p l e R s m args below meth c H locs 0 0 Qj (F0 m pc ls (.int (Int32.ofInt w) :: .int (Int32.ofInt j) :: z_val ad adK (z_r k a) :: zs.map (z_val ad adK)))
  rw [z_val_ref hk4]
  refine va_iast hx hb hK hP (z_w_D hinj hinA) hS a 0 ha rfl (zn_in hj hj0.1 (by omega)) hd (fun H1 locs1 hP1 _ hS1 => ?_)
  rw [z_w_set (M' := z_up M a j w) hkt ?_ (fun b hb => by funext i; rw [z_up_ne]; exact fun q => hb q.1)] at hP1
  · exact h hl hg h3 hm2 H1 locs1 ls hP1 hS1 hv
  · rw [z_e_int hk]
    congr 4
    funext i
    rw [zn_cl hj hj0.1]
    show (if i = j.toNat then Int32.ofInt w else Int32.ofInt (M a i)) = Int32.ofInt (z_up M a j w a i)
    by_cases hi : i = j.toNat
    · rw [if_pos hi, show (i : Int) = j by omega, z_up_same]
    · rw [if_neg hi, z_up_ne M w (fun q => hi (by omega))]
theorem zs_lastore (cx : z_cx p R s m args c cc nL own D cA ad adK A) {k : zD} {a : Nat} {j w : Int} (hd : decode cc pc = .ok (.lastore, 1)) (hk : k.1 = 101) (hj0 : 0 ≤ j ∧ j < k.2)  (h : z_X p l e R s m args below meth c nL D cA ad adK A Qj (pc + 1) zl zs (z_up M a j w)) : z_X p l e R s m args below meth c nL D cA ad adK A Qj pc zl (z_l w :: z_i j :: z_r k a :: zs) M := by
  obtain ⟨hx, hb, hml, hown, hts, hK, hinj, hinA, hstr, hroom⟩ := cx
  intro hl hg hs hm H locs ls hP hS hv
  obtain ⟨hw, hs1⟩ := z_gs_c.mp hs
  obtain ⟨hj, hs2⟩ := z_gs_c.mp hs1
  obtain ⟨hr, h3⟩ := z_gs_c.mp hs2
  have hj : z_ri j := hj
  have hk4 : k.1 ≠ 104 := by omega
  have hkt := z_good_ref hr hk4
  obtain ⟨⟨k0, k1⟩, -⟩ := z_kt_ok a (z_kt_lt hkt) k hkt
  have hm2 : z_mok (z_up M a j w) := z_mok_up hm (fun k' hk' => by rw [hkt] at hk'; cases hk'; exact ⟨fun _ => hw, fun q => absurd hk q⟩)
  have ha := z_w_at (ad := ad) (cA := cA) (M := M) hkt
  rw [z_e_long hk] at ha
  show W p l e R s m args below meth c H locs 0 0 Qj (F0 m pc ls (.long (Int64.ofInt w) :: .int (Int32.ofInt j) :: z_val ad adK (z_r k a) :: zs.map (z_val ad adK)))
  rw [z_val_ref hk4]
  refine va_last hx hb hK hP (z_w_D hinj hinA) hS a 1 ha rfl (zn_in hj hj0.1 (by omega)) hd (fun H1 locs1 hP1 _ hS1 => ?_)
  rw [z_w_set (M' := z_up M a j w) hkt ?_ (fun b hb => by funext i; rw [z_up_ne]; exact fun q => hb q.1)] at hP1
  · exact h hl hg h3 hm2 H1 locs1 ls hP1 hS1 hv
  · rw [z_e_long hk]
    congr 5
    funext i
    rw [zn_cl hj hj0.1]
    show (if i = j.toNat then Int64.ofInt w else Int64.ofInt (M a i)) = Int64.ofInt (z_up M a j w a i)
    by_cases hi : i = j.toNat
    · rw [if_pos hi, show (i : Int) = j by omega, z_up_same]
    · rw [if_neg hi, z_up_ne M w (fun q => hi (by omega))]
theorem zs_bastore (cx : z_cx p R s m args c cc nL own D cA ad adK A) {k : zD} {a : Nat} {j w : Int} (hd : decode cc pc = .ok (.bastore, 1)) (hk : k.1 = 102) (hj0 : 0 ≤ j ∧ j < k.2) (hz : w = 0 ∨ w = 1) (h : z_X p l e R s m args below meth c nL D cA ad adK A Qj (pc + 1) zl zs (z_up M a j w)) : z_X p l e R s m args below meth c nL D cA ad adK A Qj pc zl (z_i w :: z_i j :: z_r k a :: zs) M := by
  obtain ⟨hx, hb, hml, hown, hts, hK, hinj, hinA, hstr, hroom⟩ := cx
  intro hl hg hs hm H locs ls hP hS hv
  obtain ⟨hw, hs1⟩ := z_gs_c.mp hs
  obtain ⟨hj, hs2⟩ := z_gs_c.mp hs1
  obtain ⟨hr, h3⟩ := z_gs_c.mp hs2
  have hj : z_ri j := hj
  have hk4 : k.1 ≠ 104 := by omega
  have hkt := z_good_ref hr hk4
  obtain ⟨⟨k0, k1⟩, -⟩ := z_kt_ok a (z_kt_lt hkt) k hkt
  have hnar : vp_nar .boolean (Int32.ofInt w) = Int32.ofInt w := by rcases hz with rfl | rfl <;> rfl
  have hm2 : z_mok (z_up M a j w) := z_mok_up hm (fun k' hk' => by rw [hkt] at hk'; cases hk'; exact ⟨fun q => absurd q (by omega), fun _ => hw⟩)
  have ha := z_w_at (ad := ad) (cA := cA) (M := M) hkt
  rw [z_e_bool hk] at ha
  show W p l e R s m args below meth c H locs 0 0 Qj (F0 m pc ls (.int (Int32.ofInt w) :: .int (Int32.ofInt j) :: z_val ad adK (z_r k a) :: zs.map (z_val ad adK)))
  rw [z_val_ref hk4]
  refine va_zast hx hb hK hP (z_w_D hinj hinA) hS a 2 ha rfl (zn_in hj hj0.1 (by omega)) hd (fun H1 locs1 hP1 _ hS1 => ?_)
  rw [hnar, z_w_set (M' := z_up M a j w) hkt ?_ (fun b hb => by funext i; rw [z_up_ne]; exact fun q => hb q.1)] at hP1
  · exact h hl hg h3 hm2 H1 locs1 ls hP1 hS1 hv
  · rw [z_e_bool hk]
    congr 4
    funext i
    rw [zn_cl hj hj0.1]
    show (if i = j.toNat then Int32.ofInt w else Int32.ofInt (M a i)) = Int32.ofInt (z_up M a j w a i)
    by_cases hi : i = j.toNat
    · rw [if_pos hi, show (i : Int) = j by omega, z_up_same]
    · rw [if_neg hi, z_up_ne M w (fun q => hi (by omega))]
theorem zs_alen (cx : z_cx p R s m args c cc nL own D cA ad adK A) {k : zD} {a : Nat} (hd : decode cc pc = .ok (.arraylength, 1)) (hk : k.1 = 100) (h : z_X p l e R s m args below meth c nL D cA ad adK A Qj (pc + 1) zl (z_i k.2 :: zs) M) : z_X p l e R s m args below meth c nL D cA ad adK A Qj pc zl (z_r k a :: zs) M := by
  obtain ⟨hx, hb, hml, hown, hts, hK, hinj, hinA, hstr, hroom⟩ := cx
  intro hl hg hs hm H locs ls hP hS hv
  obtain ⟨hr, h3⟩ := z_gs_c.mp hs
  have hk4 : k.1 ≠ 104 := by omega
  have hkt := z_good_ref hr hk4
  obtain ⟨⟨k0, k1⟩, -⟩ := z_kt_ok a (z_kt_lt hkt) k hkt
  have ha := z_w_at (ad := ad) (cA := cA) (M := M) hkt
  rw [z_e_int hk] at ha
  show W p l e R s m args below meth c H locs 0 0 Qj (F0 m pc ls (z_val ad adK (z_r k a) :: zs.map (z_val ad adK)))
  rw [z_val_ref hk4]
  refine va_alen hx hb hK hP a 0 ha rfl (v := Int32.ofInt k.2) ?_ hd (h hl hg (z_gs_c.mpr ⟨by show z_ri k.2; unfold z_ri; omega, h3⟩) hm H locs ls hP hS hv)
  show Int32.ofNat k.2.toNat = Int32.ofInt k.2
  rw [← Int32.ofInt_eq_ofNat, Int.toNat_of_nonneg k0]
theorem zs_getI (cx : z_cx p R s m args c cc nL own D cA ad adK A) {k : zD} {a idx ci j : Nat} {C : String} {T : u_T} {N : Nat} {q : Nat × Nat} (hd : decode cc pc = .ok (.getfield idx, 3)) (hk : k.1 = ci) (hci : ci < 12) (hcl : z_cl[ci]? = some (C, T, N)) (hjN : j < N) (hin : ∀ w ∈ u_ws C T N, w ∈ z_tb) (hw : Cond.fieldLink own idx (T j).1 (T j).2.1 (T j).2.2.1 ∈ z_tb) (hf : (z_ft.getD ci [])[j]? = some q) (hq : Nat.beq q.1 1 = false) (h : z_X p l e R s m args below meth c nL D cA ad adK A Qj (pc + 3) zl (z_i (M a (j : Int)) :: zs) M) : z_X p l e R s m args below meth c nL D cA ad adK A Qj pc zl (z_r k a :: zs) M := by
  obtain ⟨hx, hb, hml, hown, hts, hK, hinj, hinA, hstr, hroom⟩ := cx
  intro hl hg hs hm H locs ls hP hS hv
  obtain ⟨hr, h3⟩ := z_gs_c.mp hs
  have hk4 : k.1 ≠ 104 := by omega
  have hkt := z_good_ref hr hk4
  have ha := z_w_at (ad := ad) (cA := cA) (M := M) hkt
  rw [z_e_obj (by omega), hk] at ha
  show W p l e R s m args below meth c H locs 0 0 Qj (F0 m pc ls (z_val ad adK (z_r k a) :: zs.map (z_val ad adK)))
  rw [z_val_ref hk4]
  refine va_get hx hb hts hin hown hK hP a ha hcl j hjN (hts _ hw) (fun _ z => z) (v := .int (Int32.ofInt (M a (j : Int)))) ?_ hd (h hl hg (z_gs_c.mpr ⟨(hm a k hkt _).2 (by omega), h3⟩) hm H locs ls hP hS hv)
  rw [z_fs_get, hf]
  simp only [Option.map_some, z_f1, hq, cond_false, Nat.zero_add]
theorem zs_getR (cx : z_cx p R s m args c cc nL own D cA ad adK A) {k kc : zD} {a idx ci j off : Nat} {C : String} {T : u_T} {N : Nat} (hd : decode cc pc = .ok (.getfield idx, 3)) (hk : k.1 = ci) (hci : ci < 12) (hcl : z_cl[ci]? = some (C, T, N)) (hjN : j < N) (hin : ∀ w ∈ u_ws C T N, w ∈ z_tb) (hw : Cond.fieldLink own idx (T j).1 (T j).2.1 (T j).2.2.1 ∈ z_tb) (hf : (z_ft.getD ci [])[j]? = some (1, off)) (hkc : kc.1 ≠ 104) (hch : z_kt[a]? = some k → z_kt[a + off]? = some kc) (h : z_X p l e R s m args below meth c nL D cA ad adK A Qj (pc + 3) zl (z_r kc (a + off) :: zs) M) : z_X p l e R s m args below meth c nL D cA ad adK A Qj pc zl (z_r k a :: zs) M := by
  obtain ⟨hx, hb, hml, hown, hts, hK, hinj, hinA, hstr, hroom⟩ := cx
  intro hl hg hs hm H locs ls hP hS hv
  obtain ⟨hr, h3⟩ := z_gs_c.mp hs
  have hk4 : k.1 ≠ 104 := by omega
  have hkt := z_good_ref hr hk4
  have ha := z_w_at (ad := ad) (cA := cA) (M := M) hkt
  rw [z_e_obj (by omega), hk] at ha
  have hh := h hl hg (z_gs_c.mpr ⟨Or.inr ⟨hkc, hch hkt⟩, h3⟩) hm H locs ls hP hS hv
  show W p l e R s m args below meth c H locs 0 0 Qj (F0 m pc ls (z_val ad adK (z_r k a) :: zs.map (z_val ad adK)))
  rw [z_val_ref hk4]
  refine va_get hx hb hts hin hown hK hP a ha hcl j hjN (hts _ hw) (fun _ z => z) (v := z_val ad adK (z_r kc (a + off))) ?_ hd hh
  rw [z_fs_get, hf, z_val_ref hkc]
  rfl
theorem zs_put (cx : z_cx p R s m args c cc nL own D cA ad adK A) {k : zD} {a idx ci j : Nat} {w : Int} {C : String} {T : u_T} {N : Nat} {q : Nat × Nat} {ty : FieldType} (hd : decode cc pc = .ok (.putfield idx, 3)) (hk : k.1 = ci) (hci : ci < 12) (hcl : z_cl[ci]? = some (C, T, N)) (hjN : j < N) (hin : ∀ w ∈ u_ws C T N, w ∈ z_tb) (ty0 : Nat → FieldType) (hty : ∀ k, k < N → parseFieldDescriptor (T k).2.2.1 = some (ty0 k)) (hnm : ∀ a, a < N → ∀ b, b < N → a ≠ b → (T a).2.1 ≠ (T b).2.1) (hw : Cond.fieldLink own idx (T j).1 (T j).2.1 (T j).2.2.1 ∈ z_tb) (hf : (z_ft.getD ci [])[j]? = some q) (hq : Nat.beq q.1 1 = false) (hfin : (T j).2.2.2 = false) (hpd : parseFieldDescriptor (T j).2.2.1 = some ty) (hnar : narrow ty (.int (Int32.ofInt w)) = .int (Int32.ofInt w)) (hfit : fits ty (.int (Int32.ofInt w)) = true) (h : z_X p l e R s m args below meth c nL D cA ad adK A Qj (pc + 3) zl zs (z_up M a (j : Int) w)) : z_X p l e R s m args below meth c nL D cA ad adK A Qj pc zl (z_i w :: z_r k a :: zs) M := by
  obtain ⟨hx, hb, hml, hown, hts, hK, hinj, hinA, hstr, hroom⟩ := cx
  intro hl hg hs hm H locs ls hP hS hv
  obtain ⟨hw1, hs2⟩ := z_gs_c.mp hs
  obtain ⟨hr, h3⟩ := z_gs_c.mp hs2
  have hk4 : k.1 ≠ 104 := by omega
  have hkt := z_good_ref hr hk4
  have ha := z_w_at (ad := ad) (cA := cA) (M := M) hkt
  rw [z_e_obj (by omega), hk] at ha
  have hm2 : z_mok (z_up M a (j : Int) w) := z_mok_up hm (fun k' hk' => by rw [hkt] at hk'; cases hk'; exact ⟨fun z => absurd z (by omega), fun _ => hw1⟩)
  show W p l e R s m args below meth c H locs 0 0 Qj (F0 m pc ls (.int (Int32.ofInt w) :: z_val ad adK (z_r k a) :: zs.map (z_val ad adK)))
  rw [z_val_ref hk4]
  refine va_put hx hb hts hin ty0 hty hnm hown hK hP (z_w_D hinj hinA) hS a ha hcl j hjN (hts _ hw) (fun _ z => z) hfin hpd hnar hfit (by rw [z_fs_len]; exact (List.getElem?_eq_some_iff.mp hf).1) hd (fun H1 locs1 hP1 _ hS1 => ?_)
  rw [z_w_set (M' := z_up M a (j : Int) w) hkt ?_ (fun b hb => by funext i; rw [z_up_ne]; exact fun q => hb q.1)] at hP1
  · exact h hl hg h3 hm2 H1 locs1 ls hP1 hS1 hv
  · rw [z_e_obj (by omega), z_fs_set hf hq, hk]
theorem z_cats_sum {ad adK : Nat → Nat} : ∀ (l : List zU), ((l.map (z_val ad adK)).map fun v => v.category).sum = z_cats l
  | [] => rfl
  | u :: l => by
    show (z_val ad adK u).category + ((l.map (z_val ad adK)).map fun v => v.category).sum = z_cat u + z_cats l
    rw [z_cats_sum l, z_cat_val]
theorem zs_min (cx : z_cx p R s m args c cc nL own D cA ad adK A) {a b : Int} {idx : Nat} (hd : decode cc pc = .ok (.invokestatic idx, 3)) (hc8 : z_cats zs ≤ 8) (hw : Cond.methodLink own idx Lib.Math.min.name ∈ z_tb) (hw2 : Cond.static Lib.Math.min.name ∈ z_tb) (hw3 : Cond.initialized "java/lang/Math" ∈ z_tb) (hw4 : Cond.code Lib.Math.min.name Lib.Math.min.code 2 (some .int) ∈ z_tb) (h : z_X p l e R s m args below meth c nL D cA ad adK A Qj (pc + 3) zl (z_i (if b < a then b else a) :: zs) M) : z_X p l e R s m args below meth c nL D cA ad adK A Qj pc zl (z_i b :: z_i a :: zs) M := by
  obtain ⟨hx, hb, hml, hown, hts, hK, hinj, hinA, hstr, hroom⟩ := cx
  intro hl hg hs hm H locs ls hP hS hv
  obtain ⟨hb1, h2⟩ := z_gs_c.mp hs
  obtain ⟨ha1, h3⟩ := z_gs_c.mp h2
  have hb1 : z_ri b := hb1
  have ha1 : z_ri a := ha1
  have hh := h hl hg (z_gs_c.mpr ⟨by show z_ri (if b < a then b else a); split <;> assumption, h3⟩) hm H locs ls hP hS hv
  refine va_mmin hx hb (by rw [hml]; exact hv.1.symm) hown (hts _ hw) (hts _ hw2) (hts _ hw3) (hts _ hw4) hroom.1 (by rw [z_cats_sum]; omega) (Nat.zero_le _) (Nat.zero_le _) hd ?_
  simp only [zn_lt hb1 ha1]
  by_cases hc : b < a
  · rw [if_pos hc] at hh ⊢
    exact hh
  · rw [if_neg hc] at hh ⊢
    exact hh
theorem zs_max (cx : z_cx p R s m args c cc nL own D cA ad adK A) {a b : Int} {idx : Nat} (hd : decode cc pc = .ok (.invokestatic idx, 3)) (hc8 : z_cats zs ≤ 8) (hw : Cond.methodLink own idx Lib.Math.max.name ∈ z_tb) (hw2 : Cond.static Lib.Math.max.name ∈ z_tb) (hw3 : Cond.initialized "java/lang/Math" ∈ z_tb) (hw4 : Cond.code Lib.Math.max.name Lib.Math.max.code 2 (some .int) ∈ z_tb) (h : z_X p l e R s m args below meth c nL D cA ad adK A Qj (pc + 3) zl (z_i (if a < b then b else a) :: zs) M) : z_X p l e R s m args below meth c nL D cA ad adK A Qj pc zl (z_i b :: z_i a :: zs) M := by
  obtain ⟨hx, hb, hml, hown, hts, hK, hinj, hinA, hstr, hroom⟩ := cx
  intro hl hg hs hm H locs ls hP hS hv
  obtain ⟨hb1, h2⟩ := z_gs_c.mp hs
  obtain ⟨ha1, h3⟩ := z_gs_c.mp h2
  have hb1 : z_ri b := hb1
  have ha1 : z_ri a := ha1
  have hh := h hl hg (z_gs_c.mpr ⟨by show z_ri (if a < b then b else a); split <;> assumption, h3⟩) hm H locs ls hP hS hv
  refine va_mmax hx hb (by rw [hml]; exact hv.1.symm) hown (hts _ hw) (hts _ hw2) (hts _ hw3) (hts _ hw4) hroom.1 (by rw [z_cats_sum]; omega) (Nat.zero_le _) (Nat.zero_le _) hd ?_
  simp only [zn_lt ha1 hb1]
  by_cases hc : a < b
  · rw [if_pos hc] at hh ⊢
    exact hh
  · rw [if_neg hc] at hh ⊢
    exact hh
theorem zs_copy (cx : z_cx p R s m args c cc nL own D cA ad adK A) {ka kb : zD} {a b : Nat} {sp dp n : Int} {idx : Nat} (hd : decode cc pc = .ok (.invokestatic idx, 3)) (hc8 : z_cats zs ≤ 8) (hka : ka.1 = 100) (hkb : kb.1 = 100) (hbd : 0 ≤ sp ∧ 0 ≤ dp ∧ 0 ≤ n ∧ sp + n ≤ ka.2 ∧ dp + n ≤ kb.2) (hw : Cond.methodLink own idx arraycopyName ∈ z_tb) (hw1 : Cond.native arraycopyName ∈ z_tb) (hw2 : Cond.static arraycopyName ∈ z_tb) (hw3 : Cond.initialized "java/lang/System" ∈ z_tb) (h : z_X p l e R s m args below meth c nL D cA ad adK A Qj (pc + 3) zl zs (z_cp M a sp b dp n)) : z_X p l e R s m args below meth c nL D cA ad adK A Qj pc zl (z_i n :: z_i dp :: z_r kb b :: z_i sp :: z_r ka a :: zs) M := by
  obtain ⟨hx, hb, hml, hown, hts, hK, hinj, hinA, hstr, hroom⟩ := cx
  intro hl hg hs hm H locs ls hP hS hv
  obtain ⟨hn1, h2⟩ := z_gs_c.mp hs
  obtain ⟨hd1, h3⟩ := z_gs_c.mp h2
  obtain ⟨hrb, h4⟩ := z_gs_c.mp h3
  obtain ⟨hs1, h5⟩ := z_gs_c.mp h4
  obtain ⟨hra, h6⟩ := z_gs_c.mp h5
  have hn1 : z_ri n := hn1
  have hd1 : z_ri dp := hd1
  have hs1 : z_ri sp := hs1
  obtain ⟨b1, b2, b3, b4, b5⟩ := hbd
  have hkta := z_good_ref hra (by omega)
  have hktb := z_good_ref hrb (by omega)
  have haa := z_w_at (ad := ad) (cA := cA) (M := M) hkta
  have hab := z_w_at (ad := ad) (cA := cA) (M := M) hktb
  rw [z_e_int hka] at haa
  rw [z_e_int hkb] at hab
  have nlt : ∀ {x : Int}, z_ri x → 0 ≤ x → ¬ Int32.ofInt x < 0 := fun hx h0 q => by
    have := (zn_lt hx zn_r0).mp q
    omega
  show W p l e R s m args below meth c H locs 0 0 Qj (F0 m pc ls (.int (Int32.ofInt n) :: .int (Int32.ofInt dp) :: z_val ad adK (z_r kb b) :: .int (Int32.ofInt sp) :: z_val ad adK (z_r ka a) :: zs.map (z_val ad adK)))
  rw [z_val_ref (show kb.1 ≠ 104 by omega), z_val_ref (show ka.1 ≠ 104 by omega)]
  have hloc : ((zs.map (z_val ad adK)).map fun v => v.category).sum + (nativeFrameWords "java/lang/System" "arraycopy" 5 + 11) ≤ R.locals := by
    have h7 : nativeFrameWords "java/lang/System" "arraycopy" 5 = 7 := by decide +kernel
    rw [z_cats_sum, h7]
    omega
  refine va_copyi (ty := .int) hx hb (by rw [hml]; exact hv.1.symm) hown (hts _ hw) (hts _ hw1) (hts _ hw2) (hts _ hw3) hK hP (z_w_D hinj hinA) hS a b 0 0 haa hab rfl rfl rfl (nlt hs1 b1) (nlt hd1 b2) (nlt hn1 b3) (by rw [zn_cl hs1 b1, zn_cl hn1 b3]; omega) (by rw [zn_cl hd1 b2, zn_cl hn1 b3]; omega) (fun _ _ => rfl) hroom.1 hloc hd (fun H1 locs1 hP1 _ hS1 => ?_)
  rw [z_w_set (M' := z_cp M a sp b dp n) hktb ?_ (fun c hc => by funext i; unfold z_cp; rw [if_neg (fun q => hc q.1)])] at hP1
  · exact h hl hg h6 (z_mok_cp hm hkta hktb hka hkb) H1 locs1 ls hP1 hS1 hv
  · rw [z_e_int hkb]
    congr 4
    funext i
    rw [zn_cl hs1 b1, zn_cl hd1 b2, zn_cl hn1 b3]
    unfold va_cpy z_cp
    by_cases hi : dp.toNat ≤ i ∧ i < dp.toNat + n.toNat
    · rw [if_pos hi, if_pos ⟨rfl, by omega, by omega⟩]
      show Int32.ofInt (M a ((sp.toNat + (i - dp.toNat) : Nat) : Int)) = _
      rw [show ((sp.toNat + (i - dp.toNat) : Nat) : Int) = sp + ((i : Int) - dp) by omega]
    · rw [if_neg hi, if_neg (fun q => hi (by omega))]
end
