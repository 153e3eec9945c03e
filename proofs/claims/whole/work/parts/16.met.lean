theorem z_cR_ok {a n y : Nat} {Y : zY} (h : z_cR a n = true) (h1 : a ≤ y) (h2 : y < a + n) (hY : z_mt[y]? = some Y) : z_cY Y = true := by
  have h3 : ((z_mt.drop a).take n)[y - a]? = some Y := by
    rw [List.getElem?_take, if_pos (by omega), List.getElem?_drop, show a + (y - a) = y by omega]
    exact hY
  exact List.all_eq_true.mp h Y (List.mem_of_getElem? h3)
theorem z_mt_len : z_mt.length = 259 := by decide +kernel
theorem z_cY_ok {y : Nat} {Y : zY} (hY : z_mt[y]? = some Y) : z_cY Y = true := by
  have hlt : y < 259 := by
    have := (List.getElem?_eq_some_iff.mp hY).1
    rw [z_mt_len] at this
    exact this
  by_cases h0 : y < 10
  · exact z_cR_ok z_c0 (by omega) (by omega) hY
  by_cases h10 : y < 20
  · exact z_cR_ok z_c10 (by omega) (by omega) hY
  by_cases h20 : y < 30
  · exact z_cR_ok z_c20 (by omega) (by omega) hY
  by_cases h30 : y < 40
  · exact z_cR_ok z_c30 (by omega) (by omega) hY
  by_cases h40 : y < 50
  · exact z_cR_ok z_c40 (by omega) (by omega) hY
  by_cases h50 : y < 60
  · exact z_cR_ok z_c50 (by omega) (by omega) hY
  by_cases h60 : y < 70
  · exact z_cR_ok z_c60 (by omega) (by omega) hY
  by_cases h70 : y < 80
  · exact z_cR_ok z_c70 (by omega) (by omega) hY
  by_cases h80 : y < 90
  · exact z_cR_ok z_c80 (by omega) (by omega) hY
  by_cases h90 : y < 100
  · exact z_cR_ok z_c90 (by omega) (by omega) hY
  by_cases h100 : y < 110
  · exact z_cR_ok z_c100 (by omega) (by omega) hY
  by_cases h110 : y < 120
  · exact z_cR_ok z_c110 (by omega) (by omega) hY
  by_cases h120 : y < 130
  · exact z_cR_ok z_c120 (by omega) (by omega) hY
  by_cases h130 : y < 140
  · exact z_cR_ok z_c130 (by omega) (by omega) hY
  by_cases h140 : y < 150
  · exact z_cR_ok z_c140 (by omega) (by omega) hY
  by_cases h150 : y < 160
  · exact z_cR_ok z_c150 (by omega) (by omega) hY
  by_cases h160 : y < 170
  · exact z_cR_ok z_c160 (by omega) (by omega) hY
  by_cases h170 : y < 180
  · exact z_cR_ok z_c170 (by omega) (by omega) hY
  by_cases h180 : y < 190
  · exact z_cR_ok z_c180 (by omega) (by omega) hY
  by_cases h190 : y < 200
  · exact z_cR_ok z_c190 (by omega) (by omega) hY
  by_cases h200 : y < 210
  · exact z_cR_ok z_c200 (by omega) (by omega) hY
  by_cases h210 : y < 220
  · exact z_cR_ok z_c210 (by omega) (by omega) hY
  by_cases h220 : y < 230
  · exact z_cR_ok z_c220 (by omega) (by omega) hY
  by_cases h230 : y < 240
  · exact z_cR_ok z_c230 (by omega) (by omega) hY
  by_cases h240 : y < 250
  · exact z_cR_ok z_c240 (by omega) (by omega) hY
  exact z_cR_ok z_c250 (by omega) (by omega) hY
/-- the two methods of String -/
def z_STR (l : Launch) (D : va_G) (cA : Nat → ClassId) (ad adK adV : Nat → Nat) : Prop :=
  ∀ (d y : Nat) (Y : zY) (as : List zU) (M : zM) (Q : Option zU → zM → Prop), (y = 257 ∨ y = 258) → z_mt[y]? = some Y → z_C d y as M Q → z_gs as → z_mok M → ∀ sz : Nat, Met l Y.1 (Cond.code Y.1 Y.2.1 Y.2.2.1 Y.2.2.2.1 :: z_tb) (z_rm d) (va_Pc (as.map (z_val ad adK)) (z_B D cA ad adK adV M sz)) (z_Qg D cA ad adK Q (va_A (z_w ad cA M) sz)) 0 0 (va_A (z_w ad cA M) sz)
set_option maxHeartbeats 4000000 in
theorem z_met (l : Launch) (D : va_G) (cA : Nat → ClassId) (ad adK adV : Nat → Nat) (hinj : ∀ i j, i < z_kt.length → j < z_kt.length → ad i = ad j → i = j) (hstr : z_STR l D cA ad adK adV) : ∀ d : Nat, z_HC l D cA ad adK adV (z_rm d) (z_C d) := by
  intro d
  induction d with
  | zero => intro y Y as M Q hY hC; exact hC.elim
  | succ d ih =>
    intro y Y as M Q hY hC hg hm
    have hC0 := hC
    unfold z_C at hC
    rw [hY] at hC
    obtain ⟨h1, h2, h3⟩ := hC
    refine ⟨h1, fun sz => ?_⟩
    by_cases hs : y = 257 ∨ y = 258
    · exact hstr (d + 1) y Y as M Q hs hY hC0 hg hm sz
    · rw [z_beqf (fun q => hs (Or.inl q)), z_beqf (fun q => hs (Or.inr q))] at h3
      have h3 : ∀ X, z_D Y.2.2.2.2.1 Q (z_C d) X → X 0 (z_ent Y.2.2.1 as) [] M := h3
      have hcY := z_cY_ok hY
      unfold z_cY at hcY
      rw [Bool.and_eq_true] at hcY
      refine Met.ofW (cc := Y.2.1) (maxL := Y.2.2.1) (ret := Y.2.2.2.1) (z_mt_cls hY).2.2 rfl ?_
      intro p e s m args below meth c s₁ B hml hv
      obtain ⟨rfl, hsz, hP, hK, hVS, hR, hN⟩ := hv
      have hx := B.exec
      have hb := B.bytes
      have hr := B.returns
      have hts0 := atoms_spec (ws := Cond.code Y.1 Y.2.1 Y.2.2.1 Y.2.2.2.1 :: z_tb) B.pre
      have hts : ∀ w ∈ z_tb, w.before (as.map (z_val ad adK)).toArray s = true := fun w hw => hts0 w (List.mem_cons_of_mem _ hw)
      have hown : s.vm.findClass Y.1.cls = some m.cls := findClass_of_methodNamed B.named
      have hlocks := B.notSynchronized
      subst hsz
      have hinA : ∀ i, i < z_kt.length → va_A (z_w ad cA M) s.heap.size (ad i) := by
        intro i hi
        have hk : z_kt[i]? = some z_kt[i] := List.getElem?_eq_getElem hi
        exact va_A.in (z_w_at (ad := ad) (cA := cA) (M := M) hk)
      have cx : z_cx p (z_rm (d + 1)) s m (as.map (z_val ad adK)).toArray c Y.2.1 Y.2.2.1 Y.1.cls D cA ad adK (va_A (z_w ad cA M) s.heap.size) :=
        ⟨hx, hb, hml, hown, hts, hK, hinj, hinA, hR, by show 1 ≤ d + 1; omega, by show 60 ≤ 60 * (d + 1); omega⟩
      have cy : z_cy (z_rm (d + 1)) s adK adV (va_A (z_w ad cA M) s.heap.size) (z_rm d) :=
        ⟨hVS, fun q hq => Or.inr hq, rfl, rfl, Nat.le_refl _, by show 60 * d + 60 ≤ 60 * (d + 1); omega, hN⟩
      have closed : z_D Y.2.2.2.2.1 Q (z_C d) (z_X p l e (z_rm (d + 1)) s m (as.map (z_val ad adK)).toArray below meth c Y.2.2.1 D cA ad adK (va_A (z_w ad cA M) s.heap.size) (MQ below (z_Qg D cA ad adK Q (va_A (z_w ad cA M) s.heap.size)) (as.map (z_val ad adK)).toArray s 0 0 (va_A (z_w ad cA M) s.heap.size))) := by
        intro pc ls st M1 i n x v hf hstp
        obtain ⟨w, hw⟩ := z_fetch_mem Y.2.2.2.2.1 Y.2.2.2.2.2 (fun e w => decide (decode Y.2.1 e.1 = .ok (e.2.1, e.2.2.1)) && z_ce Y.1.cls Y.2.2.1 Y.2.2.2.1 e.1 e.2.1 e.2.2.1 e.2.2.2.1 e.2.2.2.2 w) (of_decide_eq_true hcY.1) hcY.2 pc (i, n, x, v) hf
        simp only [Bool.and_eq_true, decide_eq_true_eq] at hw
        exact z_sim1 cx cy ih hr hlocks hw.1 hw.2 hstp
      have hgo := h3 _ closed
      rw [lg_entry_eq]
      refine hgo (z_fill_len _ _) (fun u hu => hg u (z_es_mem as u (z_fill_mem _ _ u hu))) (fun u hu => by cases hu) hm s.heap [] _ hP va_S.rf ?_
      refine z_lv_weak (lv_entry (as.map (z_val ad adK)) (by rw [z_es_len]; exact Nat.le_of_ble_eq_true h2)) (fun q hq => ?_)
      rw [← z_lv_es]
      exact z_lv_fill _ _ 0 q hq
