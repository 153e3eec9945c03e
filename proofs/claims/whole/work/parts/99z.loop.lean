/-! THE LAW'S LOOP: written by gen_loop3.py (behind gen_loop2.py) -/
theorem dl_0 : decode code 0 = .ok (.new 8, 3) := by decide +kernel
theorem dl_3 : decode code 3 = .ok (.dup, 1) := by decide +kernel
theorem dl_4 : decode code 4 = .ok (.invokespecial 22, 3) := by decide +kernel
theorem dl_7 : decode code 7 = .ok (.astore_n 1, 1) := by decide +kernel
theorem dl_8 : decode code 8 = .ok (.new 23, 3) := by decide +kernel
theorem dl_11 : decode code 11 = .ok (.dup, 1) := by decide +kernel
theorem dl_12 : decode code 12 = .ok (.invokespecial 25, 3) := by decide +kernel
theorem dl_15 : decode code 15 = .ok (.astore_n 2, 1) := by decide +kernel
theorem dl_16 : decode code 16 = .ok (.iconst 1, 1) := by decide +kernel
theorem dl_17 : decode code 17 = .ok (.newarray .long, 2) := by decide +kernel
theorem dl_19 : decode code 19 = .ok (.astore_n 3, 1) := by decide +kernel
theorem dl_20 : decode code 20 = .ok (.iconst 0, 1) := by decide +kernel
theorem dl_21 : decode code 21 = .ok (.istore 4, 2) := by decide +kernel
theorem dl_23 : decode code 23 = .ok (.iload 4, 2) := by decide +kernel
theorem dl_25 : decode code 25 = .ok (.aload_n 0, 1) := by decide +kernel
theorem dl_26 : decode code 26 = .ok (.arraylength, 1) := by decide +kernel
theorem dl_27 : decode code 27 = .ok (.iconst 5, 1) := by decide +kernel
theorem dl_28 : decode code 28 = .ok (.isub, 1) := by decide +kernel
theorem dl_29 : decode code 29 = .ok (.if_icmp .gt 1214, 3) := by decide +kernel
theorem dl_32 : decode code 32 = .ok (.aload_n 0, 1) := by decide +kernel
theorem dl_33 : decode code 33 = .ok (.iload 4, 2) := by decide +kernel
theorem dl_35 : decode code 35 = .ok (.iaload, 1) := by decide +kernel
theorem dl_36 : decode code 36 = .ok (.bipush 63, 2) := by decide +kernel
theorem dl_38 : decode code 38 = .ok (.iand, 1) := by decide +kernel
theorem dl_39 : decode code 39 = .ok (.tableswitch 1198 0 40 #[177, 202, 227, 240, 253, 266, 334, 402, 463, 476, 501, 538, 563, 576, 589, 602, 627, 640, 677, 690, 703, 728, 753, 766, 779, 804, 817, 830, 855, 880, 917, 930, 943, 980, 993, 1006, 1031, 1068, 1093, 1118, 1143], 177) := by decide +kernel
theorem dl_1237 : decode code 1237 = .ok (.iinc 4 5, 3) := by decide +kernel
theorem dl_1240 : decode code 1240 = .ok (.goto (-1217), 3) := by decide +kernel
theorem dl_1243 : decode code 1243 = .ok (.iconst 1, 1) := by decide +kernel
theorem dl_1244 : decode code 1244 = .ok (.ireturn, 1) := by decide +kernel
theorem zl_sub5 {L : Nat} (hL : L ≤ 2560) : (Int32.ofNat L - nI 5).toInt = (L : Int) - 5 := by
  rw [Int32.toInt_sub, show (Int32.ofNat L).toInt = (L : Int) from nI_toInt (by omega), show (nI 5).toInt = 5 from by decide]
  rw [Int.bmod_eq_of_le (by omega) (by omega)]
set_option maxRecDepth 20000 in
set_option maxHeartbeats 1000000 in
theorem zlaw_loop {p : Program} {l : Launch} {e : Env} {s : State} {m : MethodId} {below : List Frame} {meth : Method} {c : Code} {b L : Nat} {xs : Nat → Int32} {D : va_G} {cA : Nat → ClassId} {ad adK adV : Nat → Nat} {C1 S1 : Nat} (hC1 : C1 + 512 ≤ 601024) (hS1 : S1 + 3072 ≤ 7293034) (Z : zlaw p l s m meth c b L xs D cA ad adK adV) :
    ∀ (f j : Nat) (M : zM) (H : Heap) (locs : List Loc) (ls : Array Slot), 5 * j ≤ L → L + 1 ≤ 5 * j + f → zI (j : Int) M → z_mok M → va_P D z_cl (z_w ad cA M) H → va_S (fun q => s.heap.size ≤ q) s.heap H locs → lv_has ls 8 (zlaw_lv b ad (5 * j)) → W p l e room_1 s m #[Value.ref b] below meth c H locs (C1 + j) (S1 + 6 * j) (lw_Z below #[Value.ref b] s) (F0 m 23 ls []) := by
  obtain ⟨hL, ⟨hx, hb, hr, hml, hown, hts, hX, hbl, hlocks, hgv⟩, -⟩ := id Z
  intro f
  induction f with
  | zero => intro j M H locs ls h1 h2; exact absurd h2 (by omega)
  | succ f ih =>
    intro j M H locs ls h1 h2 hI hm hP hS hl
    have K : 5 * j + 5 ≤ L → zlaw_K p l e s m below meth c b D cA ad (j : Int) (5 * j) (C1 + j) (S1 + 6 * j) := by
      intro h5 M' H1 locs1 ls1 hI' hm' hP' hS' hl'
      refine lv_iinc (v := nI (5 * (j + 1))) (lv' := [(4, .int (nI (5 * (j + 1)))), (0, .ref b), (1, .ref (ad 0)), (2, .ref (ad 179)), (3, .ref (ad 222))]) hx hb dl_1237 hl' (k := 4) rfl (by rw [show 5 * (j + 1) = 5 * j + 5 by omega]; exact (Int32.ofNat_add (5 * j) 5).symm) (by decide) rfl (fun ls hl => ?_)
      refine lv_goto (tgt := 23) hx hb dl_1240 (by decide) ?_
      have h9 := ih (j + 1) M' H1 locs1 ls (by omega) (by omega) (by rw [show ((j + 1 : Nat) : Int) = (j : Int) + 1 by omega]; exact hI') hm' hP' hS' (lv_sub hl [1, 2, 3, 4, 0] rfl)
      exact h9
    refine lv_iload hx hb dl_23 (lv_at hl 4 rfl) ?_
    refine lv_aload_n hx hb dl_25 rfl (lv_at hl 0 rfl) ?_
    refine va_slen hx hb hX hbl (Nat.not_le.mpr hbl) hS dl_26 ?_
    refine lv_iconst (v := nI 5) hx hb dl_27 (by decide) ?_
    refine lv_isub hx hb dl_28 ?_
    refine lv_icmp_gt (tgt := 1243) hx hb dl_29 (by decide) (fun h => ?_) (fun h => ?_)
    · refine lv_iconst (v := 1) hx hb dl_1243 (by decide) ?_
      refine va_forget (fun q hq => hS.2.2 q hq) ?_
      refine W.widen (k := 601024) (n := 7293034) (by omega) (by omega) ?_
      exact lw_ret hx hb hr hlocks dl_1244
    · have h5 : 5 * j + 5 ≤ L := by
        rw [Int32.lt_iff_toInt_lt, zl_sub5 hL, nI_toInt (by omega)] at h
        omega
      have hn : (j : Int) < 512 := by omega
      have K := K h5
      have hcl : C1 + j + 1 ≤ 601024 ∧ S1 + 6 * j + 6 ≤ 7293034 := by omega
      have hi : 5 * j + 4 < L := by omega
      refine lv_aload_n hx hb dl_32 rfl (lv_at hl 0 rfl) ?_
      refine lv_iload hx hb dl_33 (lv_at hl 4 rfl) ?_
      refine va_sld hx hb hX hbl (Nat.not_le.mpr hbl) hS (vp_in_nI (by omega) (by omega)) dl_35 ?_
      refine lv_bipush (v := 63) hx hb dl_36 (by decide) ?_
      refine lv_iand hx hb dl_38 ?_
      generalize xs (nI (5 * j)).toNatClampNeg &&& 63 = x
      by_cases hout : x.toInt < 0 ∨ 40 < x.toInt
      · refine lv_tableOut (tgt := 1237) hx hb dl_39 hout (by decide) ?_
        refine W.widen (k := C1 + j + 1) (n := S1 + 6 * j + 6) (by omega) (by omega) ?_
        exact K M H locs ls (zI_f hI hn (S := []) (J := []) zf_rf rfl rfl) hm hP hS hl
      · have h1 : ¬ x.toInt < 0 := fun q => hout (Or.inl q)
        have h2 : ¬ 40 < x.toInt := fun q => hout (Or.inr q)
        obtain ⟨k, hk⟩ : ∃ k : Nat, x.toInt = k := ⟨x.toInt.toNat, by omega⟩
        have hk2 : k ≤ 40 := by omega
        have go : ∀ (off : Int) (tgt : Nat), (#[177, 202, 227, 240, 253, 266, 334, 402, 463, 476, 501, 538, 563, 576, 589, 602, 627, 640, 677, 690, 703, 728, 753, 766, 779, 804, 817, 830, 855, 880, 917, 930, 943, 980, 993, 1006, 1031, 1068, 1093, 1118, 1143] : Array Int)[k]? = some off → (39 : Int) + off = (tgt : Int) → W p l e room_1 s m #[Value.ref b] below meth c H locs (C1 + j) (S1 + 6 * j) (lw_Z below #[Value.ref b] s) (F0 m tgt ls []) → W p l e room_1 s m #[Value.ref b] below meth c H locs (C1 + j) (S1 + 6 * j) (lw_Z below #[Value.ref b] s) (F0 m 39 ls [.int x]) := by
          intro off tgt ho ht kk
          exact lv_tableIn (tgt := tgt) hx hb dl_39 h1 h2 (by rw [hk, show ((k : Int) - 0).toNat = k by omega]; exact ho) ht kk
        clear hk
        match k, hk2, go with
        | 0, _, go => exact go 177 216 rfl rfl (zk_sign Z hi hI hn hm hP hS hl hcl K)
        | 1, _, go => exact go 202 241 rfl rfl (zk_end Z hi hI hn hm hP hS hl hcl K)
        | 2, _, go => exact go 227 266 rfl rfl (zk_houses Z hi hI hn hm hP hS hl hcl K)
        | 3, _, go => exact go 240 279 rfl rfl (zk_heat Z hi hI hn hm hP hS hl hcl K)
        | 4, _, go => exact go 253 292 rfl rfl (zk_rule Z hi hI hn hm hP hS hl hcl K)
        | 5, _, go => exact go 266 305 rfl rfl (zk_house Z hi hI hn hm hP hS hl hcl K)
        | 6, _, go => exact go 334 373 rfl rfl (zk_letter Z hi hI hn hm hP hS hl hcl K)
        | 7, _, go => exact go 402 441 rfl rfl (zk_sheet Z hi hI hn hm hP hS hl hcl K)
        | 8, _, go => exact go 463 502 rfl rfl (zk_order Z hi hI hn hm hP hS hl hcl K)
        | 9, _, go => exact go 476 515 rfl rfl (zk_name Z hi hI hn hm hP hS hl hcl K)
        | 10, _, go => exact go 501 540 rfl rfl (zk_marry Z hi hI hn hm hP hS hl hcl K)
        | 11, _, go => exact go 538 577 rfl rfl (zk_days Z hi hI hn hm hP hS hl hcl K)
        | 12, _, go => exact go 563 602 rfl rfl (zk_year Z hi hI hn hm hP hS hl hcl K)
        | 13, _, go => exact go 576 615 rfl rfl (zk_undo Z hi hI hn hm hP hS hl hcl K)
        | 14, _, go => exact go 589 628 rfl rfl (zk_book Z hi hI hn hm hP hS hl hcl K)
        | 15, _, go => exact go 602 641 rfl rfl (zk_yields Z hi hI hn hm hP hS hl hcl K)
        | 16, _, go => exact go 627 666 rfl rfl (zk_stops Z hi hI hn hm hP hS hl hcl K)
        | 17, _, go => exact go 640 679 rfl rfl (zk_dry Z hi hI hn hm hP hS hl hcl K)
        | 18, _, go => exact go 677 716 rfl rfl (zk_waits Z hi hI hn hm hP hS hl hcl K)
        | 19, _, go => exact go 690 729 rfl rfl (zk_fewest Z hi hI hn hm hP hS hl hcl K)
        | 20, _, go => exact go 703 742 rfl rfl (zk_likes Z hi hI hn hm hP hS hl hcl K)
        | 21, _, go => exact go 728 767 rfl rfl (zk_rounds Z hi hI hn hm hP hS hl hcl K)
        | 22, _, go => exact go 753 792 rfl rfl (zk_votes Z hi hI hn hm hP hS hl hcl K)
        | 23, _, go => exact go 766 805 rfl rfl (zk_sways Z hi hI hn hm hP hS hl hcl K)
        | 24, _, go => exact go 779 818 rfl rfl (zk_initial Z hi hI hn hm hP hS hl hcl K)
        | 25, _, go => exact go 804 843 rfl rfl (zk_matches Z hi hI hn hm hP hS hl hcl K)
        | 26, _, go => exact go 817 856 rfl rfl (zk_lines Z hi hI hn hm hP hS hl hcl K)
        | 27, _, go => exact go 830 869 rfl rfl (zk_lot Z hi hI hn hm hP hS hl hcl K)
        | 28, _, go => exact go 855 894 rfl rfl (zk_shares Z hi hI hn hm hP hS hl hcl K)
        | 29, _, go => exact go 880 919 rfl rfl (zk_saw Z hi hI hn hm hP hS hl hcl K)
        | 30, _, go => exact go 917 956 rfl rfl (zk_forget Z hi hI hn hm hP hS hl hcl K)
        | 31, _, go => exact go 930 969 rfl rfl (zk_fits Z hi hI hn hm hP hS hl hcl K)
        | 32, _, go => exact go 943 982 rfl rfl (zk_sure Z hi hI hn hm hP hS hl hcl K)
        | 33, _, go => exact go 980 1019 rfl rfl (zk_ask Z hi hI hn hm hP hS hl hcl K)
        | 34, _, go => exact go 993 1032 rfl rfl (zk_law Z hi hI hn hm hP hS hl hcl K)
        | 35, _, go => exact go 1006 1045 rfl rfl (zk_rests Z hi hI hn hm hP hS hl hcl K)
        | 36, _, go => exact go 1031 1070 rfl rfl (zk_years Z hi hI hn hm hP hS hl hcl K)
        | 37, _, go => exact go 1068 1107 rfl rfl (zk_keep Z hi hI hn hm hP hS hl hcl K)
        | 38, _, go => exact go 1093 1132 rfl rfl (zk_again Z hi hI hn hm hP hS hl hcl K)
        | 39, _, go => exact go 1118 1157 rfl rfl (zk_count Z hi hI hn hm hP hS hl hcl K)
        | 40, _, go => exact go 1143 1182 rfl rfl (zk_row Z hi hI hn hm hP hS hl hcl K)
        | k + 41, hk2, _ => exact absurd hk2 (by omega)
