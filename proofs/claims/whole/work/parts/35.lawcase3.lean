/-! THE LAW, cases [15, 16, 17] -/
set_option maxHeartbeats 8000000 in
set_option maxRecDepth 100000 in
theorem lc_15 {p : Program} {l : Launch} {e : Env} {s : State} {m : MethodId} {below : List Frame} {meth : Method} {c : Code} {b L : Nat} {xs : Nat → Int32} {dC : Nat → ClassId} {dI : Nat → Nat → Nat} {cyI cyO : ClassId} (hL : L ≤ 384) (C0 : lw_At p s m meth c b L xs) (hK : va_K (dC, dI) vwCl [(cyI, .int), (cyO, .object RX0)] s) {f : Nat} (ih : LH p l e s m below meth c b L dC dI cyI cyO f) (i n q z : Nat) (T D : Nat → Nat) (tr fa : Int32) (aX : Nat → Nat) (aR cd : Nat) (aN aT : Nat → Nat) (sa : Nat → Nat → Nat) (gS : Nat → Option Nat) (aM : Nat → Nat) (X_readPerson : Nat → Int32) (X_readFloor : Nat → Int32) (Rfrom : Int32) (Rlength : Int32) (Rat : Int32) (Ncatches : Int32) (N_weightOf : Nat → Int32) (N_kindOf : Nat → Int32) (N_doneBy : Nat → Int32) (N_knownTo : Nat → Int32) (N_toldBy : Nat → Int32) (Tdeeds : Int32) (Tpeople : Int32) (Tcatches : Int32) (T_weightOf : Nat → Int32) (T_kindOf : Nat → Int32) (T_doneBy : Nat → Int32) (T_knownTo : Nat → Int32) (T_toldBy : Nat → Int32) (Sl : Nat → Int32) (Sn : Nat → Int32) (Sc : Nat → Nat → Int32) (Mat : Int32) (MreadDeeds : Int32) (MreadMany : Int32) (Mpairs : Int32) (Mcaught : Int32) (M_sorts : Nat → Int32) (M_sheetLong : Nat → Int32) (M_cells : Nat → Int32) (M_weightOf : Nat → Int32) (M_kind : Nat → Int32) (M_done : Nat → Int32) (M_knows : Nat → Int32) (M_told : Nat → Int32) (M_readWeight : Nat → Int32) (M_read : Nat → Int32) (M_then : Nat → Int32) (M_who : Nat → Int32) (M_what : Nat → Int32) (M_readWho : Nat → Int32) (M_readFloor : Nat → Int32) (hT : RT n q T D N_weightOf N_kindOf N_doneBy N_knownTo N_toldBy M_weightOf M_kind M_done M_knows M_told) (hR : RR q z X_readPerson X_readFloor M_readWho M_readFloor) (hSh : RS Sl Sn Sc M_sorts M_sheetLong M_cells) (hgS : ∀ k, k < 4 → gS k = some (sa k 0)) (hi6 : i + 6 ≤ L) (hlt : L < i + 6 + 6 * f) (H : Heap) (locs : List Loc) (ls : Array Slot) (hP : va_P (dC, dI) vwCl ((wX aX aR cd aN aT sa gS cyI cyO (nI z) tr fa X_readPerson X_readFloor Rfrom Rlength Rat (nI n) (nI q) Ncatches N_weightOf N_kindOf N_doneBy N_knownTo N_toldBy Tdeeds Tpeople Tcatches T_weightOf T_kindOf T_doneBy T_knownTo T_toldBy Sl Sn Sc) ++ (wM aM cyI fa tr (nI n) (nI q) Mat MreadDeeds MreadMany Mpairs Mcaught (nI z) M_sorts M_sheetLong M_cells M_weightOf M_kind M_done M_knows M_told M_readWeight M_read M_then M_who M_what M_readWho M_readFloor)) H) (hD : va_D (fun q : Nat => s.heap.size ≤ q) ((wX aX aR cd aN aT sa gS cyI cyO (nI z) tr fa X_readPerson X_readFloor Rfrom Rlength Rat (nI n) (nI q) Ncatches N_weightOf N_kindOf N_doneBy N_knownTo N_toldBy Tdeeds Tpeople Tcatches T_weightOf T_kindOf T_doneBy T_knownTo T_toldBy Sl Sn Sc) ++ (wM aM cyI fa tr (nI n) (nI q) Mat MreadDeeds MreadMany Mpairs Mcaught (nI z) M_sorts M_sheetLong M_cells M_weightOf M_kind M_done M_knows M_told M_readWeight M_read M_then M_who M_what M_readWho M_readFloor))) (hS : va_S (fun q : Nat => s.heap.size ≤ q) s.heap H locs) (hl : lv_has ls 4 [(0, .ref b), (1, .ref (aX 0)), (2, .ref (aM 0)), (3, .int (nI i))]) : W p l e room_1 s m #[Value.ref b] below meth c H locs 42 718 (lw_Z below #[Value.ref b] s) (F0 m 653 ls []) := by
  obtain ⟨hx, hb, hr, hml, hown, hts, hX, hbl, hlocks, hgv⟩ := C0
  have hown : s.vm.findClass RL = some m.cls := hown
  have hA : ∀ q : Nat, s.heap.size ≤ q → (fun q : Nat => s.heap.size ≤ q) q := fun _ h => h
  have hbA : ¬ (fun q : Nat => s.heap.size ≤ q) b := Nat.not_le.mpr hbl
  have hin1 : vp_in (nI i + 1) L := by rw [show nI i + 1 = nI (i + 1) from nI_add i 1]; exact vp_in_nI (by omega) (by omega)
  obtain ⟨a1, ea1⟩ : ∃ a, xs (nI i + 1).toNatClampNeg = a := ⟨_, rfl⟩
  have hin2 : vp_in (nI i + 2) L := by rw [show nI i + 2 = nI (i + 2) from nI_add i 2]; exact vp_in_nI (by omega) (by omega)
  obtain ⟨a2, ea2⟩ : ∃ a, xs (nI i + 2).toNatClampNeg = a := ⟨_, rfl⟩
  have hin3 : vp_in (nI i + 3) L := by rw [show nI i + 3 = nI (i + 3) from nI_add i 3]; exact vp_in_nI (by omega) (by omega)
  obtain ⟨a3, ea3⟩ : ∃ a, xs (nI i + 3).toNatClampNeg = a := ⟨_, rfl⟩
  have hin4 : vp_in (nI i + 4) L := by rw [show nI i + 4 = nI (i + 4) from nI_add i 4]; exact vp_in_nI (by omega) (by omega)
  obtain ⟨a4, ea4⟩ : ∃ a, xs (nI i + 4).toNatClampNeg = a := ⟨_, rfl⟩
  have hin5 : vp_in (nI i + 5) L := by rw [show nI i + 5 = nI (i + 5) from nI_add i 5]; exact vp_in_nI (by omega) (by omega)
  obtain ⟨a5, ea5⟩ : ∃ a, xs (nI i + 5).toNatClampNeg = a := ⟨_, rfl⟩
  obtain ⟨j_a2, hsp_a2⟩ := sp_ex a2
  obtain ⟨⟨r, f2, y1, y2, y3, y4, y5, y6, y7, y8⟩, ⟨r', f2', z1, z2, z3, z4, z5, z6⟩, e1, e2, e3, e4, hT⟩ := q_weights hT hSh hR hsp_a2 fa Tdeeds Tpeople Tcatches T_weightOf T_kindOf T_doneBy T_knownTo T_toldBy Mpairs Mcaught M_then M_who M_what a1 a3 a4 a5
  obtain rfl : r = r' := e3
  obtain rfl : f2 = f2' := e4
  refine lv_aload_n hx hb dL_law_653 rfl (lv_at hl 1 rfl) ?_
  refine lv_aload_n hx hb dL_law_654 rfl (lv_at hl 0 rfl) ?_
  refine lv_iload_n hx hb dL_law_655 rfl (lv_at hl 3 rfl) ?_
  refine lv_iconst (v := 1) hx hb dL_law_656 (by decide) ?_
  refine lv_iadd hx hb dL_law_657 ?_
  refine k_sld hx hb hX hbl hbA hS hin1 ea1 dL_law_658 ?_
  refine lv_aload_n hx hb dL_law_659 rfl (lv_at hl 0 rfl) ?_
  refine lv_iload_n hx hb dL_law_660 rfl (lv_at hl 3 rfl) ?_
  refine lv_iconst (v := 2) hx hb dL_law_661 (by decide) ?_
  refine lv_iadd hx hb dL_law_662 ?_
  refine k_sld hx hb hX hbl hbA hS hin2 ea2 dL_law_663 ?_
  refine lv_aload_n hx hb dL_law_664 rfl (lv_at hl 0 rfl) ?_
  refine lv_iload_n hx hb dL_law_665 rfl (lv_at hl 3 rfl) ?_
  refine lv_iconst (v := 3) hx hb dL_law_666 (by decide) ?_
  refine lv_iadd hx hb dL_law_667 ?_
  refine k_sld hx hb hX hbl hbA hS hin3 ea3 dL_law_668 ?_
  refine lv_aload_n hx hb dL_law_669 rfl (lv_at hl 0 rfl) ?_
  refine lv_iload_n hx hb dL_law_670 rfl (lv_at hl 3 rfl) ?_
  refine lv_iconst (v := 4) hx hb dL_law_671 (by decide) ?_
  refine lv_iadd hx hb dL_law_672 ?_
  refine k_sld hx hb hX hbl hbA hS hin4 ea4 dL_law_673 ?_
  refine lv_aload_n hx hb dL_law_674 rfl (lv_at hl 0 rfl) ?_
  refine lv_iload_n hx hb dL_law_675 rfl (lv_at hl 3 rfl) ?_
  refine lv_iconst (v := 5) hx hb dL_law_676 (by decide) ?_
  refine lv_iadd hx hb dL_law_677 ?_
  refine k_sld hx hb hX hbl hbA hS hin5 ea5 dL_law_678 ?_
  have cont : ∀ (H : Heap) (locs : List Loc), va_P (dC, dI) vwCl ((wX aX aR cd aN aT sa gS cyI cyO (nI z) tr f2 X_readPerson X_readFloor Rfrom Rlength Rat (nI n) (nI q) Ncatches N_weightOf N_kindOf N_doneBy N_knownTo N_toldBy y1 y2 y3 y4 y5 y6 y7 y8 Sl Sn Sc) ++ (wM aM cyI fa tr (nI n) (nI q) Mat MreadDeeds MreadMany Mpairs Mcaught (nI z) M_sorts M_sheetLong M_cells M_weightOf M_kind M_done M_knows M_told M_readWeight M_read M_then M_who M_what M_readWho M_readFloor)) H → va_D (fun q : Nat => s.heap.size ≤ q) ((wX aX aR cd aN aT sa gS cyI cyO (nI z) tr f2 X_readPerson X_readFloor Rfrom Rlength Rat (nI n) (nI q) Ncatches N_weightOf N_kindOf N_doneBy N_knownTo N_toldBy y1 y2 y3 y4 y5 y6 y7 y8 Sl Sn Sc) ++ (wM aM cyI fa tr (nI n) (nI q) Mat MreadDeeds MreadMany Mpairs Mcaught (nI z) M_sorts M_sheetLong M_cells M_weightOf M_kind M_done M_knows M_told M_readWeight M_read M_then M_who M_what M_readWho M_readFloor)) → va_S (fun q : Nat => s.heap.size ≤ q) s.heap H locs → W p l e room_1 s m #[Value.ref b] below meth c H locs 42 718 (lw_Z below #[Value.ref b] s) (F0 m 682 ls [.int r]) := by
    intro H locs hP hD hS
    refine lv_aload_n hx hb dL_law_682 rfl (lv_at hl 2 rfl) ?_
    refine lv_aload_n hx hb dL_law_683 rfl (lv_at hl 0 rfl) ?_
    refine lv_iload_n hx hb dL_law_684 rfl (lv_at hl 3 rfl) ?_
    refine lv_iconst (v := 1) hx hb dL_law_685 (by decide) ?_
    refine lv_iadd hx hb dL_law_686 ?_
    refine k_sld hx hb hX hbl hbA hS hin1 ea1 dL_law_687 ?_
    refine lv_aload_n hx hb dL_law_688 rfl (lv_at hl 0 rfl) ?_
    refine lv_iload_n hx hb dL_law_689 rfl (lv_at hl 3 rfl) ?_
    refine lv_iconst (v := 2) hx hb dL_law_690 (by decide) ?_
    refine lv_iadd hx hb dL_law_691 ?_
    refine k_sld hx hb hX hbl hbA hS hin2 ea2 dL_law_692 ?_
    refine lv_aload_n hx hb dL_law_693 rfl (lv_at hl 0 rfl) ?_
    refine lv_iload_n hx hb dL_law_694 rfl (lv_at hl 3 rfl) ?_
    refine lv_iconst (v := 3) hx hb dL_law_695 (by decide) ?_
    refine lv_iadd hx hb dL_law_696 ?_
    refine k_sld hx hb hX hbl hbA hS hin3 ea3 dL_law_697 ?_
    refine lv_aload_n hx hb dL_law_698 rfl (lv_at hl 0 rfl) ?_
    refine lv_iload_n hx hb dL_law_699 rfl (lv_at hl 3 rfl) ?_
    refine lv_iconst (v := 4) hx hb dL_law_700 (by decide) ?_
    refine lv_iadd hx hb dL_law_701 ?_
    refine k_sld hx hb hX hbl hbA hS hin4 ea4 dL_law_702 ?_
    refine lv_aload_n hx hb dL_law_703 rfl (lv_at hl 0 rfl) ?_
    refine lv_iload_n hx hb dL_law_704 rfl (lv_at hl 3 rfl) ?_
    refine lv_iconst (v := 5) hx hb dL_law_705 (by decide) ?_
    refine lv_iadd hx hb dL_law_706 ?_
    refine k_sld hx hb hX hbl hbA hS hin5 ea5 dL_law_707 ?_
    refine k_mi (As := [.int a1, .int a2, .int a3, .int a4, .int a5]) (rest := [.int r]) ⟨hx, hb, hml, hown, hts⟩ (c_X4_weights l dC dI cyI cyO aM H.size fa tr (nI n) (nI q) Mat MreadDeeds MreadMany Mpairs Mcaught (nI z) M_sorts M_sheetLong M_cells M_weightOf M_kind M_done M_knows M_told M_then M_who M_what M_readWho M_readFloor a1 a2 a3 a4 a5 e2) (cwV 5 hts hL_X4_weights rfl rfl rfl (by decide +kernel) ⟨Nat.le_of_ble_eq_true rfl, Nat.le_of_ble_eq_true rfl⟩) hP hD hK hS hA [false, false, false, false, false, false, false, false, false, false, false, false, false, false, false, false, false, false, false, false, false, false, false, false, false, true, true, true, true, true, true, true, true, true, false, false, true, true, true, true, true] rfl rfl (fun _ => rfl) (by decide) 4 0 rfl rfl rfl rfl hl.1 rfl (Nat.le_of_ble_eq_true rfl) dL_law_708 ⟨Nat.le_of_ble_eq_true rfl, Nat.le_of_ble_eq_true rfl⟩ (fun _ H locs hP hD hS => ?_)
    have hP : va_P (dC, dI) vwCl ((wX aX aR cd aN aT sa gS cyI cyO (nI z) tr f2 X_readPerson X_readFloor Rfrom Rlength Rat (nI n) (nI q) Ncatches N_weightOf N_kindOf N_doneBy N_knownTo N_toldBy y1 y2 y3 y4 y5 y6 y7 y8 Sl Sn Sc) ++ (wM aM cyI f2 tr (nI n) (nI q) Mat MreadDeeds MreadMany z1 z2 (nI z) M_sorts M_sheetLong M_cells z3 M_kind M_done M_knows M_told M_readWeight M_read z4 z5 z6 M_readWho M_readFloor)) H := hP
    have hD : va_D (fun q : Nat => s.heap.size ≤ q) ((wX aX aR cd aN aT sa gS cyI cyO (nI z) tr f2 X_readPerson X_readFloor Rfrom Rlength Rat (nI n) (nI q) Ncatches N_weightOf N_kindOf N_doneBy N_knownTo N_toldBy y1 y2 y3 y4 y5 y6 y7 y8 Sl Sn Sc) ++ (wM aM cyI f2 tr (nI n) (nI q) Mat MreadDeeds MreadMany z1 z2 (nI z) M_sorts M_sheetLong M_cells z3 M_kind M_done M_knows M_told M_readWeight M_read z4 z5 z6 M_readWho M_readFloor)) := hD
    refine lv_icmp_eq (tgt := 1230) hx hb dL_law_711 (by decide) (fun _ => ?_) (fun q => absurd rfl q)
    refine lv_iinc (v := nI (i + 6)) (lv' := [(3, .int (nI (i + 6))), (0, .ref b), (1, .ref (aX 0)), (2, .ref (aM 0))]) hx hb dL_law_1230 hl (k := 3) rfl (nI_add i 6) (by decide) rfl (fun ls hl => ?_)
    refine lv_goto (tgt := 18) hx hb dL_law_1233 (by decide) ?_
    exact ih (i + 6) n q z T D tr f2 aX aR cd aN aT sa gS aM X_readPerson X_readFloor Rfrom Rlength Rat Ncatches N_weightOf N_kindOf N_doneBy N_knownTo N_toldBy y1 y2 y3 y4 y5 y6 y7 y8 Sl Sn Sc Mat MreadDeeds MreadMany z1 z2 M_sorts M_sheetLong M_cells z3 M_kind M_done M_knows M_told M_readWeight M_read z4 z5 z6 M_readWho M_readFloor hT hR hSh hgS hlt (by omega) H locs ls hP hD hS (lv_sub hl [1, 2, 3, 0] rfl)
  have hj := hsp_a2.1
  rcases (show j_a2 = 0 ∨ j_a2 = 1 ∨ j_a2 = 2 ∨ j_a2 = 3 by omega) with rfl | rfl | rfl | rfl
  · refine k_mi (As := [.int a1, .int a2, .int a3, .int a4, .int a5]) (rest := []) ⟨hx, hb, hml, hown, hts⟩ (c_X3_weights l dC dI cyI cyO aX aN aT (sa 0) aR gS H.size (nI z) tr fa X_readPerson X_readFloor (nI n) (nI q) Ncatches N_weightOf N_kindOf N_doneBy N_knownTo N_toldBy Tdeeds Tpeople Tcatches T_weightOf T_kindOf T_doneBy T_knownTo T_toldBy (Sl 0) (Sn 0) (Sc 0) a1 a2 a3 a4 a5 (sp_g hsp_a2 hgS) e1) (cwV 5 hts hL_X3_weights rfl rfl rfl (by decide +kernel) ⟨Nat.le_of_ble_eq_true rfl, Nat.le_of_ble_eq_true rfl⟩) hP hD hK hS hA [true, true, true, true, false, true, true, true, true, true, true, true, true, true, true, true, true, true, true] rfl rfl (fun _ => rfl) (by decide) 3 0 rfl rfl rfl rfl hl.1 rfl (Nat.le_of_ble_eq_true rfl) dL_law_679 ⟨Nat.le_of_ble_eq_true rfl, Nat.le_of_ble_eq_true rfl⟩ (fun _ H locs hP hD hS => ?_)
    exact cont H locs hP hD hS
  · refine k_mi (As := [.int a1, .int a2, .int a3, .int a4, .int a5]) (rest := []) ⟨hx, hb, hml, hown, hts⟩ (c_X3_weights l dC dI cyI cyO aX aN aT (sa 1) aR gS H.size (nI z) tr fa X_readPerson X_readFloor (nI n) (nI q) Ncatches N_weightOf N_kindOf N_doneBy N_knownTo N_toldBy Tdeeds Tpeople Tcatches T_weightOf T_kindOf T_doneBy T_knownTo T_toldBy (Sl 1) (Sn 1) (Sc 1) a1 a2 a3 a4 a5 (sp_g hsp_a2 hgS) e1) (cwV 5 hts hL_X3_weights rfl rfl rfl (by decide +kernel) ⟨Nat.le_of_ble_eq_true rfl, Nat.le_of_ble_eq_true rfl⟩) hP hD hK hS hA [true, true, true, true, false, true, true, true, true, true, true, true, true, true, true, true, true, false, false, true, true] rfl rfl (fun _ => rfl) (by decide) 3 0 rfl rfl rfl rfl hl.1 rfl (Nat.le_of_ble_eq_true rfl) dL_law_679 ⟨Nat.le_of_ble_eq_true rfl, Nat.le_of_ble_eq_true rfl⟩ (fun _ H locs hP hD hS => ?_)
    exact cont H locs hP hD hS
  · refine k_mi (As := [.int a1, .int a2, .int a3, .int a4, .int a5]) (rest := []) ⟨hx, hb, hml, hown, hts⟩ (c_X3_weights l dC dI cyI cyO aX aN aT (sa 2) aR gS H.size (nI z) tr fa X_readPerson X_readFloor (nI n) (nI q) Ncatches N_weightOf N_kindOf N_doneBy N_knownTo N_toldBy Tdeeds Tpeople Tcatches T_weightOf T_kindOf T_doneBy T_knownTo T_toldBy (Sl 2) (Sn 2) (Sc 2) a1 a2 a3 a4 a5 (sp_g hsp_a2 hgS) e1) (cwV 5 hts hL_X3_weights rfl rfl rfl (by decide +kernel) ⟨Nat.le_of_ble_eq_true rfl, Nat.le_of_ble_eq_true rfl⟩) hP hD hK hS hA [true, true, true, true, false, true, true, true, true, true, true, true, true, true, true, true, true, false, false, false, false, true, true] rfl rfl (fun _ => rfl) (by decide) 3 0 rfl rfl rfl rfl hl.1 rfl (Nat.le_of_ble_eq_true rfl) dL_law_679 ⟨Nat.le_of_ble_eq_true rfl, Nat.le_of_ble_eq_true rfl⟩ (fun _ H locs hP hD hS => ?_)
    exact cont H locs hP hD hS
  · refine k_mi (As := [.int a1, .int a2, .int a3, .int a4, .int a5]) (rest := []) ⟨hx, hb, hml, hown, hts⟩ (c_X3_weights l dC dI cyI cyO aX aN aT (sa 3) aR gS H.size (nI z) tr fa X_readPerson X_readFloor (nI n) (nI q) Ncatches N_weightOf N_kindOf N_doneBy N_knownTo N_toldBy Tdeeds Tpeople Tcatches T_weightOf T_kindOf T_doneBy T_knownTo T_toldBy (Sl 3) (Sn 3) (Sc 3) a1 a2 a3 a4 a5 (sp_g hsp_a2 hgS) e1) (cwV 5 hts hL_X3_weights rfl rfl rfl (by decide +kernel) ⟨Nat.le_of_ble_eq_true rfl, Nat.le_of_ble_eq_true rfl⟩) hP hD hK hS hA [true, true, true, true, false, true, true, true, true, true, true, true, true, true, true, true, true, false, false, false, false, false, false, true, true] rfl rfl (fun _ => rfl) (by decide) 3 0 rfl rfl rfl rfl hl.1 rfl (Nat.le_of_ble_eq_true rfl) dL_law_679 ⟨Nat.le_of_ble_eq_true rfl, Nat.le_of_ble_eq_true rfl⟩ (fun _ H locs hP hD hS => ?_)
    exact cont H locs hP hD hS
set_option maxHeartbeats 8000000 in
set_option maxRecDepth 100000 in
theorem lc_16 {p : Program} {l : Launch} {e : Env} {s : State} {m : MethodId} {below : List Frame} {meth : Method} {c : Code} {b L : Nat} {xs : Nat → Int32} {dC : Nat → ClassId} {dI : Nat → Nat → Nat} {cyI cyO : ClassId} (hL : L ≤ 384) (C0 : lw_At p s m meth c b L xs) (hK : va_K (dC, dI) vwCl [(cyI, .int), (cyO, .object RX0)] s) {f : Nat} (ih : LH p l e s m below meth c b L dC dI cyI cyO f) (i n q z : Nat) (T D : Nat → Nat) (tr fa : Int32) (aX : Nat → Nat) (aR cd : Nat) (aN aT : Nat → Nat) (sa : Nat → Nat → Nat) (gS : Nat → Option Nat) (aM : Nat → Nat) (X_readPerson : Nat → Int32) (X_readFloor : Nat → Int32) (Rfrom : Int32) (Rlength : Int32) (Rat : Int32) (Ncatches : Int32) (N_weightOf : Nat → Int32) (N_kindOf : Nat → Int32) (N_doneBy : Nat → Int32) (N_knownTo : Nat → Int32) (N_toldBy : Nat → Int32) (Tdeeds : Int32) (Tpeople : Int32) (Tcatches : Int32) (T_weightOf : Nat → Int32) (T_kindOf : Nat → Int32) (T_doneBy : Nat → Int32) (T_knownTo : Nat → Int32) (T_toldBy : Nat → Int32) (Sl : Nat → Int32) (Sn : Nat → Int32) (Sc : Nat → Nat → Int32) (Mat : Int32) (MreadDeeds : Int32) (MreadMany : Int32) (Mpairs : Int32) (Mcaught : Int32) (M_sorts : Nat → Int32) (M_sheetLong : Nat → Int32) (M_cells : Nat → Int32) (M_weightOf : Nat → Int32) (M_kind : Nat → Int32) (M_done : Nat → Int32) (M_knows : Nat → Int32) (M_told : Nat → Int32) (M_readWeight : Nat → Int32) (M_read : Nat → Int32) (M_then : Nat → Int32) (M_who : Nat → Int32) (M_what : Nat → Int32) (M_readWho : Nat → Int32) (M_readFloor : Nat → Int32) (hT : RT n q T D N_weightOf N_kindOf N_doneBy N_knownTo N_toldBy M_weightOf M_kind M_done M_knows M_told) (hR : RR q z X_readPerson X_readFloor M_readWho M_readFloor) (hSh : RS Sl Sn Sc M_sorts M_sheetLong M_cells) (hgS : ∀ k, k < 4 → gS k = some (sa k 0)) (hi6 : i + 6 ≤ L) (hlt : L < i + 6 + 6 * f) (H : Heap) (locs : List Loc) (ls : Array Slot) (hP : va_P (dC, dI) vwCl ((wX aX aR cd aN aT sa gS cyI cyO (nI z) tr fa X_readPerson X_readFloor Rfrom Rlength Rat (nI n) (nI q) Ncatches N_weightOf N_kindOf N_doneBy N_knownTo N_toldBy Tdeeds Tpeople Tcatches T_weightOf T_kindOf T_doneBy T_knownTo T_toldBy Sl Sn Sc) ++ (wM aM cyI fa tr (nI n) (nI q) Mat MreadDeeds MreadMany Mpairs Mcaught (nI z) M_sorts M_sheetLong M_cells M_weightOf M_kind M_done M_knows M_told M_readWeight M_read M_then M_who M_what M_readWho M_readFloor)) H) (hD : va_D (fun q : Nat => s.heap.size ≤ q) ((wX aX aR cd aN aT sa gS cyI cyO (nI z) tr fa X_readPerson X_readFloor Rfrom Rlength Rat (nI n) (nI q) Ncatches N_weightOf N_kindOf N_doneBy N_knownTo N_toldBy Tdeeds Tpeople Tcatches T_weightOf T_kindOf T_doneBy T_knownTo T_toldBy Sl Sn Sc) ++ (wM aM cyI fa tr (nI n) (nI q) Mat MreadDeeds MreadMany Mpairs Mcaught (nI z) M_sorts M_sheetLong M_cells M_weightOf M_kind M_done M_knows M_told M_readWeight M_read M_then M_who M_what M_readWho M_readFloor))) (hS : va_S (fun q : Nat => s.heap.size ≤ q) s.heap H locs) (hl : lv_has ls 4 [(0, .ref b), (1, .ref (aX 0)), (2, .ref (aM 0)), (3, .int (nI i))]) : W p l e room_1 s m #[Value.ref b] below meth c H locs 42 718 (lw_Z below #[Value.ref b] s) (F0 m 716 ls []) := by
  obtain ⟨hx, hb, hr, hml, hown, hts, hX, hbl, hlocks, hgv⟩ := C0
  have hown : s.vm.findClass RL = some m.cls := hown
  have hA : ∀ q : Nat, s.heap.size ≤ q → (fun q : Nat => s.heap.size ≤ q) q := fun _ h => h
  have hbA : ¬ (fun q : Nat => s.heap.size ≤ q) b := Nat.not_le.mpr hbl
  have hin1 : vp_in (nI i + 1) L := by rw [show nI i + 1 = nI (i + 1) from nI_add i 1]; exact vp_in_nI (by omega) (by omega)
  obtain ⟨a1, ea1⟩ : ∃ a, xs (nI i + 1).toNatClampNeg = a := ⟨_, rfl⟩
  have hin2 : vp_in (nI i + 2) L := by rw [show nI i + 2 = nI (i + 2) from nI_add i 2]; exact vp_in_nI (by omega) (by omega)
  obtain ⟨a2, ea2⟩ : ∃ a, xs (nI i + 2).toNatClampNeg = a := ⟨_, rfl⟩
  have hin3 : vp_in (nI i + 3) L := by rw [show nI i + 3 = nI (i + 3) from nI_add i 3]; exact vp_in_nI (by omega) (by omega)
  obtain ⟨a3, ea3⟩ : ∃ a, xs (nI i + 3).toNatClampNeg = a := ⟨_, rfl⟩
  have hin4 : vp_in (nI i + 4) L := by rw [show nI i + 4 = nI (i + 4) from nI_add i 4]; exact vp_in_nI (by omega) (by omega)
  obtain ⟨a4, ea4⟩ : ∃ a, xs (nI i + 4).toNatClampNeg = a := ⟨_, rfl⟩
  have hin5 : vp_in (nI i + 5) L := by rw [show nI i + 5 = nI (i + 5) from nI_add i 5]; exact vp_in_nI (by omega) (by omega)
  obtain ⟨a5, ea5⟩ : ∃ a, xs (nI i + 5).toNatClampNeg = a := ⟨_, rfl⟩
  obtain ⟨j_a2, hsp_a2⟩ := sp_ex a2
  obtain ⟨⟨r, f2, y1, y2, y3, y4, y5, y6, y7, y8⟩, ⟨r', f2', z1, z2, z3, z4, z5, z6⟩, e1, e2, e3, e4, hT⟩ := q_kinds hT hSh hR hsp_a2 fa Tdeeds Tpeople Tcatches T_weightOf T_kindOf T_doneBy T_knownTo T_toldBy Mpairs Mcaught M_then M_who M_what a1 a3 a4 a5
  obtain rfl : r = r' := e3
  obtain rfl : f2 = f2' := e4
  refine lv_aload_n hx hb dL_law_716 rfl (lv_at hl 1 rfl) ?_
  refine lv_aload_n hx hb dL_law_717 rfl (lv_at hl 0 rfl) ?_
  refine lv_iload_n hx hb dL_law_718 rfl (lv_at hl 3 rfl) ?_
  refine lv_iconst (v := 1) hx hb dL_law_719 (by decide) ?_
  refine lv_iadd hx hb dL_law_720 ?_
  refine k_sld hx hb hX hbl hbA hS hin1 ea1 dL_law_721 ?_
  refine lv_aload_n hx hb dL_law_722 rfl (lv_at hl 0 rfl) ?_
  refine lv_iload_n hx hb dL_law_723 rfl (lv_at hl 3 rfl) ?_
  refine lv_iconst (v := 2) hx hb dL_law_724 (by decide) ?_
  refine lv_iadd hx hb dL_law_725 ?_
  refine k_sld hx hb hX hbl hbA hS hin2 ea2 dL_law_726 ?_
  refine lv_aload_n hx hb dL_law_727 rfl (lv_at hl 0 rfl) ?_
  refine lv_iload_n hx hb dL_law_728 rfl (lv_at hl 3 rfl) ?_
  refine lv_iconst (v := 3) hx hb dL_law_729 (by decide) ?_
  refine lv_iadd hx hb dL_law_730 ?_
  refine k_sld hx hb hX hbl hbA hS hin3 ea3 dL_law_731 ?_
  refine lv_aload_n hx hb dL_law_732 rfl (lv_at hl 0 rfl) ?_
  refine lv_iload_n hx hb dL_law_733 rfl (lv_at hl 3 rfl) ?_
  refine lv_iconst (v := 4) hx hb dL_law_734 (by decide) ?_
  refine lv_iadd hx hb dL_law_735 ?_
  refine k_sld hx hb hX hbl hbA hS hin4 ea4 dL_law_736 ?_
  refine lv_aload_n hx hb dL_law_737 rfl (lv_at hl 0 rfl) ?_
  refine lv_iload_n hx hb dL_law_738 rfl (lv_at hl 3 rfl) ?_
  refine lv_iconst (v := 5) hx hb dL_law_739 (by decide) ?_
  refine lv_iadd hx hb dL_law_740 ?_
  refine k_sld hx hb hX hbl hbA hS hin5 ea5 dL_law_741 ?_
  have cont : ∀ (H : Heap) (locs : List Loc), va_P (dC, dI) vwCl ((wX aX aR cd aN aT sa gS cyI cyO (nI z) tr f2 X_readPerson X_readFloor Rfrom Rlength Rat (nI n) (nI q) Ncatches N_weightOf N_kindOf N_doneBy N_knownTo N_toldBy y1 y2 y3 y4 y5 y6 y7 y8 Sl Sn Sc) ++ (wM aM cyI fa tr (nI n) (nI q) Mat MreadDeeds MreadMany Mpairs Mcaught (nI z) M_sorts M_sheetLong M_cells M_weightOf M_kind M_done M_knows M_told M_readWeight M_read M_then M_who M_what M_readWho M_readFloor)) H → va_D (fun q : Nat => s.heap.size ≤ q) ((wX aX aR cd aN aT sa gS cyI cyO (nI z) tr f2 X_readPerson X_readFloor Rfrom Rlength Rat (nI n) (nI q) Ncatches N_weightOf N_kindOf N_doneBy N_knownTo N_toldBy y1 y2 y3 y4 y5 y6 y7 y8 Sl Sn Sc) ++ (wM aM cyI fa tr (nI n) (nI q) Mat MreadDeeds MreadMany Mpairs Mcaught (nI z) M_sorts M_sheetLong M_cells M_weightOf M_kind M_done M_knows M_told M_readWeight M_read M_then M_who M_what M_readWho M_readFloor)) → va_S (fun q : Nat => s.heap.size ≤ q) s.heap H locs → W p l e room_1 s m #[Value.ref b] below meth c H locs 42 718 (lw_Z below #[Value.ref b] s) (F0 m 745 ls [.int r]) := by
    intro H locs hP hD hS
    refine lv_aload_n hx hb dL_law_745 rfl (lv_at hl 2 rfl) ?_
    refine lv_aload_n hx hb dL_law_746 rfl (lv_at hl 0 rfl) ?_
    refine lv_iload_n hx hb dL_law_747 rfl (lv_at hl 3 rfl) ?_
    refine lv_iconst (v := 1) hx hb dL_law_748 (by decide) ?_
    refine lv_iadd hx hb dL_law_749 ?_
    refine k_sld hx hb hX hbl hbA hS hin1 ea1 dL_law_750 ?_
    refine lv_aload_n hx hb dL_law_751 rfl (lv_at hl 0 rfl) ?_
    refine lv_iload_n hx hb dL_law_752 rfl (lv_at hl 3 rfl) ?_
    refine lv_iconst (v := 2) hx hb dL_law_753 (by decide) ?_
    refine lv_iadd hx hb dL_law_754 ?_
    refine k_sld hx hb hX hbl hbA hS hin2 ea2 dL_law_755 ?_
    refine lv_aload_n hx hb dL_law_756 rfl (lv_at hl 0 rfl) ?_
    refine lv_iload_n hx hb dL_law_757 rfl (lv_at hl 3 rfl) ?_
    refine lv_iconst (v := 3) hx hb dL_law_758 (by decide) ?_
    refine lv_iadd hx hb dL_law_759 ?_
    refine k_sld hx hb hX hbl hbA hS hin3 ea3 dL_law_760 ?_
    refine lv_aload_n hx hb dL_law_761 rfl (lv_at hl 0 rfl) ?_
    refine lv_iload_n hx hb dL_law_762 rfl (lv_at hl 3 rfl) ?_
    refine lv_iconst (v := 4) hx hb dL_law_763 (by decide) ?_
    refine lv_iadd hx hb dL_law_764 ?_
    refine k_sld hx hb hX hbl hbA hS hin4 ea4 dL_law_765 ?_
    refine lv_aload_n hx hb dL_law_766 rfl (lv_at hl 0 rfl) ?_
    refine lv_iload_n hx hb dL_law_767 rfl (lv_at hl 3 rfl) ?_
    refine lv_iconst (v := 5) hx hb dL_law_768 (by decide) ?_
    refine lv_iadd hx hb dL_law_769 ?_
    refine k_sld hx hb hX hbl hbA hS hin5 ea5 dL_law_770 ?_
    refine k_mi (As := [.int a1, .int a2, .int a3, .int a4, .int a5]) (rest := [.int r]) ⟨hx, hb, hml, hown, hts⟩ (c_X4_kinds l dC dI cyI cyO aM H.size fa tr (nI n) (nI q) Mat MreadDeeds MreadMany Mpairs Mcaught (nI z) M_sorts M_sheetLong M_cells M_weightOf M_kind M_done M_knows M_told M_then M_who M_what M_readWho M_readFloor a1 a2 a3 a4 a5 e2) (cwV 5 hts hL_X4_kinds rfl rfl rfl (by decide +kernel) ⟨Nat.le_of_ble_eq_true rfl, Nat.le_of_ble_eq_true rfl⟩) hP hD hK hS hA [false, false, false, false, false, false, false, false, false, false, false, false, false, false, false, false, false, false, false, false, false, false, false, false, false, true, true, true, true, true, true, true, true, true, false, false, true, true, true, true, true] rfl rfl (fun _ => rfl) (by decide) 4 0 rfl rfl rfl rfl hl.1 rfl (Nat.le_of_ble_eq_true rfl) dL_law_771 ⟨Nat.le_of_ble_eq_true rfl, Nat.le_of_ble_eq_true rfl⟩ (fun _ H locs hP hD hS => ?_)
    have hP : va_P (dC, dI) vwCl ((wX aX aR cd aN aT sa gS cyI cyO (nI z) tr f2 X_readPerson X_readFloor Rfrom Rlength Rat (nI n) (nI q) Ncatches N_weightOf N_kindOf N_doneBy N_knownTo N_toldBy y1 y2 y3 y4 y5 y6 y7 y8 Sl Sn Sc) ++ (wM aM cyI f2 tr (nI n) (nI q) Mat MreadDeeds MreadMany z1 z2 (nI z) M_sorts M_sheetLong M_cells M_weightOf z3 M_done M_knows M_told M_readWeight M_read z4 z5 z6 M_readWho M_readFloor)) H := hP
    have hD : va_D (fun q : Nat => s.heap.size ≤ q) ((wX aX aR cd aN aT sa gS cyI cyO (nI z) tr f2 X_readPerson X_readFloor Rfrom Rlength Rat (nI n) (nI q) Ncatches N_weightOf N_kindOf N_doneBy N_knownTo N_toldBy y1 y2 y3 y4 y5 y6 y7 y8 Sl Sn Sc) ++ (wM aM cyI f2 tr (nI n) (nI q) Mat MreadDeeds MreadMany z1 z2 (nI z) M_sorts M_sheetLong M_cells M_weightOf z3 M_done M_knows M_told M_readWeight M_read z4 z5 z6 M_readWho M_readFloor)) := hD
    refine lv_icmp_eq (tgt := 1230) hx hb dL_law_774 (by decide) (fun _ => ?_) (fun q => absurd rfl q)
    refine lv_iinc (v := nI (i + 6)) (lv' := [(3, .int (nI (i + 6))), (0, .ref b), (1, .ref (aX 0)), (2, .ref (aM 0))]) hx hb dL_law_1230 hl (k := 3) rfl (nI_add i 6) (by decide) rfl (fun ls hl => ?_)
    refine lv_goto (tgt := 18) hx hb dL_law_1233 (by decide) ?_
    exact ih (i + 6) n q z T D tr f2 aX aR cd aN aT sa gS aM X_readPerson X_readFloor Rfrom Rlength Rat Ncatches N_weightOf N_kindOf N_doneBy N_knownTo N_toldBy y1 y2 y3 y4 y5 y6 y7 y8 Sl Sn Sc Mat MreadDeeds MreadMany z1 z2 M_sorts M_sheetLong M_cells M_weightOf z3 M_done M_knows M_told M_readWeight M_read z4 z5 z6 M_readWho M_readFloor hT hR hSh hgS hlt (by omega) H locs ls hP hD hS (lv_sub hl [1, 2, 3, 0] rfl)
  have hj := hsp_a2.1
  rcases (show j_a2 = 0 ∨ j_a2 = 1 ∨ j_a2 = 2 ∨ j_a2 = 3 by omega) with rfl | rfl | rfl | rfl
  · refine k_mi (As := [.int a1, .int a2, .int a3, .int a4, .int a5]) (rest := []) ⟨hx, hb, hml, hown, hts⟩ (c_X3_kinds l dC dI cyI cyO aX aN aT (sa 0) aR gS H.size (nI z) tr fa X_readPerson X_readFloor (nI n) (nI q) Ncatches N_weightOf N_kindOf N_doneBy N_knownTo N_toldBy Tdeeds Tpeople Tcatches T_weightOf T_kindOf T_doneBy T_knownTo T_toldBy (Sl 0) (Sn 0) (Sc 0) a1 a2 a3 a4 a5 (sp_g hsp_a2 hgS) e1) (cwV 5 hts hL_X3_kinds rfl rfl rfl (by decide +kernel) ⟨Nat.le_of_ble_eq_true rfl, Nat.le_of_ble_eq_true rfl⟩) hP hD hK hS hA [true, true, true, true, false, true, true, true, true, true, true, true, true, true, true, true, true, true, true] rfl rfl (fun _ => rfl) (by decide) 3 0 rfl rfl rfl rfl hl.1 rfl (Nat.le_of_ble_eq_true rfl) dL_law_742 ⟨Nat.le_of_ble_eq_true rfl, Nat.le_of_ble_eq_true rfl⟩ (fun _ H locs hP hD hS => ?_)
    exact cont H locs hP hD hS
  · refine k_mi (As := [.int a1, .int a2, .int a3, .int a4, .int a5]) (rest := []) ⟨hx, hb, hml, hown, hts⟩ (c_X3_kinds l dC dI cyI cyO aX aN aT (sa 1) aR gS H.size (nI z) tr fa X_readPerson X_readFloor (nI n) (nI q) Ncatches N_weightOf N_kindOf N_doneBy N_knownTo N_toldBy Tdeeds Tpeople Tcatches T_weightOf T_kindOf T_doneBy T_knownTo T_toldBy (Sl 1) (Sn 1) (Sc 1) a1 a2 a3 a4 a5 (sp_g hsp_a2 hgS) e1) (cwV 5 hts hL_X3_kinds rfl rfl rfl (by decide +kernel) ⟨Nat.le_of_ble_eq_true rfl, Nat.le_of_ble_eq_true rfl⟩) hP hD hK hS hA [true, true, true, true, false, true, true, true, true, true, true, true, true, true, true, true, true, false, false, true, true] rfl rfl (fun _ => rfl) (by decide) 3 0 rfl rfl rfl rfl hl.1 rfl (Nat.le_of_ble_eq_true rfl) dL_law_742 ⟨Nat.le_of_ble_eq_true rfl, Nat.le_of_ble_eq_true rfl⟩ (fun _ H locs hP hD hS => ?_)
    exact cont H locs hP hD hS
  · refine k_mi (As := [.int a1, .int a2, .int a3, .int a4, .int a5]) (rest := []) ⟨hx, hb, hml, hown, hts⟩ (c_X3_kinds l dC dI cyI cyO aX aN aT (sa 2) aR gS H.size (nI z) tr fa X_readPerson X_readFloor (nI n) (nI q) Ncatches N_weightOf N_kindOf N_doneBy N_knownTo N_toldBy Tdeeds Tpeople Tcatches T_weightOf T_kindOf T_doneBy T_knownTo T_toldBy (Sl 2) (Sn 2) (Sc 2) a1 a2 a3 a4 a5 (sp_g hsp_a2 hgS) e1) (cwV 5 hts hL_X3_kinds rfl rfl rfl (by decide +kernel) ⟨Nat.le_of_ble_eq_true rfl, Nat.le_of_ble_eq_true rfl⟩) hP hD hK hS hA [true, true, true, true, false, true, true, true, true, true, true, true, true, true, true, true, true, false, false, false, false, true, true] rfl rfl (fun _ => rfl) (by decide) 3 0 rfl rfl rfl rfl hl.1 rfl (Nat.le_of_ble_eq_true rfl) dL_law_742 ⟨Nat.le_of_ble_eq_true rfl, Nat.le_of_ble_eq_true rfl⟩ (fun _ H locs hP hD hS => ?_)
    exact cont H locs hP hD hS
  · refine k_mi (As := [.int a1, .int a2, .int a3, .int a4, .int a5]) (rest := []) ⟨hx, hb, hml, hown, hts⟩ (c_X3_kinds l dC dI cyI cyO aX aN aT (sa 3) aR gS H.size (nI z) tr fa X_readPerson X_readFloor (nI n) (nI q) Ncatches N_weightOf N_kindOf N_doneBy N_knownTo N_toldBy Tdeeds Tpeople Tcatches T_weightOf T_kindOf T_doneBy T_knownTo T_toldBy (Sl 3) (Sn 3) (Sc 3) a1 a2 a3 a4 a5 (sp_g hsp_a2 hgS) e1) (cwV 5 hts hL_X3_kinds rfl rfl rfl (by decide +kernel) ⟨Nat.le_of_ble_eq_true rfl, Nat.le_of_ble_eq_true rfl⟩) hP hD hK hS hA [true, true, true, true, false, true, true, true, true, true, true, true, true, true, true, true, true, false, false, false, false, false, false, true, true] rfl rfl (fun _ => rfl) (by decide) 3 0 rfl rfl rfl rfl hl.1 rfl (Nat.le_of_ble_eq_true rfl) dL_law_742 ⟨Nat.le_of_ble_eq_true rfl, Nat.le_of_ble_eq_true rfl⟩ (fun _ H locs hP hD hS => ?_)
    exact cont H locs hP hD hS
set_option maxHeartbeats 8000000 in
set_option maxRecDepth 100000 in
theorem lc_17 {p : Program} {l : Launch} {e : Env} {s : State} {m : MethodId} {below : List Frame} {meth : Method} {c : Code} {b L : Nat} {xs : Nat → Int32} {dC : Nat → ClassId} {dI : Nat → Nat → Nat} {cyI cyO : ClassId} (hL : L ≤ 384) (C0 : lw_At p s m meth c b L xs) (hK : va_K (dC, dI) vwCl [(cyI, .int), (cyO, .object RX0)] s) {f : Nat} (ih : LH p l e s m below meth c b L dC dI cyI cyO f) (i n q z : Nat) (T D : Nat → Nat) (tr fa : Int32) (aX : Nat → Nat) (aR cd : Nat) (aN aT : Nat → Nat) (sa : Nat → Nat → Nat) (gS : Nat → Option Nat) (aM : Nat → Nat) (X_readPerson : Nat → Int32) (X_readFloor : Nat → Int32) (Rfrom : Int32) (Rlength : Int32) (Rat : Int32) (Ncatches : Int32) (N_weightOf : Nat → Int32) (N_kindOf : Nat → Int32) (N_doneBy : Nat → Int32) (N_knownTo : Nat → Int32) (N_toldBy : Nat → Int32) (Tdeeds : Int32) (Tpeople : Int32) (Tcatches : Int32) (T_weightOf : Nat → Int32) (T_kindOf : Nat → Int32) (T_doneBy : Nat → Int32) (T_knownTo : Nat → Int32) (T_toldBy : Nat → Int32) (Sl : Nat → Int32) (Sn : Nat → Int32) (Sc : Nat → Nat → Int32) (Mat : Int32) (MreadDeeds : Int32) (MreadMany : Int32) (Mpairs : Int32) (Mcaught : Int32) (M_sorts : Nat → Int32) (M_sheetLong : Nat → Int32) (M_cells : Nat → Int32) (M_weightOf : Nat → Int32) (M_kind : Nat → Int32) (M_done : Nat → Int32) (M_knows : Nat → Int32) (M_told : Nat → Int32) (M_readWeight : Nat → Int32) (M_read : Nat → Int32) (M_then : Nat → Int32) (M_who : Nat → Int32) (M_what : Nat → Int32) (M_readWho : Nat → Int32) (M_readFloor : Nat → Int32) (hT : RT n q T D N_weightOf N_kindOf N_doneBy N_knownTo N_toldBy M_weightOf M_kind M_done M_knows M_told) (hR : RR q z X_readPerson X_readFloor M_readWho M_readFloor) (hSh : RS Sl Sn Sc M_sorts M_sheetLong M_cells) (hgS : ∀ k, k < 4 → gS k = some (sa k 0)) (hi6 : i + 6 ≤ L) (hlt : L < i + 6 + 6 * f) (H : Heap) (locs : List Loc) (ls : Array Slot) (hP : va_P (dC, dI) vwCl ((wX aX aR cd aN aT sa gS cyI cyO (nI z) tr fa X_readPerson X_readFloor Rfrom Rlength Rat (nI n) (nI q) Ncatches N_weightOf N_kindOf N_doneBy N_knownTo N_toldBy Tdeeds Tpeople Tcatches T_weightOf T_kindOf T_doneBy T_knownTo T_toldBy Sl Sn Sc) ++ (wM aM cyI fa tr (nI n) (nI q) Mat MreadDeeds MreadMany Mpairs Mcaught (nI z) M_sorts M_sheetLong M_cells M_weightOf M_kind M_done M_knows M_told M_readWeight M_read M_then M_who M_what M_readWho M_readFloor)) H) (hD : va_D (fun q : Nat => s.heap.size ≤ q) ((wX aX aR cd aN aT sa gS cyI cyO (nI z) tr fa X_readPerson X_readFloor Rfrom Rlength Rat (nI n) (nI q) Ncatches N_weightOf N_kindOf N_doneBy N_knownTo N_toldBy Tdeeds Tpeople Tcatches T_weightOf T_kindOf T_doneBy T_knownTo T_toldBy Sl Sn Sc) ++ (wM aM cyI fa tr (nI n) (nI q) Mat MreadDeeds MreadMany Mpairs Mcaught (nI z) M_sorts M_sheetLong M_cells M_weightOf M_kind M_done M_knows M_told M_readWeight M_read M_then M_who M_what M_readWho M_readFloor))) (hS : va_S (fun q : Nat => s.heap.size ≤ q) s.heap H locs) (hl : lv_has ls 4 [(0, .ref b), (1, .ref (aX 0)), (2, .ref (aM 0)), (3, .int (nI i))]) : W p l e room_1 s m #[Value.ref b] below meth c H locs 42 718 (lw_Z below #[Value.ref b] s) (F0 m 779 ls []) := by
  obtain ⟨hx, hb, hr, hml, hown, hts, hX, hbl, hlocks, hgv⟩ := C0
  have hown : s.vm.findClass RL = some m.cls := hown
  have hA : ∀ q : Nat, s.heap.size ≤ q → (fun q : Nat => s.heap.size ≤ q) q := fun _ h => h
  have hbA : ¬ (fun q : Nat => s.heap.size ≤ q) b := Nat.not_le.mpr hbl
  have hin1 : vp_in (nI i + 1) L := by rw [show nI i + 1 = nI (i + 1) from nI_add i 1]; exact vp_in_nI (by omega) (by omega)
  obtain ⟨a1, ea1⟩ : ∃ a, xs (nI i + 1).toNatClampNeg = a := ⟨_, rfl⟩
  have hin2 : vp_in (nI i + 2) L := by rw [show nI i + 2 = nI (i + 2) from nI_add i 2]; exact vp_in_nI (by omega) (by omega)
  obtain ⟨a2, ea2⟩ : ∃ a, xs (nI i + 2).toNatClampNeg = a := ⟨_, rfl⟩
  have hin3 : vp_in (nI i + 3) L := by rw [show nI i + 3 = nI (i + 3) from nI_add i 3]; exact vp_in_nI (by omega) (by omega)
  obtain ⟨a3, ea3⟩ : ∃ a, xs (nI i + 3).toNatClampNeg = a := ⟨_, rfl⟩
  have hin4 : vp_in (nI i + 4) L := by rw [show nI i + 4 = nI (i + 4) from nI_add i 4]; exact vp_in_nI (by omega) (by omega)
  obtain ⟨a4, ea4⟩ : ∃ a, xs (nI i + 4).toNatClampNeg = a := ⟨_, rfl⟩
  have hin5 : vp_in (nI i + 5) L := by rw [show nI i + 5 = nI (i + 5) from nI_add i 5]; exact vp_in_nI (by omega) (by omega)
  obtain ⟨a5, ea5⟩ : ∃ a, xs (nI i + 5).toNatClampNeg = a := ⟨_, rfl⟩
  obtain ⟨j_a2, hsp_a2⟩ := sp_ex a2
  obtain ⟨⟨r, f2, y1, y2, y3, y4, y5, y6, y7, y8⟩, ⟨r', f2', z1, z2, z3, z4, z5, z6⟩, e1, e2, e3, e4, hT⟩ := q_knew hT hSh hR hsp_a2 fa Tdeeds Tpeople Tcatches T_weightOf T_kindOf T_doneBy T_knownTo T_toldBy Mpairs Mcaught M_then M_who M_what a1 a3 a4 a5
  obtain rfl : r = r' := e3
  obtain rfl : f2 = f2' := e4
  refine lv_aload_n hx hb dL_law_779 rfl (lv_at hl 1 rfl) ?_
  refine lv_aload_n hx hb dL_law_780 rfl (lv_at hl 0 rfl) ?_
  refine lv_iload_n hx hb dL_law_781 rfl (lv_at hl 3 rfl) ?_
  refine lv_iconst (v := 1) hx hb dL_law_782 (by decide) ?_
  refine lv_iadd hx hb dL_law_783 ?_
  refine k_sld hx hb hX hbl hbA hS hin1 ea1 dL_law_784 ?_
  refine lv_aload_n hx hb dL_law_785 rfl (lv_at hl 0 rfl) ?_
  refine lv_iload_n hx hb dL_law_786 rfl (lv_at hl 3 rfl) ?_
  refine lv_iconst (v := 2) hx hb dL_law_787 (by decide) ?_
  refine lv_iadd hx hb dL_law_788 ?_
  refine k_sld hx hb hX hbl hbA hS hin2 ea2 dL_law_789 ?_
  refine lv_aload_n hx hb dL_law_790 rfl (lv_at hl 0 rfl) ?_
  refine lv_iload_n hx hb dL_law_791 rfl (lv_at hl 3 rfl) ?_
  refine lv_iconst (v := 3) hx hb dL_law_792 (by decide) ?_
  refine lv_iadd hx hb dL_law_793 ?_
  refine k_sld hx hb hX hbl hbA hS hin3 ea3 dL_law_794 ?_
  refine lv_aload_n hx hb dL_law_795 rfl (lv_at hl 0 rfl) ?_
  refine lv_iload_n hx hb dL_law_796 rfl (lv_at hl 3 rfl) ?_
  refine lv_iconst (v := 4) hx hb dL_law_797 (by decide) ?_
  refine lv_iadd hx hb dL_law_798 ?_
  refine k_sld hx hb hX hbl hbA hS hin4 ea4 dL_law_799 ?_
  refine lv_aload_n hx hb dL_law_800 rfl (lv_at hl 0 rfl) ?_
  refine lv_iload_n hx hb dL_law_801 rfl (lv_at hl 3 rfl) ?_
  refine lv_iconst (v := 5) hx hb dL_law_802 (by decide) ?_
  refine lv_iadd hx hb dL_law_803 ?_
  refine k_sld hx hb hX hbl hbA hS hin5 ea5 dL_law_804 ?_
  have cont : ∀ (H : Heap) (locs : List Loc), va_P (dC, dI) vwCl ((wX aX aR cd aN aT sa gS cyI cyO (nI z) tr f2 X_readPerson X_readFloor Rfrom Rlength Rat (nI n) (nI q) Ncatches N_weightOf N_kindOf N_doneBy N_knownTo N_toldBy y1 y2 y3 y4 y5 y6 y7 y8 Sl Sn Sc) ++ (wM aM cyI fa tr (nI n) (nI q) Mat MreadDeeds MreadMany Mpairs Mcaught (nI z) M_sorts M_sheetLong M_cells M_weightOf M_kind M_done M_knows M_told M_readWeight M_read M_then M_who M_what M_readWho M_readFloor)) H → va_D (fun q : Nat => s.heap.size ≤ q) ((wX aX aR cd aN aT sa gS cyI cyO (nI z) tr f2 X_readPerson X_readFloor Rfrom Rlength Rat (nI n) (nI q) Ncatches N_weightOf N_kindOf N_doneBy N_knownTo N_toldBy y1 y2 y3 y4 y5 y6 y7 y8 Sl Sn Sc) ++ (wM aM cyI fa tr (nI n) (nI q) Mat MreadDeeds MreadMany Mpairs Mcaught (nI z) M_sorts M_sheetLong M_cells M_weightOf M_kind M_done M_knows M_told M_readWeight M_read M_then M_who M_what M_readWho M_readFloor)) → va_S (fun q : Nat => s.heap.size ≤ q) s.heap H locs → W p l e room_1 s m #[Value.ref b] below meth c H locs 42 718 (lw_Z below #[Value.ref b] s) (F0 m 808 ls [.int r]) := by
    intro H locs hP hD hS
    refine lv_aload_n hx hb dL_law_808 rfl (lv_at hl 2 rfl) ?_
    refine lv_aload_n hx hb dL_law_809 rfl (lv_at hl 0 rfl) ?_
    refine lv_iload_n hx hb dL_law_810 rfl (lv_at hl 3 rfl) ?_
    refine lv_iconst (v := 1) hx hb dL_law_811 (by decide) ?_
    refine lv_iadd hx hb dL_law_812 ?_
    refine k_sld hx hb hX hbl hbA hS hin1 ea1 dL_law_813 ?_
    refine lv_aload_n hx hb dL_law_814 rfl (lv_at hl 0 rfl) ?_
    refine lv_iload_n hx hb dL_law_815 rfl (lv_at hl 3 rfl) ?_
    refine lv_iconst (v := 2) hx hb dL_law_816 (by decide) ?_
    refine lv_iadd hx hb dL_law_817 ?_
    refine k_sld hx hb hX hbl hbA hS hin2 ea2 dL_law_818 ?_
    refine lv_aload_n hx hb dL_law_819 rfl (lv_at hl 0 rfl) ?_
    refine lv_iload_n hx hb dL_law_820 rfl (lv_at hl 3 rfl) ?_
    refine lv_iconst (v := 3) hx hb dL_law_821 (by decide) ?_
    refine lv_iadd hx hb dL_law_822 ?_
    refine k_sld hx hb hX hbl hbA hS hin3 ea3 dL_law_823 ?_
    refine lv_aload_n hx hb dL_law_824 rfl (lv_at hl 0 rfl) ?_
    refine lv_iload_n hx hb dL_law_825 rfl (lv_at hl 3 rfl) ?_
    refine lv_iconst (v := 4) hx hb dL_law_826 (by decide) ?_
    refine lv_iadd hx hb dL_law_827 ?_
    refine k_sld hx hb hX hbl hbA hS hin4 ea4 dL_law_828 ?_
    refine lv_aload_n hx hb dL_law_829 rfl (lv_at hl 0 rfl) ?_
    refine lv_iload_n hx hb dL_law_830 rfl (lv_at hl 3 rfl) ?_
    refine lv_iconst (v := 5) hx hb dL_law_831 (by decide) ?_
    refine lv_iadd hx hb dL_law_832 ?_
    refine k_sld hx hb hX hbl hbA hS hin5 ea5 dL_law_833 ?_
    refine k_mi (As := [.int a1, .int a2, .int a3, .int a4, .int a5]) (rest := [.int r]) ⟨hx, hb, hml, hown, hts⟩ (c_X4_knew l dC dI cyI cyO aM H.size fa tr (nI n) (nI q) Mat MreadDeeds MreadMany Mpairs Mcaught (nI z) M_sorts M_sheetLong M_cells M_weightOf M_kind M_done M_knows M_told M_then M_who M_what M_readWho M_readFloor a1 a2 a3 a4 a5 e2) (cwV 5 hts hL_X4_knew rfl rfl rfl (by decide +kernel) ⟨Nat.le_of_ble_eq_true rfl, Nat.le_of_ble_eq_true rfl⟩) hP hD hK hS hA [false, false, false, false, false, false, false, false, false, false, false, false, false, false, false, false, false, false, false, false, false, false, false, false, false, true, true, true, true, true, true, true, true, true, false, false, true, true, true, true, true] rfl rfl (fun _ => rfl) (by decide) 4 0 rfl rfl rfl rfl hl.1 rfl (Nat.le_of_ble_eq_true rfl) dL_law_834 ⟨Nat.le_of_ble_eq_true rfl, Nat.le_of_ble_eq_true rfl⟩ (fun _ H locs hP hD hS => ?_)
    have hP : va_P (dC, dI) vwCl ((wX aX aR cd aN aT sa gS cyI cyO (nI z) tr f2 X_readPerson X_readFloor Rfrom Rlength Rat (nI n) (nI q) Ncatches N_weightOf N_kindOf N_doneBy N_knownTo N_toldBy y1 y2 y3 y4 y5 y6 y7 y8 Sl Sn Sc) ++ (wM aM cyI f2 tr (nI n) (nI q) Mat MreadDeeds MreadMany z1 z2 (nI z) M_sorts M_sheetLong M_cells M_weightOf M_kind M_done z3 M_told M_readWeight M_read z4 z5 z6 M_readWho M_readFloor)) H := hP
    have hD : va_D (fun q : Nat => s.heap.size ≤ q) ((wX aX aR cd aN aT sa gS cyI cyO (nI z) tr f2 X_readPerson X_readFloor Rfrom Rlength Rat (nI n) (nI q) Ncatches N_weightOf N_kindOf N_doneBy N_knownTo N_toldBy y1 y2 y3 y4 y5 y6 y7 y8 Sl Sn Sc) ++ (wM aM cyI f2 tr (nI n) (nI q) Mat MreadDeeds MreadMany z1 z2 (nI z) M_sorts M_sheetLong M_cells M_weightOf M_kind M_done z3 M_told M_readWeight M_read z4 z5 z6 M_readWho M_readFloor)) := hD
    refine lv_icmp_eq (tgt := 1230) hx hb dL_law_837 (by decide) (fun _ => ?_) (fun q => absurd rfl q)
    refine lv_iinc (v := nI (i + 6)) (lv' := [(3, .int (nI (i + 6))), (0, .ref b), (1, .ref (aX 0)), (2, .ref (aM 0))]) hx hb dL_law_1230 hl (k := 3) rfl (nI_add i 6) (by decide) rfl (fun ls hl => ?_)
    refine lv_goto (tgt := 18) hx hb dL_law_1233 (by decide) ?_
    exact ih (i + 6) n q z T D tr f2 aX aR cd aN aT sa gS aM X_readPerson X_readFloor Rfrom Rlength Rat Ncatches N_weightOf N_kindOf N_doneBy N_knownTo N_toldBy y1 y2 y3 y4 y5 y6 y7 y8 Sl Sn Sc Mat MreadDeeds MreadMany z1 z2 M_sorts M_sheetLong M_cells M_weightOf M_kind M_done z3 M_told M_readWeight M_read z4 z5 z6 M_readWho M_readFloor hT hR hSh hgS hlt (by omega) H locs ls hP hD hS (lv_sub hl [1, 2, 3, 0] rfl)
  have hj := hsp_a2.1
  rcases (show j_a2 = 0 ∨ j_a2 = 1 ∨ j_a2 = 2 ∨ j_a2 = 3 by omega) with rfl | rfl | rfl | rfl
  · refine k_mi (As := [.int a1, .int a2, .int a3, .int a4, .int a5]) (rest := []) ⟨hx, hb, hml, hown, hts⟩ (c_X3_knew l dC dI cyI cyO aX aN aT (sa 0) aR gS H.size (nI z) tr fa X_readPerson X_readFloor (nI n) (nI q) Ncatches N_weightOf N_kindOf N_doneBy N_knownTo N_toldBy Tdeeds Tpeople Tcatches T_weightOf T_kindOf T_doneBy T_knownTo T_toldBy (Sl 0) (Sn 0) (Sc 0) a1 a2 a3 a4 a5 (sp_g hsp_a2 hgS) e1) (cwV 5 hts hL_X3_knew rfl rfl rfl (by decide +kernel) ⟨Nat.le_of_ble_eq_true rfl, Nat.le_of_ble_eq_true rfl⟩) hP hD hK hS hA [true, true, true, true, false, true, true, true, true, true, true, true, true, true, true, true, true, true, true] rfl rfl (fun _ => rfl) (by decide) 3 0 rfl rfl rfl rfl hl.1 rfl (Nat.le_of_ble_eq_true rfl) dL_law_805 ⟨Nat.le_of_ble_eq_true rfl, Nat.le_of_ble_eq_true rfl⟩ (fun _ H locs hP hD hS => ?_)
    exact cont H locs hP hD hS
  · refine k_mi (As := [.int a1, .int a2, .int a3, .int a4, .int a5]) (rest := []) ⟨hx, hb, hml, hown, hts⟩ (c_X3_knew l dC dI cyI cyO aX aN aT (sa 1) aR gS H.size (nI z) tr fa X_readPerson X_readFloor (nI n) (nI q) Ncatches N_weightOf N_kindOf N_doneBy N_knownTo N_toldBy Tdeeds Tpeople Tcatches T_weightOf T_kindOf T_doneBy T_knownTo T_toldBy (Sl 1) (Sn 1) (Sc 1) a1 a2 a3 a4 a5 (sp_g hsp_a2 hgS) e1) (cwV 5 hts hL_X3_knew rfl rfl rfl (by decide +kernel) ⟨Nat.le_of_ble_eq_true rfl, Nat.le_of_ble_eq_true rfl⟩) hP hD hK hS hA [true, true, true, true, false, true, true, true, true, true, true, true, true, true, true, true, true, false, false, true, true] rfl rfl (fun _ => rfl) (by decide) 3 0 rfl rfl rfl rfl hl.1 rfl (Nat.le_of_ble_eq_true rfl) dL_law_805 ⟨Nat.le_of_ble_eq_true rfl, Nat.le_of_ble_eq_true rfl⟩ (fun _ H locs hP hD hS => ?_)
    exact cont H locs hP hD hS
  · refine k_mi (As := [.int a1, .int a2, .int a3, .int a4, .int a5]) (rest := []) ⟨hx, hb, hml, hown, hts⟩ (c_X3_knew l dC dI cyI cyO aX aN aT (sa 2) aR gS H.size (nI z) tr fa X_readPerson X_readFloor (nI n) (nI q) Ncatches N_weightOf N_kindOf N_doneBy N_knownTo N_toldBy Tdeeds Tpeople Tcatches T_weightOf T_kindOf T_doneBy T_knownTo T_toldBy (Sl 2) (Sn 2) (Sc 2) a1 a2 a3 a4 a5 (sp_g hsp_a2 hgS) e1) (cwV 5 hts hL_X3_knew rfl rfl rfl (by decide +kernel) ⟨Nat.le_of_ble_eq_true rfl, Nat.le_of_ble_eq_true rfl⟩) hP hD hK hS hA [true, true, true, true, false, true, true, true, true, true, true, true, true, true, true, true, true, false, false, false, false, true, true] rfl rfl (fun _ => rfl) (by decide) 3 0 rfl rfl rfl rfl hl.1 rfl (Nat.le_of_ble_eq_true rfl) dL_law_805 ⟨Nat.le_of_ble_eq_true rfl, Nat.le_of_ble_eq_true rfl⟩ (fun _ H locs hP hD hS => ?_)
    exact cont H locs hP hD hS
  · refine k_mi (As := [.int a1, .int a2, .int a3, .int a4, .int a5]) (rest := []) ⟨hx, hb, hml, hown, hts⟩ (c_X3_knew l dC dI cyI cyO aX aN aT (sa 3) aR gS H.size (nI z) tr fa X_readPerson X_readFloor (nI n) (nI q) Ncatches N_weightOf N_kindOf N_doneBy N_knownTo N_toldBy Tdeeds Tpeople Tcatches T_weightOf T_kindOf T_doneBy T_knownTo T_toldBy (Sl 3) (Sn 3) (Sc 3) a1 a2 a3 a4 a5 (sp_g hsp_a2 hgS) e1) (cwV 5 hts hL_X3_knew rfl rfl rfl (by decide +kernel) ⟨Nat.le_of_ble_eq_true rfl, Nat.le_of_ble_eq_true rfl⟩) hP hD hK hS hA [true, true, true, true, false, true, true, true, true, true, true, true, true, true, true, true, true, false, false, false, false, false, false, true, true] rfl rfl (fun _ => rfl) (by decide) 3 0 rfl rfl rfl rfl hl.1 rfl (Nat.le_of_ble_eq_true rfl) dL_law_805 ⟨Nat.le_of_ble_eq_true rfl, Nat.le_of_ble_eq_true rfl⟩ (fun _ H locs hP hD hS => ?_)
    exact cont H locs hP hD hS
