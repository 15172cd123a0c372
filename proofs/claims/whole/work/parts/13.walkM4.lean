/-! WALKS, by wip/whole/gen.py: X4_inLeastTerms X4_odds X4_sheet X4_lose X4_put X4_cell X4_copy X4_begins X4_tell X4_greet X4_as X4_trace X4_fault X4_many -/
set_option maxHeartbeats 4000000 in
set_option maxRecDepth 100000 in
theorem c_X4_inLeastTerms (l : Launch) (dC : Nat → ClassId) (dI : Nat → Nat → Nat) (cyI cyO : ClassId)  (sz : Nat)  (p0 : Int64) (p1 : Int64) (p2 : Int32) {o : Int64}  (h : f_X4_inLeastTerms p0 p1 p2 = some o) : CtL l yX4_inLeastTerms wsX4_inLeastTerms { frames := 0, cells := 0, slots := 0, locals := 0 } (dC, dI) [(cyI, .int), (cyO, .object RX0)] [.long p0, .long p1, .int p2] sz [] (fun (_ : Unit) => []) o := by
  refine CtL.of (cc := cX4_inLeastTerms) (maxL := 11) (by decide) rfl (Nat.le_of_ble_eq_true rfl) ?_
  intro p e s m args below meth c A Q H locs hx hb hml hown hts hA hK hP hD hS hret ls hl
  have hown : s.vm.findClass RX4 = some m.cls := hown
  have hl : lv_has ls 11 [(0, .long p0), (2, .long p1), (4, .int p2)] := hl
  unfold f_X4_inLeastTerms at h
  have lp6 : ∀ (n : Nat) (x5 : Int64) (x7 : Int64) (H : Heap) (locs : List Loc) (ls : Array Slot), l_X4_inLeastTerms_6 p0 p1 p2 n (x5, x7) = some o → va_P (dC, dI) vwCl [] H → va_D A [] → va_S A s.heap H locs → lv_has ls 11 [(0, .long p0), (2, .long p1), (4, .int p2), (5, .long x5), (7, .long x7)] → W p l e { frames := 0, cells := 0, slots := 0, locals := 0 } s m args below meth c H locs 0 0 Q (F0 m 6 ls []) := by
    intro n
    induction n with
    | zero => intro _ _ H locs ls h _ _ _ _; exact (lpF_0 h).elim
    | succ n ih =>
      intro x5 x7 H locs ls h hP hD hS hl
      replace h : b_X4_inLeastTerms_6 p0 p1 p2 (l_X4_inLeastTerms_6 p0 p1 p2 n) x5 x7 = some o := h
      unfold b_X4_inLeastTerms_6 at h
      refine lv_lload hx hb dX4_inLeastTerms_6 (lv_at hl 4 rfl) ?_
      refine lv_lconst (v := 0) hx hb dX4_inLeastTerms_8 (by decide) ?_
      refine W.lcmp hx hb dX4_inLeastTerms_9 ?_
      refine lv_if_eq (tgt := 31) hx hb dX4_inLeastTerms_10 (by decide) (fun c1 => ?_) (fun c1 => ?_)
      · replace h := it_t c1 h
        refine lv_iload hx hb dX4_inLeastTerms_31 (lv_at hl 2 rfl) ?_
        refine lv_if_ne (tgt := 43) hx hb dX4_inLeastTerms_33 (by decide) (fun c2 => ?_) (fun c2 => ?_)
        · replace h := it_f c2 h
          refine lv_lload_n hx hb dX4_inLeastTerms_43 rfl (lv_at hl 1 rfl) ?_
          refine lv_lload hx hb dX4_inLeastTerms_44 (lv_at hl 3 rfl) ?_
          obtain ⟨e3, h⟩ := it_n h
          refine lv_ldiv hx hb dX4_inLeastTerms_46 e3 ?_
          replace h := Option.some.inj h; subst h
          exact hret () H locs _ ls hP hD hS dX4_inLeastTerms_47
        · replace h := it_t c2 h
          refine lv_lload_n hx hb dX4_inLeastTerms_36 rfl (lv_at hl 0 rfl) ?_
          refine lv_lload hx hb dX4_inLeastTerms_37 (lv_at hl 3 rfl) ?_
          obtain ⟨e4, h⟩ := it_n h
          refine lv_ldiv hx hb dX4_inLeastTerms_39 e4 ?_
          refine lv_goto (tgt := 47) hx hb dX4_inLeastTerms_40 (by decide) ?_
          replace h := Option.some.inj h; subst h
          exact hret () H locs _ ls hP hD hS dX4_inLeastTerms_47
      · replace h := it_f c1 h
        refine lv_lload hx hb dX4_inLeastTerms_13 (lv_at hl 3 rfl) ?_
        refine lv_lload hx hb dX4_inLeastTerms_15 (lv_at hl 4 rfl) ?_
        obtain ⟨e5, h⟩ := it_n h
        refine lv_lrem hx hb dX4_inLeastTerms_17 e5 ?_
        refine lv_lstore (lv' := [(9, .long (x5 - x5 / x7 * x7)), (0, .long p0), (2, .long p1), (4, .int p2), (5, .long x5), (7, .long x7)]) hx hb dX4_inLeastTerms_18 hl (by decide) rfl (fun ls hl => ?_)
        refine lv_lload hx hb dX4_inLeastTerms_20 (lv_at hl 5 rfl) ?_
        refine lv_lstore (lv' := [(5, .long x7), (9, .long (x5 - x5 / x7 * x7)), (0, .long p0), (2, .long p1), (4, .int p2), (7, .long x7)]) hx hb dX4_inLeastTerms_22 hl (by decide) rfl (fun ls hl => ?_)
        refine lv_lload hx hb dX4_inLeastTerms_24 (lv_at hl 1 rfl) ?_
        refine lv_lstore (lv' := [(7, .long (x5 - x5 / x7 * x7)), (5, .long x7), (9, .long (x5 - x5 / x7 * x7)), (0, .long p0), (2, .long p1), (4, .int p2)]) hx hb dX4_inLeastTerms_26 hl (by decide) rfl (fun ls hl => ?_)
        refine lv_goto (tgt := 6) hx hb dX4_inLeastTerms_28 (by decide) ?_
        exact ih x7 (x5 - x5 / x7 * x7) H locs ls h hP hD hS (lv_sub hl [3, 4, 5, 1, 0] rfl)
  refine lv_lload_n hx hb dX4_inLeastTerms_0 rfl (lv_at hl 0 rfl) ?_
  refine lv_lstore (lv' := [(5, .long p0), (0, .long p0), (2, .long p1), (4, .int p2)]) hx hb dX4_inLeastTerms_1 hl (by decide) rfl (fun ls hl => ?_)
  refine lv_lload_n hx hb dX4_inLeastTerms_3 rfl (lv_at hl 2 rfl) ?_
  refine lv_lstore (lv' := [(7, .long p1), (5, .long p0), (0, .long p0), (2, .long p1), (4, .int p2)]) hx hb dX4_inLeastTerms_4 hl (by decide) rfl (fun ls hl => ?_)
  exact lp6 99 p0 p1 H locs ls h hP hD hS (lv_sub hl [2, 3, 4, 1, 0] rfl)
set_option maxHeartbeats 4000000 in
set_option maxRecDepth 100000 in
theorem c_X4_odds (l : Launch) (dC : Nat → ClassId) (dI : Nat → Nat → Nat) (cyI cyO : ClassId) (aM : Nat → Nat) (sz : Nat) (Mfault : Int32) (Mtrace : Int32) (Mdeeds : Int32) (Mpeople : Int32) (Mat : Int32) (MreadDeeds : Int32) (MreadMany : Int32) (Mpairs : Int32) (Mcaught : Int32) (Mreadings : Int32) (M_weightOf : Nat → Int32) (M_kind : Nat → Int32) (M_done : Nat → Int32) (p1 : Int32) (p2 : Int32) (p3 : Int32) {o : Int64}  (h : f_X4_odds Mdeeds Mpeople M_weightOf M_kind M_done p1 p2 p3 = some o) : CtL l yX4_odds wsX4_odds { frames := 2, cells := 0, slots := 0, locals := 46 } (dC, dI) [(cyI, .int), (cyO, .object RX0)] [.ref (aM 0), .int p1, .int p2, .int p3] sz [((aM 0), .inr (4, [.int Mfault, .int Mtrace, .ref (aM 1), .ref (aM 2), .ref (aM 3), .int Mdeeds, .int Mpeople, .ref (aM 4), .ref (aM 5), .ref (aM 6), .ref (aM 7), .ref (aM 8), .int Mat, .int MreadDeeds, .int MreadMany, .ref (aM 9), .ref (aM 10), .ref (aM 11), .int Mpairs, .ref (aM 12), .ref (aM 13), .int Mcaught, .int Mreadings, .ref (aM 14), .ref (aM 15)])), ((aM 4), .inl (cyI, 6, .inl M_weightOf)), ((aM 5), .inl (cyI, 4, .inl M_kind)), ((aM 6), .inl (cyI, 4, .inl M_done))] (fun (_ : Unit) => [((aM 0), .inr (4, [.int Mfault, .int Mtrace, .ref (aM 1), .ref (aM 2), .ref (aM 3), .int Mdeeds, .int Mpeople, .ref (aM 4), .ref (aM 5), .ref (aM 6), .ref (aM 7), .ref (aM 8), .int Mat, .int MreadDeeds, .int MreadMany, .ref (aM 9), .ref (aM 10), .ref (aM 11), .int Mpairs, .ref (aM 12), .ref (aM 13), .int Mcaught, .int Mreadings, .ref (aM 14), .ref (aM 15)])), ((aM 4), .inl (cyI, 6, .inl M_weightOf)), ((aM 5), .inl (cyI, 4, .inl M_kind)), ((aM 6), .inl (cyI, 4, .inl M_done))]) o := by
  refine CtL.of (cc := cX4_odds) (maxL := 6) (by decide) rfl (Nat.le_of_ble_eq_true rfl) ?_
  intro p e s m args below meth c A Q H locs hx hb hml hown hts hA hK hP hD hS hret ls hl
  have hown : s.vm.findClass RX4 = some m.cls := hown
  have hl : lv_has ls 6 [(0, .ref (aM 0)), (1, .int p1), (2, .int p2), (3, .int p3)] := hl
  unfold f_X4_odds at h
  have hiX4 : ∀ w ∈ u_ws RX4 TX4 25, w ∈ wsX4_odds := by decide +kernel
  have hf25 := hts (.fieldLink RX4 25 "TowerTellModel" "done" "[I") (by decide +kernel)
  have hf65 := hts (.fieldLink RX4 65 "TowerTellModel" "deeds" "I") (by decide +kernel)
  have hL59 := hts (.constantLong RX4 59 (-9223372036854775808)) (by decide +kernel)
  have lp31 : ∀ (n : Nat) (x4 : Int32) (x5 : Int32) (H : Heap) (locs : List Loc) (ls : Array Slot), l_X4_odds_31 Mdeeds Mpeople M_weightOf M_kind M_done p1 p2 p3 n (x4, x5) = some o → va_P (dC, dI) vwCl [((aM 0), .inr (4, [.int Mfault, .int Mtrace, .ref (aM 1), .ref (aM 2), .ref (aM 3), .int Mdeeds, .int Mpeople, .ref (aM 4), .ref (aM 5), .ref (aM 6), .ref (aM 7), .ref (aM 8), .int Mat, .int MreadDeeds, .int MreadMany, .ref (aM 9), .ref (aM 10), .ref (aM 11), .int Mpairs, .ref (aM 12), .ref (aM 13), .int Mcaught, .int Mreadings, .ref (aM 14), .ref (aM 15)])), ((aM 4), .inl (cyI, 6, .inl M_weightOf)), ((aM 5), .inl (cyI, 4, .inl M_kind)), ((aM 6), .inl (cyI, 4, .inl M_done))] H → va_D A [((aM 0), .inr (4, [.int Mfault, .int Mtrace, .ref (aM 1), .ref (aM 2), .ref (aM 3), .int Mdeeds, .int Mpeople, .ref (aM 4), .ref (aM 5), .ref (aM 6), .ref (aM 7), .ref (aM 8), .int Mat, .int MreadDeeds, .int MreadMany, .ref (aM 9), .ref (aM 10), .ref (aM 11), .int Mpairs, .ref (aM 12), .ref (aM 13), .int Mcaught, .int Mreadings, .ref (aM 14), .ref (aM 15)])), ((aM 4), .inl (cyI, 6, .inl M_weightOf)), ((aM 5), .inl (cyI, 4, .inl M_kind)), ((aM 6), .inl (cyI, 4, .inl M_done))] → va_S A s.heap H locs → lv_has ls 6 [(0, .ref (aM 0)), (1, .int p1), (2, .int p2), (3, .int p3), (4, .int x4), (5, .int x5)] → W p l e { frames := 2, cells := 0, slots := 0, locals := 46 } s m args below meth c H locs 0 0 Q (F0 m 31 ls []) := by
    intro n
    induction n with
    | zero => intro _ _ H locs ls h _ _ _ _; exact (lpF_0 h).elim
    | succ n ih =>
      intro x4 x5 H locs ls h hP hD hS hl
      replace h : b_X4_odds_31 Mdeeds Mpeople M_weightOf M_kind M_done p1 p2 p3 (l_X4_odds_31 Mdeeds Mpeople M_weightOf M_kind M_done p1 p2 p3 n) x4 x5 = some o := h
      unfold b_X4_odds_31 at h
      refine lv_iload hx hb dX4_odds_31 (lv_at hl 5 rfl) ?_
      refine lv_iconst (v := 1) hx hb dX4_odds_33 (by decide) ?_
      refine lv_aload_n hx hb dX4_odds_34 rfl (lv_at hl 0 rfl) ?_
      refine va_get (D := (dC, dI)) (ci := 4) (v := .int Mdeeds) (C := RX4) (T := TX4) (N := 25) hx hb hts hiX4 hown hK hP 0 rfl rfl 5 (by decide) hf65 (fun _ h9 => h9) rfl dX4_odds_35 ?_
      refine lv_ishl hx hb dX4_odds_38 ?_
      refine lv_icmp_ge (tgt := 79) hx hb dX4_odds_39 (by decide) (fun c8 => ?_) (fun c8 => ?_)
      · replace h := it_t c8 h
        refine lv_iload hx hb dX4_odds_79 (lv_at hl 4 rfl) ?_
        refine lv_i2l (v := x4.toInt64) hx hb dX4_odds_81 rfl ?_
        refine lv_lconst (v := 1) hx hb dX4_odds_82 (by decide) ?_
        refine lv_aload_n hx hb dX4_odds_83 rfl (lv_at hl 0 rfl) ?_
        refine va_get (D := (dC, dI)) (ci := 4) (v := .ref (aM 6)) (C := RX4) (T := TX4) (N := 25) hx hb hts hiX4 hown hK hP 0 rfl rfl 9 (by decide) hf25 (fun _ h9 => h9) rfl dX4_odds_84 ?_
        refine lv_iload_n hx hb dX4_odds_87 rfl (lv_at hl 1 rfl) ?_
        obtain ⟨e9, h⟩ := it_n h
        refine va_iald hx hb hK hP 3 0 rfl rfl (ix_in e9) dX4_odds_88 ?_
        obtain ⟨o10, hc11, h⟩ := ob h
        refine k_si (As := [.int (M_done p1.toNatClampNeg)]) (rest := [.long (1 : Int64), .long (x4.toInt64)]) ⟨hx, hb, hml, hown, hts⟩ (c_X4_size l dC dI cyI cyO H.size (M_done p1.toNatClampNeg) hc11) (va_cwS 1 hts gX4_odds_X4_size rfl rfl rfl (by decide +kernel) ⟨Nat.le_of_ble_eq_true rfl, Nat.le_of_ble_eq_true rfl⟩) hP hD hK hS hA [] [0, 1, 2, 3] rfl rfl (by decide) (by decide) (by decide) rfl hl.1 rfl (Nat.le_of_ble_eq_true rfl) dX4_odds_89 ⟨Nat.zero_le _, Nat.zero_le _⟩ (fun _ H locs hP hD hS => ?_)
        have hP : va_P (dC, dI) vwCl [((aM 0), .inr (4, [.int Mfault, .int Mtrace, .ref (aM 1), .ref (aM 2), .ref (aM 3), .int Mdeeds, .int Mpeople, .ref (aM 4), .ref (aM 5), .ref (aM 6), .ref (aM 7), .ref (aM 8), .int Mat, .int MreadDeeds, .int MreadMany, .ref (aM 9), .ref (aM 10), .ref (aM 11), .int Mpairs, .ref (aM 12), .ref (aM 13), .int Mcaught, .int Mreadings, .ref (aM 14), .ref (aM 15)])), ((aM 4), .inl (cyI, 6, .inl M_weightOf)), ((aM 5), .inl (cyI, 4, .inl M_kind)), ((aM 6), .inl (cyI, 4, .inl M_done))] H := hP
        have hD : va_D A [((aM 0), .inr (4, [.int Mfault, .int Mtrace, .ref (aM 1), .ref (aM 2), .ref (aM 3), .int Mdeeds, .int Mpeople, .ref (aM 4), .ref (aM 5), .ref (aM 6), .ref (aM 7), .ref (aM 8), .int Mat, .int MreadDeeds, .int MreadMany, .ref (aM 9), .ref (aM 10), .ref (aM 11), .int Mpairs, .ref (aM 12), .ref (aM 13), .int Mcaught, .int Mreadings, .ref (aM 14), .ref (aM 15)])), ((aM 4), .inl (cyI, 6, .inl M_weightOf)), ((aM 5), .inl (cyI, 4, .inl M_kind)), ((aM 6), .inl (cyI, 4, .inl M_done))] := hD
        refine lv_lshl (v := (1 : Int64) <<< (o10.toInt64 &&& 63)) hx hb dX4_odds_92 rfl ?_
        refine lv_iload_n hx hb dX4_odds_93 rfl (lv_at hl 3 rfl) ?_
        obtain ⟨o12, hc13, h⟩ := ob h
        refine k_sl (As := [.long (x4.toInt64), .long ((1 : Int64) <<< (o10.toInt64 &&& 63)), .int p3]) (rest := []) ⟨hx, hb, hml, hown, hts⟩ (c_X4_inLeastTerms l dC dI cyI cyO H.size (x4.toInt64) ((1 : Int64) <<< (o10.toInt64 &&& 63)) p3 hc13) (va_cwS 3 hts gX4_odds_X4_inLeastTerms rfl rfl rfl (by decide +kernel) ⟨Nat.le_of_ble_eq_true rfl, Nat.le_of_ble_eq_true rfl⟩) hP hD hK hS hA [] [0, 1, 2, 3] rfl rfl (by decide) (by decide) (by decide) rfl hl.1 rfl (Nat.le_of_ble_eq_true rfl) dX4_odds_94 ⟨Nat.zero_le _, Nat.zero_le _⟩ (fun _ H locs hP hD hS => ?_)
        have hP : va_P (dC, dI) vwCl [((aM 0), .inr (4, [.int Mfault, .int Mtrace, .ref (aM 1), .ref (aM 2), .ref (aM 3), .int Mdeeds, .int Mpeople, .ref (aM 4), .ref (aM 5), .ref (aM 6), .ref (aM 7), .ref (aM 8), .int Mat, .int MreadDeeds, .int MreadMany, .ref (aM 9), .ref (aM 10), .ref (aM 11), .int Mpairs, .ref (aM 12), .ref (aM 13), .int Mcaught, .int Mreadings, .ref (aM 14), .ref (aM 15)])), ((aM 4), .inl (cyI, 6, .inl M_weightOf)), ((aM 5), .inl (cyI, 4, .inl M_kind)), ((aM 6), .inl (cyI, 4, .inl M_done))] H := hP
        have hD : va_D A [((aM 0), .inr (4, [.int Mfault, .int Mtrace, .ref (aM 1), .ref (aM 2), .ref (aM 3), .int Mdeeds, .int Mpeople, .ref (aM 4), .ref (aM 5), .ref (aM 6), .ref (aM 7), .ref (aM 8), .int Mat, .int MreadDeeds, .int MreadMany, .ref (aM 9), .ref (aM 10), .ref (aM 11), .int Mpairs, .ref (aM 12), .ref (aM 13), .int Mcaught, .int Mreadings, .ref (aM 14), .ref (aM 15)])), ((aM 4), .inl (cyI, 6, .inl M_weightOf)), ((aM 5), .inl (cyI, 4, .inl M_kind)), ((aM 6), .inl (cyI, 4, .inl M_done))] := hD
        replace h := Option.some.inj h; subst h
        exact hret () H locs _ ls hP hD hS dX4_odds_97
      · replace h := it_f c8 h
        refine lv_iload hx hb dX4_odds_42 (lv_at hl 4 rfl) ?_
        refine lv_aload_n hx hb dX4_odds_44 rfl (lv_at hl 0 rfl) ?_
        refine lv_iload_n hx hb dX4_odds_45 rfl (lv_at hl 1 rfl) ?_
        refine lv_iload hx hb dX4_odds_46 (lv_at hl 5 rfl) ?_
        obtain ⟨o14, hc15, h⟩ := ob h
        refine k_vi (As := [.int p1, .int x5]) (rest := [.int x4]) ⟨hx, hb, hml, hown, hts⟩ (c_X4_isTruths l dC dI cyI cyO aM H.size Mfault Mtrace Mdeeds Mpeople Mat MreadDeeds MreadMany Mpairs Mcaught Mreadings M_done p1 x5 hc15) (cwV 2 hts gX4_odds_X4_isTruths rfl rfl rfl (by decide +kernel) ⟨Nat.le_of_ble_eq_true rfl, Nat.le_of_ble_eq_true rfl⟩) hP hD hK hS hA [0, 3] [1, 2] rfl rfl (by decide) (by decide) (by decide) 4 0 rfl rfl rfl rfl hl.1 rfl (Nat.le_of_ble_eq_true rfl) dX4_odds_48 ⟨Nat.zero_le _, Nat.zero_le _⟩ (fun _ H locs hP hD hS => ?_)
        have hP : va_P (dC, dI) vwCl [((aM 4), .inl (cyI, 6, .inl M_weightOf)), ((aM 5), .inl (cyI, 4, .inl M_kind)), ((aM 0), .inr (4, [.int Mfault, .int Mtrace, .ref (aM 1), .ref (aM 2), .ref (aM 3), .int Mdeeds, .int Mpeople, .ref (aM 4), .ref (aM 5), .ref (aM 6), .ref (aM 7), .ref (aM 8), .int Mat, .int MreadDeeds, .int MreadMany, .ref (aM 9), .ref (aM 10), .ref (aM 11), .int Mpairs, .ref (aM 12), .ref (aM 13), .int Mcaught, .int Mreadings, .ref (aM 14), .ref (aM 15)])), ((aM 6), .inl (cyI, 4, .inl M_done))] H := hP
        have hD : va_D A [((aM 4), .inl (cyI, 6, .inl M_weightOf)), ((aM 5), .inl (cyI, 4, .inl M_kind)), ((aM 0), .inr (4, [.int Mfault, .int Mtrace, .ref (aM 1), .ref (aM 2), .ref (aM 3), .int Mdeeds, .int Mpeople, .ref (aM 4), .ref (aM 5), .ref (aM 6), .ref (aM 7), .ref (aM 8), .int Mat, .int MreadDeeds, .int MreadMany, .ref (aM 9), .ref (aM 10), .ref (aM 11), .int Mpairs, .ref (aM 12), .ref (aM 13), .int Mcaught, .int Mreadings, .ref (aM 14), .ref (aM 15)])), ((aM 6), .inl (cyI, 4, .inl M_done))] := hD
        refine lv_if_eq (tgt := 69) hx hb dX4_odds_51 (by decide) (fun c16 => ?_) (fun c16 => ?_)
        · replace h := it_t c16 h
          refine lv_iconst (v := 0) hx hb dX4_odds_69 (by decide) ?_
          refine lv_iadd hx hb dX4_odds_70 ?_
          refine lv_istore (lv' := [(4, .int (x4 + 0)), (0, .ref (aM 0)), (1, .int p1), (2, .int p2), (3, .int p3), (5, .int x5)]) hx hb dX4_odds_71 hl (by decide) rfl (fun ls hl => ?_)
          refine lv_iinc (v := (x5 + 1)) (lv' := [(5, .int (x5 + 1)), (4, .int (x4 + 0)), (0, .ref (aM 0)), (1, .int p1), (2, .int p2), (3, .int p3)]) hx hb dX4_odds_73 hl (k := 5) rfl rfl (by decide) rfl (fun ls hl => ?_)
          refine lv_goto (tgt := 31) hx hb dX4_odds_76 (by decide) ?_
          have hP := hP.sub (ws' := [((aM 0), .inr (4, [.int Mfault, .int Mtrace, .ref (aM 1), .ref (aM 2), .ref (aM 3), .int Mdeeds, .int Mpeople, .ref (aM 4), .ref (aM 5), .ref (aM 6), .ref (aM 7), .ref (aM 8), .int Mat, .int MreadDeeds, .int MreadMany, .ref (aM 9), .ref (aM 10), .ref (aM 11), .int Mpairs, .ref (aM 12), .ref (aM 13), .int Mcaught, .int Mreadings, .ref (aM 14), .ref (aM 15)])), ((aM 4), .inl (cyI, 6, .inl M_weightOf)), ((aM 5), .inl (cyI, 4, .inl M_kind)), ((aM 6), .inl (cyI, 4, .inl M_done))]) [2, 0, 1, 3] rfl
          have hD := hD.sub (ws' := [((aM 0), .inr (4, [.int Mfault, .int Mtrace, .ref (aM 1), .ref (aM 2), .ref (aM 3), .int Mdeeds, .int Mpeople, .ref (aM 4), .ref (aM 5), .ref (aM 6), .ref (aM 7), .ref (aM 8), .int Mat, .int MreadDeeds, .int MreadMany, .ref (aM 9), .ref (aM 10), .ref (aM 11), .int Mpairs, .ref (aM 12), .ref (aM 13), .int Mcaught, .int Mreadings, .ref (aM 14), .ref (aM 15)])), ((aM 4), .inl (cyI, 6, .inl M_weightOf)), ((aM 5), .inl (cyI, 4, .inl M_kind)), ((aM 6), .inl (cyI, 4, .inl M_done))]) [2, 0, 1, 3] (by decide) rfl
          exact ih (x4 + 0) (x5 + 1) H locs ls h hP hD hS (lv_sub hl [2, 3, 4, 5, 1, 0] rfl)
        · replace h := it_f c16 h
          refine lv_aload_n hx hb dX4_odds_54 rfl (lv_at hl 0 rfl) ?_
          refine lv_iload_n hx hb dX4_odds_55 rfl (lv_at hl 1 rfl) ?_
          refine lv_iload hx hb dX4_odds_56 (lv_at hl 5 rfl) ?_
          obtain ⟨o17, hc18, h⟩ := ob h
          refine k_vi (As := [.int p1, .int x5]) (rest := [.int x4]) ⟨hx, hb, hml, hown, hts⟩ (c_X4_floorBy l dC dI cyI cyO aM H.size Mfault Mtrace Mdeeds Mpeople Mat MreadDeeds MreadMany Mpairs Mcaught Mreadings M_weightOf M_kind p1 x5 hc18) (cwV 2 hts gX4_odds_X4_floorBy rfl rfl rfl (by decide +kernel) ⟨Nat.le_of_ble_eq_true rfl, Nat.le_of_ble_eq_true rfl⟩) hP hD hK hS hA [2, 0, 1] [3] rfl rfl (by decide) (by decide) (by decide) 4 0 rfl rfl rfl rfl hl.1 rfl (Nat.le_of_ble_eq_true rfl) dX4_odds_58 ⟨Nat.zero_le _, Nat.zero_le _⟩ (fun _ H locs hP hD hS => ?_)
          have hP : va_P (dC, dI) vwCl [((aM 6), .inl (cyI, 4, .inl M_done)), ((aM 0), .inr (4, [.int Mfault, .int Mtrace, .ref (aM 1), .ref (aM 2), .ref (aM 3), .int Mdeeds, .int Mpeople, .ref (aM 4), .ref (aM 5), .ref (aM 6), .ref (aM 7), .ref (aM 8), .int Mat, .int MreadDeeds, .int MreadMany, .ref (aM 9), .ref (aM 10), .ref (aM 11), .int Mpairs, .ref (aM 12), .ref (aM 13), .int Mcaught, .int Mreadings, .ref (aM 14), .ref (aM 15)])), ((aM 4), .inl (cyI, 6, .inl M_weightOf)), ((aM 5), .inl (cyI, 4, .inl M_kind))] H := hP
          have hD : va_D A [((aM 6), .inl (cyI, 4, .inl M_done)), ((aM 0), .inr (4, [.int Mfault, .int Mtrace, .ref (aM 1), .ref (aM 2), .ref (aM 3), .int Mdeeds, .int Mpeople, .ref (aM 4), .ref (aM 5), .ref (aM 6), .ref (aM 7), .ref (aM 8), .int Mat, .int MreadDeeds, .int MreadMany, .ref (aM 9), .ref (aM 10), .ref (aM 11), .int Mpairs, .ref (aM 12), .ref (aM 13), .int Mcaught, .int Mreadings, .ref (aM 14), .ref (aM 15)])), ((aM 4), .inl (cyI, 6, .inl M_weightOf)), ((aM 5), .inl (cyI, 4, .inl M_kind))] := hD
          refine lv_iload_n hx hb dX4_odds_61 rfl (lv_at hl 2 rfl) ?_
          refine lv_icmp_lt (tgt := 69) hx hb dX4_odds_62 (by decide) (fun c19 => ?_) (fun c19 => ?_)
          · replace h := it_t c19 h
            refine lv_iconst (v := 0) hx hb dX4_odds_69 (by decide) ?_
            refine lv_iadd hx hb dX4_odds_70 ?_
            refine lv_istore (lv' := [(4, .int (x4 + 0)), (0, .ref (aM 0)), (1, .int p1), (2, .int p2), (3, .int p3), (5, .int x5)]) hx hb dX4_odds_71 hl (by decide) rfl (fun ls hl => ?_)
            refine lv_iinc (v := (x5 + 1)) (lv' := [(5, .int (x5 + 1)), (4, .int (x4 + 0)), (0, .ref (aM 0)), (1, .int p1), (2, .int p2), (3, .int p3)]) hx hb dX4_odds_73 hl (k := 5) rfl rfl (by decide) rfl (fun ls hl => ?_)
            refine lv_goto (tgt := 31) hx hb dX4_odds_76 (by decide) ?_
            have hP := hP.sub (ws' := [((aM 0), .inr (4, [.int Mfault, .int Mtrace, .ref (aM 1), .ref (aM 2), .ref (aM 3), .int Mdeeds, .int Mpeople, .ref (aM 4), .ref (aM 5), .ref (aM 6), .ref (aM 7), .ref (aM 8), .int Mat, .int MreadDeeds, .int MreadMany, .ref (aM 9), .ref (aM 10), .ref (aM 11), .int Mpairs, .ref (aM 12), .ref (aM 13), .int Mcaught, .int Mreadings, .ref (aM 14), .ref (aM 15)])), ((aM 4), .inl (cyI, 6, .inl M_weightOf)), ((aM 5), .inl (cyI, 4, .inl M_kind)), ((aM 6), .inl (cyI, 4, .inl M_done))]) [1, 2, 3, 0] rfl
            have hD := hD.sub (ws' := [((aM 0), .inr (4, [.int Mfault, .int Mtrace, .ref (aM 1), .ref (aM 2), .ref (aM 3), .int Mdeeds, .int Mpeople, .ref (aM 4), .ref (aM 5), .ref (aM 6), .ref (aM 7), .ref (aM 8), .int Mat, .int MreadDeeds, .int MreadMany, .ref (aM 9), .ref (aM 10), .ref (aM 11), .int Mpairs, .ref (aM 12), .ref (aM 13), .int Mcaught, .int Mreadings, .ref (aM 14), .ref (aM 15)])), ((aM 4), .inl (cyI, 6, .inl M_weightOf)), ((aM 5), .inl (cyI, 4, .inl M_kind)), ((aM 6), .inl (cyI, 4, .inl M_done))]) [1, 2, 3, 0] (by decide) rfl
            exact ih (x4 + 0) (x5 + 1) H locs ls h hP hD hS (lv_sub hl [2, 3, 4, 5, 1, 0] rfl)
          · replace h := it_f c19 h
            refine lv_iconst (v := 1) hx hb dX4_odds_65 (by decide) ?_
            refine lv_goto (tgt := 70) hx hb dX4_odds_66 (by decide) ?_
            refine lv_iadd hx hb dX4_odds_70 ?_
            refine lv_istore (lv' := [(4, .int (x4 + 1)), (0, .ref (aM 0)), (1, .int p1), (2, .int p2), (3, .int p3), (5, .int x5)]) hx hb dX4_odds_71 hl (by decide) rfl (fun ls hl => ?_)
            refine lv_iinc (v := (x5 + 1)) (lv' := [(5, .int (x5 + 1)), (4, .int (x4 + 1)), (0, .ref (aM 0)), (1, .int p1), (2, .int p2), (3, .int p3)]) hx hb dX4_odds_73 hl (k := 5) rfl rfl (by decide) rfl (fun ls hl => ?_)
            refine lv_goto (tgt := 31) hx hb dX4_odds_76 (by decide) ?_
            have hP := hP.sub (ws' := [((aM 0), .inr (4, [.int Mfault, .int Mtrace, .ref (aM 1), .ref (aM 2), .ref (aM 3), .int Mdeeds, .int Mpeople, .ref (aM 4), .ref (aM 5), .ref (aM 6), .ref (aM 7), .ref (aM 8), .int Mat, .int MreadDeeds, .int MreadMany, .ref (aM 9), .ref (aM 10), .ref (aM 11), .int Mpairs, .ref (aM 12), .ref (aM 13), .int Mcaught, .int Mreadings, .ref (aM 14), .ref (aM 15)])), ((aM 4), .inl (cyI, 6, .inl M_weightOf)), ((aM 5), .inl (cyI, 4, .inl M_kind)), ((aM 6), .inl (cyI, 4, .inl M_done))]) [1, 2, 3, 0] rfl
            have hD := hD.sub (ws' := [((aM 0), .inr (4, [.int Mfault, .int Mtrace, .ref (aM 1), .ref (aM 2), .ref (aM 3), .int Mdeeds, .int Mpeople, .ref (aM 4), .ref (aM 5), .ref (aM 6), .ref (aM 7), .ref (aM 8), .int Mat, .int MreadDeeds, .int MreadMany, .ref (aM 9), .ref (aM 10), .ref (aM 11), .int Mpairs, .ref (aM 12), .ref (aM 13), .int Mcaught, .int Mreadings, .ref (aM 14), .ref (aM 15)])), ((aM 4), .inl (cyI, 6, .inl M_weightOf)), ((aM 5), .inl (cyI, 4, .inl M_kind)), ((aM 6), .inl (cyI, 4, .inl M_done))]) [1, 2, 3, 0] (by decide) rfl
            exact ih (x4 + 1) (x5 + 1) H locs ls h hP hD hS (lv_sub hl [2, 3, 4, 5, 1, 0] rfl)
  refine lv_aload_n hx hb dX4_odds_0 rfl (lv_at hl 0 rfl) ?_
  refine lv_iload_n hx hb dX4_odds_1 rfl (lv_at hl 1 rfl) ?_
  obtain ⟨o1, hc2, h⟩ := ob h
  refine k_vi (As := [.int p1]) (rest := []) ⟨hx, hb, hml, hown, hts⟩ (c_X4_isPerson l dC dI cyI cyO aM H.size Mfault Mtrace Mdeeds Mpeople Mat MreadDeeds MreadMany Mpairs Mcaught Mreadings p1 hc2) (cwV 1 hts gX4_odds_X4_isPerson rfl rfl rfl (by decide +kernel) ⟨Nat.le_of_ble_eq_true rfl, Nat.le_of_ble_eq_true rfl⟩) hP hD hK hS hA [0] [1, 2, 3] rfl rfl (by decide) (by decide) (by decide) 4 0 rfl rfl rfl rfl hl.1 rfl (Nat.le_of_ble_eq_true rfl) dX4_odds_2 ⟨Nat.zero_le _, Nat.zero_le _⟩ (fun _ H locs hP hD hS => ?_)
  have hP : va_P (dC, dI) vwCl [((aM 4), .inl (cyI, 6, .inl M_weightOf)), ((aM 5), .inl (cyI, 4, .inl M_kind)), ((aM 6), .inl (cyI, 4, .inl M_done)), ((aM 0), .inr (4, [.int Mfault, .int Mtrace, .ref (aM 1), .ref (aM 2), .ref (aM 3), .int Mdeeds, .int Mpeople, .ref (aM 4), .ref (aM 5), .ref (aM 6), .ref (aM 7), .ref (aM 8), .int Mat, .int MreadDeeds, .int MreadMany, .ref (aM 9), .ref (aM 10), .ref (aM 11), .int Mpairs, .ref (aM 12), .ref (aM 13), .int Mcaught, .int Mreadings, .ref (aM 14), .ref (aM 15)]))] H := hP
  have hD : va_D A [((aM 4), .inl (cyI, 6, .inl M_weightOf)), ((aM 5), .inl (cyI, 4, .inl M_kind)), ((aM 6), .inl (cyI, 4, .inl M_done)), ((aM 0), .inr (4, [.int Mfault, .int Mtrace, .ref (aM 1), .ref (aM 2), .ref (aM 3), .int Mdeeds, .int Mpeople, .ref (aM 4), .ref (aM 5), .ref (aM 6), .ref (aM 7), .ref (aM 8), .int Mat, .int MreadDeeds, .int MreadMany, .ref (aM 9), .ref (aM 10), .ref (aM 11), .int Mpairs, .ref (aM 12), .ref (aM 13), .int Mcaught, .int Mreadings, .ref (aM 14), .ref (aM 15)]))] := hD
  refine lv_if_eq (tgt := 21) hx hb dX4_odds_5 (by decide) (fun c3 => ?_) (fun c3 => ?_)
  · replace h := it_t c3 h
    refine lv_ldc2 hx hb hown hL59 dX4_odds_21 ?_
    replace h := Option.some.inj h; subst h
    have hP := hP.sub (ws' := [((aM 0), .inr (4, [.int Mfault, .int Mtrace, .ref (aM 1), .ref (aM 2), .ref (aM 3), .int Mdeeds, .int Mpeople, .ref (aM 4), .ref (aM 5), .ref (aM 6), .ref (aM 7), .ref (aM 8), .int Mat, .int MreadDeeds, .int MreadMany, .ref (aM 9), .ref (aM 10), .ref (aM 11), .int Mpairs, .ref (aM 12), .ref (aM 13), .int Mcaught, .int Mreadings, .ref (aM 14), .ref (aM 15)])), ((aM 4), .inl (cyI, 6, .inl M_weightOf)), ((aM 5), .inl (cyI, 4, .inl M_kind)), ((aM 6), .inl (cyI, 4, .inl M_done))]) [3, 0, 1, 2] rfl
    have hD := hD.sub (ws' := [((aM 0), .inr (4, [.int Mfault, .int Mtrace, .ref (aM 1), .ref (aM 2), .ref (aM 3), .int Mdeeds, .int Mpeople, .ref (aM 4), .ref (aM 5), .ref (aM 6), .ref (aM 7), .ref (aM 8), .int Mat, .int MreadDeeds, .int MreadMany, .ref (aM 9), .ref (aM 10), .ref (aM 11), .int Mpairs, .ref (aM 12), .ref (aM 13), .int Mcaught, .int Mreadings, .ref (aM 14), .ref (aM 15)])), ((aM 4), .inl (cyI, 6, .inl M_weightOf)), ((aM 5), .inl (cyI, 4, .inl M_kind)), ((aM 6), .inl (cyI, 4, .inl M_done))]) [3, 0, 1, 2] (by decide) rfl
    exact hret () H locs _ ls hP hD hS dX4_odds_24
  · replace h := it_f c3 h
    refine lv_iload_n hx hb dX4_odds_8 rfl (lv_at hl 2 rfl) ?_
    refine lv_if_lt (tgt := 21) hx hb dX4_odds_9 (by decide) (fun c4 => ?_) (fun c4 => ?_)
    · replace h := it_t c4 h
      refine lv_ldc2 hx hb hown hL59 dX4_odds_21 ?_
      replace h := Option.some.inj h; subst h
      have hP := hP.sub (ws' := [((aM 0), .inr (4, [.int Mfault, .int Mtrace, .ref (aM 1), .ref (aM 2), .ref (aM 3), .int Mdeeds, .int Mpeople, .ref (aM 4), .ref (aM 5), .ref (aM 6), .ref (aM 7), .ref (aM 8), .int Mat, .int MreadDeeds, .int MreadMany, .ref (aM 9), .ref (aM 10), .ref (aM 11), .int Mpairs, .ref (aM 12), .ref (aM 13), .int Mcaught, .int Mreadings, .ref (aM 14), .ref (aM 15)])), ((aM 4), .inl (cyI, 6, .inl M_weightOf)), ((aM 5), .inl (cyI, 4, .inl M_kind)), ((aM 6), .inl (cyI, 4, .inl M_done))]) [3, 0, 1, 2] rfl
      have hD := hD.sub (ws' := [((aM 0), .inr (4, [.int Mfault, .int Mtrace, .ref (aM 1), .ref (aM 2), .ref (aM 3), .int Mdeeds, .int Mpeople, .ref (aM 4), .ref (aM 5), .ref (aM 6), .ref (aM 7), .ref (aM 8), .int Mat, .int MreadDeeds, .int MreadMany, .ref (aM 9), .ref (aM 10), .ref (aM 11), .int Mpairs, .ref (aM 12), .ref (aM 13), .int Mcaught, .int Mreadings, .ref (aM 14), .ref (aM 15)])), ((aM 4), .inl (cyI, 6, .inl M_weightOf)), ((aM 5), .inl (cyI, 4, .inl M_kind)), ((aM 6), .inl (cyI, 4, .inl M_done))]) [3, 0, 1, 2] (by decide) rfl
      exact hret () H locs _ ls hP hD hS dX4_odds_24
    · replace h := it_f c4 h
      refine lv_iload_n hx hb dX4_odds_12 rfl (lv_at hl 3 rfl) ?_
      refine lv_iconst (v := 0) hx hb dX4_odds_13 (by decide) ?_
      refine lv_iconst (v := 1) hx hb dX4_odds_14 (by decide) ?_
      obtain ⟨o5, hc6, h⟩ := ob h
      refine k_si (As := [.int p3, .int 0, .int 1]) (rest := []) ⟨hx, hb, hml, hown, hts⟩ (c_X4_within l dC dI cyI cyO H.size p3 0 1 hc6) (va_cwS 3 hts gX4_odds_X4_within rfl rfl rfl (by decide +kernel) ⟨Nat.le_of_ble_eq_true rfl, Nat.le_of_ble_eq_true rfl⟩) hP hD hK hS hA [] [0, 1, 2, 3] rfl rfl (by decide) (by decide) (by decide) rfl hl.1 rfl (Nat.le_of_ble_eq_true rfl) dX4_odds_15 ⟨Nat.zero_le _, Nat.zero_le _⟩ (fun _ H locs hP hD hS => ?_)
      have hP : va_P (dC, dI) vwCl [((aM 4), .inl (cyI, 6, .inl M_weightOf)), ((aM 5), .inl (cyI, 4, .inl M_kind)), ((aM 6), .inl (cyI, 4, .inl M_done)), ((aM 0), .inr (4, [.int Mfault, .int Mtrace, .ref (aM 1), .ref (aM 2), .ref (aM 3), .int Mdeeds, .int Mpeople, .ref (aM 4), .ref (aM 5), .ref (aM 6), .ref (aM 7), .ref (aM 8), .int Mat, .int MreadDeeds, .int MreadMany, .ref (aM 9), .ref (aM 10), .ref (aM 11), .int Mpairs, .ref (aM 12), .ref (aM 13), .int Mcaught, .int Mreadings, .ref (aM 14), .ref (aM 15)]))] H := hP
      have hD : va_D A [((aM 4), .inl (cyI, 6, .inl M_weightOf)), ((aM 5), .inl (cyI, 4, .inl M_kind)), ((aM 6), .inl (cyI, 4, .inl M_done)), ((aM 0), .inr (4, [.int Mfault, .int Mtrace, .ref (aM 1), .ref (aM 2), .ref (aM 3), .int Mdeeds, .int Mpeople, .ref (aM 4), .ref (aM 5), .ref (aM 6), .ref (aM 7), .ref (aM 8), .int Mat, .int MreadDeeds, .int MreadMany, .ref (aM 9), .ref (aM 10), .ref (aM 11), .int Mpairs, .ref (aM 12), .ref (aM 13), .int Mcaught, .int Mreadings, .ref (aM 14), .ref (aM 15)]))] := hD
      refine lv_if_ne (tgt := 25) hx hb dX4_odds_18 (by decide) (fun c7 => ?_) (fun c7 => ?_)
      · replace h := it_f c7 h
        refine lv_iconst (v := 0) hx hb dX4_odds_25 (by decide) ?_
        refine lv_istore (lv' := [(4, .int 0), (0, .ref (aM 0)), (1, .int p1), (2, .int p2), (3, .int p3)]) hx hb dX4_odds_26 hl (by decide) rfl (fun ls hl => ?_)
        refine lv_iconst (v := 0) hx hb dX4_odds_28 (by decide) ?_
        refine lv_istore (lv' := [(5, .int 0), (4, .int 0), (0, .ref (aM 0)), (1, .int p1), (2, .int p2), (3, .int p3)]) hx hb dX4_odds_29 hl (by decide) rfl (fun ls hl => ?_)
        have hP := hP.sub (ws' := [((aM 0), .inr (4, [.int Mfault, .int Mtrace, .ref (aM 1), .ref (aM 2), .ref (aM 3), .int Mdeeds, .int Mpeople, .ref (aM 4), .ref (aM 5), .ref (aM 6), .ref (aM 7), .ref (aM 8), .int Mat, .int MreadDeeds, .int MreadMany, .ref (aM 9), .ref (aM 10), .ref (aM 11), .int Mpairs, .ref (aM 12), .ref (aM 13), .int Mcaught, .int Mreadings, .ref (aM 14), .ref (aM 15)])), ((aM 4), .inl (cyI, 6, .inl M_weightOf)), ((aM 5), .inl (cyI, 4, .inl M_kind)), ((aM 6), .inl (cyI, 4, .inl M_done))]) [3, 0, 1, 2] rfl
        have hD := hD.sub (ws' := [((aM 0), .inr (4, [.int Mfault, .int Mtrace, .ref (aM 1), .ref (aM 2), .ref (aM 3), .int Mdeeds, .int Mpeople, .ref (aM 4), .ref (aM 5), .ref (aM 6), .ref (aM 7), .ref (aM 8), .int Mat, .int MreadDeeds, .int MreadMany, .ref (aM 9), .ref (aM 10), .ref (aM 11), .int Mpairs, .ref (aM 12), .ref (aM 13), .int Mcaught, .int Mreadings, .ref (aM 14), .ref (aM 15)])), ((aM 4), .inl (cyI, 6, .inl M_weightOf)), ((aM 5), .inl (cyI, 4, .inl M_kind)), ((aM 6), .inl (cyI, 4, .inl M_done))]) [3, 0, 1, 2] (by decide) rfl
        exact lp31 99 0 0 H locs ls h hP hD hS (lv_sub hl [2, 3, 4, 5, 1, 0] rfl)
      · replace h := it_t c7 h
        refine lv_ldc2 hx hb hown hL59 dX4_odds_21 ?_
        replace h := Option.some.inj h; subst h
        have hP := hP.sub (ws' := [((aM 0), .inr (4, [.int Mfault, .int Mtrace, .ref (aM 1), .ref (aM 2), .ref (aM 3), .int Mdeeds, .int Mpeople, .ref (aM 4), .ref (aM 5), .ref (aM 6), .ref (aM 7), .ref (aM 8), .int Mat, .int MreadDeeds, .int MreadMany, .ref (aM 9), .ref (aM 10), .ref (aM 11), .int Mpairs, .ref (aM 12), .ref (aM 13), .int Mcaught, .int Mreadings, .ref (aM 14), .ref (aM 15)])), ((aM 4), .inl (cyI, 6, .inl M_weightOf)), ((aM 5), .inl (cyI, 4, .inl M_kind)), ((aM 6), .inl (cyI, 4, .inl M_done))]) [3, 0, 1, 2] rfl
        have hD := hD.sub (ws' := [((aM 0), .inr (4, [.int Mfault, .int Mtrace, .ref (aM 1), .ref (aM 2), .ref (aM 3), .int Mdeeds, .int Mpeople, .ref (aM 4), .ref (aM 5), .ref (aM 6), .ref (aM 7), .ref (aM 8), .int Mat, .int MreadDeeds, .int MreadMany, .ref (aM 9), .ref (aM 10), .ref (aM 11), .int Mpairs, .ref (aM 12), .ref (aM 13), .int Mcaught, .int Mreadings, .ref (aM 14), .ref (aM 15)])), ((aM 4), .inl (cyI, 6, .inl M_weightOf)), ((aM 5), .inl (cyI, 4, .inl M_kind)), ((aM 6), .inl (cyI, 4, .inl M_done))]) [3, 0, 1, 2] (by decide) rfl
        exact hret () H locs _ ls hP hD hS dX4_odds_24
set_option maxHeartbeats 4000000 in
set_option maxRecDepth 100000 in
theorem c_X4_sheet (l : Launch) (dC : Nat → ClassId) (dI : Nat → Nat → Nat) (cyI cyO : ClassId) (aM : Nat → Nat) (sz : Nat) (Mfault : Int32) (Mtrace : Int32) (Mdeeds : Int32) (Mpeople : Int32) (Mat : Int32) (MreadDeeds : Int32) (MreadMany : Int32) (Mpairs : Int32) (Mcaught : Int32) (Mreadings : Int32) (M_sorts : Nat → Int32) (M_sheetLong : Nat → Int32) (M_cells : Nat → Int32) (p1 : Int32) (p2 : Int32) (p3 : Int32) {o : Int32 × Int32 × (Nat → Int32) × (Nat → Int32) × (Nat → Int32)}  (h : f_X4_sheet Mfault M_sorts M_sheetLong M_cells p1 p2 p3 = some o) : CtI l yX4_sheet wsX4_sheet { frames := 2, cells := 0, slots := 0, locals := 42 } (dC, dI) [(cyI, .int), (cyO, .object RX0)] [.ref (aM 0), .int p1, .int p2, .int p3] sz [((aM 0), .inr (4, [.int Mfault, .int Mtrace, .ref (aM 1), .ref (aM 2), .ref (aM 3), .int Mdeeds, .int Mpeople, .ref (aM 4), .ref (aM 5), .ref (aM 6), .ref (aM 7), .ref (aM 8), .int Mat, .int MreadDeeds, .int MreadMany, .ref (aM 9), .ref (aM 10), .ref (aM 11), .int Mpairs, .ref (aM 12), .ref (aM 13), .int Mcaught, .int Mreadings, .ref (aM 14), .ref (aM 15)])), ((aM 1), .inl (cyI, 4, .inl M_sorts)), ((aM 2), .inl (cyI, 4, .inl M_sheetLong)), ((aM 3), .inl (cyI, 240, .inl M_cells))] (fun (_ : Unit) => [((aM 0), .inr (4, [.int o.2.1, .int Mtrace, .ref (aM 1), .ref (aM 2), .ref (aM 3), .int Mdeeds, .int Mpeople, .ref (aM 4), .ref (aM 5), .ref (aM 6), .ref (aM 7), .ref (aM 8), .int Mat, .int MreadDeeds, .int MreadMany, .ref (aM 9), .ref (aM 10), .ref (aM 11), .int Mpairs, .ref (aM 12), .ref (aM 13), .int Mcaught, .int Mreadings, .ref (aM 14), .ref (aM 15)])), ((aM 1), .inl (cyI, 4, .inl o.2.2.1)), ((aM 2), .inl (cyI, 4, .inl o.2.2.2.1)), ((aM 3), .inl (cyI, 240, .inl o.2.2.2.2))]) o.1 := by
  refine CtI.of (cc := cX4_sheet) (maxL := 5) (by decide) rfl (Nat.le_of_ble_eq_true rfl) ?_
  intro p e s m args below meth c A Q H locs hx hb hml hown hts hA hK hP hD hS hret ls hl
  have hown : s.vm.findClass RX4 = some m.cls := hown
  have hl : lv_has ls 5 [(0, .ref (aM 0)), (1, .int p1), (2, .int p2), (3, .int p3)] := hl
  unfold f_X4_sheet at h
  have hiX4 : ∀ w ∈ u_ws RX4 TX4 25, w ∈ wsX4_sheet := by decide +kernel
  have hf9 := hts (.fieldLink RX4 9 "TowerTellModel" "sorts" "[I") (by decide +kernel)
  have hf13 := hts (.fieldLink RX4 13 "TowerTellModel" "sheetLong" "[I") (by decide +kernel)
  have hf16 := hts (.fieldLink RX4 16 "TowerTellModel" "cells" "[I") (by decide +kernel)
  have hf55 := hts (.fieldLink RX4 55 "TowerTellModel" "fault" "I") (by decide +kernel)
  have lp57 : ∀ (n : Nat) (x4 : Int32) (yMfault : Int32) (yM_sorts : Nat → Int32) (yM_sheetLong : Nat → Int32) (yM_cells : Nat → Int32) (H : Heap) (locs : List Loc) (ls : Array Slot), l_X4_sheet_57 p1 p2 p3 n (x4, yMfault, yM_sorts, yM_sheetLong, yM_cells) = some o → va_P (dC, dI) vwCl [((aM 0), .inr (4, [.int yMfault, .int Mtrace, .ref (aM 1), .ref (aM 2), .ref (aM 3), .int Mdeeds, .int Mpeople, .ref (aM 4), .ref (aM 5), .ref (aM 6), .ref (aM 7), .ref (aM 8), .int Mat, .int MreadDeeds, .int MreadMany, .ref (aM 9), .ref (aM 10), .ref (aM 11), .int Mpairs, .ref (aM 12), .ref (aM 13), .int Mcaught, .int Mreadings, .ref (aM 14), .ref (aM 15)])), ((aM 1), .inl (cyI, 4, .inl yM_sorts)), ((aM 2), .inl (cyI, 4, .inl yM_sheetLong)), ((aM 3), .inl (cyI, 240, .inl yM_cells))] H → va_D A [((aM 0), .inr (4, [.int yMfault, .int Mtrace, .ref (aM 1), .ref (aM 2), .ref (aM 3), .int Mdeeds, .int Mpeople, .ref (aM 4), .ref (aM 5), .ref (aM 6), .ref (aM 7), .ref (aM 8), .int Mat, .int MreadDeeds, .int MreadMany, .ref (aM 9), .ref (aM 10), .ref (aM 11), .int Mpairs, .ref (aM 12), .ref (aM 13), .int Mcaught, .int Mreadings, .ref (aM 14), .ref (aM 15)])), ((aM 1), .inl (cyI, 4, .inl yM_sorts)), ((aM 2), .inl (cyI, 4, .inl yM_sheetLong)), ((aM 3), .inl (cyI, 240, .inl yM_cells))] → va_S A s.heap H locs → lv_has ls 5 [(0, .ref (aM 0)), (1, .int p1), (4, .int x4)] → W p l e { frames := 2, cells := 0, slots := 0, locals := 42 } s m args below meth c H locs 0 0 Q (F0 m 57 ls []) := by
    intro n
    induction n with
    | zero => intro _ _ _ _ _ H locs ls h _ _ _ _; exact (lpF_0 h).elim
    | succ n ih =>
      intro x4 yMfault yM_sorts yM_sheetLong yM_cells H locs ls h hP hD hS hl
      replace h : b_X4_sheet_57 p1 p2 p3 (l_X4_sheet_57 p1 p2 p3 n) x4 yMfault yM_sorts yM_sheetLong yM_cells = some o := h
      unfold b_X4_sheet_57 at h
      refine lv_iload hx hb dX4_sheet_57 (lv_at hl 2 rfl) ?_
      refine lv_bipush (v := 60) hx hb dX4_sheet_59 (by decide) ?_
      refine lv_icmp_ge (tgt := 83) hx hb dX4_sheet_61 (by decide) (fun c11 => ?_) (fun c11 => ?_)
      · replace h := it_t c11 h
        refine lv_iconst (v := 1) hx hb dX4_sheet_83 (by decide) ?_
        replace h := Option.some.inj h; subst h
        exact hret () H locs _ ls hP hD hS dX4_sheet_84 rfl
      · replace h := it_f c11 h
        refine lv_aload_n hx hb dX4_sheet_64 rfl (lv_at hl 0 rfl) ?_
        refine va_get (D := (dC, dI)) (ci := 4) (v := .ref (aM 3)) (C := RX4) (T := TX4) (N := 25) hx hb hts hiX4 hown hK hP 0 rfl rfl 4 (by decide) hf16 (fun _ h9 => h9) rfl dX4_sheet_65 ?_
        refine lv_bipush (v := 60) hx hb dX4_sheet_68 (by decide) ?_
        refine lv_iload_n hx hb dX4_sheet_70 rfl (lv_at hl 1 rfl) ?_
        refine lv_imul hx hb dX4_sheet_71 ?_
        refine lv_iload hx hb dX4_sheet_72 (lv_at hl 2 rfl) ?_
        refine lv_iadd hx hb dX4_sheet_74 ?_
        refine lv_iconst (v := 0) hx hb dX4_sheet_75 (by decide) ?_
        obtain ⟨e12, h⟩ := it_n h
        refine va_iast hx hb hK hP hD hS 3 0 rfl rfl (ix_in e12) dX4_sheet_76 (fun H locs hP hD hS => ?_)
        have hP : va_P (dC, dI) vwCl [((aM 0), .inr (4, [.int yMfault, .int Mtrace, .ref (aM 1), .ref (aM 2), .ref (aM 3), .int Mdeeds, .int Mpeople, .ref (aM 4), .ref (aM 5), .ref (aM 6), .ref (aM 7), .ref (aM 8), .int Mat, .int MreadDeeds, .int MreadMany, .ref (aM 9), .ref (aM 10), .ref (aM 11), .int Mpairs, .ref (aM 12), .ref (aM 13), .int Mcaught, .int Mreadings, .ref (aM 14), .ref (aM 15)])), ((aM 1), .inl (cyI, 4, .inl yM_sorts)), ((aM 2), .inl (cyI, 4, .inl yM_sheetLong)), ((aM 3), .inl (cyI, 240, .inl (upd yM_cells ((60 * p1) + x4).toNatClampNeg 0)))] H := hP
        have hD : va_D A [((aM 0), .inr (4, [.int yMfault, .int Mtrace, .ref (aM 1), .ref (aM 2), .ref (aM 3), .int Mdeeds, .int Mpeople, .ref (aM 4), .ref (aM 5), .ref (aM 6), .ref (aM 7), .ref (aM 8), .int Mat, .int MreadDeeds, .int MreadMany, .ref (aM 9), .ref (aM 10), .ref (aM 11), .int Mpairs, .ref (aM 12), .ref (aM 13), .int Mcaught, .int Mreadings, .ref (aM 14), .ref (aM 15)])), ((aM 1), .inl (cyI, 4, .inl yM_sorts)), ((aM 2), .inl (cyI, 4, .inl yM_sheetLong)), ((aM 3), .inl (cyI, 240, .inl (upd yM_cells ((60 * p1) + x4).toNatClampNeg 0)))] := hD
        refine lv_iinc (v := (x4 + 1)) (lv' := [(4, .int (x4 + 1)), (0, .ref (aM 0)), (1, .int p1)]) hx hb dX4_sheet_77 hl (k := 2) rfl rfl (by decide) rfl (fun ls hl => ?_)
        refine lv_goto (tgt := 57) hx hb dX4_sheet_80 (by decide) ?_
        exact ih (x4 + 1) yMfault yM_sorts yM_sheetLong (upd yM_cells ((60 * p1) + x4).toNatClampNeg 0) H locs ls h hP hD hS (lv_sub hl [1, 2, 0] rfl)
  refine lv_aload_n hx hb dX4_sheet_0 rfl (lv_at hl 0 rfl) ?_
  refine lv_iconst (v := 0) hx hb dX4_sheet_1 (by decide) ?_
  refine va_put (D := (dC, dI)) (ci := 4) (v := .int 0) (ty := .int) (C := RX4) (T := TX4) (N := 25) hx hb hts hiX4 tyX4 tyX4_ok nmX4 hown hK hP hD hS 0 rfl rfl 0 (by decide) hf55 (fun _ h9 => h9) rfl (tyX4_ok 0 (by decide)) rfl rfl (Nat.le_of_ble_eq_true rfl) dX4_sheet_2 (fun H locs hP hD hS => ?_)
  have hP : va_P (dC, dI) vwCl [((aM 0), .inr (4, [.int 0, .int Mtrace, .ref (aM 1), .ref (aM 2), .ref (aM 3), .int Mdeeds, .int Mpeople, .ref (aM 4), .ref (aM 5), .ref (aM 6), .ref (aM 7), .ref (aM 8), .int Mat, .int MreadDeeds, .int MreadMany, .ref (aM 9), .ref (aM 10), .ref (aM 11), .int Mpairs, .ref (aM 12), .ref (aM 13), .int Mcaught, .int Mreadings, .ref (aM 14), .ref (aM 15)])), ((aM 1), .inl (cyI, 4, .inl M_sorts)), ((aM 2), .inl (cyI, 4, .inl M_sheetLong)), ((aM 3), .inl (cyI, 240, .inl M_cells))] H := hP
  have hD : va_D A [((aM 0), .inr (4, [.int 0, .int Mtrace, .ref (aM 1), .ref (aM 2), .ref (aM 3), .int Mdeeds, .int Mpeople, .ref (aM 4), .ref (aM 5), .ref (aM 6), .ref (aM 7), .ref (aM 8), .int Mat, .int MreadDeeds, .int MreadMany, .ref (aM 9), .ref (aM 10), .ref (aM 11), .int Mpairs, .ref (aM 12), .ref (aM 13), .int Mcaught, .int Mreadings, .ref (aM 14), .ref (aM 15)])), ((aM 1), .inl (cyI, 4, .inl M_sorts)), ((aM 2), .inl (cyI, 4, .inl M_sheetLong)), ((aM 3), .inl (cyI, 240, .inl M_cells))] := hD
  refine lv_iload_n hx hb dX4_sheet_5 rfl (lv_at hl 1 rfl) ?_
  obtain ⟨o1, hc2, h⟩ := ob h
  refine k_si (As := [.int p1]) (rest := []) ⟨hx, hb, hml, hown, hts⟩ (c_X4_isSheet l dC dI cyI cyO H.size p1 hc2) (va_cwS 1 hts gX4_sheet_X4_isSheet rfl rfl rfl (by decide +kernel) ⟨Nat.le_of_ble_eq_true rfl, Nat.le_of_ble_eq_true rfl⟩) hP hD hK hS hA [] [0, 1, 2, 3] rfl rfl (by decide) (by decide) (by decide) rfl hl.1 rfl (Nat.le_of_ble_eq_true rfl) dX4_sheet_6 ⟨Nat.zero_le _, Nat.zero_le _⟩ (fun _ H locs hP hD hS => ?_)
  have hP : va_P (dC, dI) vwCl [((aM 0), .inr (4, [.int 0, .int Mtrace, .ref (aM 1), .ref (aM 2), .ref (aM 3), .int Mdeeds, .int Mpeople, .ref (aM 4), .ref (aM 5), .ref (aM 6), .ref (aM 7), .ref (aM 8), .int Mat, .int MreadDeeds, .int MreadMany, .ref (aM 9), .ref (aM 10), .ref (aM 11), .int Mpairs, .ref (aM 12), .ref (aM 13), .int Mcaught, .int Mreadings, .ref (aM 14), .ref (aM 15)])), ((aM 1), .inl (cyI, 4, .inl M_sorts)), ((aM 2), .inl (cyI, 4, .inl M_sheetLong)), ((aM 3), .inl (cyI, 240, .inl M_cells))] H := hP
  have hD : va_D A [((aM 0), .inr (4, [.int 0, .int Mtrace, .ref (aM 1), .ref (aM 2), .ref (aM 3), .int Mdeeds, .int Mpeople, .ref (aM 4), .ref (aM 5), .ref (aM 6), .ref (aM 7), .ref (aM 8), .int Mat, .int MreadDeeds, .int MreadMany, .ref (aM 9), .ref (aM 10), .ref (aM 11), .int Mpairs, .ref (aM 12), .ref (aM 13), .int Mcaught, .int Mreadings, .ref (aM 14), .ref (aM 15)])), ((aM 1), .inl (cyI, 4, .inl M_sorts)), ((aM 2), .inl (cyI, 4, .inl M_sheetLong)), ((aM 3), .inl (cyI, 240, .inl M_cells))] := hD
  refine lv_if_ne (tgt := 14) hx hb dX4_sheet_9 (by decide) (fun c3 => ?_) (fun c3 => ?_)
  · replace h := it_f c3 h
    refine lv_iload_n hx hb dX4_sheet_14 rfl (lv_at hl 2 rfl) ?_
    obtain ⟨o4, hc5, h⟩ := ob h
    refine k_si (As := [.int p2]) (rest := []) ⟨hx, hb, hml, hown, hts⟩ (c_X4_isSort l dC dI cyI cyO H.size p2 hc5) (va_cwS 1 hts gX4_sheet_X4_isSort rfl rfl rfl (by decide +kernel) ⟨Nat.le_of_ble_eq_true rfl, Nat.le_of_ble_eq_true rfl⟩) hP hD hK hS hA [] [0, 1, 2, 3] rfl rfl (by decide) (by decide) (by decide) rfl hl.1 rfl (Nat.le_of_ble_eq_true rfl) dX4_sheet_15 ⟨Nat.zero_le _, Nat.zero_le _⟩ (fun _ H locs hP hD hS => ?_)
    have hP : va_P (dC, dI) vwCl [((aM 0), .inr (4, [.int 0, .int Mtrace, .ref (aM 1), .ref (aM 2), .ref (aM 3), .int Mdeeds, .int Mpeople, .ref (aM 4), .ref (aM 5), .ref (aM 6), .ref (aM 7), .ref (aM 8), .int Mat, .int MreadDeeds, .int MreadMany, .ref (aM 9), .ref (aM 10), .ref (aM 11), .int Mpairs, .ref (aM 12), .ref (aM 13), .int Mcaught, .int Mreadings, .ref (aM 14), .ref (aM 15)])), ((aM 1), .inl (cyI, 4, .inl M_sorts)), ((aM 2), .inl (cyI, 4, .inl M_sheetLong)), ((aM 3), .inl (cyI, 240, .inl M_cells))] H := hP
    have hD : va_D A [((aM 0), .inr (4, [.int 0, .int Mtrace, .ref (aM 1), .ref (aM 2), .ref (aM 3), .int Mdeeds, .int Mpeople, .ref (aM 4), .ref (aM 5), .ref (aM 6), .ref (aM 7), .ref (aM 8), .int Mat, .int MreadDeeds, .int MreadMany, .ref (aM 9), .ref (aM 10), .ref (aM 11), .int Mpairs, .ref (aM 12), .ref (aM 13), .int Mcaught, .int Mreadings, .ref (aM 14), .ref (aM 15)])), ((aM 1), .inl (cyI, 4, .inl M_sorts)), ((aM 2), .inl (cyI, 4, .inl M_sheetLong)), ((aM 3), .inl (cyI, 240, .inl M_cells))] := hD
    refine lv_if_eq (tgt := 27) hx hb dX4_sheet_18 (by decide) (fun c6 => ?_) (fun c6 => ?_)
    · replace h := it_t c6 h
      refine lv_bipush (v := (-2)) hx hb dX4_sheet_27 (by decide) ?_
      replace h := Option.some.inj h; subst h
      exact hret () H locs _ ls hP hD hS dX4_sheet_29 rfl
    · replace h := it_f c6 h
      refine lv_iload_n hx hb dX4_sheet_21 rfl (lv_at hl 3 rfl) ?_
      refine lv_bipush (v := 60) hx hb dX4_sheet_22 (by decide) ?_
      refine lv_icmp_le (tgt := 30) hx hb dX4_sheet_24 (by decide) (fun c7 => ?_) (fun c7 => ?_)
      · replace h := it_t c7 h
        refine lv_iload_n hx hb dX4_sheet_30 rfl (lv_at hl 3 rfl) ?_
        refine lv_if_ge (tgt := 40) hx hb dX4_sheet_31 (by decide) (fun c8 => ?_) (fun c8 => ?_)
        · replace h := it_t c8 h
          refine lv_aload_n hx hb dX4_sheet_40 rfl (lv_at hl 0 rfl) ?_
          refine va_get (D := (dC, dI)) (ci := 4) (v := .ref (aM 1)) (C := RX4) (T := TX4) (N := 25) hx hb hts hiX4 hown hK hP 0 rfl rfl 2 (by decide) hf9 (fun _ h9 => h9) rfl dX4_sheet_41 ?_
          refine lv_iload_n hx hb dX4_sheet_44 rfl (lv_at hl 1 rfl) ?_
          refine lv_iload_n hx hb dX4_sheet_45 rfl (lv_at hl 2 rfl) ?_
          obtain ⟨e9, h⟩ := it_n h
          refine va_iast hx hb hK hP hD hS 1 0 rfl rfl (ix_in e9) dX4_sheet_46 (fun H locs hP hD hS => ?_)
          have hP : va_P (dC, dI) vwCl [((aM 0), .inr (4, [.int 0, .int Mtrace, .ref (aM 1), .ref (aM 2), .ref (aM 3), .int Mdeeds, .int Mpeople, .ref (aM 4), .ref (aM 5), .ref (aM 6), .ref (aM 7), .ref (aM 8), .int Mat, .int MreadDeeds, .int MreadMany, .ref (aM 9), .ref (aM 10), .ref (aM 11), .int Mpairs, .ref (aM 12), .ref (aM 13), .int Mcaught, .int Mreadings, .ref (aM 14), .ref (aM 15)])), ((aM 1), .inl (cyI, 4, .inl (upd M_sorts p1.toNatClampNeg p2))), ((aM 2), .inl (cyI, 4, .inl M_sheetLong)), ((aM 3), .inl (cyI, 240, .inl M_cells))] H := hP
          have hD : va_D A [((aM 0), .inr (4, [.int 0, .int Mtrace, .ref (aM 1), .ref (aM 2), .ref (aM 3), .int Mdeeds, .int Mpeople, .ref (aM 4), .ref (aM 5), .ref (aM 6), .ref (aM 7), .ref (aM 8), .int Mat, .int MreadDeeds, .int MreadMany, .ref (aM 9), .ref (aM 10), .ref (aM 11), .int Mpairs, .ref (aM 12), .ref (aM 13), .int Mcaught, .int Mreadings, .ref (aM 14), .ref (aM 15)])), ((aM 1), .inl (cyI, 4, .inl (upd M_sorts p1.toNatClampNeg p2))), ((aM 2), .inl (cyI, 4, .inl M_sheetLong)), ((aM 3), .inl (cyI, 240, .inl M_cells))] := hD
          refine lv_aload_n hx hb dX4_sheet_47 rfl (lv_at hl 0 rfl) ?_
          refine va_get (D := (dC, dI)) (ci := 4) (v := .ref (aM 2)) (C := RX4) (T := TX4) (N := 25) hx hb hts hiX4 hown hK hP 0 rfl rfl 3 (by decide) hf13 (fun _ h9 => h9) rfl dX4_sheet_48 ?_
          refine lv_iload_n hx hb dX4_sheet_51 rfl (lv_at hl 1 rfl) ?_
          refine lv_iload_n hx hb dX4_sheet_52 rfl (lv_at hl 3 rfl) ?_
          obtain ⟨e10, h⟩ := it_n h
          refine va_iast hx hb hK hP hD hS 2 0 rfl rfl (ix_in e10) dX4_sheet_53 (fun H locs hP hD hS => ?_)
          have hP : va_P (dC, dI) vwCl [((aM 0), .inr (4, [.int 0, .int Mtrace, .ref (aM 1), .ref (aM 2), .ref (aM 3), .int Mdeeds, .int Mpeople, .ref (aM 4), .ref (aM 5), .ref (aM 6), .ref (aM 7), .ref (aM 8), .int Mat, .int MreadDeeds, .int MreadMany, .ref (aM 9), .ref (aM 10), .ref (aM 11), .int Mpairs, .ref (aM 12), .ref (aM 13), .int Mcaught, .int Mreadings, .ref (aM 14), .ref (aM 15)])), ((aM 1), .inl (cyI, 4, .inl (upd M_sorts p1.toNatClampNeg p2))), ((aM 2), .inl (cyI, 4, .inl (upd M_sheetLong p1.toNatClampNeg p3))), ((aM 3), .inl (cyI, 240, .inl M_cells))] H := hP
          have hD : va_D A [((aM 0), .inr (4, [.int 0, .int Mtrace, .ref (aM 1), .ref (aM 2), .ref (aM 3), .int Mdeeds, .int Mpeople, .ref (aM 4), .ref (aM 5), .ref (aM 6), .ref (aM 7), .ref (aM 8), .int Mat, .int MreadDeeds, .int MreadMany, .ref (aM 9), .ref (aM 10), .ref (aM 11), .int Mpairs, .ref (aM 12), .ref (aM 13), .int Mcaught, .int Mreadings, .ref (aM 14), .ref (aM 15)])), ((aM 1), .inl (cyI, 4, .inl (upd M_sorts p1.toNatClampNeg p2))), ((aM 2), .inl (cyI, 4, .inl (upd M_sheetLong p1.toNatClampNeg p3))), ((aM 3), .inl (cyI, 240, .inl M_cells))] := hD
          refine lv_iconst (v := 0) hx hb dX4_sheet_54 (by decide) ?_
          refine lv_istore (lv' := [(4, .int 0), (0, .ref (aM 0)), (1, .int p1), (2, .int p2), (3, .int p3)]) hx hb dX4_sheet_55 hl (by decide) rfl (fun ls hl => ?_)
          exact lp57 99 0 0 (upd M_sorts p1.toNatClampNeg p2) (upd M_sheetLong p1.toNatClampNeg p3) M_cells H locs ls h hP hD hS (lv_sub hl [1, 2, 0] rfl)
        · replace h := it_f c8 h
          refine lv_aload_n hx hb dX4_sheet_34 rfl (lv_at hl 0 rfl) ?_
          refine lv_iconst (v := 4) hx hb dX4_sheet_35 (by decide) ?_
          obtain ⟨o13, hc14, h⟩ := ob h
          refine k_vi (As := [.int 4]) (rest := []) ⟨hx, hb, hml, hown, hts⟩ (c_X4_fails l dC dI cyI cyO aM H.size 0 Mtrace Mdeeds Mpeople Mat MreadDeeds MreadMany Mpairs Mcaught Mreadings 4 hc14) (cwV 1 hts gX4_sheet_X4_fails rfl rfl rfl (by decide +kernel) ⟨Nat.le_of_ble_eq_true rfl, Nat.le_of_ble_eq_true rfl⟩) hP hD hK hS hA [0] [1, 2, 3] rfl rfl (by decide) (by decide) (by decide) 4 0 rfl rfl rfl rfl hl.1 rfl (Nat.le_of_ble_eq_true rfl) dX4_sheet_36 ⟨Nat.zero_le _, Nat.zero_le _⟩ (fun _ H locs hP hD hS => ?_)
          have hP : va_P (dC, dI) vwCl [((aM 1), .inl (cyI, 4, .inl M_sorts)), ((aM 2), .inl (cyI, 4, .inl M_sheetLong)), ((aM 3), .inl (cyI, 240, .inl M_cells)), ((aM 0), .inr (4, [.int o13.2, .int Mtrace, .ref (aM 1), .ref (aM 2), .ref (aM 3), .int Mdeeds, .int Mpeople, .ref (aM 4), .ref (aM 5), .ref (aM 6), .ref (aM 7), .ref (aM 8), .int Mat, .int MreadDeeds, .int MreadMany, .ref (aM 9), .ref (aM 10), .ref (aM 11), .int Mpairs, .ref (aM 12), .ref (aM 13), .int Mcaught, .int Mreadings, .ref (aM 14), .ref (aM 15)]))] H := hP
          have hD : va_D A [((aM 1), .inl (cyI, 4, .inl M_sorts)), ((aM 2), .inl (cyI, 4, .inl M_sheetLong)), ((aM 3), .inl (cyI, 240, .inl M_cells)), ((aM 0), .inr (4, [.int o13.2, .int Mtrace, .ref (aM 1), .ref (aM 2), .ref (aM 3), .int Mdeeds, .int Mpeople, .ref (aM 4), .ref (aM 5), .ref (aM 6), .ref (aM 7), .ref (aM 8), .int Mat, .int MreadDeeds, .int MreadMany, .ref (aM 9), .ref (aM 10), .ref (aM 11), .int Mpairs, .ref (aM 12), .ref (aM 13), .int Mcaught, .int Mreadings, .ref (aM 14), .ref (aM 15)]))] := hD
          replace h := Option.some.inj h; subst h
          have hP := hP.sub (ws' := [((aM 0), .inr (4, [.int o13.2, .int Mtrace, .ref (aM 1), .ref (aM 2), .ref (aM 3), .int Mdeeds, .int Mpeople, .ref (aM 4), .ref (aM 5), .ref (aM 6), .ref (aM 7), .ref (aM 8), .int Mat, .int MreadDeeds, .int MreadMany, .ref (aM 9), .ref (aM 10), .ref (aM 11), .int Mpairs, .ref (aM 12), .ref (aM 13), .int Mcaught, .int Mreadings, .ref (aM 14), .ref (aM 15)])), ((aM 1), .inl (cyI, 4, .inl M_sorts)), ((aM 2), .inl (cyI, 4, .inl M_sheetLong)), ((aM 3), .inl (cyI, 240, .inl M_cells))]) [3, 0, 1, 2] rfl
          have hD := hD.sub (ws' := [((aM 0), .inr (4, [.int o13.2, .int Mtrace, .ref (aM 1), .ref (aM 2), .ref (aM 3), .int Mdeeds, .int Mpeople, .ref (aM 4), .ref (aM 5), .ref (aM 6), .ref (aM 7), .ref (aM 8), .int Mat, .int MreadDeeds, .int MreadMany, .ref (aM 9), .ref (aM 10), .ref (aM 11), .int Mpairs, .ref (aM 12), .ref (aM 13), .int Mcaught, .int Mreadings, .ref (aM 14), .ref (aM 15)])), ((aM 1), .inl (cyI, 4, .inl M_sorts)), ((aM 2), .inl (cyI, 4, .inl M_sheetLong)), ((aM 3), .inl (cyI, 240, .inl M_cells))]) [3, 0, 1, 2] (by decide) rfl
          exact hret () H locs _ ls hP hD hS dX4_sheet_39 rfl
      · replace h := it_f c7 h
        refine lv_bipush (v := (-2)) hx hb dX4_sheet_27 (by decide) ?_
        replace h := Option.some.inj h; subst h
        exact hret () H locs _ ls hP hD hS dX4_sheet_29 rfl
  · replace h := it_t c3 h
    refine lv_iconst (v := (-1)) hx hb dX4_sheet_12 (by decide) ?_
    replace h := Option.some.inj h; subst h
    exact hret () H locs _ ls hP hD hS dX4_sheet_13 rfl
set_option maxHeartbeats 4000000 in
set_option maxRecDepth 100000 in
theorem c_X4_lose (l : Launch) (dC : Nat → ClassId) (dI : Nat → Nat → Nat) (cyI cyO : ClassId) (aM : Nat → Nat) (sz : Nat) (Mfault : Int32) (Mtrace : Int32) (Mdeeds : Int32) (Mpeople : Int32) (Mat : Int32) (MreadDeeds : Int32) (MreadMany : Int32) (Mpairs : Int32) (Mcaught : Int32) (Mreadings : Int32) (M_sorts : Nat → Int32) (p1 : Int32) {o : Int32 × (Nat → Int32)}  (h : f_X4_lose M_sorts p1 = some o) : CtI l yX4_lose wsX4_lose { frames := 2, cells := 0, slots := 0, locals := 42 } (dC, dI) [(cyI, .int), (cyO, .object RX0)] [.ref (aM 0), .int p1] sz [((aM 0), .inr (4, [.int Mfault, .int Mtrace, .ref (aM 1), .ref (aM 2), .ref (aM 3), .int Mdeeds, .int Mpeople, .ref (aM 4), .ref (aM 5), .ref (aM 6), .ref (aM 7), .ref (aM 8), .int Mat, .int MreadDeeds, .int MreadMany, .ref (aM 9), .ref (aM 10), .ref (aM 11), .int Mpairs, .ref (aM 12), .ref (aM 13), .int Mcaught, .int Mreadings, .ref (aM 14), .ref (aM 15)])), ((aM 1), .inl (cyI, 4, .inl M_sorts))] (fun (_ : Unit) => [((aM 0), .inr (4, [.int Mfault, .int Mtrace, .ref (aM 1), .ref (aM 2), .ref (aM 3), .int Mdeeds, .int Mpeople, .ref (aM 4), .ref (aM 5), .ref (aM 6), .ref (aM 7), .ref (aM 8), .int Mat, .int MreadDeeds, .int MreadMany, .ref (aM 9), .ref (aM 10), .ref (aM 11), .int Mpairs, .ref (aM 12), .ref (aM 13), .int Mcaught, .int Mreadings, .ref (aM 14), .ref (aM 15)])), ((aM 1), .inl (cyI, 4, .inl o.2))]) o.1 := by
  refine CtI.of (cc := cX4_lose) (maxL := 3) (by decide) rfl (Nat.le_of_ble_eq_true rfl) ?_
  intro p e s m args below meth c A Q H locs hx hb hml hown hts hA hK hP hD hS hret ls hl
  have hown : s.vm.findClass RX4 = some m.cls := hown
  have hl : lv_has ls 3 [(0, .ref (aM 0)), (1, .int p1)] := hl
  unfold f_X4_lose at h
  have hiX4 : ∀ w ∈ u_ws RX4 TX4 25, w ∈ wsX4_lose := by decide +kernel
  have hf9 := hts (.fieldLink RX4 9 "TowerTellModel" "sorts" "[I") (by decide +kernel)
  refine lv_iload_n hx hb dX4_lose_0 rfl (lv_at hl 1 rfl) ?_
  obtain ⟨o1, hc2, h⟩ := ob h
  refine k_si (As := [.int p1]) (rest := []) ⟨hx, hb, hml, hown, hts⟩ (c_X4_isSheet l dC dI cyI cyO H.size p1 hc2) (va_cwS 1 hts gX4_lose_X4_isSheet rfl rfl rfl (by decide +kernel) ⟨Nat.le_of_ble_eq_true rfl, Nat.le_of_ble_eq_true rfl⟩) hP hD hK hS hA [] [0, 1] rfl rfl (by decide) (by decide) (by decide) rfl hl.1 rfl (Nat.le_of_ble_eq_true rfl) dX4_lose_1 ⟨Nat.zero_le _, Nat.zero_le _⟩ (fun _ H locs hP hD hS => ?_)
  have hP : va_P (dC, dI) vwCl [((aM 0), .inr (4, [.int Mfault, .int Mtrace, .ref (aM 1), .ref (aM 2), .ref (aM 3), .int Mdeeds, .int Mpeople, .ref (aM 4), .ref (aM 5), .ref (aM 6), .ref (aM 7), .ref (aM 8), .int Mat, .int MreadDeeds, .int MreadMany, .ref (aM 9), .ref (aM 10), .ref (aM 11), .int Mpairs, .ref (aM 12), .ref (aM 13), .int Mcaught, .int Mreadings, .ref (aM 14), .ref (aM 15)])), ((aM 1), .inl (cyI, 4, .inl M_sorts))] H := hP
  have hD : va_D A [((aM 0), .inr (4, [.int Mfault, .int Mtrace, .ref (aM 1), .ref (aM 2), .ref (aM 3), .int Mdeeds, .int Mpeople, .ref (aM 4), .ref (aM 5), .ref (aM 6), .ref (aM 7), .ref (aM 8), .int Mat, .int MreadDeeds, .int MreadMany, .ref (aM 9), .ref (aM 10), .ref (aM 11), .int Mpairs, .ref (aM 12), .ref (aM 13), .int Mcaught, .int Mreadings, .ref (aM 14), .ref (aM 15)])), ((aM 1), .inl (cyI, 4, .inl M_sorts))] := hD
  refine lv_if_ne (tgt := 9) hx hb dX4_lose_4 (by decide) (fun c3 => ?_) (fun c3 => ?_)
  · replace h := it_f c3 h
    refine lv_aload_n hx hb dX4_lose_9 rfl (lv_at hl 0 rfl) ?_
    refine va_get (D := (dC, dI)) (ci := 4) (v := .ref (aM 1)) (C := RX4) (T := TX4) (N := 25) hx hb hts hiX4 hown hK hP 0 rfl rfl 2 (by decide) hf9 (fun _ h9 => h9) rfl dX4_lose_10 ?_
    refine lv_iload_n hx hb dX4_lose_13 rfl (lv_at hl 1 rfl) ?_
    obtain ⟨e4, h⟩ := it_n h
    refine va_iald hx hb hK hP 1 0 rfl rfl (ix_in e4) dX4_lose_14 ?_
    refine lv_bipush (v := (-9)) hx hb dX4_lose_15 (by decide) ?_
    refine lv_icmp_ne (tgt := 24) hx hb dX4_lose_17 (by decide) (fun c5 => ?_) (fun c5 => ?_)
    · replace h := it_f c5 h
      refine lv_iconst (v := 1) hx hb dX4_lose_24 (by decide) ?_
      refine lv_istore_n (lv' := [(2, .int 1), (0, .ref (aM 0)), (1, .int p1)]) hx hb dX4_lose_25 rfl hl (by decide) rfl (fun ls hl => ?_)
      refine lv_aload_n hx hb dX4_lose_26 rfl (lv_at hl 1 rfl) ?_
      refine va_get (D := (dC, dI)) (ci := 4) (v := .ref (aM 1)) (C := RX4) (T := TX4) (N := 25) hx hb hts hiX4 hown hK hP 0 rfl rfl 2 (by decide) hf9 (fun _ h9 => h9) rfl dX4_lose_27 ?_
      refine lv_iload_n hx hb dX4_lose_30 rfl (lv_at hl 2 rfl) ?_
      refine lv_bipush (v := (-9)) hx hb dX4_lose_31 (by decide) ?_
      obtain ⟨e6, h⟩ := it_n h
      refine va_iast hx hb hK hP hD hS 1 0 rfl rfl (ix_in e6) dX4_lose_33 (fun H locs hP hD hS => ?_)
      have hP : va_P (dC, dI) vwCl [((aM 0), .inr (4, [.int Mfault, .int Mtrace, .ref (aM 1), .ref (aM 2), .ref (aM 3), .int Mdeeds, .int Mpeople, .ref (aM 4), .ref (aM 5), .ref (aM 6), .ref (aM 7), .ref (aM 8), .int Mat, .int MreadDeeds, .int MreadMany, .ref (aM 9), .ref (aM 10), .ref (aM 11), .int Mpairs, .ref (aM 12), .ref (aM 13), .int Mcaught, .int Mreadings, .ref (aM 14), .ref (aM 15)])), ((aM 1), .inl (cyI, 4, .inl (upd M_sorts p1.toNatClampNeg (-9))))] H := hP
      have hD : va_D A [((aM 0), .inr (4, [.int Mfault, .int Mtrace, .ref (aM 1), .ref (aM 2), .ref (aM 3), .int Mdeeds, .int Mpeople, .ref (aM 4), .ref (aM 5), .ref (aM 6), .ref (aM 7), .ref (aM 8), .int Mat, .int MreadDeeds, .int MreadMany, .ref (aM 9), .ref (aM 10), .ref (aM 11), .int Mpairs, .ref (aM 12), .ref (aM 13), .int Mcaught, .int Mreadings, .ref (aM 14), .ref (aM 15)])), ((aM 1), .inl (cyI, 4, .inl (upd M_sorts p1.toNatClampNeg (-9))))] := hD
      refine lv_iload_n hx hb dX4_lose_34 rfl (lv_at hl 0 rfl) ?_
      replace h := Option.some.inj h; subst h
      exact hret () H locs _ ls hP hD hS dX4_lose_35 rfl
    · replace h := it_t c5 h
      refine lv_iconst (v := 0) hx hb dX4_lose_20 (by decide) ?_
      refine lv_goto (tgt := 25) hx hb dX4_lose_21 (by decide) ?_
      refine lv_istore_n (lv' := [(2, .int 0), (0, .ref (aM 0)), (1, .int p1)]) hx hb dX4_lose_25 rfl hl (by decide) rfl (fun ls hl => ?_)
      refine lv_aload_n hx hb dX4_lose_26 rfl (lv_at hl 1 rfl) ?_
      refine va_get (D := (dC, dI)) (ci := 4) (v := .ref (aM 1)) (C := RX4) (T := TX4) (N := 25) hx hb hts hiX4 hown hK hP 0 rfl rfl 2 (by decide) hf9 (fun _ h9 => h9) rfl dX4_lose_27 ?_
      refine lv_iload_n hx hb dX4_lose_30 rfl (lv_at hl 2 rfl) ?_
      refine lv_bipush (v := (-9)) hx hb dX4_lose_31 (by decide) ?_
      obtain ⟨e7, h⟩ := it_n h
      refine va_iast hx hb hK hP hD hS 1 0 rfl rfl (ix_in e7) dX4_lose_33 (fun H locs hP hD hS => ?_)
      have hP : va_P (dC, dI) vwCl [((aM 0), .inr (4, [.int Mfault, .int Mtrace, .ref (aM 1), .ref (aM 2), .ref (aM 3), .int Mdeeds, .int Mpeople, .ref (aM 4), .ref (aM 5), .ref (aM 6), .ref (aM 7), .ref (aM 8), .int Mat, .int MreadDeeds, .int MreadMany, .ref (aM 9), .ref (aM 10), .ref (aM 11), .int Mpairs, .ref (aM 12), .ref (aM 13), .int Mcaught, .int Mreadings, .ref (aM 14), .ref (aM 15)])), ((aM 1), .inl (cyI, 4, .inl (upd M_sorts p1.toNatClampNeg (-9))))] H := hP
      have hD : va_D A [((aM 0), .inr (4, [.int Mfault, .int Mtrace, .ref (aM 1), .ref (aM 2), .ref (aM 3), .int Mdeeds, .int Mpeople, .ref (aM 4), .ref (aM 5), .ref (aM 6), .ref (aM 7), .ref (aM 8), .int Mat, .int MreadDeeds, .int MreadMany, .ref (aM 9), .ref (aM 10), .ref (aM 11), .int Mpairs, .ref (aM 12), .ref (aM 13), .int Mcaught, .int Mreadings, .ref (aM 14), .ref (aM 15)])), ((aM 1), .inl (cyI, 4, .inl (upd M_sorts p1.toNatClampNeg (-9))))] := hD
      refine lv_iload_n hx hb dX4_lose_34 rfl (lv_at hl 0 rfl) ?_
      replace h := Option.some.inj h; subst h
      exact hret () H locs _ ls hP hD hS dX4_lose_35 rfl
  · replace h := it_t c3 h
    refine lv_iconst (v := (-1)) hx hb dX4_lose_7 (by decide) ?_
    replace h := Option.some.inj h; subst h
    exact hret () H locs _ ls hP hD hS dX4_lose_8 rfl
set_option maxHeartbeats 4000000 in
set_option maxRecDepth 100000 in
theorem c_X4_put (l : Launch) (dC : Nat → ClassId) (dI : Nat → Nat → Nat) (cyI cyO : ClassId) (aM : Nat → Nat) (sz : Nat) (Mfault : Int32) (Mtrace : Int32) (Mdeeds : Int32) (Mpeople : Int32) (Mat : Int32) (MreadDeeds : Int32) (MreadMany : Int32) (Mpairs : Int32) (Mcaught : Int32) (Mreadings : Int32) (M_sorts : Nat → Int32) (M_sheetLong : Nat → Int32) (M_cells : Nat → Int32) (p1 : Int32) (p2 : Int32) (p3 : Int32) {o : Int32 × Int32 × (Nat → Int32)}  (h : f_X4_put Mfault M_sorts M_sheetLong M_cells p1 p2 p3 = some o) : CtI l yX4_put wsX4_put { frames := 2, cells := 0, slots := 0, locals := 42 } (dC, dI) [(cyI, .int), (cyO, .object RX0)] [.ref (aM 0), .int p1, .int p2, .int p3] sz [((aM 0), .inr (4, [.int Mfault, .int Mtrace, .ref (aM 1), .ref (aM 2), .ref (aM 3), .int Mdeeds, .int Mpeople, .ref (aM 4), .ref (aM 5), .ref (aM 6), .ref (aM 7), .ref (aM 8), .int Mat, .int MreadDeeds, .int MreadMany, .ref (aM 9), .ref (aM 10), .ref (aM 11), .int Mpairs, .ref (aM 12), .ref (aM 13), .int Mcaught, .int Mreadings, .ref (aM 14), .ref (aM 15)])), ((aM 1), .inl (cyI, 4, .inl M_sorts)), ((aM 2), .inl (cyI, 4, .inl M_sheetLong)), ((aM 3), .inl (cyI, 240, .inl M_cells))] (fun (_ : Unit) => [((aM 0), .inr (4, [.int o.2.1, .int Mtrace, .ref (aM 1), .ref (aM 2), .ref (aM 3), .int Mdeeds, .int Mpeople, .ref (aM 4), .ref (aM 5), .ref (aM 6), .ref (aM 7), .ref (aM 8), .int Mat, .int MreadDeeds, .int MreadMany, .ref (aM 9), .ref (aM 10), .ref (aM 11), .int Mpairs, .ref (aM 12), .ref (aM 13), .int Mcaught, .int Mreadings, .ref (aM 14), .ref (aM 15)])), ((aM 1), .inl (cyI, 4, .inl M_sorts)), ((aM 2), .inl (cyI, 4, .inl M_sheetLong)), ((aM 3), .inl (cyI, 240, .inl o.2.2))]) o.1 := by
  refine CtI.of (cc := cX4_put) (maxL := 4) (by decide) rfl (Nat.le_of_ble_eq_true rfl) ?_
  intro p e s m args below meth c A Q H locs hx hb hml hown hts hA hK hP hD hS hret ls hl
  have hown : s.vm.findClass RX4 = some m.cls := hown
  have hl : lv_has ls 4 [(0, .ref (aM 0)), (1, .int p1), (2, .int p2), (3, .int p3)] := hl
  unfold f_X4_put at h
  have hiX4 : ∀ w ∈ u_ws RX4 TX4 25, w ∈ wsX4_put := by decide +kernel
  have hf9 := hts (.fieldLink RX4 9 "TowerTellModel" "sorts" "[I") (by decide +kernel)
  have hf13 := hts (.fieldLink RX4 13 "TowerTellModel" "sheetLong" "[I") (by decide +kernel)
  have hf16 := hts (.fieldLink RX4 16 "TowerTellModel" "cells" "[I") (by decide +kernel)
  have hf55 := hts (.fieldLink RX4 55 "TowerTellModel" "fault" "I") (by decide +kernel)
  refine lv_aload_n hx hb dX4_put_0 rfl (lv_at hl 0 rfl) ?_
  refine lv_iconst (v := 0) hx hb dX4_put_1 (by decide) ?_
  refine va_put (D := (dC, dI)) (ci := 4) (v := .int 0) (ty := .int) (C := RX4) (T := TX4) (N := 25) hx hb hts hiX4 tyX4 tyX4_ok nmX4 hown hK hP hD hS 0 rfl rfl 0 (by decide) hf55 (fun _ h9 => h9) rfl (tyX4_ok 0 (by decide)) rfl rfl (Nat.le_of_ble_eq_true rfl) dX4_put_2 (fun H locs hP hD hS => ?_)
  have hP : va_P (dC, dI) vwCl [((aM 0), .inr (4, [.int 0, .int Mtrace, .ref (aM 1), .ref (aM 2), .ref (aM 3), .int Mdeeds, .int Mpeople, .ref (aM 4), .ref (aM 5), .ref (aM 6), .ref (aM 7), .ref (aM 8), .int Mat, .int MreadDeeds, .int MreadMany, .ref (aM 9), .ref (aM 10), .ref (aM 11), .int Mpairs, .ref (aM 12), .ref (aM 13), .int Mcaught, .int Mreadings, .ref (aM 14), .ref (aM 15)])), ((aM 1), .inl (cyI, 4, .inl M_sorts)), ((aM 2), .inl (cyI, 4, .inl M_sheetLong)), ((aM 3), .inl (cyI, 240, .inl M_cells))] H := hP
  have hD : va_D A [((aM 0), .inr (4, [.int 0, .int Mtrace, .ref (aM 1), .ref (aM 2), .ref (aM 3), .int Mdeeds, .int Mpeople, .ref (aM 4), .ref (aM 5), .ref (aM 6), .ref (aM 7), .ref (aM 8), .int Mat, .int MreadDeeds, .int MreadMany, .ref (aM 9), .ref (aM 10), .ref (aM 11), .int Mpairs, .ref (aM 12), .ref (aM 13), .int Mcaught, .int Mreadings, .ref (aM 14), .ref (aM 15)])), ((aM 1), .inl (cyI, 4, .inl M_sorts)), ((aM 2), .inl (cyI, 4, .inl M_sheetLong)), ((aM 3), .inl (cyI, 240, .inl M_cells))] := hD
  refine lv_iload_n hx hb dX4_put_5 rfl (lv_at hl 1 rfl) ?_
  obtain ⟨o1, hc2, h⟩ := ob h
  refine k_si (As := [.int p1]) (rest := []) ⟨hx, hb, hml, hown, hts⟩ (c_X4_isSheet l dC dI cyI cyO H.size p1 hc2) (va_cwS 1 hts gX4_put_X4_isSheet rfl rfl rfl (by decide +kernel) ⟨Nat.le_of_ble_eq_true rfl, Nat.le_of_ble_eq_true rfl⟩) hP hD hK hS hA [] [0, 1, 2, 3] rfl rfl (by decide) (by decide) (by decide) rfl hl.1 rfl (Nat.le_of_ble_eq_true rfl) dX4_put_6 ⟨Nat.zero_le _, Nat.zero_le _⟩ (fun _ H locs hP hD hS => ?_)
  have hP : va_P (dC, dI) vwCl [((aM 0), .inr (4, [.int 0, .int Mtrace, .ref (aM 1), .ref (aM 2), .ref (aM 3), .int Mdeeds, .int Mpeople, .ref (aM 4), .ref (aM 5), .ref (aM 6), .ref (aM 7), .ref (aM 8), .int Mat, .int MreadDeeds, .int MreadMany, .ref (aM 9), .ref (aM 10), .ref (aM 11), .int Mpairs, .ref (aM 12), .ref (aM 13), .int Mcaught, .int Mreadings, .ref (aM 14), .ref (aM 15)])), ((aM 1), .inl (cyI, 4, .inl M_sorts)), ((aM 2), .inl (cyI, 4, .inl M_sheetLong)), ((aM 3), .inl (cyI, 240, .inl M_cells))] H := hP
  have hD : va_D A [((aM 0), .inr (4, [.int 0, .int Mtrace, .ref (aM 1), .ref (aM 2), .ref (aM 3), .int Mdeeds, .int Mpeople, .ref (aM 4), .ref (aM 5), .ref (aM 6), .ref (aM 7), .ref (aM 8), .int Mat, .int MreadDeeds, .int MreadMany, .ref (aM 9), .ref (aM 10), .ref (aM 11), .int Mpairs, .ref (aM 12), .ref (aM 13), .int Mcaught, .int Mreadings, .ref (aM 14), .ref (aM 15)])), ((aM 1), .inl (cyI, 4, .inl M_sorts)), ((aM 2), .inl (cyI, 4, .inl M_sheetLong)), ((aM 3), .inl (cyI, 240, .inl M_cells))] := hD
  refine lv_if_ne (tgt := 14) hx hb dX4_put_9 (by decide) (fun c3 => ?_) (fun c3 => ?_)
  · replace h := it_f c3 h
    refine lv_aload_n hx hb dX4_put_14 rfl (lv_at hl 0 rfl) ?_
    refine va_get (D := (dC, dI)) (ci := 4) (v := .ref (aM 1)) (C := RX4) (T := TX4) (N := 25) hx hb hts hiX4 hown hK hP 0 rfl rfl 2 (by decide) hf9 (fun _ h9 => h9) rfl dX4_put_15 ?_
    refine lv_iload_n hx hb dX4_put_18 rfl (lv_at hl 1 rfl) ?_
    obtain ⟨e4, h⟩ := it_n h
    refine va_iald hx hb hK hP 1 0 rfl rfl (ix_in e4) dX4_put_19 ?_
    refine lv_bipush (v := (-9)) hx hb dX4_put_20 (by decide) ?_
    refine lv_icmp_ne (tgt := 31) hx hb dX4_put_22 (by decide) (fun c5 => ?_) (fun c5 => ?_)
    · replace h := it_f c5 h
      refine lv_iload_n hx hb dX4_put_31 rfl (lv_at hl 2 rfl) ?_
      refine lv_iconst (v := 0) hx hb dX4_put_32 (by decide) ?_
      refine lv_aload_n hx hb dX4_put_33 rfl (lv_at hl 0 rfl) ?_
      refine va_get (D := (dC, dI)) (ci := 4) (v := .ref (aM 2)) (C := RX4) (T := TX4) (N := 25) hx hb hts hiX4 hown hK hP 0 rfl rfl 3 (by decide) hf13 (fun _ h9 => h9) rfl dX4_put_34 ?_
      refine lv_iload_n hx hb dX4_put_37 rfl (lv_at hl 1 rfl) ?_
      obtain ⟨e6, h⟩ := it_n h
      refine va_iald hx hb hK hP 2 0 rfl rfl (ix_in e6) dX4_put_38 ?_
      refine lv_iconst (v := 1) hx hb dX4_put_39 (by decide) ?_
      refine lv_isub hx hb dX4_put_40 ?_
      obtain ⟨o7, hc8, h⟩ := ob h
      refine k_si (As := [.int p2, .int 0, .int ((M_sheetLong p1.toNatClampNeg) - 1)]) (rest := []) ⟨hx, hb, hml, hown, hts⟩ (c_X4_within l dC dI cyI cyO H.size p2 0 ((M_sheetLong p1.toNatClampNeg) - 1) hc8) (va_cwS 3 hts gX4_put_X4_within rfl rfl rfl (by decide +kernel) ⟨Nat.le_of_ble_eq_true rfl, Nat.le_of_ble_eq_true rfl⟩) hP hD hK hS hA [] [0, 1, 2, 3] rfl rfl (by decide) (by decide) (by decide) rfl hl.1 rfl (Nat.le_of_ble_eq_true rfl) dX4_put_41 ⟨Nat.zero_le _, Nat.zero_le _⟩ (fun _ H locs hP hD hS => ?_)
      have hP : va_P (dC, dI) vwCl [((aM 0), .inr (4, [.int 0, .int Mtrace, .ref (aM 1), .ref (aM 2), .ref (aM 3), .int Mdeeds, .int Mpeople, .ref (aM 4), .ref (aM 5), .ref (aM 6), .ref (aM 7), .ref (aM 8), .int Mat, .int MreadDeeds, .int MreadMany, .ref (aM 9), .ref (aM 10), .ref (aM 11), .int Mpairs, .ref (aM 12), .ref (aM 13), .int Mcaught, .int Mreadings, .ref (aM 14), .ref (aM 15)])), ((aM 1), .inl (cyI, 4, .inl M_sorts)), ((aM 2), .inl (cyI, 4, .inl M_sheetLong)), ((aM 3), .inl (cyI, 240, .inl M_cells))] H := hP
      have hD : va_D A [((aM 0), .inr (4, [.int 0, .int Mtrace, .ref (aM 1), .ref (aM 2), .ref (aM 3), .int Mdeeds, .int Mpeople, .ref (aM 4), .ref (aM 5), .ref (aM 6), .ref (aM 7), .ref (aM 8), .int Mat, .int MreadDeeds, .int MreadMany, .ref (aM 9), .ref (aM 10), .ref (aM 11), .int Mpairs, .ref (aM 12), .ref (aM 13), .int Mcaught, .int Mreadings, .ref (aM 14), .ref (aM 15)])), ((aM 1), .inl (cyI, 4, .inl M_sorts)), ((aM 2), .inl (cyI, 4, .inl M_sheetLong)), ((aM 3), .inl (cyI, 240, .inl M_cells))] := hD
      refine lv_if_ne (tgt := 53) hx hb dX4_put_44 (by decide) (fun c9 => ?_) (fun c9 => ?_)
      · replace h := it_f c9 h
        refine lv_aload_n hx hb dX4_put_53 rfl (lv_at hl 0 rfl) ?_
        refine va_get (D := (dC, dI)) (ci := 4) (v := .ref (aM 3)) (C := RX4) (T := TX4) (N := 25) hx hb hts hiX4 hown hK hP 0 rfl rfl 4 (by decide) hf16 (fun _ h9 => h9) rfl dX4_put_54 ?_
        refine lv_bipush (v := 60) hx hb dX4_put_57 (by decide) ?_
        refine lv_iload_n hx hb dX4_put_59 rfl (lv_at hl 1 rfl) ?_
        refine lv_imul hx hb dX4_put_60 ?_
        refine lv_iload_n hx hb dX4_put_61 rfl (lv_at hl 2 rfl) ?_
        refine lv_iadd hx hb dX4_put_62 ?_
        refine lv_aload_n hx hb dX4_put_63 rfl (lv_at hl 0 rfl) ?_
        refine va_get (D := (dC, dI)) (ci := 4) (v := .ref (aM 1)) (C := RX4) (T := TX4) (N := 25) hx hb hts hiX4 hown hK hP 0 rfl rfl 2 (by decide) hf9 (fun _ h9 => h9) rfl dX4_put_64 ?_
        refine lv_iload_n hx hb dX4_put_67 rfl (lv_at hl 1 rfl) ?_
        obtain ⟨e10, h⟩ := it_n h
        refine va_iald hx hb hK hP 1 0 rfl rfl (ix_in e10) dX4_put_68 ?_
        refine lv_if_ne (tgt := 77) hx hb dX4_put_69 (by decide) (fun c11 => ?_) (fun c11 => ?_)
        · replace h := it_f c11 h
          refine lv_aload_n hx hb dX4_put_77 rfl (lv_at hl 0 rfl) ?_
          refine va_get (D := (dC, dI)) (ci := 4) (v := .ref (aM 1)) (C := RX4) (T := TX4) (N := 25) hx hb hts hiX4 hown hK hP 0 rfl rfl 2 (by decide) hf9 (fun _ h9 => h9) rfl dX4_put_78 ?_
          refine lv_iload_n hx hb dX4_put_81 rfl (lv_at hl 1 rfl) ?_
          obtain ⟨e12, h⟩ := it_n h
          refine va_iald hx hb hK hP 1 0 rfl rfl (ix_in e12) dX4_put_82 ?_
          refine lv_iconst (v := 1) hx hb dX4_put_83 (by decide) ?_
          refine lv_icmp_ne (tgt := 92) hx hb dX4_put_84 (by decide) (fun c13 => ?_) (fun c13 => ?_)
          · replace h := it_f c13 h
            refine lv_iload_n hx hb dX4_put_92 rfl (lv_at hl 3 rfl) ?_
            obtain ⟨e14, h⟩ := it_n h
            refine va_iast hx hb hK hP hD hS 3 0 rfl rfl (ix_in e14) dX4_put_93 (fun H locs hP hD hS => ?_)
            have hP : va_P (dC, dI) vwCl [((aM 0), .inr (4, [.int 0, .int Mtrace, .ref (aM 1), .ref (aM 2), .ref (aM 3), .int Mdeeds, .int Mpeople, .ref (aM 4), .ref (aM 5), .ref (aM 6), .ref (aM 7), .ref (aM 8), .int Mat, .int MreadDeeds, .int MreadMany, .ref (aM 9), .ref (aM 10), .ref (aM 11), .int Mpairs, .ref (aM 12), .ref (aM 13), .int Mcaught, .int Mreadings, .ref (aM 14), .ref (aM 15)])), ((aM 1), .inl (cyI, 4, .inl M_sorts)), ((aM 2), .inl (cyI, 4, .inl M_sheetLong)), ((aM 3), .inl (cyI, 240, .inl (upd M_cells ((60 * p1) + p2).toNatClampNeg p3)))] H := hP
            have hD : va_D A [((aM 0), .inr (4, [.int 0, .int Mtrace, .ref (aM 1), .ref (aM 2), .ref (aM 3), .int Mdeeds, .int Mpeople, .ref (aM 4), .ref (aM 5), .ref (aM 6), .ref (aM 7), .ref (aM 8), .int Mat, .int MreadDeeds, .int MreadMany, .ref (aM 9), .ref (aM 10), .ref (aM 11), .int Mpairs, .ref (aM 12), .ref (aM 13), .int Mcaught, .int Mreadings, .ref (aM 14), .ref (aM 15)])), ((aM 1), .inl (cyI, 4, .inl M_sorts)), ((aM 2), .inl (cyI, 4, .inl M_sheetLong)), ((aM 3), .inl (cyI, 240, .inl (upd M_cells ((60 * p1) + p2).toNatClampNeg p3)))] := hD
            refine lv_iconst (v := 1) hx hb dX4_put_94 (by decide) ?_
            replace h := Option.some.inj h; subst h
            exact hret () H locs _ ls hP hD hS dX4_put_95 rfl
          · replace h := it_t c13 h
            refine lv_iload_n hx hb dX4_put_87 rfl (lv_at hl 3 rfl) ?_
            refine lv_i2s (v := p3.toInt16.toInt32) hx hb dX4_put_88 rfl ?_
            refine lv_goto (tgt := 93) hx hb dX4_put_89 (by decide) ?_
            obtain ⟨e15, h⟩ := it_n h
            refine va_iast hx hb hK hP hD hS 3 0 rfl rfl (ix_in e15) dX4_put_93 (fun H locs hP hD hS => ?_)
            have hP : va_P (dC, dI) vwCl [((aM 0), .inr (4, [.int 0, .int Mtrace, .ref (aM 1), .ref (aM 2), .ref (aM 3), .int Mdeeds, .int Mpeople, .ref (aM 4), .ref (aM 5), .ref (aM 6), .ref (aM 7), .ref (aM 8), .int Mat, .int MreadDeeds, .int MreadMany, .ref (aM 9), .ref (aM 10), .ref (aM 11), .int Mpairs, .ref (aM 12), .ref (aM 13), .int Mcaught, .int Mreadings, .ref (aM 14), .ref (aM 15)])), ((aM 1), .inl (cyI, 4, .inl M_sorts)), ((aM 2), .inl (cyI, 4, .inl M_sheetLong)), ((aM 3), .inl (cyI, 240, .inl (upd M_cells ((60 * p1) + p2).toNatClampNeg (p3.toInt16.toInt32))))] H := hP
            have hD : va_D A [((aM 0), .inr (4, [.int 0, .int Mtrace, .ref (aM 1), .ref (aM 2), .ref (aM 3), .int Mdeeds, .int Mpeople, .ref (aM 4), .ref (aM 5), .ref (aM 6), .ref (aM 7), .ref (aM 8), .int Mat, .int MreadDeeds, .int MreadMany, .ref (aM 9), .ref (aM 10), .ref (aM 11), .int Mpairs, .ref (aM 12), .ref (aM 13), .int Mcaught, .int Mreadings, .ref (aM 14), .ref (aM 15)])), ((aM 1), .inl (cyI, 4, .inl M_sorts)), ((aM 2), .inl (cyI, 4, .inl M_sheetLong)), ((aM 3), .inl (cyI, 240, .inl (upd M_cells ((60 * p1) + p2).toNatClampNeg (p3.toInt16.toInt32))))] := hD
            refine lv_iconst (v := 1) hx hb dX4_put_94 (by decide) ?_
            replace h := Option.some.inj h; subst h
            exact hret () H locs _ ls hP hD hS dX4_put_95 rfl
        · replace h := it_t c11 h
          refine lv_iload_n hx hb dX4_put_72 rfl (lv_at hl 3 rfl) ?_
          refine lv_i2b (v := p3.toInt8.toInt32) hx hb dX4_put_73 rfl ?_
          refine lv_goto (tgt := 93) hx hb dX4_put_74 (by decide) ?_
          obtain ⟨e16, h⟩ := it_n h
          refine va_iast hx hb hK hP hD hS 3 0 rfl rfl (ix_in e16) dX4_put_93 (fun H locs hP hD hS => ?_)
          have hP : va_P (dC, dI) vwCl [((aM 0), .inr (4, [.int 0, .int Mtrace, .ref (aM 1), .ref (aM 2), .ref (aM 3), .int Mdeeds, .int Mpeople, .ref (aM 4), .ref (aM 5), .ref (aM 6), .ref (aM 7), .ref (aM 8), .int Mat, .int MreadDeeds, .int MreadMany, .ref (aM 9), .ref (aM 10), .ref (aM 11), .int Mpairs, .ref (aM 12), .ref (aM 13), .int Mcaught, .int Mreadings, .ref (aM 14), .ref (aM 15)])), ((aM 1), .inl (cyI, 4, .inl M_sorts)), ((aM 2), .inl (cyI, 4, .inl M_sheetLong)), ((aM 3), .inl (cyI, 240, .inl (upd M_cells ((60 * p1) + p2).toNatClampNeg (p3.toInt8.toInt32))))] H := hP
          have hD : va_D A [((aM 0), .inr (4, [.int 0, .int Mtrace, .ref (aM 1), .ref (aM 2), .ref (aM 3), .int Mdeeds, .int Mpeople, .ref (aM 4), .ref (aM 5), .ref (aM 6), .ref (aM 7), .ref (aM 8), .int Mat, .int MreadDeeds, .int MreadMany, .ref (aM 9), .ref (aM 10), .ref (aM 11), .int Mpairs, .ref (aM 12), .ref (aM 13), .int Mcaught, .int Mreadings, .ref (aM 14), .ref (aM 15)])), ((aM 1), .inl (cyI, 4, .inl M_sorts)), ((aM 2), .inl (cyI, 4, .inl M_sheetLong)), ((aM 3), .inl (cyI, 240, .inl (upd M_cells ((60 * p1) + p2).toNatClampNeg (p3.toInt8.toInt32))))] := hD
          refine lv_iconst (v := 1) hx hb dX4_put_94 (by decide) ?_
          replace h := Option.some.inj h; subst h
          exact hret () H locs _ ls hP hD hS dX4_put_95 rfl
      · replace h := it_t c9 h
        refine lv_aload_n hx hb dX4_put_47 rfl (lv_at hl 0 rfl) ?_
        refine lv_iconst (v := 3) hx hb dX4_put_48 (by decide) ?_
        obtain ⟨o17, hc18, h⟩ := ob h
        refine k_vi (As := [.int 3]) (rest := []) ⟨hx, hb, hml, hown, hts⟩ (c_X4_fails l dC dI cyI cyO aM H.size 0 Mtrace Mdeeds Mpeople Mat MreadDeeds MreadMany Mpairs Mcaught Mreadings 3 hc18) (cwV 1 hts gX4_put_X4_fails rfl rfl rfl (by decide +kernel) ⟨Nat.le_of_ble_eq_true rfl, Nat.le_of_ble_eq_true rfl⟩) hP hD hK hS hA [0] [1, 2, 3] rfl rfl (by decide) (by decide) (by decide) 4 0 rfl rfl rfl rfl hl.1 rfl (Nat.le_of_ble_eq_true rfl) dX4_put_49 ⟨Nat.zero_le _, Nat.zero_le _⟩ (fun _ H locs hP hD hS => ?_)
        have hP : va_P (dC, dI) vwCl [((aM 1), .inl (cyI, 4, .inl M_sorts)), ((aM 2), .inl (cyI, 4, .inl M_sheetLong)), ((aM 3), .inl (cyI, 240, .inl M_cells)), ((aM 0), .inr (4, [.int o17.2, .int Mtrace, .ref (aM 1), .ref (aM 2), .ref (aM 3), .int Mdeeds, .int Mpeople, .ref (aM 4), .ref (aM 5), .ref (aM 6), .ref (aM 7), .ref (aM 8), .int Mat, .int MreadDeeds, .int MreadMany, .ref (aM 9), .ref (aM 10), .ref (aM 11), .int Mpairs, .ref (aM 12), .ref (aM 13), .int Mcaught, .int Mreadings, .ref (aM 14), .ref (aM 15)]))] H := hP
        have hD : va_D A [((aM 1), .inl (cyI, 4, .inl M_sorts)), ((aM 2), .inl (cyI, 4, .inl M_sheetLong)), ((aM 3), .inl (cyI, 240, .inl M_cells)), ((aM 0), .inr (4, [.int o17.2, .int Mtrace, .ref (aM 1), .ref (aM 2), .ref (aM 3), .int Mdeeds, .int Mpeople, .ref (aM 4), .ref (aM 5), .ref (aM 6), .ref (aM 7), .ref (aM 8), .int Mat, .int MreadDeeds, .int MreadMany, .ref (aM 9), .ref (aM 10), .ref (aM 11), .int Mpairs, .ref (aM 12), .ref (aM 13), .int Mcaught, .int Mreadings, .ref (aM 14), .ref (aM 15)]))] := hD
        replace h := Option.some.inj h; subst h
        have hP := hP.sub (ws' := [((aM 0), .inr (4, [.int o17.2, .int Mtrace, .ref (aM 1), .ref (aM 2), .ref (aM 3), .int Mdeeds, .int Mpeople, .ref (aM 4), .ref (aM 5), .ref (aM 6), .ref (aM 7), .ref (aM 8), .int Mat, .int MreadDeeds, .int MreadMany, .ref (aM 9), .ref (aM 10), .ref (aM 11), .int Mpairs, .ref (aM 12), .ref (aM 13), .int Mcaught, .int Mreadings, .ref (aM 14), .ref (aM 15)])), ((aM 1), .inl (cyI, 4, .inl M_sorts)), ((aM 2), .inl (cyI, 4, .inl M_sheetLong)), ((aM 3), .inl (cyI, 240, .inl M_cells))]) [3, 0, 1, 2] rfl
        have hD := hD.sub (ws' := [((aM 0), .inr (4, [.int o17.2, .int Mtrace, .ref (aM 1), .ref (aM 2), .ref (aM 3), .int Mdeeds, .int Mpeople, .ref (aM 4), .ref (aM 5), .ref (aM 6), .ref (aM 7), .ref (aM 8), .int Mat, .int MreadDeeds, .int MreadMany, .ref (aM 9), .ref (aM 10), .ref (aM 11), .int Mpairs, .ref (aM 12), .ref (aM 13), .int Mcaught, .int Mreadings, .ref (aM 14), .ref (aM 15)])), ((aM 1), .inl (cyI, 4, .inl M_sorts)), ((aM 2), .inl (cyI, 4, .inl M_sheetLong)), ((aM 3), .inl (cyI, 240, .inl M_cells))]) [3, 0, 1, 2] (by decide) rfl
        exact hret () H locs _ ls hP hD hS dX4_put_52 rfl
    · replace h := it_t c5 h
      refine lv_aload_n hx hb dX4_put_25 rfl (lv_at hl 0 rfl) ?_
      refine lv_iconst (v := 1) hx hb dX4_put_26 (by decide) ?_
      obtain ⟨o19, hc20, h⟩ := ob h
      refine k_vi (As := [.int 1]) (rest := []) ⟨hx, hb, hml, hown, hts⟩ (c_X4_fails l dC dI cyI cyO aM H.size 0 Mtrace Mdeeds Mpeople Mat MreadDeeds MreadMany Mpairs Mcaught Mreadings 1 hc20) (cwV 1 hts gX4_put_X4_fails rfl rfl rfl (by decide +kernel) ⟨Nat.le_of_ble_eq_true rfl, Nat.le_of_ble_eq_true rfl⟩) hP hD hK hS hA [0] [1, 2, 3] rfl rfl (by decide) (by decide) (by decide) 4 0 rfl rfl rfl rfl hl.1 rfl (Nat.le_of_ble_eq_true rfl) dX4_put_27 ⟨Nat.zero_le _, Nat.zero_le _⟩ (fun _ H locs hP hD hS => ?_)
      have hP : va_P (dC, dI) vwCl [((aM 1), .inl (cyI, 4, .inl M_sorts)), ((aM 2), .inl (cyI, 4, .inl M_sheetLong)), ((aM 3), .inl (cyI, 240, .inl M_cells)), ((aM 0), .inr (4, [.int o19.2, .int Mtrace, .ref (aM 1), .ref (aM 2), .ref (aM 3), .int Mdeeds, .int Mpeople, .ref (aM 4), .ref (aM 5), .ref (aM 6), .ref (aM 7), .ref (aM 8), .int Mat, .int MreadDeeds, .int MreadMany, .ref (aM 9), .ref (aM 10), .ref (aM 11), .int Mpairs, .ref (aM 12), .ref (aM 13), .int Mcaught, .int Mreadings, .ref (aM 14), .ref (aM 15)]))] H := hP
      have hD : va_D A [((aM 1), .inl (cyI, 4, .inl M_sorts)), ((aM 2), .inl (cyI, 4, .inl M_sheetLong)), ((aM 3), .inl (cyI, 240, .inl M_cells)), ((aM 0), .inr (4, [.int o19.2, .int Mtrace, .ref (aM 1), .ref (aM 2), .ref (aM 3), .int Mdeeds, .int Mpeople, .ref (aM 4), .ref (aM 5), .ref (aM 6), .ref (aM 7), .ref (aM 8), .int Mat, .int MreadDeeds, .int MreadMany, .ref (aM 9), .ref (aM 10), .ref (aM 11), .int Mpairs, .ref (aM 12), .ref (aM 13), .int Mcaught, .int Mreadings, .ref (aM 14), .ref (aM 15)]))] := hD
      replace h := Option.some.inj h; subst h
      have hP := hP.sub (ws' := [((aM 0), .inr (4, [.int o19.2, .int Mtrace, .ref (aM 1), .ref (aM 2), .ref (aM 3), .int Mdeeds, .int Mpeople, .ref (aM 4), .ref (aM 5), .ref (aM 6), .ref (aM 7), .ref (aM 8), .int Mat, .int MreadDeeds, .int MreadMany, .ref (aM 9), .ref (aM 10), .ref (aM 11), .int Mpairs, .ref (aM 12), .ref (aM 13), .int Mcaught, .int Mreadings, .ref (aM 14), .ref (aM 15)])), ((aM 1), .inl (cyI, 4, .inl M_sorts)), ((aM 2), .inl (cyI, 4, .inl M_sheetLong)), ((aM 3), .inl (cyI, 240, .inl M_cells))]) [3, 0, 1, 2] rfl
      have hD := hD.sub (ws' := [((aM 0), .inr (4, [.int o19.2, .int Mtrace, .ref (aM 1), .ref (aM 2), .ref (aM 3), .int Mdeeds, .int Mpeople, .ref (aM 4), .ref (aM 5), .ref (aM 6), .ref (aM 7), .ref (aM 8), .int Mat, .int MreadDeeds, .int MreadMany, .ref (aM 9), .ref (aM 10), .ref (aM 11), .int Mpairs, .ref (aM 12), .ref (aM 13), .int Mcaught, .int Mreadings, .ref (aM 14), .ref (aM 15)])), ((aM 1), .inl (cyI, 4, .inl M_sorts)), ((aM 2), .inl (cyI, 4, .inl M_sheetLong)), ((aM 3), .inl (cyI, 240, .inl M_cells))]) [3, 0, 1, 2] (by decide) rfl
      exact hret () H locs _ ls hP hD hS dX4_put_30 rfl
  · replace h := it_t c3 h
    refine lv_iconst (v := (-1)) hx hb dX4_put_12 (by decide) ?_
    replace h := Option.some.inj h; subst h
    exact hret () H locs _ ls hP hD hS dX4_put_13 rfl
set_option maxHeartbeats 4000000 in
set_option maxRecDepth 100000 in
theorem c_X4_cell (l : Launch) (dC : Nat → ClassId) (dI : Nat → Nat → Nat) (cyI cyO : ClassId) (aM : Nat → Nat) (sz : Nat) (Mfault : Int32) (Mtrace : Int32) (Mdeeds : Int32) (Mpeople : Int32) (Mat : Int32) (MreadDeeds : Int32) (MreadMany : Int32) (Mpairs : Int32) (Mcaught : Int32) (Mreadings : Int32) (M_sorts : Nat → Int32) (M_sheetLong : Nat → Int32) (M_cells : Nat → Int32) (p1 : Int32) (p2 : Int32) (p3 : Int32) {o : Int64 × Int32}  (h : f_X4_cell Mfault M_sorts M_sheetLong M_cells p1 p2 p3 = some o) : CtL l yX4_cell wsX4_cell { frames := 2, cells := 0, slots := 0, locals := 42 } (dC, dI) [(cyI, .int), (cyO, .object RX0)] [.ref (aM 0), .int p1, .int p2, .int p3] sz [((aM 0), .inr (4, [.int Mfault, .int Mtrace, .ref (aM 1), .ref (aM 2), .ref (aM 3), .int Mdeeds, .int Mpeople, .ref (aM 4), .ref (aM 5), .ref (aM 6), .ref (aM 7), .ref (aM 8), .int Mat, .int MreadDeeds, .int MreadMany, .ref (aM 9), .ref (aM 10), .ref (aM 11), .int Mpairs, .ref (aM 12), .ref (aM 13), .int Mcaught, .int Mreadings, .ref (aM 14), .ref (aM 15)])), ((aM 1), .inl (cyI, 4, .inl M_sorts)), ((aM 2), .inl (cyI, 4, .inl M_sheetLong)), ((aM 3), .inl (cyI, 240, .inl M_cells))] (fun (_ : Unit) => [((aM 0), .inr (4, [.int o.2, .int Mtrace, .ref (aM 1), .ref (aM 2), .ref (aM 3), .int Mdeeds, .int Mpeople, .ref (aM 4), .ref (aM 5), .ref (aM 6), .ref (aM 7), .ref (aM 8), .int Mat, .int MreadDeeds, .int MreadMany, .ref (aM 9), .ref (aM 10), .ref (aM 11), .int Mpairs, .ref (aM 12), .ref (aM 13), .int Mcaught, .int Mreadings, .ref (aM 14), .ref (aM 15)])), ((aM 1), .inl (cyI, 4, .inl M_sorts)), ((aM 2), .inl (cyI, 4, .inl M_sheetLong)), ((aM 3), .inl (cyI, 240, .inl M_cells))]) o.1 := by
  refine CtL.of (cc := cX4_cell) (maxL := 4) (by decide) rfl (Nat.le_of_ble_eq_true rfl) ?_
  intro p e s m args below meth c A Q H locs hx hb hml hown hts hA hK hP hD hS hret ls hl
  have hown : s.vm.findClass RX4 = some m.cls := hown
  have hl : lv_has ls 4 [(0, .ref (aM 0)), (1, .int p1), (2, .int p2), (3, .int p3)] := hl
  unfold f_X4_cell at h
  have hiX4 : ∀ w ∈ u_ws RX4 TX4 25, w ∈ wsX4_cell := by decide +kernel
  have hf9 := hts (.fieldLink RX4 9 "TowerTellModel" "sorts" "[I") (by decide +kernel)
  have hf13 := hts (.fieldLink RX4 13 "TowerTellModel" "sheetLong" "[I") (by decide +kernel)
  have hf16 := hts (.fieldLink RX4 16 "TowerTellModel" "cells" "[I") (by decide +kernel)
  have hf55 := hts (.fieldLink RX4 55 "TowerTellModel" "fault" "I") (by decide +kernel)
  have hL59 := hts (.constantLong RX4 59 (-9223372036854775808)) (by decide +kernel)
  refine lv_aload_n hx hb dX4_cell_0 rfl (lv_at hl 0 rfl) ?_
  refine lv_iconst (v := 0) hx hb dX4_cell_1 (by decide) ?_
  refine va_put (D := (dC, dI)) (ci := 4) (v := .int 0) (ty := .int) (C := RX4) (T := TX4) (N := 25) hx hb hts hiX4 tyX4 tyX4_ok nmX4 hown hK hP hD hS 0 rfl rfl 0 (by decide) hf55 (fun _ h9 => h9) rfl (tyX4_ok 0 (by decide)) rfl rfl (Nat.le_of_ble_eq_true rfl) dX4_cell_2 (fun H locs hP hD hS => ?_)
  have hP : va_P (dC, dI) vwCl [((aM 0), .inr (4, [.int 0, .int Mtrace, .ref (aM 1), .ref (aM 2), .ref (aM 3), .int Mdeeds, .int Mpeople, .ref (aM 4), .ref (aM 5), .ref (aM 6), .ref (aM 7), .ref (aM 8), .int Mat, .int MreadDeeds, .int MreadMany, .ref (aM 9), .ref (aM 10), .ref (aM 11), .int Mpairs, .ref (aM 12), .ref (aM 13), .int Mcaught, .int Mreadings, .ref (aM 14), .ref (aM 15)])), ((aM 1), .inl (cyI, 4, .inl M_sorts)), ((aM 2), .inl (cyI, 4, .inl M_sheetLong)), ((aM 3), .inl (cyI, 240, .inl M_cells))] H := hP
  have hD : va_D A [((aM 0), .inr (4, [.int 0, .int Mtrace, .ref (aM 1), .ref (aM 2), .ref (aM 3), .int Mdeeds, .int Mpeople, .ref (aM 4), .ref (aM 5), .ref (aM 6), .ref (aM 7), .ref (aM 8), .int Mat, .int MreadDeeds, .int MreadMany, .ref (aM 9), .ref (aM 10), .ref (aM 11), .int Mpairs, .ref (aM 12), .ref (aM 13), .int Mcaught, .int Mreadings, .ref (aM 14), .ref (aM 15)])), ((aM 1), .inl (cyI, 4, .inl M_sorts)), ((aM 2), .inl (cyI, 4, .inl M_sheetLong)), ((aM 3), .inl (cyI, 240, .inl M_cells))] := hD
  refine lv_iload_n hx hb dX4_cell_5 rfl (lv_at hl 1 rfl) ?_
  obtain ⟨o1, hc2, h⟩ := ob h
  refine k_si (As := [.int p1]) (rest := []) ⟨hx, hb, hml, hown, hts⟩ (c_X4_isSheet l dC dI cyI cyO H.size p1 hc2) (va_cwS 1 hts gX4_cell_X4_isSheet rfl rfl rfl (by decide +kernel) ⟨Nat.le_of_ble_eq_true rfl, Nat.le_of_ble_eq_true rfl⟩) hP hD hK hS hA [] [0, 1, 2, 3] rfl rfl (by decide) (by decide) (by decide) rfl hl.1 rfl (Nat.le_of_ble_eq_true rfl) dX4_cell_6 ⟨Nat.zero_le _, Nat.zero_le _⟩ (fun _ H locs hP hD hS => ?_)
  have hP : va_P (dC, dI) vwCl [((aM 0), .inr (4, [.int 0, .int Mtrace, .ref (aM 1), .ref (aM 2), .ref (aM 3), .int Mdeeds, .int Mpeople, .ref (aM 4), .ref (aM 5), .ref (aM 6), .ref (aM 7), .ref (aM 8), .int Mat, .int MreadDeeds, .int MreadMany, .ref (aM 9), .ref (aM 10), .ref (aM 11), .int Mpairs, .ref (aM 12), .ref (aM 13), .int Mcaught, .int Mreadings, .ref (aM 14), .ref (aM 15)])), ((aM 1), .inl (cyI, 4, .inl M_sorts)), ((aM 2), .inl (cyI, 4, .inl M_sheetLong)), ((aM 3), .inl (cyI, 240, .inl M_cells))] H := hP
  have hD : va_D A [((aM 0), .inr (4, [.int 0, .int Mtrace, .ref (aM 1), .ref (aM 2), .ref (aM 3), .int Mdeeds, .int Mpeople, .ref (aM 4), .ref (aM 5), .ref (aM 6), .ref (aM 7), .ref (aM 8), .int Mat, .int MreadDeeds, .int MreadMany, .ref (aM 9), .ref (aM 10), .ref (aM 11), .int Mpairs, .ref (aM 12), .ref (aM 13), .int Mcaught, .int Mreadings, .ref (aM 14), .ref (aM 15)])), ((aM 1), .inl (cyI, 4, .inl M_sorts)), ((aM 2), .inl (cyI, 4, .inl M_sheetLong)), ((aM 3), .inl (cyI, 240, .inl M_cells))] := hD
  refine lv_if_eq (tgt := 19) hx hb dX4_cell_9 (by decide) (fun c3 => ?_) (fun c3 => ?_)
  · replace h := it_t c3 h
    refine lv_ldc2 hx hb hown hL59 dX4_cell_19 ?_
    replace h := Option.some.inj h; subst h
    exact hret () H locs _ ls hP hD hS dX4_cell_22
  · replace h := it_f c3 h
    refine lv_iload_n hx hb dX4_cell_12 rfl (lv_at hl 3 rfl) ?_
    obtain ⟨o4, hc5, h⟩ := ob h
    refine k_si (As := [.int p3]) (rest := []) ⟨hx, hb, hml, hown, hts⟩ (c_X4_isSort l dC dI cyI cyO H.size p3 hc5) (va_cwS 1 hts gX4_cell_X4_isSort rfl rfl rfl (by decide +kernel) ⟨Nat.le_of_ble_eq_true rfl, Nat.le_of_ble_eq_true rfl⟩) hP hD hK hS hA [] [0, 1, 2, 3] rfl rfl (by decide) (by decide) (by decide) rfl hl.1 rfl (Nat.le_of_ble_eq_true rfl) dX4_cell_13 ⟨Nat.zero_le _, Nat.zero_le _⟩ (fun _ H locs hP hD hS => ?_)
    have hP : va_P (dC, dI) vwCl [((aM 0), .inr (4, [.int 0, .int Mtrace, .ref (aM 1), .ref (aM 2), .ref (aM 3), .int Mdeeds, .int Mpeople, .ref (aM 4), .ref (aM 5), .ref (aM 6), .ref (aM 7), .ref (aM 8), .int Mat, .int MreadDeeds, .int MreadMany, .ref (aM 9), .ref (aM 10), .ref (aM 11), .int Mpairs, .ref (aM 12), .ref (aM 13), .int Mcaught, .int Mreadings, .ref (aM 14), .ref (aM 15)])), ((aM 1), .inl (cyI, 4, .inl M_sorts)), ((aM 2), .inl (cyI, 4, .inl M_sheetLong)), ((aM 3), .inl (cyI, 240, .inl M_cells))] H := hP
    have hD : va_D A [((aM 0), .inr (4, [.int 0, .int Mtrace, .ref (aM 1), .ref (aM 2), .ref (aM 3), .int Mdeeds, .int Mpeople, .ref (aM 4), .ref (aM 5), .ref (aM 6), .ref (aM 7), .ref (aM 8), .int Mat, .int MreadDeeds, .int MreadMany, .ref (aM 9), .ref (aM 10), .ref (aM 11), .int Mpairs, .ref (aM 12), .ref (aM 13), .int Mcaught, .int Mreadings, .ref (aM 14), .ref (aM 15)])), ((aM 1), .inl (cyI, 4, .inl M_sorts)), ((aM 2), .inl (cyI, 4, .inl M_sheetLong)), ((aM 3), .inl (cyI, 240, .inl M_cells))] := hD
    refine lv_if_ne (tgt := 23) hx hb dX4_cell_16 (by decide) (fun c6 => ?_) (fun c6 => ?_)
    · replace h := it_f c6 h
      refine lv_aload_n hx hb dX4_cell_23 rfl (lv_at hl 0 rfl) ?_
      refine va_get (D := (dC, dI)) (ci := 4) (v := .ref (aM 1)) (C := RX4) (T := TX4) (N := 25) hx hb hts hiX4 hown hK hP 0 rfl rfl 2 (by decide) hf9 (fun _ h9 => h9) rfl dX4_cell_24 ?_
      refine lv_iload_n hx hb dX4_cell_27 rfl (lv_at hl 1 rfl) ?_
      obtain ⟨e7, h⟩ := it_n h
      refine va_iald hx hb hK hP 1 0 rfl rfl (ix_in e7) dX4_cell_28 ?_
      refine lv_bipush (v := (-9)) hx hb dX4_cell_29 (by decide) ?_
      refine lv_icmp_eq (tgt := 50) hx hb dX4_cell_31 (by decide) (fun c8 => ?_) (fun c8 => ?_)
      · replace h := it_t c8 h
        refine lv_aload_n hx hb dX4_cell_50 rfl (lv_at hl 0 rfl) ?_
        refine va_get (D := (dC, dI)) (ci := 4) (v := .ref (aM 1)) (C := RX4) (T := TX4) (N := 25) hx hb hts hiX4 hown hK hP 0 rfl rfl 2 (by decide) hf9 (fun _ h9 => h9) rfl dX4_cell_51 ?_
        refine lv_iload_n hx hb dX4_cell_54 rfl (lv_at hl 1 rfl) ?_
        obtain ⟨e9, h⟩ := it_n h
        refine va_iald hx hb hK hP 1 0 rfl rfl (ix_in e9) dX4_cell_55 ?_
        refine lv_bipush (v := (-9)) hx hb dX4_cell_56 (by decide) ?_
        refine lv_icmp_ne (tgt := 67) hx hb dX4_cell_58 (by decide) (fun c10 => ?_) (fun c10 => ?_)
        · replace h := it_f c10 h
          refine lv_iload_n hx hb dX4_cell_67 rfl (lv_at hl 2 rfl) ?_
          refine lv_iconst (v := 0) hx hb dX4_cell_68 (by decide) ?_
          refine lv_aload_n hx hb dX4_cell_69 rfl (lv_at hl 0 rfl) ?_
          refine va_get (D := (dC, dI)) (ci := 4) (v := .ref (aM 2)) (C := RX4) (T := TX4) (N := 25) hx hb hts hiX4 hown hK hP 0 rfl rfl 3 (by decide) hf13 (fun _ h9 => h9) rfl dX4_cell_70 ?_
          refine lv_iload_n hx hb dX4_cell_73 rfl (lv_at hl 1 rfl) ?_
          obtain ⟨e11, h⟩ := it_n h
          refine va_iald hx hb hK hP 2 0 rfl rfl (ix_in e11) dX4_cell_74 ?_
          refine lv_iconst (v := 1) hx hb dX4_cell_75 (by decide) ?_
          refine lv_isub hx hb dX4_cell_76 ?_
          obtain ⟨o12, hc13, h⟩ := ob h
          refine k_si (As := [.int p2, .int 0, .int ((M_sheetLong p1.toNatClampNeg) - 1)]) (rest := []) ⟨hx, hb, hml, hown, hts⟩ (c_X4_within l dC dI cyI cyO H.size p2 0 ((M_sheetLong p1.toNatClampNeg) - 1) hc13) (va_cwS 3 hts gX4_cell_X4_within rfl rfl rfl (by decide +kernel) ⟨Nat.le_of_ble_eq_true rfl, Nat.le_of_ble_eq_true rfl⟩) hP hD hK hS hA [] [0, 1, 2, 3] rfl rfl (by decide) (by decide) (by decide) rfl hl.1 rfl (Nat.le_of_ble_eq_true rfl) dX4_cell_77 ⟨Nat.zero_le _, Nat.zero_le _⟩ (fun _ H locs hP hD hS => ?_)
          have hP : va_P (dC, dI) vwCl [((aM 0), .inr (4, [.int 0, .int Mtrace, .ref (aM 1), .ref (aM 2), .ref (aM 3), .int Mdeeds, .int Mpeople, .ref (aM 4), .ref (aM 5), .ref (aM 6), .ref (aM 7), .ref (aM 8), .int Mat, .int MreadDeeds, .int MreadMany, .ref (aM 9), .ref (aM 10), .ref (aM 11), .int Mpairs, .ref (aM 12), .ref (aM 13), .int Mcaught, .int Mreadings, .ref (aM 14), .ref (aM 15)])), ((aM 1), .inl (cyI, 4, .inl M_sorts)), ((aM 2), .inl (cyI, 4, .inl M_sheetLong)), ((aM 3), .inl (cyI, 240, .inl M_cells))] H := hP
          have hD : va_D A [((aM 0), .inr (4, [.int 0, .int Mtrace, .ref (aM 1), .ref (aM 2), .ref (aM 3), .int Mdeeds, .int Mpeople, .ref (aM 4), .ref (aM 5), .ref (aM 6), .ref (aM 7), .ref (aM 8), .int Mat, .int MreadDeeds, .int MreadMany, .ref (aM 9), .ref (aM 10), .ref (aM 11), .int Mpairs, .ref (aM 12), .ref (aM 13), .int Mcaught, .int Mreadings, .ref (aM 14), .ref (aM 15)])), ((aM 1), .inl (cyI, 4, .inl M_sorts)), ((aM 2), .inl (cyI, 4, .inl M_sheetLong)), ((aM 3), .inl (cyI, 240, .inl M_cells))] := hD
          refine lv_if_ne (tgt := 89) hx hb dX4_cell_80 (by decide) (fun c14 => ?_) (fun c14 => ?_)
          · replace h := it_f c14 h
            refine lv_aload_n hx hb dX4_cell_89 rfl (lv_at hl 0 rfl) ?_
            refine va_get (D := (dC, dI)) (ci := 4) (v := .ref (aM 3)) (C := RX4) (T := TX4) (N := 25) hx hb hts hiX4 hown hK hP 0 rfl rfl 4 (by decide) hf16 (fun _ h9 => h9) rfl dX4_cell_90 ?_
            refine lv_bipush (v := 60) hx hb dX4_cell_93 (by decide) ?_
            refine lv_iload_n hx hb dX4_cell_95 rfl (lv_at hl 1 rfl) ?_
            refine lv_imul hx hb dX4_cell_96 ?_
            refine lv_iload_n hx hb dX4_cell_97 rfl (lv_at hl 2 rfl) ?_
            refine lv_iadd hx hb dX4_cell_98 ?_
            obtain ⟨e15, h⟩ := it_n h
            refine va_iald hx hb hK hP 3 0 rfl rfl (ix_in e15) dX4_cell_99 ?_
            refine lv_i2l (v := (M_cells ((60 * p1) + p2).toNatClampNeg).toInt64) hx hb dX4_cell_100 rfl ?_
            replace h := Option.some.inj h; subst h
            exact hret () H locs _ ls hP hD hS dX4_cell_101
          · replace h := it_t c14 h
            refine lv_aload_n hx hb dX4_cell_83 rfl (lv_at hl 0 rfl) ?_
            refine lv_iconst (v := 3) hx hb dX4_cell_84 (by decide) ?_
            obtain ⟨o16, hc17, h⟩ := ob h
            refine k_vl (As := [.int 3]) (rest := []) ⟨hx, hb, hml, hown, hts⟩ (c_X4_lost l dC dI cyI cyO aM H.size 0 Mtrace Mdeeds Mpeople Mat MreadDeeds MreadMany Mpairs Mcaught Mreadings 3 hc17) (cwV 1 hts gX4_cell_X4_lost rfl rfl rfl (by decide +kernel) ⟨Nat.le_of_ble_eq_true rfl, Nat.le_of_ble_eq_true rfl⟩) hP hD hK hS hA [0] [1, 2, 3] rfl rfl (by decide) (by decide) (by decide) 4 0 rfl rfl rfl rfl hl.1 rfl (Nat.le_of_ble_eq_true rfl) dX4_cell_85 ⟨Nat.zero_le _, Nat.zero_le _⟩ (fun _ H locs hP hD hS => ?_)
            have hP : va_P (dC, dI) vwCl [((aM 1), .inl (cyI, 4, .inl M_sorts)), ((aM 2), .inl (cyI, 4, .inl M_sheetLong)), ((aM 3), .inl (cyI, 240, .inl M_cells)), ((aM 0), .inr (4, [.int o16.2, .int Mtrace, .ref (aM 1), .ref (aM 2), .ref (aM 3), .int Mdeeds, .int Mpeople, .ref (aM 4), .ref (aM 5), .ref (aM 6), .ref (aM 7), .ref (aM 8), .int Mat, .int MreadDeeds, .int MreadMany, .ref (aM 9), .ref (aM 10), .ref (aM 11), .int Mpairs, .ref (aM 12), .ref (aM 13), .int Mcaught, .int Mreadings, .ref (aM 14), .ref (aM 15)]))] H := hP
            have hD : va_D A [((aM 1), .inl (cyI, 4, .inl M_sorts)), ((aM 2), .inl (cyI, 4, .inl M_sheetLong)), ((aM 3), .inl (cyI, 240, .inl M_cells)), ((aM 0), .inr (4, [.int o16.2, .int Mtrace, .ref (aM 1), .ref (aM 2), .ref (aM 3), .int Mdeeds, .int Mpeople, .ref (aM 4), .ref (aM 5), .ref (aM 6), .ref (aM 7), .ref (aM 8), .int Mat, .int MreadDeeds, .int MreadMany, .ref (aM 9), .ref (aM 10), .ref (aM 11), .int Mpairs, .ref (aM 12), .ref (aM 13), .int Mcaught, .int Mreadings, .ref (aM 14), .ref (aM 15)]))] := hD
            replace h := Option.some.inj h; subst h
            have hP := hP.sub (ws' := [((aM 0), .inr (4, [.int o16.2, .int Mtrace, .ref (aM 1), .ref (aM 2), .ref (aM 3), .int Mdeeds, .int Mpeople, .ref (aM 4), .ref (aM 5), .ref (aM 6), .ref (aM 7), .ref (aM 8), .int Mat, .int MreadDeeds, .int MreadMany, .ref (aM 9), .ref (aM 10), .ref (aM 11), .int Mpairs, .ref (aM 12), .ref (aM 13), .int Mcaught, .int Mreadings, .ref (aM 14), .ref (aM 15)])), ((aM 1), .inl (cyI, 4, .inl M_sorts)), ((aM 2), .inl (cyI, 4, .inl M_sheetLong)), ((aM 3), .inl (cyI, 240, .inl M_cells))]) [3, 0, 1, 2] rfl
            have hD := hD.sub (ws' := [((aM 0), .inr (4, [.int o16.2, .int Mtrace, .ref (aM 1), .ref (aM 2), .ref (aM 3), .int Mdeeds, .int Mpeople, .ref (aM 4), .ref (aM 5), .ref (aM 6), .ref (aM 7), .ref (aM 8), .int Mat, .int MreadDeeds, .int MreadMany, .ref (aM 9), .ref (aM 10), .ref (aM 11), .int Mpairs, .ref (aM 12), .ref (aM 13), .int Mcaught, .int Mreadings, .ref (aM 14), .ref (aM 15)])), ((aM 1), .inl (cyI, 4, .inl M_sorts)), ((aM 2), .inl (cyI, 4, .inl M_sheetLong)), ((aM 3), .inl (cyI, 240, .inl M_cells))]) [3, 0, 1, 2] (by decide) rfl
            exact hret () H locs _ ls hP hD hS dX4_cell_88
        · replace h := it_t c10 h
          refine lv_aload_n hx hb dX4_cell_61 rfl (lv_at hl 0 rfl) ?_
          refine lv_iconst (v := 1) hx hb dX4_cell_62 (by decide) ?_
          obtain ⟨o18, hc19, h⟩ := ob h
          refine k_vl (As := [.int 1]) (rest := []) ⟨hx, hb, hml, hown, hts⟩ (c_X4_lost l dC dI cyI cyO aM H.size 0 Mtrace Mdeeds Mpeople Mat MreadDeeds MreadMany Mpairs Mcaught Mreadings 1 hc19) (cwV 1 hts gX4_cell_X4_lost rfl rfl rfl (by decide +kernel) ⟨Nat.le_of_ble_eq_true rfl, Nat.le_of_ble_eq_true rfl⟩) hP hD hK hS hA [0] [1, 2, 3] rfl rfl (by decide) (by decide) (by decide) 4 0 rfl rfl rfl rfl hl.1 rfl (Nat.le_of_ble_eq_true rfl) dX4_cell_63 ⟨Nat.zero_le _, Nat.zero_le _⟩ (fun _ H locs hP hD hS => ?_)
          have hP : va_P (dC, dI) vwCl [((aM 1), .inl (cyI, 4, .inl M_sorts)), ((aM 2), .inl (cyI, 4, .inl M_sheetLong)), ((aM 3), .inl (cyI, 240, .inl M_cells)), ((aM 0), .inr (4, [.int o18.2, .int Mtrace, .ref (aM 1), .ref (aM 2), .ref (aM 3), .int Mdeeds, .int Mpeople, .ref (aM 4), .ref (aM 5), .ref (aM 6), .ref (aM 7), .ref (aM 8), .int Mat, .int MreadDeeds, .int MreadMany, .ref (aM 9), .ref (aM 10), .ref (aM 11), .int Mpairs, .ref (aM 12), .ref (aM 13), .int Mcaught, .int Mreadings, .ref (aM 14), .ref (aM 15)]))] H := hP
          have hD : va_D A [((aM 1), .inl (cyI, 4, .inl M_sorts)), ((aM 2), .inl (cyI, 4, .inl M_sheetLong)), ((aM 3), .inl (cyI, 240, .inl M_cells)), ((aM 0), .inr (4, [.int o18.2, .int Mtrace, .ref (aM 1), .ref (aM 2), .ref (aM 3), .int Mdeeds, .int Mpeople, .ref (aM 4), .ref (aM 5), .ref (aM 6), .ref (aM 7), .ref (aM 8), .int Mat, .int MreadDeeds, .int MreadMany, .ref (aM 9), .ref (aM 10), .ref (aM 11), .int Mpairs, .ref (aM 12), .ref (aM 13), .int Mcaught, .int Mreadings, .ref (aM 14), .ref (aM 15)]))] := hD
          replace h := Option.some.inj h; subst h
          have hP := hP.sub (ws' := [((aM 0), .inr (4, [.int o18.2, .int Mtrace, .ref (aM 1), .ref (aM 2), .ref (aM 3), .int Mdeeds, .int Mpeople, .ref (aM 4), .ref (aM 5), .ref (aM 6), .ref (aM 7), .ref (aM 8), .int Mat, .int MreadDeeds, .int MreadMany, .ref (aM 9), .ref (aM 10), .ref (aM 11), .int Mpairs, .ref (aM 12), .ref (aM 13), .int Mcaught, .int Mreadings, .ref (aM 14), .ref (aM 15)])), ((aM 1), .inl (cyI, 4, .inl M_sorts)), ((aM 2), .inl (cyI, 4, .inl M_sheetLong)), ((aM 3), .inl (cyI, 240, .inl M_cells))]) [3, 0, 1, 2] rfl
          have hD := hD.sub (ws' := [((aM 0), .inr (4, [.int o18.2, .int Mtrace, .ref (aM 1), .ref (aM 2), .ref (aM 3), .int Mdeeds, .int Mpeople, .ref (aM 4), .ref (aM 5), .ref (aM 6), .ref (aM 7), .ref (aM 8), .int Mat, .int MreadDeeds, .int MreadMany, .ref (aM 9), .ref (aM 10), .ref (aM 11), .int Mpairs, .ref (aM 12), .ref (aM 13), .int Mcaught, .int Mreadings, .ref (aM 14), .ref (aM 15)])), ((aM 1), .inl (cyI, 4, .inl M_sorts)), ((aM 2), .inl (cyI, 4, .inl M_sheetLong)), ((aM 3), .inl (cyI, 240, .inl M_cells))]) [3, 0, 1, 2] (by decide) rfl
          exact hret () H locs _ ls hP hD hS dX4_cell_66
      · replace h := it_f c8 h
        refine lv_aload_n hx hb dX4_cell_34 rfl (lv_at hl 0 rfl) ?_
        refine va_get (D := (dC, dI)) (ci := 4) (v := .ref (aM 1)) (C := RX4) (T := TX4) (N := 25) hx hb hts hiX4 hown hK hP 0 rfl rfl 2 (by decide) hf9 (fun _ h9 => h9) rfl dX4_cell_35 ?_
        refine lv_iload_n hx hb dX4_cell_38 rfl (lv_at hl 1 rfl) ?_
        obtain ⟨e20, h⟩ := it_n h
        refine va_iald hx hb hK hP 1 0 rfl rfl (ix_in e20) dX4_cell_39 ?_
        refine lv_iload_n hx hb dX4_cell_40 rfl (lv_at hl 3 rfl) ?_
        refine lv_icmp_eq (tgt := 50) hx hb dX4_cell_41 (by decide) (fun c21 => ?_) (fun c21 => ?_)
        · replace h := it_t c21 h
          refine lv_aload_n hx hb dX4_cell_50 rfl (lv_at hl 0 rfl) ?_
          refine va_get (D := (dC, dI)) (ci := 4) (v := .ref (aM 1)) (C := RX4) (T := TX4) (N := 25) hx hb hts hiX4 hown hK hP 0 rfl rfl 2 (by decide) hf9 (fun _ h9 => h9) rfl dX4_cell_51 ?_
          refine lv_iload_n hx hb dX4_cell_54 rfl (lv_at hl 1 rfl) ?_
          obtain ⟨e22, h⟩ := it_n h
          refine va_iald hx hb hK hP 1 0 rfl rfl (ix_in e22) dX4_cell_55 ?_
          refine lv_bipush (v := (-9)) hx hb dX4_cell_56 (by decide) ?_
          refine lv_icmp_ne (tgt := 67) hx hb dX4_cell_58 (by decide) (fun c23 => ?_) (fun c23 => ?_)
          · replace h := it_f c23 h
            refine lv_iload_n hx hb dX4_cell_67 rfl (lv_at hl 2 rfl) ?_
            refine lv_iconst (v := 0) hx hb dX4_cell_68 (by decide) ?_
            refine lv_aload_n hx hb dX4_cell_69 rfl (lv_at hl 0 rfl) ?_
            refine va_get (D := (dC, dI)) (ci := 4) (v := .ref (aM 2)) (C := RX4) (T := TX4) (N := 25) hx hb hts hiX4 hown hK hP 0 rfl rfl 3 (by decide) hf13 (fun _ h9 => h9) rfl dX4_cell_70 ?_
            refine lv_iload_n hx hb dX4_cell_73 rfl (lv_at hl 1 rfl) ?_
            obtain ⟨e24, h⟩ := it_n h
            refine va_iald hx hb hK hP 2 0 rfl rfl (ix_in e24) dX4_cell_74 ?_
            refine lv_iconst (v := 1) hx hb dX4_cell_75 (by decide) ?_
            refine lv_isub hx hb dX4_cell_76 ?_
            obtain ⟨o25, hc26, h⟩ := ob h
            refine k_si (As := [.int p2, .int 0, .int ((M_sheetLong p1.toNatClampNeg) - 1)]) (rest := []) ⟨hx, hb, hml, hown, hts⟩ (c_X4_within l dC dI cyI cyO H.size p2 0 ((M_sheetLong p1.toNatClampNeg) - 1) hc26) (va_cwS 3 hts gX4_cell_X4_within rfl rfl rfl (by decide +kernel) ⟨Nat.le_of_ble_eq_true rfl, Nat.le_of_ble_eq_true rfl⟩) hP hD hK hS hA [] [0, 1, 2, 3] rfl rfl (by decide) (by decide) (by decide) rfl hl.1 rfl (Nat.le_of_ble_eq_true rfl) dX4_cell_77 ⟨Nat.zero_le _, Nat.zero_le _⟩ (fun _ H locs hP hD hS => ?_)
            have hP : va_P (dC, dI) vwCl [((aM 0), .inr (4, [.int 0, .int Mtrace, .ref (aM 1), .ref (aM 2), .ref (aM 3), .int Mdeeds, .int Mpeople, .ref (aM 4), .ref (aM 5), .ref (aM 6), .ref (aM 7), .ref (aM 8), .int Mat, .int MreadDeeds, .int MreadMany, .ref (aM 9), .ref (aM 10), .ref (aM 11), .int Mpairs, .ref (aM 12), .ref (aM 13), .int Mcaught, .int Mreadings, .ref (aM 14), .ref (aM 15)])), ((aM 1), .inl (cyI, 4, .inl M_sorts)), ((aM 2), .inl (cyI, 4, .inl M_sheetLong)), ((aM 3), .inl (cyI, 240, .inl M_cells))] H := hP
            have hD : va_D A [((aM 0), .inr (4, [.int 0, .int Mtrace, .ref (aM 1), .ref (aM 2), .ref (aM 3), .int Mdeeds, .int Mpeople, .ref (aM 4), .ref (aM 5), .ref (aM 6), .ref (aM 7), .ref (aM 8), .int Mat, .int MreadDeeds, .int MreadMany, .ref (aM 9), .ref (aM 10), .ref (aM 11), .int Mpairs, .ref (aM 12), .ref (aM 13), .int Mcaught, .int Mreadings, .ref (aM 14), .ref (aM 15)])), ((aM 1), .inl (cyI, 4, .inl M_sorts)), ((aM 2), .inl (cyI, 4, .inl M_sheetLong)), ((aM 3), .inl (cyI, 240, .inl M_cells))] := hD
            refine lv_if_ne (tgt := 89) hx hb dX4_cell_80 (by decide) (fun c27 => ?_) (fun c27 => ?_)
            · replace h := it_f c27 h
              refine lv_aload_n hx hb dX4_cell_89 rfl (lv_at hl 0 rfl) ?_
              refine va_get (D := (dC, dI)) (ci := 4) (v := .ref (aM 3)) (C := RX4) (T := TX4) (N := 25) hx hb hts hiX4 hown hK hP 0 rfl rfl 4 (by decide) hf16 (fun _ h9 => h9) rfl dX4_cell_90 ?_
              refine lv_bipush (v := 60) hx hb dX4_cell_93 (by decide) ?_
              refine lv_iload_n hx hb dX4_cell_95 rfl (lv_at hl 1 rfl) ?_
              refine lv_imul hx hb dX4_cell_96 ?_
              refine lv_iload_n hx hb dX4_cell_97 rfl (lv_at hl 2 rfl) ?_
              refine lv_iadd hx hb dX4_cell_98 ?_
              obtain ⟨e28, h⟩ := it_n h
              refine va_iald hx hb hK hP 3 0 rfl rfl (ix_in e28) dX4_cell_99 ?_
              refine lv_i2l (v := (M_cells ((60 * p1) + p2).toNatClampNeg).toInt64) hx hb dX4_cell_100 rfl ?_
              replace h := Option.some.inj h; subst h
              exact hret () H locs _ ls hP hD hS dX4_cell_101
            · replace h := it_t c27 h
              refine lv_aload_n hx hb dX4_cell_83 rfl (lv_at hl 0 rfl) ?_
              refine lv_iconst (v := 3) hx hb dX4_cell_84 (by decide) ?_
              obtain ⟨o29, hc30, h⟩ := ob h
              refine k_vl (As := [.int 3]) (rest := []) ⟨hx, hb, hml, hown, hts⟩ (c_X4_lost l dC dI cyI cyO aM H.size 0 Mtrace Mdeeds Mpeople Mat MreadDeeds MreadMany Mpairs Mcaught Mreadings 3 hc30) (cwV 1 hts gX4_cell_X4_lost rfl rfl rfl (by decide +kernel) ⟨Nat.le_of_ble_eq_true rfl, Nat.le_of_ble_eq_true rfl⟩) hP hD hK hS hA [0] [1, 2, 3] rfl rfl (by decide) (by decide) (by decide) 4 0 rfl rfl rfl rfl hl.1 rfl (Nat.le_of_ble_eq_true rfl) dX4_cell_85 ⟨Nat.zero_le _, Nat.zero_le _⟩ (fun _ H locs hP hD hS => ?_)
              have hP : va_P (dC, dI) vwCl [((aM 1), .inl (cyI, 4, .inl M_sorts)), ((aM 2), .inl (cyI, 4, .inl M_sheetLong)), ((aM 3), .inl (cyI, 240, .inl M_cells)), ((aM 0), .inr (4, [.int o29.2, .int Mtrace, .ref (aM 1), .ref (aM 2), .ref (aM 3), .int Mdeeds, .int Mpeople, .ref (aM 4), .ref (aM 5), .ref (aM 6), .ref (aM 7), .ref (aM 8), .int Mat, .int MreadDeeds, .int MreadMany, .ref (aM 9), .ref (aM 10), .ref (aM 11), .int Mpairs, .ref (aM 12), .ref (aM 13), .int Mcaught, .int Mreadings, .ref (aM 14), .ref (aM 15)]))] H := hP
              have hD : va_D A [((aM 1), .inl (cyI, 4, .inl M_sorts)), ((aM 2), .inl (cyI, 4, .inl M_sheetLong)), ((aM 3), .inl (cyI, 240, .inl M_cells)), ((aM 0), .inr (4, [.int o29.2, .int Mtrace, .ref (aM 1), .ref (aM 2), .ref (aM 3), .int Mdeeds, .int Mpeople, .ref (aM 4), .ref (aM 5), .ref (aM 6), .ref (aM 7), .ref (aM 8), .int Mat, .int MreadDeeds, .int MreadMany, .ref (aM 9), .ref (aM 10), .ref (aM 11), .int Mpairs, .ref (aM 12), .ref (aM 13), .int Mcaught, .int Mreadings, .ref (aM 14), .ref (aM 15)]))] := hD
              replace h := Option.some.inj h; subst h
              have hP := hP.sub (ws' := [((aM 0), .inr (4, [.int o29.2, .int Mtrace, .ref (aM 1), .ref (aM 2), .ref (aM 3), .int Mdeeds, .int Mpeople, .ref (aM 4), .ref (aM 5), .ref (aM 6), .ref (aM 7), .ref (aM 8), .int Mat, .int MreadDeeds, .int MreadMany, .ref (aM 9), .ref (aM 10), .ref (aM 11), .int Mpairs, .ref (aM 12), .ref (aM 13), .int Mcaught, .int Mreadings, .ref (aM 14), .ref (aM 15)])), ((aM 1), .inl (cyI, 4, .inl M_sorts)), ((aM 2), .inl (cyI, 4, .inl M_sheetLong)), ((aM 3), .inl (cyI, 240, .inl M_cells))]) [3, 0, 1, 2] rfl
              have hD := hD.sub (ws' := [((aM 0), .inr (4, [.int o29.2, .int Mtrace, .ref (aM 1), .ref (aM 2), .ref (aM 3), .int Mdeeds, .int Mpeople, .ref (aM 4), .ref (aM 5), .ref (aM 6), .ref (aM 7), .ref (aM 8), .int Mat, .int MreadDeeds, .int MreadMany, .ref (aM 9), .ref (aM 10), .ref (aM 11), .int Mpairs, .ref (aM 12), .ref (aM 13), .int Mcaught, .int Mreadings, .ref (aM 14), .ref (aM 15)])), ((aM 1), .inl (cyI, 4, .inl M_sorts)), ((aM 2), .inl (cyI, 4, .inl M_sheetLong)), ((aM 3), .inl (cyI, 240, .inl M_cells))]) [3, 0, 1, 2] (by decide) rfl
              exact hret () H locs _ ls hP hD hS dX4_cell_88
          · replace h := it_t c23 h
            refine lv_aload_n hx hb dX4_cell_61 rfl (lv_at hl 0 rfl) ?_
            refine lv_iconst (v := 1) hx hb dX4_cell_62 (by decide) ?_
            obtain ⟨o31, hc32, h⟩ := ob h
            refine k_vl (As := [.int 1]) (rest := []) ⟨hx, hb, hml, hown, hts⟩ (c_X4_lost l dC dI cyI cyO aM H.size 0 Mtrace Mdeeds Mpeople Mat MreadDeeds MreadMany Mpairs Mcaught Mreadings 1 hc32) (cwV 1 hts gX4_cell_X4_lost rfl rfl rfl (by decide +kernel) ⟨Nat.le_of_ble_eq_true rfl, Nat.le_of_ble_eq_true rfl⟩) hP hD hK hS hA [0] [1, 2, 3] rfl rfl (by decide) (by decide) (by decide) 4 0 rfl rfl rfl rfl hl.1 rfl (Nat.le_of_ble_eq_true rfl) dX4_cell_63 ⟨Nat.zero_le _, Nat.zero_le _⟩ (fun _ H locs hP hD hS => ?_)
            have hP : va_P (dC, dI) vwCl [((aM 1), .inl (cyI, 4, .inl M_sorts)), ((aM 2), .inl (cyI, 4, .inl M_sheetLong)), ((aM 3), .inl (cyI, 240, .inl M_cells)), ((aM 0), .inr (4, [.int o31.2, .int Mtrace, .ref (aM 1), .ref (aM 2), .ref (aM 3), .int Mdeeds, .int Mpeople, .ref (aM 4), .ref (aM 5), .ref (aM 6), .ref (aM 7), .ref (aM 8), .int Mat, .int MreadDeeds, .int MreadMany, .ref (aM 9), .ref (aM 10), .ref (aM 11), .int Mpairs, .ref (aM 12), .ref (aM 13), .int Mcaught, .int Mreadings, .ref (aM 14), .ref (aM 15)]))] H := hP
            have hD : va_D A [((aM 1), .inl (cyI, 4, .inl M_sorts)), ((aM 2), .inl (cyI, 4, .inl M_sheetLong)), ((aM 3), .inl (cyI, 240, .inl M_cells)), ((aM 0), .inr (4, [.int o31.2, .int Mtrace, .ref (aM 1), .ref (aM 2), .ref (aM 3), .int Mdeeds, .int Mpeople, .ref (aM 4), .ref (aM 5), .ref (aM 6), .ref (aM 7), .ref (aM 8), .int Mat, .int MreadDeeds, .int MreadMany, .ref (aM 9), .ref (aM 10), .ref (aM 11), .int Mpairs, .ref (aM 12), .ref (aM 13), .int Mcaught, .int Mreadings, .ref (aM 14), .ref (aM 15)]))] := hD
            replace h := Option.some.inj h; subst h
            have hP := hP.sub (ws' := [((aM 0), .inr (4, [.int o31.2, .int Mtrace, .ref (aM 1), .ref (aM 2), .ref (aM 3), .int Mdeeds, .int Mpeople, .ref (aM 4), .ref (aM 5), .ref (aM 6), .ref (aM 7), .ref (aM 8), .int Mat, .int MreadDeeds, .int MreadMany, .ref (aM 9), .ref (aM 10), .ref (aM 11), .int Mpairs, .ref (aM 12), .ref (aM 13), .int Mcaught, .int Mreadings, .ref (aM 14), .ref (aM 15)])), ((aM 1), .inl (cyI, 4, .inl M_sorts)), ((aM 2), .inl (cyI, 4, .inl M_sheetLong)), ((aM 3), .inl (cyI, 240, .inl M_cells))]) [3, 0, 1, 2] rfl
            have hD := hD.sub (ws' := [((aM 0), .inr (4, [.int o31.2, .int Mtrace, .ref (aM 1), .ref (aM 2), .ref (aM 3), .int Mdeeds, .int Mpeople, .ref (aM 4), .ref (aM 5), .ref (aM 6), .ref (aM 7), .ref (aM 8), .int Mat, .int MreadDeeds, .int MreadMany, .ref (aM 9), .ref (aM 10), .ref (aM 11), .int Mpairs, .ref (aM 12), .ref (aM 13), .int Mcaught, .int Mreadings, .ref (aM 14), .ref (aM 15)])), ((aM 1), .inl (cyI, 4, .inl M_sorts)), ((aM 2), .inl (cyI, 4, .inl M_sheetLong)), ((aM 3), .inl (cyI, 240, .inl M_cells))]) [3, 0, 1, 2] (by decide) rfl
            exact hret () H locs _ ls hP hD hS dX4_cell_66
        · replace h := it_f c21 h
          refine lv_aload_n hx hb dX4_cell_44 rfl (lv_at hl 0 rfl) ?_
          refine lv_iconst (v := 2) hx hb dX4_cell_45 (by decide) ?_
          obtain ⟨o33, hc34, h⟩ := ob h
          refine k_vl (As := [.int 2]) (rest := []) ⟨hx, hb, hml, hown, hts⟩ (c_X4_lost l dC dI cyI cyO aM H.size 0 Mtrace Mdeeds Mpeople Mat MreadDeeds MreadMany Mpairs Mcaught Mreadings 2 hc34) (cwV 1 hts gX4_cell_X4_lost rfl rfl rfl (by decide +kernel) ⟨Nat.le_of_ble_eq_true rfl, Nat.le_of_ble_eq_true rfl⟩) hP hD hK hS hA [0] [1, 2, 3] rfl rfl (by decide) (by decide) (by decide) 4 0 rfl rfl rfl rfl hl.1 rfl (Nat.le_of_ble_eq_true rfl) dX4_cell_46 ⟨Nat.zero_le _, Nat.zero_le _⟩ (fun _ H locs hP hD hS => ?_)
          have hP : va_P (dC, dI) vwCl [((aM 1), .inl (cyI, 4, .inl M_sorts)), ((aM 2), .inl (cyI, 4, .inl M_sheetLong)), ((aM 3), .inl (cyI, 240, .inl M_cells)), ((aM 0), .inr (4, [.int o33.2, .int Mtrace, .ref (aM 1), .ref (aM 2), .ref (aM 3), .int Mdeeds, .int Mpeople, .ref (aM 4), .ref (aM 5), .ref (aM 6), .ref (aM 7), .ref (aM 8), .int Mat, .int MreadDeeds, .int MreadMany, .ref (aM 9), .ref (aM 10), .ref (aM 11), .int Mpairs, .ref (aM 12), .ref (aM 13), .int Mcaught, .int Mreadings, .ref (aM 14), .ref (aM 15)]))] H := hP
          have hD : va_D A [((aM 1), .inl (cyI, 4, .inl M_sorts)), ((aM 2), .inl (cyI, 4, .inl M_sheetLong)), ((aM 3), .inl (cyI, 240, .inl M_cells)), ((aM 0), .inr (4, [.int o33.2, .int Mtrace, .ref (aM 1), .ref (aM 2), .ref (aM 3), .int Mdeeds, .int Mpeople, .ref (aM 4), .ref (aM 5), .ref (aM 6), .ref (aM 7), .ref (aM 8), .int Mat, .int MreadDeeds, .int MreadMany, .ref (aM 9), .ref (aM 10), .ref (aM 11), .int Mpairs, .ref (aM 12), .ref (aM 13), .int Mcaught, .int Mreadings, .ref (aM 14), .ref (aM 15)]))] := hD
          replace h := Option.some.inj h; subst h
          have hP := hP.sub (ws' := [((aM 0), .inr (4, [.int o33.2, .int Mtrace, .ref (aM 1), .ref (aM 2), .ref (aM 3), .int Mdeeds, .int Mpeople, .ref (aM 4), .ref (aM 5), .ref (aM 6), .ref (aM 7), .ref (aM 8), .int Mat, .int MreadDeeds, .int MreadMany, .ref (aM 9), .ref (aM 10), .ref (aM 11), .int Mpairs, .ref (aM 12), .ref (aM 13), .int Mcaught, .int Mreadings, .ref (aM 14), .ref (aM 15)])), ((aM 1), .inl (cyI, 4, .inl M_sorts)), ((aM 2), .inl (cyI, 4, .inl M_sheetLong)), ((aM 3), .inl (cyI, 240, .inl M_cells))]) [3, 0, 1, 2] rfl
          have hD := hD.sub (ws' := [((aM 0), .inr (4, [.int o33.2, .int Mtrace, .ref (aM 1), .ref (aM 2), .ref (aM 3), .int Mdeeds, .int Mpeople, .ref (aM 4), .ref (aM 5), .ref (aM 6), .ref (aM 7), .ref (aM 8), .int Mat, .int MreadDeeds, .int MreadMany, .ref (aM 9), .ref (aM 10), .ref (aM 11), .int Mpairs, .ref (aM 12), .ref (aM 13), .int Mcaught, .int Mreadings, .ref (aM 14), .ref (aM 15)])), ((aM 1), .inl (cyI, 4, .inl M_sorts)), ((aM 2), .inl (cyI, 4, .inl M_sheetLong)), ((aM 3), .inl (cyI, 240, .inl M_cells))]) [3, 0, 1, 2] (by decide) rfl
          exact hret () H locs _ ls hP hD hS dX4_cell_49
    · replace h := it_t c6 h
      refine lv_ldc2 hx hb hown hL59 dX4_cell_19 ?_
      replace h := Option.some.inj h; subst h
      exact hret () H locs _ ls hP hD hS dX4_cell_22
set_option maxHeartbeats 4000000 in
set_option maxRecDepth 100000 in
theorem c_X4_copy (l : Launch) (dC : Nat → ClassId) (dI : Nat → Nat → Nat) (cyI cyO : ClassId) (aM : Nat → Nat) (sz : Nat) (Mfault : Int32) (Mtrace : Int32) (Mdeeds : Int32) (Mpeople : Int32) (Mat : Int32) (MreadDeeds : Int32) (MreadMany : Int32) (Mpairs : Int32) (Mcaught : Int32) (Mreadings : Int32) (M_sorts : Nat → Int32) (M_sheetLong : Nat → Int32) (M_cells : Nat → Int32) (p1 : Int32) (p2 : Int32) (p3 : Int32) (p4 : Int32) (p5 : Int32) {o : Int32 × Int32 × (Nat → Int32)}  (h : f_X4_copy Mfault M_sorts M_sheetLong M_cells p1 p2 p3 p4 p5 = some o) : CtI l yX4_copy wsX4_copy { frames := 2, cells := 0, slots := 0, locals := 42 } (dC, dI) [(cyI, .int), (cyO, .object RX0)] [.ref (aM 0), .int p1, .int p2, .int p3, .int p4, .int p5] sz [((aM 0), .inr (4, [.int Mfault, .int Mtrace, .ref (aM 1), .ref (aM 2), .ref (aM 3), .int Mdeeds, .int Mpeople, .ref (aM 4), .ref (aM 5), .ref (aM 6), .ref (aM 7), .ref (aM 8), .int Mat, .int MreadDeeds, .int MreadMany, .ref (aM 9), .ref (aM 10), .ref (aM 11), .int Mpairs, .ref (aM 12), .ref (aM 13), .int Mcaught, .int Mreadings, .ref (aM 14), .ref (aM 15)])), ((aM 1), .inl (cyI, 4, .inl M_sorts)), ((aM 2), .inl (cyI, 4, .inl M_sheetLong)), ((aM 3), .inl (cyI, 240, .inl M_cells))] (fun (_ : Unit) => [((aM 0), .inr (4, [.int o.2.1, .int Mtrace, .ref (aM 1), .ref (aM 2), .ref (aM 3), .int Mdeeds, .int Mpeople, .ref (aM 4), .ref (aM 5), .ref (aM 6), .ref (aM 7), .ref (aM 8), .int Mat, .int MreadDeeds, .int MreadMany, .ref (aM 9), .ref (aM 10), .ref (aM 11), .int Mpairs, .ref (aM 12), .ref (aM 13), .int Mcaught, .int Mreadings, .ref (aM 14), .ref (aM 15)])), ((aM 1), .inl (cyI, 4, .inl M_sorts)), ((aM 2), .inl (cyI, 4, .inl M_sheetLong)), ((aM 3), .inl (cyI, 240, .inl o.2.2))]) o.1 := by
  refine CtI.of (cc := cX4_copy) (maxL := 10) (by decide) rfl (Nat.le_of_ble_eq_true rfl) ?_
  intro p e s m args below meth c A Q H locs hx hb hml hown hts hA hK hP hD hS hret ls hl
  have hown : s.vm.findClass RX4 = some m.cls := hown
  have hl : lv_has ls 10 [(0, .ref (aM 0)), (1, .int p1), (2, .int p2), (3, .int p3), (4, .int p4), (5, .int p5)] := hl
  unfold f_X4_copy at h
  have hiX4 : ∀ w ∈ u_ws RX4 TX4 25, w ∈ wsX4_copy := by decide +kernel
  have hf9 := hts (.fieldLink RX4 9 "TowerTellModel" "sorts" "[I") (by decide +kernel)
  have hf13 := hts (.fieldLink RX4 13 "TowerTellModel" "sheetLong" "[I") (by decide +kernel)
  have hf16 := hts (.fieldLink RX4 16 "TowerTellModel" "cells" "[I") (by decide +kernel)
  have hf55 := hts (.fieldLink RX4 55 "TowerTellModel" "fault" "I") (by decide +kernel)
  have lp166 : ∀ (n : Nat) (x7 : Int32) (x8 : Int32) (yMfault : Int32) (yM_cells : Nat → Int32) (H : Heap) (locs : List Loc) (ls : Array Slot), l_X4_copy_166 M_sorts M_sheetLong p1 p2 p3 p4 p5 n (x7, x8, yMfault, yM_cells) = some o → va_P (dC, dI) vwCl [((aM 0), .inr (4, [.int yMfault, .int Mtrace, .ref (aM 1), .ref (aM 2), .ref (aM 3), .int Mdeeds, .int Mpeople, .ref (aM 4), .ref (aM 5), .ref (aM 6), .ref (aM 7), .ref (aM 8), .int Mat, .int MreadDeeds, .int MreadMany, .ref (aM 9), .ref (aM 10), .ref (aM 11), .int Mpairs, .ref (aM 12), .ref (aM 13), .int Mcaught, .int Mreadings, .ref (aM 14), .ref (aM 15)])), ((aM 1), .inl (cyI, 4, .inl M_sorts)), ((aM 2), .inl (cyI, 4, .inl M_sheetLong)), ((aM 3), .inl (cyI, 240, .inl yM_cells))] H → va_D A [((aM 0), .inr (4, [.int yMfault, .int Mtrace, .ref (aM 1), .ref (aM 2), .ref (aM 3), .int Mdeeds, .int Mpeople, .ref (aM 4), .ref (aM 5), .ref (aM 6), .ref (aM 7), .ref (aM 8), .int Mat, .int MreadDeeds, .int MreadMany, .ref (aM 9), .ref (aM 10), .ref (aM 11), .int Mpairs, .ref (aM 12), .ref (aM 13), .int Mcaught, .int Mreadings, .ref (aM 14), .ref (aM 15)])), ((aM 1), .inl (cyI, 4, .inl M_sorts)), ((aM 2), .inl (cyI, 4, .inl M_sheetLong)), ((aM 3), .inl (cyI, 240, .inl yM_cells))] → va_S A s.heap H locs → lv_has ls 10 [(0, .ref (aM 0)), (1, .int p1), (2, .int p2), (3, .int p3), (4, .int p4), (5, .int p5), (7, .int x7), (8, .int x8)] → W p l e { frames := 2, cells := 0, slots := 0, locals := 42 } s m args below meth c H locs 0 0 Q (F0 m 166 ls []) := by
    intro n
    induction n with
    | zero => intro _ _ _ _ H locs ls h _ _ _ _; exact (lpF_0 h).elim
    | succ n ih =>
      intro x7 x8 yMfault yM_cells H locs ls h hP hD hS hl
      replace h : b_X4_copy_166 M_sorts M_sheetLong p1 p2 p3 p4 p5 (l_X4_copy_166 M_sorts M_sheetLong p1 p2 p3 p4 p5 n) x7 x8 yMfault yM_cells = some o := h
      unfold b_X4_copy_166 at h
      refine lv_iload hx hb dX4_copy_166 (lv_at hl 7 rfl) ?_
      refine lv_iload hx hb dX4_copy_168 (lv_at hl 5 rfl) ?_
      refine lv_icmp_ge (tgt := 227) hx hb dX4_copy_170 (by decide) (fun c40 => ?_) (fun c40 => ?_)
      · replace h := it_t c40 h
        refine lv_iload hx hb dX4_copy_227 (lv_at hl 5 rfl) ?_
        replace h := Option.some.inj h; subst h
        exact hret () H locs _ ls hP hD hS dX4_copy_229 rfl
      · replace h := it_f c40 h
        refine lv_iload hx hb dX4_copy_173 (lv_at hl 6 rfl) ?_
        refine lv_if_eq (tgt := 188) hx hb dX4_copy_175 (by decide) (fun c41 => ?_) (fun c41 => ?_)
        · replace h := it_t c41 h
          refine lv_iload hx hb dX4_copy_188 (lv_at hl 7 rfl) ?_
          refine lv_istore (lv' := [(9, .int x8), (0, .ref (aM 0)), (1, .int p1), (2, .int p2), (3, .int p3), (4, .int p4), (5, .int p5), (7, .int x7), (8, .int x8)]) hx hb dX4_copy_190 hl (by decide) rfl (fun ls hl => ?_)
          refine lv_aload_n hx hb dX4_copy_192 rfl (lv_at hl 1 rfl) ?_
          refine va_get (D := (dC, dI)) (ci := 4) (v := .ref (aM 3)) (C := RX4) (T := TX4) (N := 25) hx hb hts hiX4 hown hK hP 0 rfl rfl 4 (by decide) hf16 (fun _ h9 => h9) rfl dX4_copy_193 ?_
          refine lv_bipush (v := 60) hx hb dX4_copy_196 (by decide) ?_
          refine lv_iload_n hx hb dX4_copy_198 rfl (lv_at hl 4 rfl) ?_
          refine lv_imul hx hb dX4_copy_199 ?_
          refine lv_iload hx hb dX4_copy_200 (lv_at hl 5 rfl) ?_
          refine lv_iadd hx hb dX4_copy_202 ?_
          refine lv_iload hx hb dX4_copy_203 (lv_at hl 0 rfl) ?_
          refine lv_iadd hx hb dX4_copy_205 ?_
          refine lv_aload_n hx hb dX4_copy_206 rfl (lv_at hl 1 rfl) ?_
          refine va_get (D := (dC, dI)) (ci := 4) (v := .ref (aM 3)) (C := RX4) (T := TX4) (N := 25) hx hb hts hiX4 hown hK hP 0 rfl rfl 4 (by decide) hf16 (fun _ h9 => h9) rfl dX4_copy_207 ?_
          refine lv_bipush (v := 60) hx hb dX4_copy_210 (by decide) ?_
          refine lv_iload_n hx hb dX4_copy_212 rfl (lv_at hl 2 rfl) ?_
          refine lv_imul hx hb dX4_copy_213 ?_
          refine lv_iload_n hx hb dX4_copy_214 rfl (lv_at hl 3 rfl) ?_
          refine lv_iadd hx hb dX4_copy_215 ?_
          refine lv_iload hx hb dX4_copy_216 (lv_at hl 0 rfl) ?_
          refine lv_iadd hx hb dX4_copy_218 ?_
          obtain ⟨e42, h⟩ := it_n h
          refine va_iald hx hb hK hP 3 0 rfl rfl (ix_in e42) dX4_copy_219 ?_
          obtain ⟨e43, h⟩ := it_n h
          refine va_iast hx hb hK hP hD hS 3 0 rfl rfl (ix_in e43) dX4_copy_220 (fun H locs hP hD hS => ?_)
          have hP : va_P (dC, dI) vwCl [((aM 0), .inr (4, [.int yMfault, .int Mtrace, .ref (aM 1), .ref (aM 2), .ref (aM 3), .int Mdeeds, .int Mpeople, .ref (aM 4), .ref (aM 5), .ref (aM 6), .ref (aM 7), .ref (aM 8), .int Mat, .int MreadDeeds, .int MreadMany, .ref (aM 9), .ref (aM 10), .ref (aM 11), .int Mpairs, .ref (aM 12), .ref (aM 13), .int Mcaught, .int Mreadings, .ref (aM 14), .ref (aM 15)])), ((aM 1), .inl (cyI, 4, .inl M_sorts)), ((aM 2), .inl (cyI, 4, .inl M_sheetLong)), ((aM 3), .inl (cyI, 240, .inl (upd yM_cells (((60 * p3) + p4) + x8).toNatClampNeg (yM_cells (((60 * p1) + p2) + x8).toNatClampNeg))))] H := hP
          have hD : va_D A [((aM 0), .inr (4, [.int yMfault, .int Mtrace, .ref (aM 1), .ref (aM 2), .ref (aM 3), .int Mdeeds, .int Mpeople, .ref (aM 4), .ref (aM 5), .ref (aM 6), .ref (aM 7), .ref (aM 8), .int Mat, .int MreadDeeds, .int MreadMany, .ref (aM 9), .ref (aM 10), .ref (aM 11), .int Mpairs, .ref (aM 12), .ref (aM 13), .int Mcaught, .int Mreadings, .ref (aM 14), .ref (aM 15)])), ((aM 1), .inl (cyI, 4, .inl M_sorts)), ((aM 2), .inl (cyI, 4, .inl M_sheetLong)), ((aM 3), .inl (cyI, 240, .inl (upd yM_cells (((60 * p3) + p4) + x8).toNatClampNeg (yM_cells (((60 * p1) + p2) + x8).toNatClampNeg))))] := hD
          refine lv_iinc (v := (x8 + 1)) (lv' := [(8, .int (x8 + 1)), (9, .int x8), (0, .ref (aM 0)), (1, .int p1), (2, .int p2), (3, .int p3), (4, .int p4), (5, .int p5), (7, .int x7)]) hx hb dX4_copy_221 hl (k := 8) rfl rfl (by decide) rfl (fun ls hl => ?_)
          refine lv_goto (tgt := 166) hx hb dX4_copy_224 (by decide) ?_
          exact ih x7 (x8 + 1) yMfault (upd yM_cells (((60 * p3) + p4) + x8).toNatClampNeg (yM_cells (((60 * p1) + p2) + x8).toNatClampNeg)) H locs ls h hP hD hS (lv_sub hl [2, 3, 4, 5, 6, 7, 8, 0] rfl)
        · replace h := it_f c41 h
          refine lv_iload hx hb dX4_copy_178 (lv_at hl 5 rfl) ?_
          refine lv_iconst (v := 1) hx hb dX4_copy_180 (by decide) ?_
          refine lv_isub hx hb dX4_copy_181 ?_
          refine lv_iload hx hb dX4_copy_182 (lv_at hl 7 rfl) ?_
          refine lv_isub hx hb dX4_copy_184 ?_
          refine lv_goto (tgt := 190) hx hb dX4_copy_185 (by decide) ?_
          refine lv_istore (lv' := [(9, .int ((p5 - 1) - x8)), (0, .ref (aM 0)), (1, .int p1), (2, .int p2), (3, .int p3), (4, .int p4), (5, .int p5), (7, .int x7), (8, .int x8)]) hx hb dX4_copy_190 hl (by decide) rfl (fun ls hl => ?_)
          refine lv_aload_n hx hb dX4_copy_192 rfl (lv_at hl 1 rfl) ?_
          refine va_get (D := (dC, dI)) (ci := 4) (v := .ref (aM 3)) (C := RX4) (T := TX4) (N := 25) hx hb hts hiX4 hown hK hP 0 rfl rfl 4 (by decide) hf16 (fun _ h9 => h9) rfl dX4_copy_193 ?_
          refine lv_bipush (v := 60) hx hb dX4_copy_196 (by decide) ?_
          refine lv_iload_n hx hb dX4_copy_198 rfl (lv_at hl 4 rfl) ?_
          refine lv_imul hx hb dX4_copy_199 ?_
          refine lv_iload hx hb dX4_copy_200 (lv_at hl 5 rfl) ?_
          refine lv_iadd hx hb dX4_copy_202 ?_
          refine lv_iload hx hb dX4_copy_203 (lv_at hl 0 rfl) ?_
          refine lv_iadd hx hb dX4_copy_205 ?_
          refine lv_aload_n hx hb dX4_copy_206 rfl (lv_at hl 1 rfl) ?_
          refine va_get (D := (dC, dI)) (ci := 4) (v := .ref (aM 3)) (C := RX4) (T := TX4) (N := 25) hx hb hts hiX4 hown hK hP 0 rfl rfl 4 (by decide) hf16 (fun _ h9 => h9) rfl dX4_copy_207 ?_
          refine lv_bipush (v := 60) hx hb dX4_copy_210 (by decide) ?_
          refine lv_iload_n hx hb dX4_copy_212 rfl (lv_at hl 2 rfl) ?_
          refine lv_imul hx hb dX4_copy_213 ?_
          refine lv_iload_n hx hb dX4_copy_214 rfl (lv_at hl 3 rfl) ?_
          refine lv_iadd hx hb dX4_copy_215 ?_
          refine lv_iload hx hb dX4_copy_216 (lv_at hl 0 rfl) ?_
          refine lv_iadd hx hb dX4_copy_218 ?_
          obtain ⟨e44, h⟩ := it_n h
          refine va_iald hx hb hK hP 3 0 rfl rfl (ix_in e44) dX4_copy_219 ?_
          obtain ⟨e45, h⟩ := it_n h
          refine va_iast hx hb hK hP hD hS 3 0 rfl rfl (ix_in e45) dX4_copy_220 (fun H locs hP hD hS => ?_)
          have hP : va_P (dC, dI) vwCl [((aM 0), .inr (4, [.int yMfault, .int Mtrace, .ref (aM 1), .ref (aM 2), .ref (aM 3), .int Mdeeds, .int Mpeople, .ref (aM 4), .ref (aM 5), .ref (aM 6), .ref (aM 7), .ref (aM 8), .int Mat, .int MreadDeeds, .int MreadMany, .ref (aM 9), .ref (aM 10), .ref (aM 11), .int Mpairs, .ref (aM 12), .ref (aM 13), .int Mcaught, .int Mreadings, .ref (aM 14), .ref (aM 15)])), ((aM 1), .inl (cyI, 4, .inl M_sorts)), ((aM 2), .inl (cyI, 4, .inl M_sheetLong)), ((aM 3), .inl (cyI, 240, .inl (upd yM_cells (((60 * p3) + p4) + ((p5 - 1) - x8)).toNatClampNeg (yM_cells (((60 * p1) + p2) + ((p5 - 1) - x8)).toNatClampNeg))))] H := hP
          have hD : va_D A [((aM 0), .inr (4, [.int yMfault, .int Mtrace, .ref (aM 1), .ref (aM 2), .ref (aM 3), .int Mdeeds, .int Mpeople, .ref (aM 4), .ref (aM 5), .ref (aM 6), .ref (aM 7), .ref (aM 8), .int Mat, .int MreadDeeds, .int MreadMany, .ref (aM 9), .ref (aM 10), .ref (aM 11), .int Mpairs, .ref (aM 12), .ref (aM 13), .int Mcaught, .int Mreadings, .ref (aM 14), .ref (aM 15)])), ((aM 1), .inl (cyI, 4, .inl M_sorts)), ((aM 2), .inl (cyI, 4, .inl M_sheetLong)), ((aM 3), .inl (cyI, 240, .inl (upd yM_cells (((60 * p3) + p4) + ((p5 - 1) - x8)).toNatClampNeg (yM_cells (((60 * p1) + p2) + ((p5 - 1) - x8)).toNatClampNeg))))] := hD
          refine lv_iinc (v := (x8 + 1)) (lv' := [(8, .int (x8 + 1)), (9, .int ((p5 - 1) - x8)), (0, .ref (aM 0)), (1, .int p1), (2, .int p2), (3, .int p3), (4, .int p4), (5, .int p5), (7, .int x7)]) hx hb dX4_copy_221 hl (k := 8) rfl rfl (by decide) rfl (fun ls hl => ?_)
          refine lv_goto (tgt := 166) hx hb dX4_copy_224 (by decide) ?_
          exact ih x7 (x8 + 1) yMfault (upd yM_cells (((60 * p3) + p4) + ((p5 - 1) - x8)).toNatClampNeg (yM_cells (((60 * p1) + p2) + ((p5 - 1) - x8)).toNatClampNeg)) H locs ls h hP hD hS (lv_sub hl [2, 3, 4, 5, 6, 7, 8, 0] rfl)
  refine lv_aload_n hx hb dX4_copy_0 rfl (lv_at hl 0 rfl) ?_
  refine lv_iconst (v := 0) hx hb dX4_copy_1 (by decide) ?_
  refine va_put (D := (dC, dI)) (ci := 4) (v := .int 0) (ty := .int) (C := RX4) (T := TX4) (N := 25) hx hb hts hiX4 tyX4 tyX4_ok nmX4 hown hK hP hD hS 0 rfl rfl 0 (by decide) hf55 (fun _ h9 => h9) rfl (tyX4_ok 0 (by decide)) rfl rfl (Nat.le_of_ble_eq_true rfl) dX4_copy_2 (fun H locs hP hD hS => ?_)
  have hP : va_P (dC, dI) vwCl [((aM 0), .inr (4, [.int 0, .int Mtrace, .ref (aM 1), .ref (aM 2), .ref (aM 3), .int Mdeeds, .int Mpeople, .ref (aM 4), .ref (aM 5), .ref (aM 6), .ref (aM 7), .ref (aM 8), .int Mat, .int MreadDeeds, .int MreadMany, .ref (aM 9), .ref (aM 10), .ref (aM 11), .int Mpairs, .ref (aM 12), .ref (aM 13), .int Mcaught, .int Mreadings, .ref (aM 14), .ref (aM 15)])), ((aM 1), .inl (cyI, 4, .inl M_sorts)), ((aM 2), .inl (cyI, 4, .inl M_sheetLong)), ((aM 3), .inl (cyI, 240, .inl M_cells))] H := hP
  have hD : va_D A [((aM 0), .inr (4, [.int 0, .int Mtrace, .ref (aM 1), .ref (aM 2), .ref (aM 3), .int Mdeeds, .int Mpeople, .ref (aM 4), .ref (aM 5), .ref (aM 6), .ref (aM 7), .ref (aM 8), .int Mat, .int MreadDeeds, .int MreadMany, .ref (aM 9), .ref (aM 10), .ref (aM 11), .int Mpairs, .ref (aM 12), .ref (aM 13), .int Mcaught, .int Mreadings, .ref (aM 14), .ref (aM 15)])), ((aM 1), .inl (cyI, 4, .inl M_sorts)), ((aM 2), .inl (cyI, 4, .inl M_sheetLong)), ((aM 3), .inl (cyI, 240, .inl M_cells))] := hD
  refine lv_iload_n hx hb dX4_copy_5 rfl (lv_at hl 1 rfl) ?_
  obtain ⟨o1, hc2, h⟩ := ob h
  refine k_si (As := [.int p1]) (rest := []) ⟨hx, hb, hml, hown, hts⟩ (c_X4_isSheet l dC dI cyI cyO H.size p1 hc2) (va_cwS 1 hts gX4_copy_X4_isSheet rfl rfl rfl (by decide +kernel) ⟨Nat.le_of_ble_eq_true rfl, Nat.le_of_ble_eq_true rfl⟩) hP hD hK hS hA [] [0, 1, 2, 3] rfl rfl (by decide) (by decide) (by decide) rfl hl.1 rfl (Nat.le_of_ble_eq_true rfl) dX4_copy_6 ⟨Nat.zero_le _, Nat.zero_le _⟩ (fun _ H locs hP hD hS => ?_)
  have hP : va_P (dC, dI) vwCl [((aM 0), .inr (4, [.int 0, .int Mtrace, .ref (aM 1), .ref (aM 2), .ref (aM 3), .int Mdeeds, .int Mpeople, .ref (aM 4), .ref (aM 5), .ref (aM 6), .ref (aM 7), .ref (aM 8), .int Mat, .int MreadDeeds, .int MreadMany, .ref (aM 9), .ref (aM 10), .ref (aM 11), .int Mpairs, .ref (aM 12), .ref (aM 13), .int Mcaught, .int Mreadings, .ref (aM 14), .ref (aM 15)])), ((aM 1), .inl (cyI, 4, .inl M_sorts)), ((aM 2), .inl (cyI, 4, .inl M_sheetLong)), ((aM 3), .inl (cyI, 240, .inl M_cells))] H := hP
  have hD : va_D A [((aM 0), .inr (4, [.int 0, .int Mtrace, .ref (aM 1), .ref (aM 2), .ref (aM 3), .int Mdeeds, .int Mpeople, .ref (aM 4), .ref (aM 5), .ref (aM 6), .ref (aM 7), .ref (aM 8), .int Mat, .int MreadDeeds, .int MreadMany, .ref (aM 9), .ref (aM 10), .ref (aM 11), .int Mpairs, .ref (aM 12), .ref (aM 13), .int Mcaught, .int Mreadings, .ref (aM 14), .ref (aM 15)])), ((aM 1), .inl (cyI, 4, .inl M_sorts)), ((aM 2), .inl (cyI, 4, .inl M_sheetLong)), ((aM 3), .inl (cyI, 240, .inl M_cells))] := hD
  refine lv_if_eq (tgt := 19) hx hb dX4_copy_9 (by decide) (fun c3 => ?_) (fun c3 => ?_)
  · replace h := it_t c3 h
    refine lv_iconst (v := (-1)) hx hb dX4_copy_19 (by decide) ?_
    replace h := Option.some.inj h; subst h
    exact hret () H locs _ ls hP hD hS dX4_copy_20 rfl
  · replace h := it_f c3 h
    refine lv_iload_n hx hb dX4_copy_12 rfl (lv_at hl 3 rfl) ?_
    obtain ⟨o4, hc5, h⟩ := ob h
    refine k_si (As := [.int p3]) (rest := []) ⟨hx, hb, hml, hown, hts⟩ (c_X4_isSheet l dC dI cyI cyO H.size p3 hc5) (va_cwS 1 hts gX4_copy_X4_isSheet rfl rfl rfl (by decide +kernel) ⟨Nat.le_of_ble_eq_true rfl, Nat.le_of_ble_eq_true rfl⟩) hP hD hK hS hA [] [0, 1, 2, 3] rfl rfl (by decide) (by decide) (by decide) rfl hl.1 rfl (Nat.le_of_ble_eq_true rfl) dX4_copy_13 ⟨Nat.zero_le _, Nat.zero_le _⟩ (fun _ H locs hP hD hS => ?_)
    have hP : va_P (dC, dI) vwCl [((aM 0), .inr (4, [.int 0, .int Mtrace, .ref (aM 1), .ref (aM 2), .ref (aM 3), .int Mdeeds, .int Mpeople, .ref (aM 4), .ref (aM 5), .ref (aM 6), .ref (aM 7), .ref (aM 8), .int Mat, .int MreadDeeds, .int MreadMany, .ref (aM 9), .ref (aM 10), .ref (aM 11), .int Mpairs, .ref (aM 12), .ref (aM 13), .int Mcaught, .int Mreadings, .ref (aM 14), .ref (aM 15)])), ((aM 1), .inl (cyI, 4, .inl M_sorts)), ((aM 2), .inl (cyI, 4, .inl M_sheetLong)), ((aM 3), .inl (cyI, 240, .inl M_cells))] H := hP
    have hD : va_D A [((aM 0), .inr (4, [.int 0, .int Mtrace, .ref (aM 1), .ref (aM 2), .ref (aM 3), .int Mdeeds, .int Mpeople, .ref (aM 4), .ref (aM 5), .ref (aM 6), .ref (aM 7), .ref (aM 8), .int Mat, .int MreadDeeds, .int MreadMany, .ref (aM 9), .ref (aM 10), .ref (aM 11), .int Mpairs, .ref (aM 12), .ref (aM 13), .int Mcaught, .int Mreadings, .ref (aM 14), .ref (aM 15)])), ((aM 1), .inl (cyI, 4, .inl M_sorts)), ((aM 2), .inl (cyI, 4, .inl M_sheetLong)), ((aM 3), .inl (cyI, 240, .inl M_cells))] := hD
    refine lv_if_ne (tgt := 21) hx hb dX4_copy_16 (by decide) (fun c6 => ?_) (fun c6 => ?_)
    · replace h := it_f c6 h
      refine lv_aload_n hx hb dX4_copy_21 rfl (lv_at hl 0 rfl) ?_
      refine va_get (D := (dC, dI)) (ci := 4) (v := .ref (aM 1)) (C := RX4) (T := TX4) (N := 25) hx hb hts hiX4 hown hK hP 0 rfl rfl 2 (by decide) hf9 (fun _ h9 => h9) rfl dX4_copy_22 ?_
      refine lv_iload_n hx hb dX4_copy_25 rfl (lv_at hl 1 rfl) ?_
      obtain ⟨e7, h⟩ := it_n h
      refine va_iald hx hb hK hP 1 0 rfl rfl (ix_in e7) dX4_copy_26 ?_
      refine lv_bipush (v := (-9)) hx hb dX4_copy_27 (by decide) ?_
      refine lv_icmp_eq (tgt := 43) hx hb dX4_copy_29 (by decide) (fun c8 => ?_) (fun c8 => ?_)
      · replace h := it_t c8 h
        refine lv_aload_n hx hb dX4_copy_43 rfl (lv_at hl 0 rfl) ?_
        refine lv_iconst (v := 1) hx hb dX4_copy_44 (by decide) ?_
        obtain ⟨o9, hc10, h⟩ := ob h
        refine k_vi (As := [.int 1]) (rest := []) ⟨hx, hb, hml, hown, hts⟩ (c_X4_fails l dC dI cyI cyO aM H.size 0 Mtrace Mdeeds Mpeople Mat MreadDeeds MreadMany Mpairs Mcaught Mreadings 1 hc10) (cwV 1 hts gX4_copy_X4_fails rfl rfl rfl (by decide +kernel) ⟨Nat.le_of_ble_eq_true rfl, Nat.le_of_ble_eq_true rfl⟩) hP hD hK hS hA [0] [1, 2, 3] rfl rfl (by decide) (by decide) (by decide) 4 0 rfl rfl rfl rfl hl.1 rfl (Nat.le_of_ble_eq_true rfl) dX4_copy_45 ⟨Nat.zero_le _, Nat.zero_le _⟩ (fun _ H locs hP hD hS => ?_)
        have hP : va_P (dC, dI) vwCl [((aM 1), .inl (cyI, 4, .inl M_sorts)), ((aM 2), .inl (cyI, 4, .inl M_sheetLong)), ((aM 3), .inl (cyI, 240, .inl M_cells)), ((aM 0), .inr (4, [.int o9.2, .int Mtrace, .ref (aM 1), .ref (aM 2), .ref (aM 3), .int Mdeeds, .int Mpeople, .ref (aM 4), .ref (aM 5), .ref (aM 6), .ref (aM 7), .ref (aM 8), .int Mat, .int MreadDeeds, .int MreadMany, .ref (aM 9), .ref (aM 10), .ref (aM 11), .int Mpairs, .ref (aM 12), .ref (aM 13), .int Mcaught, .int Mreadings, .ref (aM 14), .ref (aM 15)]))] H := hP
        have hD : va_D A [((aM 1), .inl (cyI, 4, .inl M_sorts)), ((aM 2), .inl (cyI, 4, .inl M_sheetLong)), ((aM 3), .inl (cyI, 240, .inl M_cells)), ((aM 0), .inr (4, [.int o9.2, .int Mtrace, .ref (aM 1), .ref (aM 2), .ref (aM 3), .int Mdeeds, .int Mpeople, .ref (aM 4), .ref (aM 5), .ref (aM 6), .ref (aM 7), .ref (aM 8), .int Mat, .int MreadDeeds, .int MreadMany, .ref (aM 9), .ref (aM 10), .ref (aM 11), .int Mpairs, .ref (aM 12), .ref (aM 13), .int Mcaught, .int Mreadings, .ref (aM 14), .ref (aM 15)]))] := hD
        replace h := Option.some.inj h; subst h
        have hP := hP.sub (ws' := [((aM 0), .inr (4, [.int o9.2, .int Mtrace, .ref (aM 1), .ref (aM 2), .ref (aM 3), .int Mdeeds, .int Mpeople, .ref (aM 4), .ref (aM 5), .ref (aM 6), .ref (aM 7), .ref (aM 8), .int Mat, .int MreadDeeds, .int MreadMany, .ref (aM 9), .ref (aM 10), .ref (aM 11), .int Mpairs, .ref (aM 12), .ref (aM 13), .int Mcaught, .int Mreadings, .ref (aM 14), .ref (aM 15)])), ((aM 1), .inl (cyI, 4, .inl M_sorts)), ((aM 2), .inl (cyI, 4, .inl M_sheetLong)), ((aM 3), .inl (cyI, 240, .inl M_cells))]) [3, 0, 1, 2] rfl
        have hD := hD.sub (ws' := [((aM 0), .inr (4, [.int o9.2, .int Mtrace, .ref (aM 1), .ref (aM 2), .ref (aM 3), .int Mdeeds, .int Mpeople, .ref (aM 4), .ref (aM 5), .ref (aM 6), .ref (aM 7), .ref (aM 8), .int Mat, .int MreadDeeds, .int MreadMany, .ref (aM 9), .ref (aM 10), .ref (aM 11), .int Mpairs, .ref (aM 12), .ref (aM 13), .int Mcaught, .int Mreadings, .ref (aM 14), .ref (aM 15)])), ((aM 1), .inl (cyI, 4, .inl M_sorts)), ((aM 2), .inl (cyI, 4, .inl M_sheetLong)), ((aM 3), .inl (cyI, 240, .inl M_cells))]) [3, 0, 1, 2] (by decide) rfl
        exact hret () H locs _ ls hP hD hS dX4_copy_48 rfl
      · replace h := it_f c8 h
        refine lv_aload_n hx hb dX4_copy_32 rfl (lv_at hl 0 rfl) ?_
        refine va_get (D := (dC, dI)) (ci := 4) (v := .ref (aM 1)) (C := RX4) (T := TX4) (N := 25) hx hb hts hiX4 hown hK hP 0 rfl rfl 2 (by decide) hf9 (fun _ h9 => h9) rfl dX4_copy_33 ?_
        refine lv_iload_n hx hb dX4_copy_36 rfl (lv_at hl 3 rfl) ?_
        obtain ⟨e11, h⟩ := it_n h
        refine va_iald hx hb hK hP 1 0 rfl rfl (ix_in e11) dX4_copy_37 ?_
        refine lv_bipush (v := (-9)) hx hb dX4_copy_38 (by decide) ?_
        refine lv_icmp_ne (tgt := 49) hx hb dX4_copy_40 (by decide) (fun c12 => ?_) (fun c12 => ?_)
        · replace h := it_f c12 h
          refine lv_aload_n hx hb dX4_copy_49 rfl (lv_at hl 0 rfl) ?_
          refine va_get (D := (dC, dI)) (ci := 4) (v := .ref (aM 1)) (C := RX4) (T := TX4) (N := 25) hx hb hts hiX4 hown hK hP 0 rfl rfl 2 (by decide) hf9 (fun _ h9 => h9) rfl dX4_copy_50 ?_
          refine lv_iload_n hx hb dX4_copy_53 rfl (lv_at hl 1 rfl) ?_
          obtain ⟨e13, h⟩ := it_n h
          refine va_iald hx hb hK hP 1 0 rfl rfl (ix_in e13) dX4_copy_54 ?_
          refine lv_aload_n hx hb dX4_copy_55 rfl (lv_at hl 0 rfl) ?_
          refine va_get (D := (dC, dI)) (ci := 4) (v := .ref (aM 1)) (C := RX4) (T := TX4) (N := 25) hx hb hts hiX4 hown hK hP 0 rfl rfl 2 (by decide) hf9 (fun _ h9 => h9) rfl dX4_copy_56 ?_
          refine lv_iload_n hx hb dX4_copy_59 rfl (lv_at hl 3 rfl) ?_
          obtain ⟨e14, h⟩ := it_n h
          refine va_iald hx hb hK hP 1 0 rfl rfl (ix_in e14) dX4_copy_60 ?_
          refine lv_icmp_eq (tgt := 70) hx hb dX4_copy_61 (by decide) (fun c15 => ?_) (fun c15 => ?_)
          · replace h := it_t c15 h
            refine lv_iload_n hx hb dX4_copy_70 rfl (lv_at hl 2 rfl) ?_
            refine lv_if_lt (tgt := 109) hx hb dX4_copy_71 (by decide) (fun c16 => ?_) (fun c16 => ?_)
            · replace h := it_t c16 h
              refine lv_iconst (v := 0) hx hb dX4_copy_109 (by decide) ?_
              refine lv_istore (lv' := [(6, .int 0), (0, .ref (aM 0)), (1, .int p1), (2, .int p2), (3, .int p3), (4, .int p4), (5, .int p5)]) hx hb dX4_copy_110 hl (by decide) rfl (fun ls hl => ?_)
              refine lv_iload hx hb dX4_copy_112 (lv_at hl 0 rfl) ?_
              refine lv_if_eq (tgt := 144) hx hb dX4_copy_114 (by decide) (fun _ => ?_) (fun q => absurd q (by decide))
              refine lv_aload_n hx hb dX4_copy_144 rfl (lv_at hl 1 rfl) ?_
              refine lv_iconst (v := 3) hx hb dX4_copy_145 (by decide) ?_
              obtain ⟨o17, hc18, h⟩ := ob h
              refine k_vi (As := [.int 3]) (rest := []) ⟨hx, hb, hml, hown, hts⟩ (c_X4_fails l dC dI cyI cyO aM H.size 0 Mtrace Mdeeds Mpeople Mat MreadDeeds MreadMany Mpairs Mcaught Mreadings 3 hc18) (cwV 1 hts gX4_copy_X4_fails rfl rfl rfl (by decide +kernel) ⟨Nat.le_of_ble_eq_true rfl, Nat.le_of_ble_eq_true rfl⟩) hP hD hK hS hA [0] [1, 2, 3] rfl rfl (by decide) (by decide) (by decide) 4 0 rfl rfl rfl rfl hl.1 rfl (Nat.le_of_ble_eq_true rfl) dX4_copy_146 ⟨Nat.zero_le _, Nat.zero_le _⟩ (fun _ H locs hP hD hS => ?_)
              have hP : va_P (dC, dI) vwCl [((aM 1), .inl (cyI, 4, .inl M_sorts)), ((aM 2), .inl (cyI, 4, .inl M_sheetLong)), ((aM 3), .inl (cyI, 240, .inl M_cells)), ((aM 0), .inr (4, [.int o17.2, .int Mtrace, .ref (aM 1), .ref (aM 2), .ref (aM 3), .int Mdeeds, .int Mpeople, .ref (aM 4), .ref (aM 5), .ref (aM 6), .ref (aM 7), .ref (aM 8), .int Mat, .int MreadDeeds, .int MreadMany, .ref (aM 9), .ref (aM 10), .ref (aM 11), .int Mpairs, .ref (aM 12), .ref (aM 13), .int Mcaught, .int Mreadings, .ref (aM 14), .ref (aM 15)]))] H := hP
              have hD : va_D A [((aM 1), .inl (cyI, 4, .inl M_sorts)), ((aM 2), .inl (cyI, 4, .inl M_sheetLong)), ((aM 3), .inl (cyI, 240, .inl M_cells)), ((aM 0), .inr (4, [.int o17.2, .int Mtrace, .ref (aM 1), .ref (aM 2), .ref (aM 3), .int Mdeeds, .int Mpeople, .ref (aM 4), .ref (aM 5), .ref (aM 6), .ref (aM 7), .ref (aM 8), .int Mat, .int MreadDeeds, .int MreadMany, .ref (aM 9), .ref (aM 10), .ref (aM 11), .int Mpairs, .ref (aM 12), .ref (aM 13), .int Mcaught, .int Mreadings, .ref (aM 14), .ref (aM 15)]))] := hD
              replace h := Option.some.inj h; subst h
              have hP := hP.sub (ws' := [((aM 0), .inr (4, [.int o17.2, .int Mtrace, .ref (aM 1), .ref (aM 2), .ref (aM 3), .int Mdeeds, .int Mpeople, .ref (aM 4), .ref (aM 5), .ref (aM 6), .ref (aM 7), .ref (aM 8), .int Mat, .int MreadDeeds, .int MreadMany, .ref (aM 9), .ref (aM 10), .ref (aM 11), .int Mpairs, .ref (aM 12), .ref (aM 13), .int Mcaught, .int Mreadings, .ref (aM 14), .ref (aM 15)])), ((aM 1), .inl (cyI, 4, .inl M_sorts)), ((aM 2), .inl (cyI, 4, .inl M_sheetLong)), ((aM 3), .inl (cyI, 240, .inl M_cells))]) [3, 0, 1, 2] rfl
              have hD := hD.sub (ws' := [((aM 0), .inr (4, [.int o17.2, .int Mtrace, .ref (aM 1), .ref (aM 2), .ref (aM 3), .int Mdeeds, .int Mpeople, .ref (aM 4), .ref (aM 5), .ref (aM 6), .ref (aM 7), .ref (aM 8), .int Mat, .int MreadDeeds, .int MreadMany, .ref (aM 9), .ref (aM 10), .ref (aM 11), .int Mpairs, .ref (aM 12), .ref (aM 13), .int Mcaught, .int Mreadings, .ref (aM 14), .ref (aM 15)])), ((aM 1), .inl (cyI, 4, .inl M_sorts)), ((aM 2), .inl (cyI, 4, .inl M_sheetLong)), ((aM 3), .inl (cyI, 240, .inl M_cells))]) [3, 0, 1, 2] (by decide) rfl
              exact hret () H locs _ ls hP hD hS dX4_copy_149 rfl
            · replace h := it_f c16 h
              refine lv_iload hx hb dX4_copy_74 (lv_at hl 4 rfl) ?_
              refine lv_if_lt (tgt := 109) hx hb dX4_copy_76 (by decide) (fun c19 => ?_) (fun c19 => ?_)
              · replace h := it_t c19 h
                refine lv_iconst (v := 0) hx hb dX4_copy_109 (by decide) ?_
                refine lv_istore (lv' := [(6, .int 0), (0, .ref (aM 0)), (1, .int p1), (2, .int p2), (3, .int p3), (4, .int p4), (5, .int p5)]) hx hb dX4_copy_110 hl (by decide) rfl (fun ls hl => ?_)
                refine lv_iload hx hb dX4_copy_112 (lv_at hl 0 rfl) ?_
                refine lv_if_eq (tgt := 144) hx hb dX4_copy_114 (by decide) (fun _ => ?_) (fun q => absurd q (by decide))
                refine lv_aload_n hx hb dX4_copy_144 rfl (lv_at hl 1 rfl) ?_
                refine lv_iconst (v := 3) hx hb dX4_copy_145 (by decide) ?_
                obtain ⟨o20, hc21, h⟩ := ob h
                refine k_vi (As := [.int 3]) (rest := []) ⟨hx, hb, hml, hown, hts⟩ (c_X4_fails l dC dI cyI cyO aM H.size 0 Mtrace Mdeeds Mpeople Mat MreadDeeds MreadMany Mpairs Mcaught Mreadings 3 hc21) (cwV 1 hts gX4_copy_X4_fails rfl rfl rfl (by decide +kernel) ⟨Nat.le_of_ble_eq_true rfl, Nat.le_of_ble_eq_true rfl⟩) hP hD hK hS hA [0] [1, 2, 3] rfl rfl (by decide) (by decide) (by decide) 4 0 rfl rfl rfl rfl hl.1 rfl (Nat.le_of_ble_eq_true rfl) dX4_copy_146 ⟨Nat.zero_le _, Nat.zero_le _⟩ (fun _ H locs hP hD hS => ?_)
                have hP : va_P (dC, dI) vwCl [((aM 1), .inl (cyI, 4, .inl M_sorts)), ((aM 2), .inl (cyI, 4, .inl M_sheetLong)), ((aM 3), .inl (cyI, 240, .inl M_cells)), ((aM 0), .inr (4, [.int o20.2, .int Mtrace, .ref (aM 1), .ref (aM 2), .ref (aM 3), .int Mdeeds, .int Mpeople, .ref (aM 4), .ref (aM 5), .ref (aM 6), .ref (aM 7), .ref (aM 8), .int Mat, .int MreadDeeds, .int MreadMany, .ref (aM 9), .ref (aM 10), .ref (aM 11), .int Mpairs, .ref (aM 12), .ref (aM 13), .int Mcaught, .int Mreadings, .ref (aM 14), .ref (aM 15)]))] H := hP
                have hD : va_D A [((aM 1), .inl (cyI, 4, .inl M_sorts)), ((aM 2), .inl (cyI, 4, .inl M_sheetLong)), ((aM 3), .inl (cyI, 240, .inl M_cells)), ((aM 0), .inr (4, [.int o20.2, .int Mtrace, .ref (aM 1), .ref (aM 2), .ref (aM 3), .int Mdeeds, .int Mpeople, .ref (aM 4), .ref (aM 5), .ref (aM 6), .ref (aM 7), .ref (aM 8), .int Mat, .int MreadDeeds, .int MreadMany, .ref (aM 9), .ref (aM 10), .ref (aM 11), .int Mpairs, .ref (aM 12), .ref (aM 13), .int Mcaught, .int Mreadings, .ref (aM 14), .ref (aM 15)]))] := hD
                replace h := Option.some.inj h; subst h
                have hP := hP.sub (ws' := [((aM 0), .inr (4, [.int o20.2, .int Mtrace, .ref (aM 1), .ref (aM 2), .ref (aM 3), .int Mdeeds, .int Mpeople, .ref (aM 4), .ref (aM 5), .ref (aM 6), .ref (aM 7), .ref (aM 8), .int Mat, .int MreadDeeds, .int MreadMany, .ref (aM 9), .ref (aM 10), .ref (aM 11), .int Mpairs, .ref (aM 12), .ref (aM 13), .int Mcaught, .int Mreadings, .ref (aM 14), .ref (aM 15)])), ((aM 1), .inl (cyI, 4, .inl M_sorts)), ((aM 2), .inl (cyI, 4, .inl M_sheetLong)), ((aM 3), .inl (cyI, 240, .inl M_cells))]) [3, 0, 1, 2] rfl
                have hD := hD.sub (ws' := [((aM 0), .inr (4, [.int o20.2, .int Mtrace, .ref (aM 1), .ref (aM 2), .ref (aM 3), .int Mdeeds, .int Mpeople, .ref (aM 4), .ref (aM 5), .ref (aM 6), .ref (aM 7), .ref (aM 8), .int Mat, .int MreadDeeds, .int MreadMany, .ref (aM 9), .ref (aM 10), .ref (aM 11), .int Mpairs, .ref (aM 12), .ref (aM 13), .int Mcaught, .int Mreadings, .ref (aM 14), .ref (aM 15)])), ((aM 1), .inl (cyI, 4, .inl M_sorts)), ((aM 2), .inl (cyI, 4, .inl M_sheetLong)), ((aM 3), .inl (cyI, 240, .inl M_cells))]) [3, 0, 1, 2] (by decide) rfl
                exact hret () H locs _ ls hP hD hS dX4_copy_149 rfl
              · replace h := it_f c19 h
                refine lv_iload hx hb dX4_copy_79 (lv_at hl 5 rfl) ?_
                refine lv_if_lt (tgt := 109) hx hb dX4_copy_81 (by decide) (fun c22 => ?_) (fun c22 => ?_)
                · replace h := it_t c22 h
                  refine lv_iconst (v := 0) hx hb dX4_copy_109 (by decide) ?_
                  refine lv_istore (lv' := [(6, .int 0), (0, .ref (aM 0)), (1, .int p1), (2, .int p2), (3, .int p3), (4, .int p4), (5, .int p5)]) hx hb dX4_copy_110 hl (by decide) rfl (fun ls hl => ?_)
                  refine lv_iload hx hb dX4_copy_112 (lv_at hl 0 rfl) ?_
                  refine lv_if_eq (tgt := 144) hx hb dX4_copy_114 (by decide) (fun _ => ?_) (fun q => absurd q (by decide))
                  refine lv_aload_n hx hb dX4_copy_144 rfl (lv_at hl 1 rfl) ?_
                  refine lv_iconst (v := 3) hx hb dX4_copy_145 (by decide) ?_
                  obtain ⟨o23, hc24, h⟩ := ob h
                  refine k_vi (As := [.int 3]) (rest := []) ⟨hx, hb, hml, hown, hts⟩ (c_X4_fails l dC dI cyI cyO aM H.size 0 Mtrace Mdeeds Mpeople Mat MreadDeeds MreadMany Mpairs Mcaught Mreadings 3 hc24) (cwV 1 hts gX4_copy_X4_fails rfl rfl rfl (by decide +kernel) ⟨Nat.le_of_ble_eq_true rfl, Nat.le_of_ble_eq_true rfl⟩) hP hD hK hS hA [0] [1, 2, 3] rfl rfl (by decide) (by decide) (by decide) 4 0 rfl rfl rfl rfl hl.1 rfl (Nat.le_of_ble_eq_true rfl) dX4_copy_146 ⟨Nat.zero_le _, Nat.zero_le _⟩ (fun _ H locs hP hD hS => ?_)
                  have hP : va_P (dC, dI) vwCl [((aM 1), .inl (cyI, 4, .inl M_sorts)), ((aM 2), .inl (cyI, 4, .inl M_sheetLong)), ((aM 3), .inl (cyI, 240, .inl M_cells)), ((aM 0), .inr (4, [.int o23.2, .int Mtrace, .ref (aM 1), .ref (aM 2), .ref (aM 3), .int Mdeeds, .int Mpeople, .ref (aM 4), .ref (aM 5), .ref (aM 6), .ref (aM 7), .ref (aM 8), .int Mat, .int MreadDeeds, .int MreadMany, .ref (aM 9), .ref (aM 10), .ref (aM 11), .int Mpairs, .ref (aM 12), .ref (aM 13), .int Mcaught, .int Mreadings, .ref (aM 14), .ref (aM 15)]))] H := hP
                  have hD : va_D A [((aM 1), .inl (cyI, 4, .inl M_sorts)), ((aM 2), .inl (cyI, 4, .inl M_sheetLong)), ((aM 3), .inl (cyI, 240, .inl M_cells)), ((aM 0), .inr (4, [.int o23.2, .int Mtrace, .ref (aM 1), .ref (aM 2), .ref (aM 3), .int Mdeeds, .int Mpeople, .ref (aM 4), .ref (aM 5), .ref (aM 6), .ref (aM 7), .ref (aM 8), .int Mat, .int MreadDeeds, .int MreadMany, .ref (aM 9), .ref (aM 10), .ref (aM 11), .int Mpairs, .ref (aM 12), .ref (aM 13), .int Mcaught, .int Mreadings, .ref (aM 14), .ref (aM 15)]))] := hD
                  replace h := Option.some.inj h; subst h
                  have hP := hP.sub (ws' := [((aM 0), .inr (4, [.int o23.2, .int Mtrace, .ref (aM 1), .ref (aM 2), .ref (aM 3), .int Mdeeds, .int Mpeople, .ref (aM 4), .ref (aM 5), .ref (aM 6), .ref (aM 7), .ref (aM 8), .int Mat, .int MreadDeeds, .int MreadMany, .ref (aM 9), .ref (aM 10), .ref (aM 11), .int Mpairs, .ref (aM 12), .ref (aM 13), .int Mcaught, .int Mreadings, .ref (aM 14), .ref (aM 15)])), ((aM 1), .inl (cyI, 4, .inl M_sorts)), ((aM 2), .inl (cyI, 4, .inl M_sheetLong)), ((aM 3), .inl (cyI, 240, .inl M_cells))]) [3, 0, 1, 2] rfl
                  have hD := hD.sub (ws' := [((aM 0), .inr (4, [.int o23.2, .int Mtrace, .ref (aM 1), .ref (aM 2), .ref (aM 3), .int Mdeeds, .int Mpeople, .ref (aM 4), .ref (aM 5), .ref (aM 6), .ref (aM 7), .ref (aM 8), .int Mat, .int MreadDeeds, .int MreadMany, .ref (aM 9), .ref (aM 10), .ref (aM 11), .int Mpairs, .ref (aM 12), .ref (aM 13), .int Mcaught, .int Mreadings, .ref (aM 14), .ref (aM 15)])), ((aM 1), .inl (cyI, 4, .inl M_sorts)), ((aM 2), .inl (cyI, 4, .inl M_sheetLong)), ((aM 3), .inl (cyI, 240, .inl M_cells))]) [3, 0, 1, 2] (by decide) rfl
                  exact hret () H locs _ ls hP hD hS dX4_copy_149 rfl
                · replace h := it_f c22 h
                  refine lv_iload_n hx hb dX4_copy_84 rfl (lv_at hl 2 rfl) ?_
                  refine lv_aload_n hx hb dX4_copy_85 rfl (lv_at hl 0 rfl) ?_
                  refine va_get (D := (dC, dI)) (ci := 4) (v := .ref (aM 2)) (C := RX4) (T := TX4) (N := 25) hx hb hts hiX4 hown hK hP 0 rfl rfl 3 (by decide) hf13 (fun _ h9 => h9) rfl dX4_copy_86 ?_
                  refine lv_iload_n hx hb dX4_copy_89 rfl (lv_at hl 1 rfl) ?_
                  obtain ⟨e25, h⟩ := it_n h
                  refine va_iald hx hb hK hP 2 0 rfl rfl (ix_in e25) dX4_copy_90 ?_
                  refine lv_icmp_gt (tgt := 109) hx hb dX4_copy_91 (by decide) (fun c26 => ?_) (fun c26 => ?_)
                  · replace h := it_t c26 h
                    refine lv_iconst (v := 0) hx hb dX4_copy_109 (by decide) ?_
                    refine lv_istore (lv' := [(6, .int 0), (0, .ref (aM 0)), (1, .int p1), (2, .int p2), (3, .int p3), (4, .int p4), (5, .int p5)]) hx hb dX4_copy_110 hl (by decide) rfl (fun ls hl => ?_)
                    refine lv_iload hx hb dX4_copy_112 (lv_at hl 0 rfl) ?_
                    refine lv_if_eq (tgt := 144) hx hb dX4_copy_114 (by decide) (fun _ => ?_) (fun q => absurd q (by decide))
                    refine lv_aload_n hx hb dX4_copy_144 rfl (lv_at hl 1 rfl) ?_
                    refine lv_iconst (v := 3) hx hb dX4_copy_145 (by decide) ?_
                    obtain ⟨o27, hc28, h⟩ := ob h
                    refine k_vi (As := [.int 3]) (rest := []) ⟨hx, hb, hml, hown, hts⟩ (c_X4_fails l dC dI cyI cyO aM H.size 0 Mtrace Mdeeds Mpeople Mat MreadDeeds MreadMany Mpairs Mcaught Mreadings 3 hc28) (cwV 1 hts gX4_copy_X4_fails rfl rfl rfl (by decide +kernel) ⟨Nat.le_of_ble_eq_true rfl, Nat.le_of_ble_eq_true rfl⟩) hP hD hK hS hA [0] [1, 2, 3] rfl rfl (by decide) (by decide) (by decide) 4 0 rfl rfl rfl rfl hl.1 rfl (Nat.le_of_ble_eq_true rfl) dX4_copy_146 ⟨Nat.zero_le _, Nat.zero_le _⟩ (fun _ H locs hP hD hS => ?_)
                    have hP : va_P (dC, dI) vwCl [((aM 1), .inl (cyI, 4, .inl M_sorts)), ((aM 2), .inl (cyI, 4, .inl M_sheetLong)), ((aM 3), .inl (cyI, 240, .inl M_cells)), ((aM 0), .inr (4, [.int o27.2, .int Mtrace, .ref (aM 1), .ref (aM 2), .ref (aM 3), .int Mdeeds, .int Mpeople, .ref (aM 4), .ref (aM 5), .ref (aM 6), .ref (aM 7), .ref (aM 8), .int Mat, .int MreadDeeds, .int MreadMany, .ref (aM 9), .ref (aM 10), .ref (aM 11), .int Mpairs, .ref (aM 12), .ref (aM 13), .int Mcaught, .int Mreadings, .ref (aM 14), .ref (aM 15)]))] H := hP
                    have hD : va_D A [((aM 1), .inl (cyI, 4, .inl M_sorts)), ((aM 2), .inl (cyI, 4, .inl M_sheetLong)), ((aM 3), .inl (cyI, 240, .inl M_cells)), ((aM 0), .inr (4, [.int o27.2, .int Mtrace, .ref (aM 1), .ref (aM 2), .ref (aM 3), .int Mdeeds, .int Mpeople, .ref (aM 4), .ref (aM 5), .ref (aM 6), .ref (aM 7), .ref (aM 8), .int Mat, .int MreadDeeds, .int MreadMany, .ref (aM 9), .ref (aM 10), .ref (aM 11), .int Mpairs, .ref (aM 12), .ref (aM 13), .int Mcaught, .int Mreadings, .ref (aM 14), .ref (aM 15)]))] := hD
                    replace h := Option.some.inj h; subst h
                    have hP := hP.sub (ws' := [((aM 0), .inr (4, [.int o27.2, .int Mtrace, .ref (aM 1), .ref (aM 2), .ref (aM 3), .int Mdeeds, .int Mpeople, .ref (aM 4), .ref (aM 5), .ref (aM 6), .ref (aM 7), .ref (aM 8), .int Mat, .int MreadDeeds, .int MreadMany, .ref (aM 9), .ref (aM 10), .ref (aM 11), .int Mpairs, .ref (aM 12), .ref (aM 13), .int Mcaught, .int Mreadings, .ref (aM 14), .ref (aM 15)])), ((aM 1), .inl (cyI, 4, .inl M_sorts)), ((aM 2), .inl (cyI, 4, .inl M_sheetLong)), ((aM 3), .inl (cyI, 240, .inl M_cells))]) [3, 0, 1, 2] rfl
                    have hD := hD.sub (ws' := [((aM 0), .inr (4, [.int o27.2, .int Mtrace, .ref (aM 1), .ref (aM 2), .ref (aM 3), .int Mdeeds, .int Mpeople, .ref (aM 4), .ref (aM 5), .ref (aM 6), .ref (aM 7), .ref (aM 8), .int Mat, .int MreadDeeds, .int MreadMany, .ref (aM 9), .ref (aM 10), .ref (aM 11), .int Mpairs, .ref (aM 12), .ref (aM 13), .int Mcaught, .int Mreadings, .ref (aM 14), .ref (aM 15)])), ((aM 1), .inl (cyI, 4, .inl M_sorts)), ((aM 2), .inl (cyI, 4, .inl M_sheetLong)), ((aM 3), .inl (cyI, 240, .inl M_cells))]) [3, 0, 1, 2] (by decide) rfl
                    exact hret () H locs _ ls hP hD hS dX4_copy_149 rfl
                  · replace h := it_f c26 h
                    refine lv_iload hx hb dX4_copy_94 (lv_at hl 4 rfl) ?_
                    refine lv_aload_n hx hb dX4_copy_96 rfl (lv_at hl 0 rfl) ?_
                    refine va_get (D := (dC, dI)) (ci := 4) (v := .ref (aM 2)) (C := RX4) (T := TX4) (N := 25) hx hb hts hiX4 hown hK hP 0 rfl rfl 3 (by decide) hf13 (fun _ h9 => h9) rfl dX4_copy_97 ?_
                    refine lv_iload_n hx hb dX4_copy_100 rfl (lv_at hl 3 rfl) ?_
                    obtain ⟨e29, h⟩ := it_n h
                    refine va_iald hx hb hK hP 2 0 rfl rfl (ix_in e29) dX4_copy_101 ?_
                    refine lv_icmp_gt (tgt := 109) hx hb dX4_copy_102 (by decide) (fun c30 => ?_) (fun c30 => ?_)
                    · replace h := it_t c30 h
                      refine lv_iconst (v := 0) hx hb dX4_copy_109 (by decide) ?_
                      refine lv_istore (lv' := [(6, .int 0), (0, .ref (aM 0)), (1, .int p1), (2, .int p2), (3, .int p3), (4, .int p4), (5, .int p5)]) hx hb dX4_copy_110 hl (by decide) rfl (fun ls hl => ?_)
                      refine lv_iload hx hb dX4_copy_112 (lv_at hl 0 rfl) ?_
                      refine lv_if_eq (tgt := 144) hx hb dX4_copy_114 (by decide) (fun _ => ?_) (fun q => absurd q (by decide))
                      refine lv_aload_n hx hb dX4_copy_144 rfl (lv_at hl 1 rfl) ?_
                      refine lv_iconst (v := 3) hx hb dX4_copy_145 (by decide) ?_
                      obtain ⟨o31, hc32, h⟩ := ob h
                      refine k_vi (As := [.int 3]) (rest := []) ⟨hx, hb, hml, hown, hts⟩ (c_X4_fails l dC dI cyI cyO aM H.size 0 Mtrace Mdeeds Mpeople Mat MreadDeeds MreadMany Mpairs Mcaught Mreadings 3 hc32) (cwV 1 hts gX4_copy_X4_fails rfl rfl rfl (by decide +kernel) ⟨Nat.le_of_ble_eq_true rfl, Nat.le_of_ble_eq_true rfl⟩) hP hD hK hS hA [0] [1, 2, 3] rfl rfl (by decide) (by decide) (by decide) 4 0 rfl rfl rfl rfl hl.1 rfl (Nat.le_of_ble_eq_true rfl) dX4_copy_146 ⟨Nat.zero_le _, Nat.zero_le _⟩ (fun _ H locs hP hD hS => ?_)
                      have hP : va_P (dC, dI) vwCl [((aM 1), .inl (cyI, 4, .inl M_sorts)), ((aM 2), .inl (cyI, 4, .inl M_sheetLong)), ((aM 3), .inl (cyI, 240, .inl M_cells)), ((aM 0), .inr (4, [.int o31.2, .int Mtrace, .ref (aM 1), .ref (aM 2), .ref (aM 3), .int Mdeeds, .int Mpeople, .ref (aM 4), .ref (aM 5), .ref (aM 6), .ref (aM 7), .ref (aM 8), .int Mat, .int MreadDeeds, .int MreadMany, .ref (aM 9), .ref (aM 10), .ref (aM 11), .int Mpairs, .ref (aM 12), .ref (aM 13), .int Mcaught, .int Mreadings, .ref (aM 14), .ref (aM 15)]))] H := hP
                      have hD : va_D A [((aM 1), .inl (cyI, 4, .inl M_sorts)), ((aM 2), .inl (cyI, 4, .inl M_sheetLong)), ((aM 3), .inl (cyI, 240, .inl M_cells)), ((aM 0), .inr (4, [.int o31.2, .int Mtrace, .ref (aM 1), .ref (aM 2), .ref (aM 3), .int Mdeeds, .int Mpeople, .ref (aM 4), .ref (aM 5), .ref (aM 6), .ref (aM 7), .ref (aM 8), .int Mat, .int MreadDeeds, .int MreadMany, .ref (aM 9), .ref (aM 10), .ref (aM 11), .int Mpairs, .ref (aM 12), .ref (aM 13), .int Mcaught, .int Mreadings, .ref (aM 14), .ref (aM 15)]))] := hD
                      replace h := Option.some.inj h; subst h
                      have hP := hP.sub (ws' := [((aM 0), .inr (4, [.int o31.2, .int Mtrace, .ref (aM 1), .ref (aM 2), .ref (aM 3), .int Mdeeds, .int Mpeople, .ref (aM 4), .ref (aM 5), .ref (aM 6), .ref (aM 7), .ref (aM 8), .int Mat, .int MreadDeeds, .int MreadMany, .ref (aM 9), .ref (aM 10), .ref (aM 11), .int Mpairs, .ref (aM 12), .ref (aM 13), .int Mcaught, .int Mreadings, .ref (aM 14), .ref (aM 15)])), ((aM 1), .inl (cyI, 4, .inl M_sorts)), ((aM 2), .inl (cyI, 4, .inl M_sheetLong)), ((aM 3), .inl (cyI, 240, .inl M_cells))]) [3, 0, 1, 2] rfl
                      have hD := hD.sub (ws' := [((aM 0), .inr (4, [.int o31.2, .int Mtrace, .ref (aM 1), .ref (aM 2), .ref (aM 3), .int Mdeeds, .int Mpeople, .ref (aM 4), .ref (aM 5), .ref (aM 6), .ref (aM 7), .ref (aM 8), .int Mat, .int MreadDeeds, .int MreadMany, .ref (aM 9), .ref (aM 10), .ref (aM 11), .int Mpairs, .ref (aM 12), .ref (aM 13), .int Mcaught, .int Mreadings, .ref (aM 14), .ref (aM 15)])), ((aM 1), .inl (cyI, 4, .inl M_sorts)), ((aM 2), .inl (cyI, 4, .inl M_sheetLong)), ((aM 3), .inl (cyI, 240, .inl M_cells))]) [3, 0, 1, 2] (by decide) rfl
                      exact hret () H locs _ ls hP hD hS dX4_copy_149 rfl
                    · replace h := it_f c30 h
                      refine lv_iconst (v := 1) hx hb dX4_copy_105 (by decide) ?_
                      refine lv_goto (tgt := 110) hx hb dX4_copy_106 (by decide) ?_
                      refine lv_istore (lv' := [(6, .int 1), (0, .ref (aM 0)), (1, .int p1), (2, .int p2), (3, .int p3), (4, .int p4), (5, .int p5)]) hx hb dX4_copy_110 hl (by decide) rfl (fun ls hl => ?_)
                      refine lv_iload hx hb dX4_copy_112 (lv_at hl 0 rfl) ?_
                      refine lv_if_eq (tgt := 144) hx hb dX4_copy_114 (by decide) (fun q => absurd q (by decide)) (fun _ => ?_)
                      refine lv_iload hx hb dX4_copy_117 (lv_at hl 6 rfl) ?_
                      refine lv_aload_n hx hb dX4_copy_119 rfl (lv_at hl 1 rfl) ?_
                      refine va_get (D := (dC, dI)) (ci := 4) (v := .ref (aM 2)) (C := RX4) (T := TX4) (N := 25) hx hb hts hiX4 hown hK hP 0 rfl rfl 3 (by decide) hf13 (fun _ h9 => h9) rfl dX4_copy_120 ?_
                      refine lv_iload_n hx hb dX4_copy_123 rfl (lv_at hl 2 rfl) ?_
                      obtain ⟨e33, h⟩ := it_n h
                      refine va_iald hx hb hK hP 2 0 rfl rfl (ix_in e33) dX4_copy_124 ?_
                      refine lv_iload_n hx hb dX4_copy_125 rfl (lv_at hl 3 rfl) ?_
                      refine lv_isub hx hb dX4_copy_126 ?_
                      refine lv_icmp_gt (tgt := 144) hx hb dX4_copy_127 (by decide) (fun c34 => ?_) (fun c34 => ?_)
                      · replace h := it_t c34 h
                        refine lv_aload_n hx hb dX4_copy_144 rfl (lv_at hl 1 rfl) ?_
                        refine lv_iconst (v := 3) hx hb dX4_copy_145 (by decide) ?_
                        obtain ⟨o35, hc36, h⟩ := ob h
                        refine k_vi (As := [.int 3]) (rest := []) ⟨hx, hb, hml, hown, hts⟩ (c_X4_fails l dC dI cyI cyO aM H.size 0 Mtrace Mdeeds Mpeople Mat MreadDeeds MreadMany Mpairs Mcaught Mreadings 3 hc36) (cwV 1 hts gX4_copy_X4_fails rfl rfl rfl (by decide +kernel) ⟨Nat.le_of_ble_eq_true rfl, Nat.le_of_ble_eq_true rfl⟩) hP hD hK hS hA [0] [1, 2, 3] rfl rfl (by decide) (by decide) (by decide) 4 0 rfl rfl rfl rfl hl.1 rfl (Nat.le_of_ble_eq_true rfl) dX4_copy_146 ⟨Nat.zero_le _, Nat.zero_le _⟩ (fun _ H locs hP hD hS => ?_)
                        have hP : va_P (dC, dI) vwCl [((aM 1), .inl (cyI, 4, .inl M_sorts)), ((aM 2), .inl (cyI, 4, .inl M_sheetLong)), ((aM 3), .inl (cyI, 240, .inl M_cells)), ((aM 0), .inr (4, [.int o35.2, .int Mtrace, .ref (aM 1), .ref (aM 2), .ref (aM 3), .int Mdeeds, .int Mpeople, .ref (aM 4), .ref (aM 5), .ref (aM 6), .ref (aM 7), .ref (aM 8), .int Mat, .int MreadDeeds, .int MreadMany, .ref (aM 9), .ref (aM 10), .ref (aM 11), .int Mpairs, .ref (aM 12), .ref (aM 13), .int Mcaught, .int Mreadings, .ref (aM 14), .ref (aM 15)]))] H := hP
                        have hD : va_D A [((aM 1), .inl (cyI, 4, .inl M_sorts)), ((aM 2), .inl (cyI, 4, .inl M_sheetLong)), ((aM 3), .inl (cyI, 240, .inl M_cells)), ((aM 0), .inr (4, [.int o35.2, .int Mtrace, .ref (aM 1), .ref (aM 2), .ref (aM 3), .int Mdeeds, .int Mpeople, .ref (aM 4), .ref (aM 5), .ref (aM 6), .ref (aM 7), .ref (aM 8), .int Mat, .int MreadDeeds, .int MreadMany, .ref (aM 9), .ref (aM 10), .ref (aM 11), .int Mpairs, .ref (aM 12), .ref (aM 13), .int Mcaught, .int Mreadings, .ref (aM 14), .ref (aM 15)]))] := hD
                        replace h := Option.some.inj h; subst h
                        have hP := hP.sub (ws' := [((aM 0), .inr (4, [.int o35.2, .int Mtrace, .ref (aM 1), .ref (aM 2), .ref (aM 3), .int Mdeeds, .int Mpeople, .ref (aM 4), .ref (aM 5), .ref (aM 6), .ref (aM 7), .ref (aM 8), .int Mat, .int MreadDeeds, .int MreadMany, .ref (aM 9), .ref (aM 10), .ref (aM 11), .int Mpairs, .ref (aM 12), .ref (aM 13), .int Mcaught, .int Mreadings, .ref (aM 14), .ref (aM 15)])), ((aM 1), .inl (cyI, 4, .inl M_sorts)), ((aM 2), .inl (cyI, 4, .inl M_sheetLong)), ((aM 3), .inl (cyI, 240, .inl M_cells))]) [3, 0, 1, 2] rfl
                        have hD := hD.sub (ws' := [((aM 0), .inr (4, [.int o35.2, .int Mtrace, .ref (aM 1), .ref (aM 2), .ref (aM 3), .int Mdeeds, .int Mpeople, .ref (aM 4), .ref (aM 5), .ref (aM 6), .ref (aM 7), .ref (aM 8), .int Mat, .int MreadDeeds, .int MreadMany, .ref (aM 9), .ref (aM 10), .ref (aM 11), .int Mpairs, .ref (aM 12), .ref (aM 13), .int Mcaught, .int Mreadings, .ref (aM 14), .ref (aM 15)])), ((aM 1), .inl (cyI, 4, .inl M_sorts)), ((aM 2), .inl (cyI, 4, .inl M_sheetLong)), ((aM 3), .inl (cyI, 240, .inl M_cells))]) [3, 0, 1, 2] (by decide) rfl
                        exact hret () H locs _ ls hP hD hS dX4_copy_149 rfl
                      · replace h := it_f c34 h
                        refine lv_iload hx hb dX4_copy_130 (lv_at hl 6 rfl) ?_
                        refine lv_aload_n hx hb dX4_copy_132 rfl (lv_at hl 1 rfl) ?_
                        refine va_get (D := (dC, dI)) (ci := 4) (v := .ref (aM 2)) (C := RX4) (T := TX4) (N := 25) hx hb hts hiX4 hown hK hP 0 rfl rfl 3 (by decide) hf13 (fun _ h9 => h9) rfl dX4_copy_133 ?_
                        refine lv_iload_n hx hb dX4_copy_136 rfl (lv_at hl 4 rfl) ?_
                        obtain ⟨e37, h⟩ := it_n h
                        refine va_iald hx hb hK hP 2 0 rfl rfl (ix_in e37) dX4_copy_137 ?_
                        refine lv_iload hx hb dX4_copy_138 (lv_at hl 5 rfl) ?_
                        refine lv_isub hx hb dX4_copy_140 ?_
                        refine lv_icmp_le (tgt := 150) hx hb dX4_copy_141 (by decide) (fun c38 => ?_) (fun c38 => ?_)
                        · replace h := it_t c38 h
                          refine lv_iload_n hx hb dX4_copy_150 rfl (lv_at hl 3 rfl) ?_
                          refine lv_iload hx hb dX4_copy_151 (lv_at hl 5 rfl) ?_
                          refine lv_icmp_ge (tgt := 160) hx hb dX4_copy_153 (by decide) (fun c39 => ?_) (fun c39 => ?_)
                          · replace h := it_t c39 h
                            refine lv_iconst (v := 0) hx hb dX4_copy_160 (by decide) ?_
                            refine lv_istore (lv' := [(7, .int 0), (6, .int 1), (0, .ref (aM 0)), (1, .int p1), (2, .int p2), (3, .int p3), (4, .int p4), (5, .int p5)]) hx hb dX4_copy_161 hl (by decide) rfl (fun ls hl => ?_)
                            refine lv_iconst (v := 0) hx hb dX4_copy_163 (by decide) ?_
                            refine lv_istore (lv' := [(8, .int 0), (7, .int 0), (6, .int 1), (0, .ref (aM 0)), (1, .int p1), (2, .int p2), (3, .int p3), (4, .int p4), (5, .int p5)]) hx hb dX4_copy_164 hl (by decide) rfl (fun ls hl => ?_)
                            exact lp166 99 0 0 0 M_cells H locs ls h hP hD hS (lv_sub hl [3, 4, 5, 6, 7, 8, 1, 0] rfl)
                          · replace h := it_f c39 h
                            refine lv_iconst (v := 1) hx hb dX4_copy_156 (by decide) ?_
                            refine lv_goto (tgt := 161) hx hb dX4_copy_157 (by decide) ?_
                            refine lv_istore (lv' := [(7, .int 1), (6, .int 1), (0, .ref (aM 0)), (1, .int p1), (2, .int p2), (3, .int p3), (4, .int p4), (5, .int p5)]) hx hb dX4_copy_161 hl (by decide) rfl (fun ls hl => ?_)
                            refine lv_iconst (v := 0) hx hb dX4_copy_163 (by decide) ?_
                            refine lv_istore (lv' := [(8, .int 0), (7, .int 1), (6, .int 1), (0, .ref (aM 0)), (1, .int p1), (2, .int p2), (3, .int p3), (4, .int p4), (5, .int p5)]) hx hb dX4_copy_164 hl (by decide) rfl (fun ls hl => ?_)
                            exact lp166 99 1 0 0 M_cells H locs ls h hP hD hS (lv_sub hl [3, 4, 5, 6, 7, 8, 1, 0] rfl)
                        · replace h := it_f c38 h
                          refine lv_aload_n hx hb dX4_copy_144 rfl (lv_at hl 1 rfl) ?_
                          refine lv_iconst (v := 3) hx hb dX4_copy_145 (by decide) ?_
                          obtain ⟨o46, hc47, h⟩ := ob h
                          refine k_vi (As := [.int 3]) (rest := []) ⟨hx, hb, hml, hown, hts⟩ (c_X4_fails l dC dI cyI cyO aM H.size 0 Mtrace Mdeeds Mpeople Mat MreadDeeds MreadMany Mpairs Mcaught Mreadings 3 hc47) (cwV 1 hts gX4_copy_X4_fails rfl rfl rfl (by decide +kernel) ⟨Nat.le_of_ble_eq_true rfl, Nat.le_of_ble_eq_true rfl⟩) hP hD hK hS hA [0] [1, 2, 3] rfl rfl (by decide) (by decide) (by decide) 4 0 rfl rfl rfl rfl hl.1 rfl (Nat.le_of_ble_eq_true rfl) dX4_copy_146 ⟨Nat.zero_le _, Nat.zero_le _⟩ (fun _ H locs hP hD hS => ?_)
                          have hP : va_P (dC, dI) vwCl [((aM 1), .inl (cyI, 4, .inl M_sorts)), ((aM 2), .inl (cyI, 4, .inl M_sheetLong)), ((aM 3), .inl (cyI, 240, .inl M_cells)), ((aM 0), .inr (4, [.int o46.2, .int Mtrace, .ref (aM 1), .ref (aM 2), .ref (aM 3), .int Mdeeds, .int Mpeople, .ref (aM 4), .ref (aM 5), .ref (aM 6), .ref (aM 7), .ref (aM 8), .int Mat, .int MreadDeeds, .int MreadMany, .ref (aM 9), .ref (aM 10), .ref (aM 11), .int Mpairs, .ref (aM 12), .ref (aM 13), .int Mcaught, .int Mreadings, .ref (aM 14), .ref (aM 15)]))] H := hP
                          have hD : va_D A [((aM 1), .inl (cyI, 4, .inl M_sorts)), ((aM 2), .inl (cyI, 4, .inl M_sheetLong)), ((aM 3), .inl (cyI, 240, .inl M_cells)), ((aM 0), .inr (4, [.int o46.2, .int Mtrace, .ref (aM 1), .ref (aM 2), .ref (aM 3), .int Mdeeds, .int Mpeople, .ref (aM 4), .ref (aM 5), .ref (aM 6), .ref (aM 7), .ref (aM 8), .int Mat, .int MreadDeeds, .int MreadMany, .ref (aM 9), .ref (aM 10), .ref (aM 11), .int Mpairs, .ref (aM 12), .ref (aM 13), .int Mcaught, .int Mreadings, .ref (aM 14), .ref (aM 15)]))] := hD
                          replace h := Option.some.inj h; subst h
                          have hP := hP.sub (ws' := [((aM 0), .inr (4, [.int o46.2, .int Mtrace, .ref (aM 1), .ref (aM 2), .ref (aM 3), .int Mdeeds, .int Mpeople, .ref (aM 4), .ref (aM 5), .ref (aM 6), .ref (aM 7), .ref (aM 8), .int Mat, .int MreadDeeds, .int MreadMany, .ref (aM 9), .ref (aM 10), .ref (aM 11), .int Mpairs, .ref (aM 12), .ref (aM 13), .int Mcaught, .int Mreadings, .ref (aM 14), .ref (aM 15)])), ((aM 1), .inl (cyI, 4, .inl M_sorts)), ((aM 2), .inl (cyI, 4, .inl M_sheetLong)), ((aM 3), .inl (cyI, 240, .inl M_cells))]) [3, 0, 1, 2] rfl
                          have hD := hD.sub (ws' := [((aM 0), .inr (4, [.int o46.2, .int Mtrace, .ref (aM 1), .ref (aM 2), .ref (aM 3), .int Mdeeds, .int Mpeople, .ref (aM 4), .ref (aM 5), .ref (aM 6), .ref (aM 7), .ref (aM 8), .int Mat, .int MreadDeeds, .int MreadMany, .ref (aM 9), .ref (aM 10), .ref (aM 11), .int Mpairs, .ref (aM 12), .ref (aM 13), .int Mcaught, .int Mreadings, .ref (aM 14), .ref (aM 15)])), ((aM 1), .inl (cyI, 4, .inl M_sorts)), ((aM 2), .inl (cyI, 4, .inl M_sheetLong)), ((aM 3), .inl (cyI, 240, .inl M_cells))]) [3, 0, 1, 2] (by decide) rfl
                          exact hret () H locs _ ls hP hD hS dX4_copy_149 rfl
          · replace h := it_f c15 h
            refine lv_aload_n hx hb dX4_copy_64 rfl (lv_at hl 0 rfl) ?_
            refine lv_iconst (v := 2) hx hb dX4_copy_65 (by decide) ?_
            obtain ⟨o48, hc49, h⟩ := ob h
            refine k_vi (As := [.int 2]) (rest := []) ⟨hx, hb, hml, hown, hts⟩ (c_X4_fails l dC dI cyI cyO aM H.size 0 Mtrace Mdeeds Mpeople Mat MreadDeeds MreadMany Mpairs Mcaught Mreadings 2 hc49) (cwV 1 hts gX4_copy_X4_fails rfl rfl rfl (by decide +kernel) ⟨Nat.le_of_ble_eq_true rfl, Nat.le_of_ble_eq_true rfl⟩) hP hD hK hS hA [0] [1, 2, 3] rfl rfl (by decide) (by decide) (by decide) 4 0 rfl rfl rfl rfl hl.1 rfl (Nat.le_of_ble_eq_true rfl) dX4_copy_66 ⟨Nat.zero_le _, Nat.zero_le _⟩ (fun _ H locs hP hD hS => ?_)
            have hP : va_P (dC, dI) vwCl [((aM 1), .inl (cyI, 4, .inl M_sorts)), ((aM 2), .inl (cyI, 4, .inl M_sheetLong)), ((aM 3), .inl (cyI, 240, .inl M_cells)), ((aM 0), .inr (4, [.int o48.2, .int Mtrace, .ref (aM 1), .ref (aM 2), .ref (aM 3), .int Mdeeds, .int Mpeople, .ref (aM 4), .ref (aM 5), .ref (aM 6), .ref (aM 7), .ref (aM 8), .int Mat, .int MreadDeeds, .int MreadMany, .ref (aM 9), .ref (aM 10), .ref (aM 11), .int Mpairs, .ref (aM 12), .ref (aM 13), .int Mcaught, .int Mreadings, .ref (aM 14), .ref (aM 15)]))] H := hP
            have hD : va_D A [((aM 1), .inl (cyI, 4, .inl M_sorts)), ((aM 2), .inl (cyI, 4, .inl M_sheetLong)), ((aM 3), .inl (cyI, 240, .inl M_cells)), ((aM 0), .inr (4, [.int o48.2, .int Mtrace, .ref (aM 1), .ref (aM 2), .ref (aM 3), .int Mdeeds, .int Mpeople, .ref (aM 4), .ref (aM 5), .ref (aM 6), .ref (aM 7), .ref (aM 8), .int Mat, .int MreadDeeds, .int MreadMany, .ref (aM 9), .ref (aM 10), .ref (aM 11), .int Mpairs, .ref (aM 12), .ref (aM 13), .int Mcaught, .int Mreadings, .ref (aM 14), .ref (aM 15)]))] := hD
            replace h := Option.some.inj h; subst h
            have hP := hP.sub (ws' := [((aM 0), .inr (4, [.int o48.2, .int Mtrace, .ref (aM 1), .ref (aM 2), .ref (aM 3), .int Mdeeds, .int Mpeople, .ref (aM 4), .ref (aM 5), .ref (aM 6), .ref (aM 7), .ref (aM 8), .int Mat, .int MreadDeeds, .int MreadMany, .ref (aM 9), .ref (aM 10), .ref (aM 11), .int Mpairs, .ref (aM 12), .ref (aM 13), .int Mcaught, .int Mreadings, .ref (aM 14), .ref (aM 15)])), ((aM 1), .inl (cyI, 4, .inl M_sorts)), ((aM 2), .inl (cyI, 4, .inl M_sheetLong)), ((aM 3), .inl (cyI, 240, .inl M_cells))]) [3, 0, 1, 2] rfl
            have hD := hD.sub (ws' := [((aM 0), .inr (4, [.int o48.2, .int Mtrace, .ref (aM 1), .ref (aM 2), .ref (aM 3), .int Mdeeds, .int Mpeople, .ref (aM 4), .ref (aM 5), .ref (aM 6), .ref (aM 7), .ref (aM 8), .int Mat, .int MreadDeeds, .int MreadMany, .ref (aM 9), .ref (aM 10), .ref (aM 11), .int Mpairs, .ref (aM 12), .ref (aM 13), .int Mcaught, .int Mreadings, .ref (aM 14), .ref (aM 15)])), ((aM 1), .inl (cyI, 4, .inl M_sorts)), ((aM 2), .inl (cyI, 4, .inl M_sheetLong)), ((aM 3), .inl (cyI, 240, .inl M_cells))]) [3, 0, 1, 2] (by decide) rfl
            exact hret () H locs _ ls hP hD hS dX4_copy_69 rfl
        · replace h := it_t c12 h
          refine lv_aload_n hx hb dX4_copy_43 rfl (lv_at hl 0 rfl) ?_
          refine lv_iconst (v := 1) hx hb dX4_copy_44 (by decide) ?_
          obtain ⟨o50, hc51, h⟩ := ob h
          refine k_vi (As := [.int 1]) (rest := []) ⟨hx, hb, hml, hown, hts⟩ (c_X4_fails l dC dI cyI cyO aM H.size 0 Mtrace Mdeeds Mpeople Mat MreadDeeds MreadMany Mpairs Mcaught Mreadings 1 hc51) (cwV 1 hts gX4_copy_X4_fails rfl rfl rfl (by decide +kernel) ⟨Nat.le_of_ble_eq_true rfl, Nat.le_of_ble_eq_true rfl⟩) hP hD hK hS hA [0] [1, 2, 3] rfl rfl (by decide) (by decide) (by decide) 4 0 rfl rfl rfl rfl hl.1 rfl (Nat.le_of_ble_eq_true rfl) dX4_copy_45 ⟨Nat.zero_le _, Nat.zero_le _⟩ (fun _ H locs hP hD hS => ?_)
          have hP : va_P (dC, dI) vwCl [((aM 1), .inl (cyI, 4, .inl M_sorts)), ((aM 2), .inl (cyI, 4, .inl M_sheetLong)), ((aM 3), .inl (cyI, 240, .inl M_cells)), ((aM 0), .inr (4, [.int o50.2, .int Mtrace, .ref (aM 1), .ref (aM 2), .ref (aM 3), .int Mdeeds, .int Mpeople, .ref (aM 4), .ref (aM 5), .ref (aM 6), .ref (aM 7), .ref (aM 8), .int Mat, .int MreadDeeds, .int MreadMany, .ref (aM 9), .ref (aM 10), .ref (aM 11), .int Mpairs, .ref (aM 12), .ref (aM 13), .int Mcaught, .int Mreadings, .ref (aM 14), .ref (aM 15)]))] H := hP
          have hD : va_D A [((aM 1), .inl (cyI, 4, .inl M_sorts)), ((aM 2), .inl (cyI, 4, .inl M_sheetLong)), ((aM 3), .inl (cyI, 240, .inl M_cells)), ((aM 0), .inr (4, [.int o50.2, .int Mtrace, .ref (aM 1), .ref (aM 2), .ref (aM 3), .int Mdeeds, .int Mpeople, .ref (aM 4), .ref (aM 5), .ref (aM 6), .ref (aM 7), .ref (aM 8), .int Mat, .int MreadDeeds, .int MreadMany, .ref (aM 9), .ref (aM 10), .ref (aM 11), .int Mpairs, .ref (aM 12), .ref (aM 13), .int Mcaught, .int Mreadings, .ref (aM 14), .ref (aM 15)]))] := hD
          replace h := Option.some.inj h; subst h
          have hP := hP.sub (ws' := [((aM 0), .inr (4, [.int o50.2, .int Mtrace, .ref (aM 1), .ref (aM 2), .ref (aM 3), .int Mdeeds, .int Mpeople, .ref (aM 4), .ref (aM 5), .ref (aM 6), .ref (aM 7), .ref (aM 8), .int Mat, .int MreadDeeds, .int MreadMany, .ref (aM 9), .ref (aM 10), .ref (aM 11), .int Mpairs, .ref (aM 12), .ref (aM 13), .int Mcaught, .int Mreadings, .ref (aM 14), .ref (aM 15)])), ((aM 1), .inl (cyI, 4, .inl M_sorts)), ((aM 2), .inl (cyI, 4, .inl M_sheetLong)), ((aM 3), .inl (cyI, 240, .inl M_cells))]) [3, 0, 1, 2] rfl
          have hD := hD.sub (ws' := [((aM 0), .inr (4, [.int o50.2, .int Mtrace, .ref (aM 1), .ref (aM 2), .ref (aM 3), .int Mdeeds, .int Mpeople, .ref (aM 4), .ref (aM 5), .ref (aM 6), .ref (aM 7), .ref (aM 8), .int Mat, .int MreadDeeds, .int MreadMany, .ref (aM 9), .ref (aM 10), .ref (aM 11), .int Mpairs, .ref (aM 12), .ref (aM 13), .int Mcaught, .int Mreadings, .ref (aM 14), .ref (aM 15)])), ((aM 1), .inl (cyI, 4, .inl M_sorts)), ((aM 2), .inl (cyI, 4, .inl M_sheetLong)), ((aM 3), .inl (cyI, 240, .inl M_cells))]) [3, 0, 1, 2] (by decide) rfl
          exact hret () H locs _ ls hP hD hS dX4_copy_48 rfl
    · replace h := it_t c6 h
      refine lv_iconst (v := (-1)) hx hb dX4_copy_19 (by decide) ?_
      replace h := Option.some.inj h; subst h
      exact hret () H locs _ ls hP hD hS dX4_copy_20 rfl
set_option maxHeartbeats 4000000 in
set_option maxRecDepth 100000 in
theorem c_X4_begins (l : Launch) (dC : Nat → ClassId) (dI : Nat → Nat → Nat) (cyI cyO : ClassId) (aM : Nat → Nat) (sz : Nat) (Mfault : Int32) (Mtrace : Int32) (Mdeeds : Int32) (Mpeople : Int32) (Mat : Int32) (MreadDeeds : Int32) (MreadMany : Int32) (Mpairs : Int32) (Mcaught : Int32) (Mreadings : Int32) (p1 : Int32) {o : Int32}  (h : f_X4_begins Mtrace p1 = some o) : CtV l yX4_begins wsX4_begins { frames := 0, cells := 0, slots := 0, locals := 0 } (dC, dI) [(cyI, .int), (cyO, .object RX0)] [.ref (aM 0), .int p1] sz [((aM 0), .inr (4, [.int Mfault, .int Mtrace, .ref (aM 1), .ref (aM 2), .ref (aM 3), .int Mdeeds, .int Mpeople, .ref (aM 4), .ref (aM 5), .ref (aM 6), .ref (aM 7), .ref (aM 8), .int Mat, .int MreadDeeds, .int MreadMany, .ref (aM 9), .ref (aM 10), .ref (aM 11), .int Mpairs, .ref (aM 12), .ref (aM 13), .int Mcaught, .int Mreadings, .ref (aM 14), .ref (aM 15)]))] (fun (_ : Unit) => [((aM 0), .inr (4, [.int Mfault, .int o, .ref (aM 1), .ref (aM 2), .ref (aM 3), .int Mdeeds, .int Mpeople, .ref (aM 4), .ref (aM 5), .ref (aM 6), .ref (aM 7), .ref (aM 8), .int Mat, .int MreadDeeds, .int MreadMany, .ref (aM 9), .ref (aM 10), .ref (aM 11), .int Mpairs, .ref (aM 12), .ref (aM 13), .int Mcaught, .int Mreadings, .ref (aM 14), .ref (aM 15)]))]) := by
  refine CtV.of (cc := cX4_begins) (maxL := 2) (by decide) rfl (Nat.le_of_ble_eq_true rfl) ?_
  intro p e s m args below meth c A Q H locs hx hb hml hown hts hA hK hP hD hS hret ls hl
  have hown : s.vm.findClass RX4 = some m.cls := hown
  have hl : lv_has ls 2 [(0, .ref (aM 0)), (1, .int p1)] := hl
  unfold f_X4_begins at h
  have hiX4 : ∀ w ∈ u_ws RX4 TX4 25, w ∈ wsX4_begins := by decide +kernel
  have hf181 := hts (.fieldLink RX4 181 "TowerTellModel" "trace" "I") (by decide +kernel)
  refine lv_aload_n hx hb dX4_begins_0 rfl (lv_at hl 0 rfl) ?_
  refine lv_bipush (v := 31) hx hb dX4_begins_1 (by decide) ?_
  refine lv_aload_n hx hb dX4_begins_3 rfl (lv_at hl 0 rfl) ?_
  refine va_get (D := (dC, dI)) (ci := 4) (v := .int Mtrace) (C := RX4) (T := TX4) (N := 25) hx hb hts hiX4 hown hK hP 0 rfl rfl 1 (by decide) hf181 (fun _ h9 => h9) rfl dX4_begins_4 ?_
  refine lv_imul hx hb dX4_begins_7 ?_
  refine lv_iload_n hx hb dX4_begins_8 rfl (lv_at hl 1 rfl) ?_
  refine lv_iadd hx hb dX4_begins_9 ?_
  refine va_put (D := (dC, dI)) (ci := 4) (v := .int ((31 * Mtrace) + p1)) (ty := .int) (C := RX4) (T := TX4) (N := 25) hx hb hts hiX4 tyX4 tyX4_ok nmX4 hown hK hP hD hS 0 rfl rfl 1 (by decide) hf181 (fun _ h9 => h9) rfl (tyX4_ok 1 (by decide)) rfl rfl (Nat.le_of_ble_eq_true rfl) dX4_begins_10 (fun H locs hP hD hS => ?_)
  have hP : va_P (dC, dI) vwCl [((aM 0), .inr (4, [.int Mfault, .int ((31 * Mtrace) + p1), .ref (aM 1), .ref (aM 2), .ref (aM 3), .int Mdeeds, .int Mpeople, .ref (aM 4), .ref (aM 5), .ref (aM 6), .ref (aM 7), .ref (aM 8), .int Mat, .int MreadDeeds, .int MreadMany, .ref (aM 9), .ref (aM 10), .ref (aM 11), .int Mpairs, .ref (aM 12), .ref (aM 13), .int Mcaught, .int Mreadings, .ref (aM 14), .ref (aM 15)]))] H := hP
  have hD : va_D A [((aM 0), .inr (4, [.int Mfault, .int ((31 * Mtrace) + p1), .ref (aM 1), .ref (aM 2), .ref (aM 3), .int Mdeeds, .int Mpeople, .ref (aM 4), .ref (aM 5), .ref (aM 6), .ref (aM 7), .ref (aM 8), .int Mat, .int MreadDeeds, .int MreadMany, .ref (aM 9), .ref (aM 10), .ref (aM 11), .int Mpairs, .ref (aM 12), .ref (aM 13), .int Mcaught, .int Mreadings, .ref (aM 14), .ref (aM 15)]))] := hD
  replace h := Option.some.inj h; subst h
  exact hret () H locs _ ls hP hD hS dX4_begins_13
set_option maxHeartbeats 4000000 in
set_option maxRecDepth 100000 in
theorem c_X4_tell (l : Launch) (dC : Nat → ClassId) (dI : Nat → Nat → Nat) (cyI cyO : ClassId) (aM : Nat → Nat) (sz : Nat) (Mfault : Int32) (Mtrace : Int32) (Mdeeds : Int32) (Mpeople : Int32) (Mat : Int32) (MreadDeeds : Int32) (MreadMany : Int32) (Mpairs : Int32) (Mcaught : Int32) (Mreadings : Int32) (M_kind : Nat → Int32) (M_knows : Nat → Int32) (p1 : Int32) {o : Int32 × Int32}  (h : f_X4_tell Mtrace Mpeople M_kind M_knows p1 = some o) : CtI l yX4_tell wsX4_tell { frames := 1, cells := 0, slots := 0, locals := 21 } (dC, dI) [(cyI, .int), (cyO, .object RX0)] [.ref (aM 0), .int p1] sz [((aM 0), .inr (4, [.int Mfault, .int Mtrace, .ref (aM 1), .ref (aM 2), .ref (aM 3), .int Mdeeds, .int Mpeople, .ref (aM 4), .ref (aM 5), .ref (aM 6), .ref (aM 7), .ref (aM 8), .int Mat, .int MreadDeeds, .int MreadMany, .ref (aM 9), .ref (aM 10), .ref (aM 11), .int Mpairs, .ref (aM 12), .ref (aM 13), .int Mcaught, .int Mreadings, .ref (aM 14), .ref (aM 15)])), ((aM 5), .inl (cyI, 4, .inl M_kind)), ((aM 7), .inl (cyI, 4, .inl M_knows))] (fun (_ : Unit) => [((aM 0), .inr (4, [.int Mfault, .int o.2, .ref (aM 1), .ref (aM 2), .ref (aM 3), .int Mdeeds, .int Mpeople, .ref (aM 4), .ref (aM 5), .ref (aM 6), .ref (aM 7), .ref (aM 8), .int Mat, .int MreadDeeds, .int MreadMany, .ref (aM 9), .ref (aM 10), .ref (aM 11), .int Mpairs, .ref (aM 12), .ref (aM 13), .int Mcaught, .int Mreadings, .ref (aM 14), .ref (aM 15)])), ((aM 5), .inl (cyI, 4, .inl M_kind)), ((aM 7), .inl (cyI, 4, .inl M_knows))]) o.1 := by
  refine CtI.of (cc := cX4_tell) (maxL := 3) (by decide) rfl (Nat.le_of_ble_eq_true rfl) ?_
  intro p e s m args below meth c A Q H locs hx hb hml hown hts hA hK hP hD hS hret ls hl
  have hown : s.vm.findClass RX4 = some m.cls := hown
  have hl : lv_has ls 3 [(0, .ref (aM 0)), (1, .int p1)] := hl
  unfold f_X4_tell at h
  have hiX4 : ∀ w ∈ u_ws RX4 TX4 25, w ∈ wsX4_tell := by decide +kernel
  have hf22 := hts (.fieldLink RX4 22 "TowerTellModel" "kind" "[I") (by decide +kernel)
  have hf28 := hts (.fieldLink RX4 28 "TowerTellModel" "knows" "[I") (by decide +kernel)
  refine lv_aload_n hx hb dX4_tell_0 rfl (lv_at hl 0 rfl) ?_
  refine lv_iload_n hx hb dX4_tell_1 rfl (lv_at hl 1 rfl) ?_
  obtain ⟨o1, hc2, h⟩ := ob h
  refine k_vi (As := [.int p1]) (rest := []) ⟨hx, hb, hml, hown, hts⟩ (c_X4_isPerson l dC dI cyI cyO aM H.size Mfault Mtrace Mdeeds Mpeople Mat MreadDeeds MreadMany Mpairs Mcaught Mreadings p1 hc2) (cwV 1 hts gX4_tell_X4_isPerson rfl rfl rfl (by decide +kernel) ⟨Nat.le_of_ble_eq_true rfl, Nat.le_of_ble_eq_true rfl⟩) hP hD hK hS hA [0] [1, 2] rfl rfl (by decide) (by decide) (by decide) 4 0 rfl rfl rfl rfl hl.1 rfl (Nat.le_of_ble_eq_true rfl) dX4_tell_2 ⟨Nat.zero_le _, Nat.zero_le _⟩ (fun _ H locs hP hD hS => ?_)
  have hP : va_P (dC, dI) vwCl [((aM 5), .inl (cyI, 4, .inl M_kind)), ((aM 7), .inl (cyI, 4, .inl M_knows)), ((aM 0), .inr (4, [.int Mfault, .int Mtrace, .ref (aM 1), .ref (aM 2), .ref (aM 3), .int Mdeeds, .int Mpeople, .ref (aM 4), .ref (aM 5), .ref (aM 6), .ref (aM 7), .ref (aM 8), .int Mat, .int MreadDeeds, .int MreadMany, .ref (aM 9), .ref (aM 10), .ref (aM 11), .int Mpairs, .ref (aM 12), .ref (aM 13), .int Mcaught, .int Mreadings, .ref (aM 14), .ref (aM 15)]))] H := hP
  have hD : va_D A [((aM 5), .inl (cyI, 4, .inl M_kind)), ((aM 7), .inl (cyI, 4, .inl M_knows)), ((aM 0), .inr (4, [.int Mfault, .int Mtrace, .ref (aM 1), .ref (aM 2), .ref (aM 3), .int Mdeeds, .int Mpeople, .ref (aM 4), .ref (aM 5), .ref (aM 6), .ref (aM 7), .ref (aM 8), .int Mat, .int MreadDeeds, .int MreadMany, .ref (aM 9), .ref (aM 10), .ref (aM 11), .int Mpairs, .ref (aM 12), .ref (aM 13), .int Mcaught, .int Mreadings, .ref (aM 14), .ref (aM 15)]))] := hD
  refine lv_if_ne (tgt := 10) hx hb dX4_tell_5 (by decide) (fun c3 => ?_) (fun c3 => ?_)
  · replace h := it_f c3 h
    refine lv_aload_n hx hb dX4_tell_10 rfl (lv_at hl 0 rfl) ?_
    refine va_get (D := (dC, dI)) (ci := 4) (v := .ref (aM 7)) (C := RX4) (T := TX4) (N := 25) hx hb hts hiX4 hown hK hP 2 rfl rfl 10 (by decide) hf28 (fun _ h9 => h9) rfl dX4_tell_11 ?_
    refine lv_iload_n hx hb dX4_tell_14 rfl (lv_at hl 1 rfl) ?_
    obtain ⟨e4, h⟩ := it_n h
    refine va_iald hx hb hK hP 1 0 rfl rfl (ix_in e4) dX4_tell_15 ?_
    refine lv_istore_n (lv' := [(2, .int (M_knows p1.toNatClampNeg)), (0, .ref (aM 0)), (1, .int p1)]) hx hb dX4_tell_16 rfl hl (by decide) rfl (fun ls hl => ?_)
    refine lv_aload_n hx hb dX4_tell_17 rfl (lv_at hl 1 rfl) ?_
    refine va_get (D := (dC, dI)) (ci := 4) (v := .ref (aM 5)) (C := RX4) (T := TX4) (N := 25) hx hb hts hiX4 hown hK hP 2 rfl rfl 8 (by decide) hf22 (fun _ h9 => h9) rfl dX4_tell_18 ?_
    refine lv_iload_n hx hb dX4_tell_21 rfl (lv_at hl 2 rfl) ?_
    obtain ⟨e5, h⟩ := it_n h
    refine va_iald hx hb hK hP 0 0 rfl rfl (ix_in e5) dX4_tell_22 ?_
    by_cases c6 : (M_kind p1.toNatClampNeg) = 1
    · replace h := it_t c6 h
      refine lv_lookup (tgt := 48) (off := 25) hx hb dX4_tell_23 (by decide) (by rw [c6]; rfl) (by decide) ?_
      refine lv_aload_n hx hb dX4_tell_48 rfl (lv_at hl 1 rfl) ?_
      refine lv_iconst (v := 2) hx hb dX4_tell_49 (by decide) ?_
      obtain ⟨o7, hc8, h⟩ := ob h
      refine k_vv (As := [.int 2]) (rest := []) ⟨hx, hb, hml, hown, hts⟩ (c_X4_begins l dC dI cyI cyO aM H.size Mfault Mtrace Mdeeds Mpeople Mat MreadDeeds MreadMany Mpairs Mcaught Mreadings 2 hc8) (cwV 1 hts gX4_tell_X4_begins rfl rfl rfl (by decide +kernel) ⟨Nat.le_of_ble_eq_true rfl, Nat.le_of_ble_eq_true rfl⟩) hP hD hK hS hA [2] [0, 1] rfl rfl (by decide) (by decide) (by decide) 4 0 rfl rfl rfl rfl hl.1 rfl (Nat.le_of_ble_eq_true rfl) dX4_tell_50 ⟨Nat.zero_le _, Nat.zero_le _⟩ (fun _ H locs hP hD hS => ?_)
      have hP : va_P (dC, dI) vwCl [((aM 5), .inl (cyI, 4, .inl M_kind)), ((aM 7), .inl (cyI, 4, .inl M_knows)), ((aM 0), .inr (4, [.int Mfault, .int o7, .ref (aM 1), .ref (aM 2), .ref (aM 3), .int Mdeeds, .int Mpeople, .ref (aM 4), .ref (aM 5), .ref (aM 6), .ref (aM 7), .ref (aM 8), .int Mat, .int MreadDeeds, .int MreadMany, .ref (aM 9), .ref (aM 10), .ref (aM 11), .int Mpairs, .ref (aM 12), .ref (aM 13), .int Mcaught, .int Mreadings, .ref (aM 14), .ref (aM 15)]))] H := hP
      have hD : va_D A [((aM 5), .inl (cyI, 4, .inl M_kind)), ((aM 7), .inl (cyI, 4, .inl M_knows)), ((aM 0), .inr (4, [.int Mfault, .int o7, .ref (aM 1), .ref (aM 2), .ref (aM 3), .int Mdeeds, .int Mpeople, .ref (aM 4), .ref (aM 5), .ref (aM 6), .ref (aM 7), .ref (aM 8), .int Mat, .int MreadDeeds, .int MreadMany, .ref (aM 9), .ref (aM 10), .ref (aM 11), .int Mpairs, .ref (aM 12), .ref (aM 13), .int Mcaught, .int Mreadings, .ref (aM 14), .ref (aM 15)]))] := hD
      refine lv_aload_n hx hb dX4_tell_53 rfl (lv_at hl 1 rfl) ?_
      refine lv_iconst (v := 1) hx hb dX4_tell_54 (by decide) ?_
      obtain ⟨o9, hc10, h⟩ := ob h
      refine k_vv (As := [.int 1]) (rest := []) ⟨hx, hb, hml, hown, hts⟩ (c_X4_begins l dC dI cyI cyO aM H.size Mfault o7 Mdeeds Mpeople Mat MreadDeeds MreadMany Mpairs Mcaught Mreadings 1 hc10) (cwV 1 hts gX4_tell_X4_begins rfl rfl rfl (by decide +kernel) ⟨Nat.le_of_ble_eq_true rfl, Nat.le_of_ble_eq_true rfl⟩) hP hD hK hS hA [2] [0, 1] rfl rfl (by decide) (by decide) (by decide) 4 0 rfl rfl rfl rfl hl.1 rfl (Nat.le_of_ble_eq_true rfl) dX4_tell_55 ⟨Nat.zero_le _, Nat.zero_le _⟩ (fun _ H locs hP hD hS => ?_)
      have hP : va_P (dC, dI) vwCl [((aM 5), .inl (cyI, 4, .inl M_kind)), ((aM 7), .inl (cyI, 4, .inl M_knows)), ((aM 0), .inr (4, [.int Mfault, .int o9, .ref (aM 1), .ref (aM 2), .ref (aM 3), .int Mdeeds, .int Mpeople, .ref (aM 4), .ref (aM 5), .ref (aM 6), .ref (aM 7), .ref (aM 8), .int Mat, .int MreadDeeds, .int MreadMany, .ref (aM 9), .ref (aM 10), .ref (aM 11), .int Mpairs, .ref (aM 12), .ref (aM 13), .int Mcaught, .int Mreadings, .ref (aM 14), .ref (aM 15)]))] H := hP
      have hD : va_D A [((aM 5), .inl (cyI, 4, .inl M_kind)), ((aM 7), .inl (cyI, 4, .inl M_knows)), ((aM 0), .inr (4, [.int Mfault, .int o9, .ref (aM 1), .ref (aM 2), .ref (aM 3), .int Mdeeds, .int Mpeople, .ref (aM 4), .ref (aM 5), .ref (aM 6), .ref (aM 7), .ref (aM 8), .int Mat, .int MreadDeeds, .int MreadMany, .ref (aM 9), .ref (aM 10), .ref (aM 11), .int Mpairs, .ref (aM 12), .ref (aM 13), .int Mcaught, .int Mreadings, .ref (aM 14), .ref (aM 15)]))] := hD
      refine lv_iload_n hx hb dX4_tell_58 rfl (lv_at hl 0 rfl) ?_
      refine lv_bipush (v := 100) hx hb dX4_tell_59 (by decide) ?_
      refine lv_iadd hx hb dX4_tell_61 ?_
      replace h := Option.some.inj h; subst h
      have hP := hP.sub (ws' := [((aM 0), .inr (4, [.int Mfault, .int o9, .ref (aM 1), .ref (aM 2), .ref (aM 3), .int Mdeeds, .int Mpeople, .ref (aM 4), .ref (aM 5), .ref (aM 6), .ref (aM 7), .ref (aM 8), .int Mat, .int MreadDeeds, .int MreadMany, .ref (aM 9), .ref (aM 10), .ref (aM 11), .int Mpairs, .ref (aM 12), .ref (aM 13), .int Mcaught, .int Mreadings, .ref (aM 14), .ref (aM 15)])), ((aM 5), .inl (cyI, 4, .inl M_kind)), ((aM 7), .inl (cyI, 4, .inl M_knows))]) [2, 0, 1] rfl
      have hD := hD.sub (ws' := [((aM 0), .inr (4, [.int Mfault, .int o9, .ref (aM 1), .ref (aM 2), .ref (aM 3), .int Mdeeds, .int Mpeople, .ref (aM 4), .ref (aM 5), .ref (aM 6), .ref (aM 7), .ref (aM 8), .int Mat, .int MreadDeeds, .int MreadMany, .ref (aM 9), .ref (aM 10), .ref (aM 11), .int Mpairs, .ref (aM 12), .ref (aM 13), .int Mcaught, .int Mreadings, .ref (aM 14), .ref (aM 15)])), ((aM 5), .inl (cyI, 4, .inl M_kind)), ((aM 7), .inl (cyI, 4, .inl M_knows))]) [2, 0, 1] (by decide) rfl
      exact hret () H locs _ ls hP hD hS dX4_tell_62 rfl
    · replace h := it_f c6 h
      by_cases c11 : (M_kind p1.toNatClampNeg) = 2
      · replace h := it_t c11 h
        refine lv_lookup (tgt := 63) (off := 40) hx hb dX4_tell_23 (by decide) (by rw [c11]; rfl) (by decide) ?_
        refine lv_aload_n hx hb dX4_tell_63 rfl (lv_at hl 1 rfl) ?_
        refine lv_iconst (v := 3) hx hb dX4_tell_64 (by decide) ?_
        obtain ⟨o12, hc13, h⟩ := ob h
        refine k_vv (As := [.int 3]) (rest := []) ⟨hx, hb, hml, hown, hts⟩ (c_X4_begins l dC dI cyI cyO aM H.size Mfault Mtrace Mdeeds Mpeople Mat MreadDeeds MreadMany Mpairs Mcaught Mreadings 3 hc13) (cwV 1 hts gX4_tell_X4_begins rfl rfl rfl (by decide +kernel) ⟨Nat.le_of_ble_eq_true rfl, Nat.le_of_ble_eq_true rfl⟩) hP hD hK hS hA [2] [0, 1] rfl rfl (by decide) (by decide) (by decide) 4 0 rfl rfl rfl rfl hl.1 rfl (Nat.le_of_ble_eq_true rfl) dX4_tell_65 ⟨Nat.zero_le _, Nat.zero_le _⟩ (fun _ H locs hP hD hS => ?_)
        have hP : va_P (dC, dI) vwCl [((aM 5), .inl (cyI, 4, .inl M_kind)), ((aM 7), .inl (cyI, 4, .inl M_knows)), ((aM 0), .inr (4, [.int Mfault, .int o12, .ref (aM 1), .ref (aM 2), .ref (aM 3), .int Mdeeds, .int Mpeople, .ref (aM 4), .ref (aM 5), .ref (aM 6), .ref (aM 7), .ref (aM 8), .int Mat, .int MreadDeeds, .int MreadMany, .ref (aM 9), .ref (aM 10), .ref (aM 11), .int Mpairs, .ref (aM 12), .ref (aM 13), .int Mcaught, .int Mreadings, .ref (aM 14), .ref (aM 15)]))] H := hP
        have hD : va_D A [((aM 5), .inl (cyI, 4, .inl M_kind)), ((aM 7), .inl (cyI, 4, .inl M_knows)), ((aM 0), .inr (4, [.int Mfault, .int o12, .ref (aM 1), .ref (aM 2), .ref (aM 3), .int Mdeeds, .int Mpeople, .ref (aM 4), .ref (aM 5), .ref (aM 6), .ref (aM 7), .ref (aM 8), .int Mat, .int MreadDeeds, .int MreadMany, .ref (aM 9), .ref (aM 10), .ref (aM 11), .int Mpairs, .ref (aM 12), .ref (aM 13), .int Mcaught, .int Mreadings, .ref (aM 14), .ref (aM 15)]))] := hD
        refine lv_aload_n hx hb dX4_tell_68 rfl (lv_at hl 1 rfl) ?_
        refine lv_iconst (v := 2) hx hb dX4_tell_69 (by decide) ?_
        obtain ⟨o14, hc15, h⟩ := ob h
        refine k_vv (As := [.int 2]) (rest := []) ⟨hx, hb, hml, hown, hts⟩ (c_X4_begins l dC dI cyI cyO aM H.size Mfault o12 Mdeeds Mpeople Mat MreadDeeds MreadMany Mpairs Mcaught Mreadings 2 hc15) (cwV 1 hts gX4_tell_X4_begins rfl rfl rfl (by decide +kernel) ⟨Nat.le_of_ble_eq_true rfl, Nat.le_of_ble_eq_true rfl⟩) hP hD hK hS hA [2] [0, 1] rfl rfl (by decide) (by decide) (by decide) 4 0 rfl rfl rfl rfl hl.1 rfl (Nat.le_of_ble_eq_true rfl) dX4_tell_70 ⟨Nat.zero_le _, Nat.zero_le _⟩ (fun _ H locs hP hD hS => ?_)
        have hP : va_P (dC, dI) vwCl [((aM 5), .inl (cyI, 4, .inl M_kind)), ((aM 7), .inl (cyI, 4, .inl M_knows)), ((aM 0), .inr (4, [.int Mfault, .int o14, .ref (aM 1), .ref (aM 2), .ref (aM 3), .int Mdeeds, .int Mpeople, .ref (aM 4), .ref (aM 5), .ref (aM 6), .ref (aM 7), .ref (aM 8), .int Mat, .int MreadDeeds, .int MreadMany, .ref (aM 9), .ref (aM 10), .ref (aM 11), .int Mpairs, .ref (aM 12), .ref (aM 13), .int Mcaught, .int Mreadings, .ref (aM 14), .ref (aM 15)]))] H := hP
        have hD : va_D A [((aM 5), .inl (cyI, 4, .inl M_kind)), ((aM 7), .inl (cyI, 4, .inl M_knows)), ((aM 0), .inr (4, [.int Mfault, .int o14, .ref (aM 1), .ref (aM 2), .ref (aM 3), .int Mdeeds, .int Mpeople, .ref (aM 4), .ref (aM 5), .ref (aM 6), .ref (aM 7), .ref (aM 8), .int Mat, .int MreadDeeds, .int MreadMany, .ref (aM 9), .ref (aM 10), .ref (aM 11), .int Mpairs, .ref (aM 12), .ref (aM 13), .int Mcaught, .int Mreadings, .ref (aM 14), .ref (aM 15)]))] := hD
        refine lv_aload_n hx hb dX4_tell_73 rfl (lv_at hl 1 rfl) ?_
        refine lv_iconst (v := 1) hx hb dX4_tell_74 (by decide) ?_
        obtain ⟨o16, hc17, h⟩ := ob h
        refine k_vv (As := [.int 1]) (rest := []) ⟨hx, hb, hml, hown, hts⟩ (c_X4_begins l dC dI cyI cyO aM H.size Mfault o14 Mdeeds Mpeople Mat MreadDeeds MreadMany Mpairs Mcaught Mreadings 1 hc17) (cwV 1 hts gX4_tell_X4_begins rfl rfl rfl (by decide +kernel) ⟨Nat.le_of_ble_eq_true rfl, Nat.le_of_ble_eq_true rfl⟩) hP hD hK hS hA [2] [0, 1] rfl rfl (by decide) (by decide) (by decide) 4 0 rfl rfl rfl rfl hl.1 rfl (Nat.le_of_ble_eq_true rfl) dX4_tell_75 ⟨Nat.zero_le _, Nat.zero_le _⟩ (fun _ H locs hP hD hS => ?_)
        have hP : va_P (dC, dI) vwCl [((aM 5), .inl (cyI, 4, .inl M_kind)), ((aM 7), .inl (cyI, 4, .inl M_knows)), ((aM 0), .inr (4, [.int Mfault, .int o16, .ref (aM 1), .ref (aM 2), .ref (aM 3), .int Mdeeds, .int Mpeople, .ref (aM 4), .ref (aM 5), .ref (aM 6), .ref (aM 7), .ref (aM 8), .int Mat, .int MreadDeeds, .int MreadMany, .ref (aM 9), .ref (aM 10), .ref (aM 11), .int Mpairs, .ref (aM 12), .ref (aM 13), .int Mcaught, .int Mreadings, .ref (aM 14), .ref (aM 15)]))] H := hP
        have hD : va_D A [((aM 5), .inl (cyI, 4, .inl M_kind)), ((aM 7), .inl (cyI, 4, .inl M_knows)), ((aM 0), .inr (4, [.int Mfault, .int o16, .ref (aM 1), .ref (aM 2), .ref (aM 3), .int Mdeeds, .int Mpeople, .ref (aM 4), .ref (aM 5), .ref (aM 6), .ref (aM 7), .ref (aM 8), .int Mat, .int MreadDeeds, .int MreadMany, .ref (aM 9), .ref (aM 10), .ref (aM 11), .int Mpairs, .ref (aM 12), .ref (aM 13), .int Mcaught, .int Mreadings, .ref (aM 14), .ref (aM 15)]))] := hD
        refine lv_aload_n hx hb dX4_tell_78 rfl (lv_at hl 1 rfl) ?_
        refine lv_iconst (v := 1) hx hb dX4_tell_79 (by decide) ?_
        obtain ⟨o18, hc19, h⟩ := ob h
        refine k_vv (As := [.int 1]) (rest := []) ⟨hx, hb, hml, hown, hts⟩ (c_X4_begins l dC dI cyI cyO aM H.size Mfault o16 Mdeeds Mpeople Mat MreadDeeds MreadMany Mpairs Mcaught Mreadings 1 hc19) (cwV 1 hts gX4_tell_X4_begins rfl rfl rfl (by decide +kernel) ⟨Nat.le_of_ble_eq_true rfl, Nat.le_of_ble_eq_true rfl⟩) hP hD hK hS hA [2] [0, 1] rfl rfl (by decide) (by decide) (by decide) 4 0 rfl rfl rfl rfl hl.1 rfl (Nat.le_of_ble_eq_true rfl) dX4_tell_80 ⟨Nat.zero_le _, Nat.zero_le _⟩ (fun _ H locs hP hD hS => ?_)
        have hP : va_P (dC, dI) vwCl [((aM 5), .inl (cyI, 4, .inl M_kind)), ((aM 7), .inl (cyI, 4, .inl M_knows)), ((aM 0), .inr (4, [.int Mfault, .int o18, .ref (aM 1), .ref (aM 2), .ref (aM 3), .int Mdeeds, .int Mpeople, .ref (aM 4), .ref (aM 5), .ref (aM 6), .ref (aM 7), .ref (aM 8), .int Mat, .int MreadDeeds, .int MreadMany, .ref (aM 9), .ref (aM 10), .ref (aM 11), .int Mpairs, .ref (aM 12), .ref (aM 13), .int Mcaught, .int Mreadings, .ref (aM 14), .ref (aM 15)]))] H := hP
        have hD : va_D A [((aM 5), .inl (cyI, 4, .inl M_kind)), ((aM 7), .inl (cyI, 4, .inl M_knows)), ((aM 0), .inr (4, [.int Mfault, .int o18, .ref (aM 1), .ref (aM 2), .ref (aM 3), .int Mdeeds, .int Mpeople, .ref (aM 4), .ref (aM 5), .ref (aM 6), .ref (aM 7), .ref (aM 8), .int Mat, .int MreadDeeds, .int MreadMany, .ref (aM 9), .ref (aM 10), .ref (aM 11), .int Mpairs, .ref (aM 12), .ref (aM 13), .int Mcaught, .int Mreadings, .ref (aM 14), .ref (aM 15)]))] := hD
        refine lv_iconst (v := 2) hx hb dX4_tell_83 (by decide) ?_
        refine lv_iload_n hx hb dX4_tell_84 rfl (lv_at hl 0 rfl) ?_
        refine lv_imul hx hb dX4_tell_85 ?_
        refine lv_bipush (v := 100) hx hb dX4_tell_86 (by decide) ?_
        refine lv_iadd hx hb dX4_tell_88 ?_
        replace h := Option.some.inj h; subst h
        have hP := hP.sub (ws' := [((aM 0), .inr (4, [.int Mfault, .int o18, .ref (aM 1), .ref (aM 2), .ref (aM 3), .int Mdeeds, .int Mpeople, .ref (aM 4), .ref (aM 5), .ref (aM 6), .ref (aM 7), .ref (aM 8), .int Mat, .int MreadDeeds, .int MreadMany, .ref (aM 9), .ref (aM 10), .ref (aM 11), .int Mpairs, .ref (aM 12), .ref (aM 13), .int Mcaught, .int Mreadings, .ref (aM 14), .ref (aM 15)])), ((aM 5), .inl (cyI, 4, .inl M_kind)), ((aM 7), .inl (cyI, 4, .inl M_knows))]) [2, 0, 1] rfl
        have hD := hD.sub (ws' := [((aM 0), .inr (4, [.int Mfault, .int o18, .ref (aM 1), .ref (aM 2), .ref (aM 3), .int Mdeeds, .int Mpeople, .ref (aM 4), .ref (aM 5), .ref (aM 6), .ref (aM 7), .ref (aM 8), .int Mat, .int MreadDeeds, .int MreadMany, .ref (aM 9), .ref (aM 10), .ref (aM 11), .int Mpairs, .ref (aM 12), .ref (aM 13), .int Mcaught, .int Mreadings, .ref (aM 14), .ref (aM 15)])), ((aM 5), .inl (cyI, 4, .inl M_kind)), ((aM 7), .inl (cyI, 4, .inl M_knows))]) [2, 0, 1] (by decide) rfl
        exact hret () H locs _ ls hP hD hS dX4_tell_89 rfl
      · replace h := it_f c11 h
        refine lv_lookup (tgt := 90) (off := 67) hx hb dX4_tell_23 (by decide) (show Op.lookupswitch.offset [(1, 25), (2, 40)] 67 (Int32.toInt (M_kind p1.toNatClampNeg)) = 67 from by rw [lv_osw c6 (show (1 : Int32).toInt = 1 from rfl), lv_osw c11 (show (2 : Int32).toInt = 2 from rfl)]; rfl) (by decide) ?_
        refine lv_aload_n hx hb dX4_tell_90 rfl (lv_at hl 1 rfl) ?_
        refine lv_iconst (v := 1) hx hb dX4_tell_91 (by decide) ?_
        obtain ⟨o20, hc21, h⟩ := ob h
        refine k_vv (As := [.int 1]) (rest := []) ⟨hx, hb, hml, hown, hts⟩ (c_X4_begins l dC dI cyI cyO aM H.size Mfault Mtrace Mdeeds Mpeople Mat MreadDeeds MreadMany Mpairs Mcaught Mreadings 1 hc21) (cwV 1 hts gX4_tell_X4_begins rfl rfl rfl (by decide +kernel) ⟨Nat.le_of_ble_eq_true rfl, Nat.le_of_ble_eq_true rfl⟩) hP hD hK hS hA [2] [0, 1] rfl rfl (by decide) (by decide) (by decide) 4 0 rfl rfl rfl rfl hl.1 rfl (Nat.le_of_ble_eq_true rfl) dX4_tell_92 ⟨Nat.zero_le _, Nat.zero_le _⟩ (fun _ H locs hP hD hS => ?_)
        have hP : va_P (dC, dI) vwCl [((aM 5), .inl (cyI, 4, .inl M_kind)), ((aM 7), .inl (cyI, 4, .inl M_knows)), ((aM 0), .inr (4, [.int Mfault, .int o20, .ref (aM 1), .ref (aM 2), .ref (aM 3), .int Mdeeds, .int Mpeople, .ref (aM 4), .ref (aM 5), .ref (aM 6), .ref (aM 7), .ref (aM 8), .int Mat, .int MreadDeeds, .int MreadMany, .ref (aM 9), .ref (aM 10), .ref (aM 11), .int Mpairs, .ref (aM 12), .ref (aM 13), .int Mcaught, .int Mreadings, .ref (aM 14), .ref (aM 15)]))] H := hP
        have hD : va_D A [((aM 5), .inl (cyI, 4, .inl M_kind)), ((aM 7), .inl (cyI, 4, .inl M_knows)), ((aM 0), .inr (4, [.int Mfault, .int o20, .ref (aM 1), .ref (aM 2), .ref (aM 3), .int Mdeeds, .int Mpeople, .ref (aM 4), .ref (aM 5), .ref (aM 6), .ref (aM 7), .ref (aM 8), .int Mat, .int MreadDeeds, .int MreadMany, .ref (aM 9), .ref (aM 10), .ref (aM 11), .int Mpairs, .ref (aM 12), .ref (aM 13), .int Mcaught, .int Mreadings, .ref (aM 14), .ref (aM 15)]))] := hD
        refine lv_iload_n hx hb dX4_tell_95 rfl (lv_at hl 0 rfl) ?_
        replace h := Option.some.inj h; subst h
        have hP := hP.sub (ws' := [((aM 0), .inr (4, [.int Mfault, .int o20, .ref (aM 1), .ref (aM 2), .ref (aM 3), .int Mdeeds, .int Mpeople, .ref (aM 4), .ref (aM 5), .ref (aM 6), .ref (aM 7), .ref (aM 8), .int Mat, .int MreadDeeds, .int MreadMany, .ref (aM 9), .ref (aM 10), .ref (aM 11), .int Mpairs, .ref (aM 12), .ref (aM 13), .int Mcaught, .int Mreadings, .ref (aM 14), .ref (aM 15)])), ((aM 5), .inl (cyI, 4, .inl M_kind)), ((aM 7), .inl (cyI, 4, .inl M_knows))]) [2, 0, 1] rfl
        have hD := hD.sub (ws' := [((aM 0), .inr (4, [.int Mfault, .int o20, .ref (aM 1), .ref (aM 2), .ref (aM 3), .int Mdeeds, .int Mpeople, .ref (aM 4), .ref (aM 5), .ref (aM 6), .ref (aM 7), .ref (aM 8), .int Mat, .int MreadDeeds, .int MreadMany, .ref (aM 9), .ref (aM 10), .ref (aM 11), .int Mpairs, .ref (aM 12), .ref (aM 13), .int Mcaught, .int Mreadings, .ref (aM 14), .ref (aM 15)])), ((aM 5), .inl (cyI, 4, .inl M_kind)), ((aM 7), .inl (cyI, 4, .inl M_knows))]) [2, 0, 1] (by decide) rfl
        exact hret () H locs _ ls hP hD hS dX4_tell_96 rfl
  · replace h := it_t c3 h
    refine lv_iconst (v := (-1)) hx hb dX4_tell_8 (by decide) ?_
    replace h := Option.some.inj h; subst h
    have hP := hP.sub (ws' := [((aM 0), .inr (4, [.int Mfault, .int Mtrace, .ref (aM 1), .ref (aM 2), .ref (aM 3), .int Mdeeds, .int Mpeople, .ref (aM 4), .ref (aM 5), .ref (aM 6), .ref (aM 7), .ref (aM 8), .int Mat, .int MreadDeeds, .int MreadMany, .ref (aM 9), .ref (aM 10), .ref (aM 11), .int Mpairs, .ref (aM 12), .ref (aM 13), .int Mcaught, .int Mreadings, .ref (aM 14), .ref (aM 15)])), ((aM 5), .inl (cyI, 4, .inl M_kind)), ((aM 7), .inl (cyI, 4, .inl M_knows))]) [2, 0, 1] rfl
    have hD := hD.sub (ws' := [((aM 0), .inr (4, [.int Mfault, .int Mtrace, .ref (aM 1), .ref (aM 2), .ref (aM 3), .int Mdeeds, .int Mpeople, .ref (aM 4), .ref (aM 5), .ref (aM 6), .ref (aM 7), .ref (aM 8), .int Mat, .int MreadDeeds, .int MreadMany, .ref (aM 9), .ref (aM 10), .ref (aM 11), .int Mpairs, .ref (aM 12), .ref (aM 13), .int Mcaught, .int Mreadings, .ref (aM 14), .ref (aM 15)])), ((aM 5), .inl (cyI, 4, .inl M_kind)), ((aM 7), .inl (cyI, 4, .inl M_knows))]) [2, 0, 1] (by decide) rfl
    exact hret () H locs _ ls hP hD hS dX4_tell_9 rfl
set_option maxHeartbeats 4000000 in
set_option maxRecDepth 100000 in
theorem c_X4_greet (l : Launch) (dC : Nat → ClassId) (dI : Nat → Nat → Nat) (cyI cyO : ClassId) (aM : Nat → Nat) (sz : Nat) (Mfault : Int32) (Mtrace : Int32) (Mdeeds : Int32) (Mpeople : Int32) (Mat : Int32) (MreadDeeds : Int32) (MreadMany : Int32) (Mpairs : Int32) (Mcaught : Int32) (Mreadings : Int32) (M_kind : Nat → Int32) (p1 : Int32) {o : Int32 × Int32}  (h : f_X4_greet Mtrace Mpeople M_kind p1 = some o) : CtI l yX4_greet wsX4_greet { frames := 1, cells := 0, slots := 0, locals := 21 } (dC, dI) [(cyI, .int), (cyO, .object RX0)] [.ref (aM 0), .int p1] sz [((aM 0), .inr (4, [.int Mfault, .int Mtrace, .ref (aM 1), .ref (aM 2), .ref (aM 3), .int Mdeeds, .int Mpeople, .ref (aM 4), .ref (aM 5), .ref (aM 6), .ref (aM 7), .ref (aM 8), .int Mat, .int MreadDeeds, .int MreadMany, .ref (aM 9), .ref (aM 10), .ref (aM 11), .int Mpairs, .ref (aM 12), .ref (aM 13), .int Mcaught, .int Mreadings, .ref (aM 14), .ref (aM 15)])), ((aM 5), .inl (cyI, 4, .inl M_kind))] (fun (_ : Unit) => [((aM 0), .inr (4, [.int Mfault, .int o.2, .ref (aM 1), .ref (aM 2), .ref (aM 3), .int Mdeeds, .int Mpeople, .ref (aM 4), .ref (aM 5), .ref (aM 6), .ref (aM 7), .ref (aM 8), .int Mat, .int MreadDeeds, .int MreadMany, .ref (aM 9), .ref (aM 10), .ref (aM 11), .int Mpairs, .ref (aM 12), .ref (aM 13), .int Mcaught, .int Mreadings, .ref (aM 14), .ref (aM 15)])), ((aM 5), .inl (cyI, 4, .inl M_kind))]) o.1 := by
  refine CtI.of (cc := cX4_greet) (maxL := 2) (by decide) rfl (Nat.le_of_ble_eq_true rfl) ?_
  intro p e s m args below meth c A Q H locs hx hb hml hown hts hA hK hP hD hS hret ls hl
  have hown : s.vm.findClass RX4 = some m.cls := hown
  have hl : lv_has ls 2 [(0, .ref (aM 0)), (1, .int p1)] := hl
  unfold f_X4_greet at h
  have hiX4 : ∀ w ∈ u_ws RX4 TX4 25, w ∈ wsX4_greet := by decide +kernel
  have hf22 := hts (.fieldLink RX4 22 "TowerTellModel" "kind" "[I") (by decide +kernel)
  refine lv_aload_n hx hb dX4_greet_0 rfl (lv_at hl 0 rfl) ?_
  refine lv_iload_n hx hb dX4_greet_1 rfl (lv_at hl 1 rfl) ?_
  obtain ⟨o1, hc2, h⟩ := ob h
  refine k_vi (As := [.int p1]) (rest := []) ⟨hx, hb, hml, hown, hts⟩ (c_X4_isPerson l dC dI cyI cyO aM H.size Mfault Mtrace Mdeeds Mpeople Mat MreadDeeds MreadMany Mpairs Mcaught Mreadings p1 hc2) (cwV 1 hts gX4_greet_X4_isPerson rfl rfl rfl (by decide +kernel) ⟨Nat.le_of_ble_eq_true rfl, Nat.le_of_ble_eq_true rfl⟩) hP hD hK hS hA [0] [1] rfl rfl (by decide) (by decide) (by decide) 4 0 rfl rfl rfl rfl hl.1 rfl (Nat.le_of_ble_eq_true rfl) dX4_greet_2 ⟨Nat.zero_le _, Nat.zero_le _⟩ (fun _ H locs hP hD hS => ?_)
  have hP : va_P (dC, dI) vwCl [((aM 5), .inl (cyI, 4, .inl M_kind)), ((aM 0), .inr (4, [.int Mfault, .int Mtrace, .ref (aM 1), .ref (aM 2), .ref (aM 3), .int Mdeeds, .int Mpeople, .ref (aM 4), .ref (aM 5), .ref (aM 6), .ref (aM 7), .ref (aM 8), .int Mat, .int MreadDeeds, .int MreadMany, .ref (aM 9), .ref (aM 10), .ref (aM 11), .int Mpairs, .ref (aM 12), .ref (aM 13), .int Mcaught, .int Mreadings, .ref (aM 14), .ref (aM 15)]))] H := hP
  have hD : va_D A [((aM 5), .inl (cyI, 4, .inl M_kind)), ((aM 0), .inr (4, [.int Mfault, .int Mtrace, .ref (aM 1), .ref (aM 2), .ref (aM 3), .int Mdeeds, .int Mpeople, .ref (aM 4), .ref (aM 5), .ref (aM 6), .ref (aM 7), .ref (aM 8), .int Mat, .int MreadDeeds, .int MreadMany, .ref (aM 9), .ref (aM 10), .ref (aM 11), .int Mpairs, .ref (aM 12), .ref (aM 13), .int Mcaught, .int Mreadings, .ref (aM 14), .ref (aM 15)]))] := hD
  refine lv_if_ne (tgt := 10) hx hb dX4_greet_5 (by decide) (fun c3 => ?_) (fun c3 => ?_)
  · replace h := it_f c3 h
    refine lv_aload_n hx hb dX4_greet_10 rfl (lv_at hl 0 rfl) ?_
    refine lv_aload_n hx hb dX4_greet_11 rfl (lv_at hl 0 rfl) ?_
    refine va_get (D := (dC, dI)) (ci := 4) (v := .ref (aM 5)) (C := RX4) (T := TX4) (N := 25) hx hb hts hiX4 hown hK hP 1 rfl rfl 8 (by decide) hf22 (fun _ h9 => h9) rfl dX4_greet_12 ?_
    refine lv_iload_n hx hb dX4_greet_15 rfl (lv_at hl 1 rfl) ?_
    obtain ⟨e4, h⟩ := it_n h
    refine va_iald hx hb hK hP 0 0 rfl rfl (ix_in e4) dX4_greet_16 ?_
    refine lv_iconst (v := 2) hx hb dX4_greet_17 (by decide) ?_
    refine lv_icmp_ne (tgt := 25) hx hb dX4_greet_18 (by decide) (fun c5 => ?_) (fun c5 => ?_)
    · replace h := it_f c5 h
      refine lv_iconst (v := 4) hx hb dX4_greet_25 (by decide) ?_
      obtain ⟨o6, hc7, h⟩ := ob h
      refine k_vv (As := [.int 4]) (rest := []) ⟨hx, hb, hml, hown, hts⟩ (c_X4_begins l dC dI cyI cyO aM H.size Mfault Mtrace Mdeeds Mpeople Mat MreadDeeds MreadMany Mpairs Mcaught Mreadings 4 hc7) (cwV 1 hts gX4_greet_X4_begins rfl rfl rfl (by decide +kernel) ⟨Nat.le_of_ble_eq_true rfl, Nat.le_of_ble_eq_true rfl⟩) hP hD hK hS hA [1] [0] rfl rfl (by decide) (by decide) (by decide) 4 0 rfl rfl rfl rfl hl.1 rfl (Nat.le_of_ble_eq_true rfl) dX4_greet_26 ⟨Nat.zero_le _, Nat.zero_le _⟩ (fun _ H locs hP hD hS => ?_)
      have hP : va_P (dC, dI) vwCl [((aM 5), .inl (cyI, 4, .inl M_kind)), ((aM 0), .inr (4, [.int Mfault, .int o6, .ref (aM 1), .ref (aM 2), .ref (aM 3), .int Mdeeds, .int Mpeople, .ref (aM 4), .ref (aM 5), .ref (aM 6), .ref (aM 7), .ref (aM 8), .int Mat, .int MreadDeeds, .int MreadMany, .ref (aM 9), .ref (aM 10), .ref (aM 11), .int Mpairs, .ref (aM 12), .ref (aM 13), .int Mcaught, .int Mreadings, .ref (aM 14), .ref (aM 15)]))] H := hP
      have hD : va_D A [((aM 5), .inl (cyI, 4, .inl M_kind)), ((aM 0), .inr (4, [.int Mfault, .int o6, .ref (aM 1), .ref (aM 2), .ref (aM 3), .int Mdeeds, .int Mpeople, .ref (aM 4), .ref (aM 5), .ref (aM 6), .ref (aM 7), .ref (aM 8), .int Mat, .int MreadDeeds, .int MreadMany, .ref (aM 9), .ref (aM 10), .ref (aM 11), .int Mpairs, .ref (aM 12), .ref (aM 13), .int Mcaught, .int Mreadings, .ref (aM 14), .ref (aM 15)]))] := hD
      refine lv_aload_n hx hb dX4_greet_29 rfl (lv_at hl 0 rfl) ?_
      refine va_get (D := (dC, dI)) (ci := 4) (v := .ref (aM 5)) (C := RX4) (T := TX4) (N := 25) hx hb hts hiX4 hown hK hP 1 rfl rfl 8 (by decide) hf22 (fun _ h9 => h9) rfl dX4_greet_30 ?_
      refine lv_iload_n hx hb dX4_greet_33 rfl (lv_at hl 1 rfl) ?_
      obtain ⟨e8, h⟩ := it_n h
      refine va_iald hx hb hK hP 0 0 rfl rfl (ix_in e8) dX4_greet_34 ?_
      refine lv_iconst (v := 2) hx hb dX4_greet_35 (by decide) ?_
      refine lv_icmp_ne (tgt := 44) hx hb dX4_greet_36 (by decide) (fun c9 => ?_) (fun c9 => ?_)
      · replace h := it_f c9 h
        refine lv_iload_n hx hb dX4_greet_44 rfl (lv_at hl 1 rfl) ?_
        replace h := Option.some.inj h; subst h
        have hP := hP.sub (ws' := [((aM 0), .inr (4, [.int Mfault, .int o6, .ref (aM 1), .ref (aM 2), .ref (aM 3), .int Mdeeds, .int Mpeople, .ref (aM 4), .ref (aM 5), .ref (aM 6), .ref (aM 7), .ref (aM 8), .int Mat, .int MreadDeeds, .int MreadMany, .ref (aM 9), .ref (aM 10), .ref (aM 11), .int Mpairs, .ref (aM 12), .ref (aM 13), .int Mcaught, .int Mreadings, .ref (aM 14), .ref (aM 15)])), ((aM 5), .inl (cyI, 4, .inl M_kind))]) [1, 0] rfl
        have hD := hD.sub (ws' := [((aM 0), .inr (4, [.int Mfault, .int o6, .ref (aM 1), .ref (aM 2), .ref (aM 3), .int Mdeeds, .int Mpeople, .ref (aM 4), .ref (aM 5), .ref (aM 6), .ref (aM 7), .ref (aM 8), .int Mat, .int MreadDeeds, .int MreadMany, .ref (aM 9), .ref (aM 10), .ref (aM 11), .int Mpairs, .ref (aM 12), .ref (aM 13), .int Mcaught, .int Mreadings, .ref (aM 14), .ref (aM 15)])), ((aM 5), .inl (cyI, 4, .inl M_kind))]) [1, 0] (by decide) rfl
        exact hret () H locs _ ls hP hD hS dX4_greet_45 rfl
      · replace h := it_t c9 h
        refine lv_bipush (v := 80) hx hb dX4_greet_39 (by decide) ?_
        refine lv_goto (tgt := 45) hx hb dX4_greet_41 (by decide) ?_
        replace h := Option.some.inj h; subst h
        have hP := hP.sub (ws' := [((aM 0), .inr (4, [.int Mfault, .int o6, .ref (aM 1), .ref (aM 2), .ref (aM 3), .int Mdeeds, .int Mpeople, .ref (aM 4), .ref (aM 5), .ref (aM 6), .ref (aM 7), .ref (aM 8), .int Mat, .int MreadDeeds, .int MreadMany, .ref (aM 9), .ref (aM 10), .ref (aM 11), .int Mpairs, .ref (aM 12), .ref (aM 13), .int Mcaught, .int Mreadings, .ref (aM 14), .ref (aM 15)])), ((aM 5), .inl (cyI, 4, .inl M_kind))]) [1, 0] rfl
        have hD := hD.sub (ws' := [((aM 0), .inr (4, [.int Mfault, .int o6, .ref (aM 1), .ref (aM 2), .ref (aM 3), .int Mdeeds, .int Mpeople, .ref (aM 4), .ref (aM 5), .ref (aM 6), .ref (aM 7), .ref (aM 8), .int Mat, .int MreadDeeds, .int MreadMany, .ref (aM 9), .ref (aM 10), .ref (aM 11), .int Mpairs, .ref (aM 12), .ref (aM 13), .int Mcaught, .int Mreadings, .ref (aM 14), .ref (aM 15)])), ((aM 5), .inl (cyI, 4, .inl M_kind))]) [1, 0] (by decide) rfl
        exact hret () H locs _ ls hP hD hS dX4_greet_45 rfl
    · replace h := it_t c5 h
      refine lv_iconst (v := 5) hx hb dX4_greet_21 (by decide) ?_
      refine lv_goto (tgt := 26) hx hb dX4_greet_22 (by decide) ?_
      obtain ⟨o10, hc11, h⟩ := ob h
      refine k_vv (As := [.int 5]) (rest := []) ⟨hx, hb, hml, hown, hts⟩ (c_X4_begins l dC dI cyI cyO aM H.size Mfault Mtrace Mdeeds Mpeople Mat MreadDeeds MreadMany Mpairs Mcaught Mreadings 5 hc11) (cwV 1 hts gX4_greet_X4_begins rfl rfl rfl (by decide +kernel) ⟨Nat.le_of_ble_eq_true rfl, Nat.le_of_ble_eq_true rfl⟩) hP hD hK hS hA [1] [0] rfl rfl (by decide) (by decide) (by decide) 4 0 rfl rfl rfl rfl hl.1 rfl (Nat.le_of_ble_eq_true rfl) dX4_greet_26 ⟨Nat.zero_le _, Nat.zero_le _⟩ (fun _ H locs hP hD hS => ?_)
      have hP : va_P (dC, dI) vwCl [((aM 5), .inl (cyI, 4, .inl M_kind)), ((aM 0), .inr (4, [.int Mfault, .int o10, .ref (aM 1), .ref (aM 2), .ref (aM 3), .int Mdeeds, .int Mpeople, .ref (aM 4), .ref (aM 5), .ref (aM 6), .ref (aM 7), .ref (aM 8), .int Mat, .int MreadDeeds, .int MreadMany, .ref (aM 9), .ref (aM 10), .ref (aM 11), .int Mpairs, .ref (aM 12), .ref (aM 13), .int Mcaught, .int Mreadings, .ref (aM 14), .ref (aM 15)]))] H := hP
      have hD : va_D A [((aM 5), .inl (cyI, 4, .inl M_kind)), ((aM 0), .inr (4, [.int Mfault, .int o10, .ref (aM 1), .ref (aM 2), .ref (aM 3), .int Mdeeds, .int Mpeople, .ref (aM 4), .ref (aM 5), .ref (aM 6), .ref (aM 7), .ref (aM 8), .int Mat, .int MreadDeeds, .int MreadMany, .ref (aM 9), .ref (aM 10), .ref (aM 11), .int Mpairs, .ref (aM 12), .ref (aM 13), .int Mcaught, .int Mreadings, .ref (aM 14), .ref (aM 15)]))] := hD
      refine lv_aload_n hx hb dX4_greet_29 rfl (lv_at hl 0 rfl) ?_
      refine va_get (D := (dC, dI)) (ci := 4) (v := .ref (aM 5)) (C := RX4) (T := TX4) (N := 25) hx hb hts hiX4 hown hK hP 1 rfl rfl 8 (by decide) hf22 (fun _ h9 => h9) rfl dX4_greet_30 ?_
      refine lv_iload_n hx hb dX4_greet_33 rfl (lv_at hl 1 rfl) ?_
      obtain ⟨e12, h⟩ := it_n h
      refine va_iald hx hb hK hP 0 0 rfl rfl (ix_in e12) dX4_greet_34 ?_
      refine lv_iconst (v := 2) hx hb dX4_greet_35 (by decide) ?_
      refine lv_icmp_ne (tgt := 44) hx hb dX4_greet_36 (by decide) (fun c13 => ?_) (fun c13 => ?_)
      · replace h := it_f c13 h
        refine lv_iload_n hx hb dX4_greet_44 rfl (lv_at hl 1 rfl) ?_
        replace h := Option.some.inj h; subst h
        have hP := hP.sub (ws' := [((aM 0), .inr (4, [.int Mfault, .int o10, .ref (aM 1), .ref (aM 2), .ref (aM 3), .int Mdeeds, .int Mpeople, .ref (aM 4), .ref (aM 5), .ref (aM 6), .ref (aM 7), .ref (aM 8), .int Mat, .int MreadDeeds, .int MreadMany, .ref (aM 9), .ref (aM 10), .ref (aM 11), .int Mpairs, .ref (aM 12), .ref (aM 13), .int Mcaught, .int Mreadings, .ref (aM 14), .ref (aM 15)])), ((aM 5), .inl (cyI, 4, .inl M_kind))]) [1, 0] rfl
        have hD := hD.sub (ws' := [((aM 0), .inr (4, [.int Mfault, .int o10, .ref (aM 1), .ref (aM 2), .ref (aM 3), .int Mdeeds, .int Mpeople, .ref (aM 4), .ref (aM 5), .ref (aM 6), .ref (aM 7), .ref (aM 8), .int Mat, .int MreadDeeds, .int MreadMany, .ref (aM 9), .ref (aM 10), .ref (aM 11), .int Mpairs, .ref (aM 12), .ref (aM 13), .int Mcaught, .int Mreadings, .ref (aM 14), .ref (aM 15)])), ((aM 5), .inl (cyI, 4, .inl M_kind))]) [1, 0] (by decide) rfl
        exact hret () H locs _ ls hP hD hS dX4_greet_45 rfl
      · replace h := it_t c13 h
        refine lv_bipush (v := 80) hx hb dX4_greet_39 (by decide) ?_
        refine lv_goto (tgt := 45) hx hb dX4_greet_41 (by decide) ?_
        replace h := Option.some.inj h; subst h
        have hP := hP.sub (ws' := [((aM 0), .inr (4, [.int Mfault, .int o10, .ref (aM 1), .ref (aM 2), .ref (aM 3), .int Mdeeds, .int Mpeople, .ref (aM 4), .ref (aM 5), .ref (aM 6), .ref (aM 7), .ref (aM 8), .int Mat, .int MreadDeeds, .int MreadMany, .ref (aM 9), .ref (aM 10), .ref (aM 11), .int Mpairs, .ref (aM 12), .ref (aM 13), .int Mcaught, .int Mreadings, .ref (aM 14), .ref (aM 15)])), ((aM 5), .inl (cyI, 4, .inl M_kind))]) [1, 0] rfl
        have hD := hD.sub (ws' := [((aM 0), .inr (4, [.int Mfault, .int o10, .ref (aM 1), .ref (aM 2), .ref (aM 3), .int Mdeeds, .int Mpeople, .ref (aM 4), .ref (aM 5), .ref (aM 6), .ref (aM 7), .ref (aM 8), .int Mat, .int MreadDeeds, .int MreadMany, .ref (aM 9), .ref (aM 10), .ref (aM 11), .int Mpairs, .ref (aM 12), .ref (aM 13), .int Mcaught, .int Mreadings, .ref (aM 14), .ref (aM 15)])), ((aM 5), .inl (cyI, 4, .inl M_kind))]) [1, 0] (by decide) rfl
        exact hret () H locs _ ls hP hD hS dX4_greet_45 rfl
  · replace h := it_t c3 h
    refine lv_iconst (v := (-1)) hx hb dX4_greet_8 (by decide) ?_
    replace h := Option.some.inj h; subst h
    have hP := hP.sub (ws' := [((aM 0), .inr (4, [.int Mfault, .int Mtrace, .ref (aM 1), .ref (aM 2), .ref (aM 3), .int Mdeeds, .int Mpeople, .ref (aM 4), .ref (aM 5), .ref (aM 6), .ref (aM 7), .ref (aM 8), .int Mat, .int MreadDeeds, .int MreadMany, .ref (aM 9), .ref (aM 10), .ref (aM 11), .int Mpairs, .ref (aM 12), .ref (aM 13), .int Mcaught, .int Mreadings, .ref (aM 14), .ref (aM 15)])), ((aM 5), .inl (cyI, 4, .inl M_kind))]) [1, 0] rfl
    have hD := hD.sub (ws' := [((aM 0), .inr (4, [.int Mfault, .int Mtrace, .ref (aM 1), .ref (aM 2), .ref (aM 3), .int Mdeeds, .int Mpeople, .ref (aM 4), .ref (aM 5), .ref (aM 6), .ref (aM 7), .ref (aM 8), .int Mat, .int MreadDeeds, .int MreadMany, .ref (aM 9), .ref (aM 10), .ref (aM 11), .int Mpairs, .ref (aM 12), .ref (aM 13), .int Mcaught, .int Mreadings, .ref (aM 14), .ref (aM 15)])), ((aM 5), .inl (cyI, 4, .inl M_kind))]) [1, 0] (by decide) rfl
    exact hret () H locs _ ls hP hD hS dX4_greet_9 rfl
set_option maxHeartbeats 4000000 in
set_option maxRecDepth 100000 in
theorem c_X4_as (l : Launch) (dC : Nat → ClassId) (dI : Nat → Nat → Nat) (cyI cyO : ClassId) (aM : Nat → Nat) (sz : Nat) (Mfault : Int32) (Mtrace : Int32) (Mdeeds : Int32) (Mpeople : Int32) (Mat : Int32) (MreadDeeds : Int32) (MreadMany : Int32) (Mpairs : Int32) (Mcaught : Int32) (Mreadings : Int32) (M_kind : Nat → Int32) (p1 : Int32) (p2 : Int32) {o : Int32 × Int32}  (h : f_X4_as Mfault Mpeople M_kind p1 p2 = some o) : CtI l yX4_as wsX4_as { frames := 1, cells := 0, slots := 0, locals := 22 } (dC, dI) [(cyI, .int), (cyO, .object RX0)] [.ref (aM 0), .int p1, .int p2] sz [((aM 0), .inr (4, [.int Mfault, .int Mtrace, .ref (aM 1), .ref (aM 2), .ref (aM 3), .int Mdeeds, .int Mpeople, .ref (aM 4), .ref (aM 5), .ref (aM 6), .ref (aM 7), .ref (aM 8), .int Mat, .int MreadDeeds, .int MreadMany, .ref (aM 9), .ref (aM 10), .ref (aM 11), .int Mpairs, .ref (aM 12), .ref (aM 13), .int Mcaught, .int Mreadings, .ref (aM 14), .ref (aM 15)])), ((aM 5), .inl (cyI, 4, .inl M_kind))] (fun (_ : Unit) => [((aM 0), .inr (4, [.int o.2, .int Mtrace, .ref (aM 1), .ref (aM 2), .ref (aM 3), .int Mdeeds, .int Mpeople, .ref (aM 4), .ref (aM 5), .ref (aM 6), .ref (aM 7), .ref (aM 8), .int Mat, .int MreadDeeds, .int MreadMany, .ref (aM 9), .ref (aM 10), .ref (aM 11), .int Mpairs, .ref (aM 12), .ref (aM 13), .int Mcaught, .int Mreadings, .ref (aM 14), .ref (aM 15)])), ((aM 5), .inl (cyI, 4, .inl M_kind))]) o.1 := by
  refine CtI.of (cc := cX4_as) (maxL := 3) (by decide) rfl (Nat.le_of_ble_eq_true rfl) ?_
  intro p e s m args below meth c A Q H locs hx hb hml hown hts hA hK hP hD hS hret ls hl
  have hown : s.vm.findClass RX4 = some m.cls := hown
  have hl : lv_has ls 3 [(0, .ref (aM 0)), (1, .int p1), (2, .int p2)] := hl
  unfold f_X4_as at h
  have hiX4 : ∀ w ∈ u_ws RX4 TX4 25, w ∈ wsX4_as := by decide +kernel
  have hf22 := hts (.fieldLink RX4 22 "TowerTellModel" "kind" "[I") (by decide +kernel)
  have hf55 := hts (.fieldLink RX4 55 "TowerTellModel" "fault" "I") (by decide +kernel)
  refine lv_aload_n hx hb dX4_as_0 rfl (lv_at hl 0 rfl) ?_
  refine lv_iconst (v := 0) hx hb dX4_as_1 (by decide) ?_
  refine va_put (D := (dC, dI)) (ci := 4) (v := .int 0) (ty := .int) (C := RX4) (T := TX4) (N := 25) hx hb hts hiX4 tyX4 tyX4_ok nmX4 hown hK hP hD hS 0 rfl rfl 0 (by decide) hf55 (fun _ h9 => h9) rfl (tyX4_ok 0 (by decide)) rfl rfl (Nat.le_of_ble_eq_true rfl) dX4_as_2 (fun H locs hP hD hS => ?_)
  have hP : va_P (dC, dI) vwCl [((aM 0), .inr (4, [.int 0, .int Mtrace, .ref (aM 1), .ref (aM 2), .ref (aM 3), .int Mdeeds, .int Mpeople, .ref (aM 4), .ref (aM 5), .ref (aM 6), .ref (aM 7), .ref (aM 8), .int Mat, .int MreadDeeds, .int MreadMany, .ref (aM 9), .ref (aM 10), .ref (aM 11), .int Mpairs, .ref (aM 12), .ref (aM 13), .int Mcaught, .int Mreadings, .ref (aM 14), .ref (aM 15)])), ((aM 5), .inl (cyI, 4, .inl M_kind))] H := hP
  have hD : va_D A [((aM 0), .inr (4, [.int 0, .int Mtrace, .ref (aM 1), .ref (aM 2), .ref (aM 3), .int Mdeeds, .int Mpeople, .ref (aM 4), .ref (aM 5), .ref (aM 6), .ref (aM 7), .ref (aM 8), .int Mat, .int MreadDeeds, .int MreadMany, .ref (aM 9), .ref (aM 10), .ref (aM 11), .int Mpairs, .ref (aM 12), .ref (aM 13), .int Mcaught, .int Mreadings, .ref (aM 14), .ref (aM 15)])), ((aM 5), .inl (cyI, 4, .inl M_kind))] := hD
  refine lv_aload_n hx hb dX4_as_5 rfl (lv_at hl 0 rfl) ?_
  refine lv_iload_n hx hb dX4_as_6 rfl (lv_at hl 1 rfl) ?_
  obtain ⟨o1, hc2, h⟩ := ob h
  refine k_vi (As := [.int p1]) (rest := []) ⟨hx, hb, hml, hown, hts⟩ (c_X4_isPerson l dC dI cyI cyO aM H.size 0 Mtrace Mdeeds Mpeople Mat MreadDeeds MreadMany Mpairs Mcaught Mreadings p1 hc2) (cwV 1 hts gX4_as_X4_isPerson rfl rfl rfl (by decide +kernel) ⟨Nat.le_of_ble_eq_true rfl, Nat.le_of_ble_eq_true rfl⟩) hP hD hK hS hA [0] [1] rfl rfl (by decide) (by decide) (by decide) 4 0 rfl rfl rfl rfl hl.1 rfl (Nat.le_of_ble_eq_true rfl) dX4_as_7 ⟨Nat.zero_le _, Nat.zero_le _⟩ (fun _ H locs hP hD hS => ?_)
  have hP : va_P (dC, dI) vwCl [((aM 5), .inl (cyI, 4, .inl M_kind)), ((aM 0), .inr (4, [.int 0, .int Mtrace, .ref (aM 1), .ref (aM 2), .ref (aM 3), .int Mdeeds, .int Mpeople, .ref (aM 4), .ref (aM 5), .ref (aM 6), .ref (aM 7), .ref (aM 8), .int Mat, .int MreadDeeds, .int MreadMany, .ref (aM 9), .ref (aM 10), .ref (aM 11), .int Mpairs, .ref (aM 12), .ref (aM 13), .int Mcaught, .int Mreadings, .ref (aM 14), .ref (aM 15)]))] H := hP
  have hD : va_D A [((aM 5), .inl (cyI, 4, .inl M_kind)), ((aM 0), .inr (4, [.int 0, .int Mtrace, .ref (aM 1), .ref (aM 2), .ref (aM 3), .int Mdeeds, .int Mpeople, .ref (aM 4), .ref (aM 5), .ref (aM 6), .ref (aM 7), .ref (aM 8), .int Mat, .int MreadDeeds, .int MreadMany, .ref (aM 9), .ref (aM 10), .ref (aM 11), .int Mpairs, .ref (aM 12), .ref (aM 13), .int Mcaught, .int Mreadings, .ref (aM 14), .ref (aM 15)]))] := hD
  refine lv_if_ne (tgt := 15) hx hb dX4_as_10 (by decide) (fun c3 => ?_) (fun c3 => ?_)
  · replace h := it_f c3 h
    refine lv_iload_n hx hb dX4_as_15 rfl (lv_at hl 2 rfl) ?_
    refine lv_iconst (v := 0) hx hb dX4_as_16 (by decide) ?_
    refine lv_iconst (v := 2) hx hb dX4_as_17 (by decide) ?_
    obtain ⟨o4, hc5, h⟩ := ob h
    refine k_si (As := [.int p2, .int 0, .int 2]) (rest := []) ⟨hx, hb, hml, hown, hts⟩ (c_X4_within l dC dI cyI cyO H.size p2 0 2 hc5) (va_cwS 3 hts gX4_as_X4_within rfl rfl rfl (by decide +kernel) ⟨Nat.le_of_ble_eq_true rfl, Nat.le_of_ble_eq_true rfl⟩) hP hD hK hS hA [] [0, 1] rfl rfl (by decide) (by decide) (by decide) rfl hl.1 rfl (Nat.le_of_ble_eq_true rfl) dX4_as_18 ⟨Nat.zero_le _, Nat.zero_le _⟩ (fun _ H locs hP hD hS => ?_)
    have hP : va_P (dC, dI) vwCl [((aM 5), .inl (cyI, 4, .inl M_kind)), ((aM 0), .inr (4, [.int 0, .int Mtrace, .ref (aM 1), .ref (aM 2), .ref (aM 3), .int Mdeeds, .int Mpeople, .ref (aM 4), .ref (aM 5), .ref (aM 6), .ref (aM 7), .ref (aM 8), .int Mat, .int MreadDeeds, .int MreadMany, .ref (aM 9), .ref (aM 10), .ref (aM 11), .int Mpairs, .ref (aM 12), .ref (aM 13), .int Mcaught, .int Mreadings, .ref (aM 14), .ref (aM 15)]))] H := hP
    have hD : va_D A [((aM 5), .inl (cyI, 4, .inl M_kind)), ((aM 0), .inr (4, [.int 0, .int Mtrace, .ref (aM 1), .ref (aM 2), .ref (aM 3), .int Mdeeds, .int Mpeople, .ref (aM 4), .ref (aM 5), .ref (aM 6), .ref (aM 7), .ref (aM 8), .int Mat, .int MreadDeeds, .int MreadMany, .ref (aM 9), .ref (aM 10), .ref (aM 11), .int Mpairs, .ref (aM 12), .ref (aM 13), .int Mcaught, .int Mreadings, .ref (aM 14), .ref (aM 15)]))] := hD
    refine lv_if_ne (tgt := 27) hx hb dX4_as_21 (by decide) (fun c6 => ?_) (fun c6 => ?_)
    · replace h := it_f c6 h
      refine lv_aload_n hx hb dX4_as_27 rfl (lv_at hl 0 rfl) ?_
      refine va_get (D := (dC, dI)) (ci := 4) (v := .ref (aM 5)) (C := RX4) (T := TX4) (N := 25) hx hb hts hiX4 hown hK hP 1 rfl rfl 8 (by decide) hf22 (fun _ h9 => h9) rfl dX4_as_28 ?_
      refine lv_iload_n hx hb dX4_as_31 rfl (lv_at hl 1 rfl) ?_
      obtain ⟨e7, h⟩ := it_n h
      refine va_iald hx hb hK hP 0 0 rfl rfl (ix_in e7) dX4_as_32 ?_
      refine lv_iload_n hx hb dX4_as_33 rfl (lv_at hl 2 rfl) ?_
      refine lv_icmp_lt (tgt := 41) hx hb dX4_as_34 (by decide) (fun c8 => ?_) (fun c8 => ?_)
      · replace h := it_t c8 h
        refine lv_aload_n hx hb dX4_as_41 rfl (lv_at hl 0 rfl) ?_
        refine lv_iconst (v := 2) hx hb dX4_as_42 (by decide) ?_
        obtain ⟨o9, hc10, h⟩ := ob h
        refine k_vi (As := [.int 2]) (rest := []) ⟨hx, hb, hml, hown, hts⟩ (c_X4_fails l dC dI cyI cyO aM H.size 0 Mtrace Mdeeds Mpeople Mat MreadDeeds MreadMany Mpairs Mcaught Mreadings 2 hc10) (cwV 1 hts gX4_as_X4_fails rfl rfl rfl (by decide +kernel) ⟨Nat.le_of_ble_eq_true rfl, Nat.le_of_ble_eq_true rfl⟩) hP hD hK hS hA [1] [0] rfl rfl (by decide) (by decide) (by decide) 4 0 rfl rfl rfl rfl hl.1 rfl (Nat.le_of_ble_eq_true rfl) dX4_as_43 ⟨Nat.zero_le _, Nat.zero_le _⟩ (fun _ H locs hP hD hS => ?_)
        have hP : va_P (dC, dI) vwCl [((aM 5), .inl (cyI, 4, .inl M_kind)), ((aM 0), .inr (4, [.int o9.2, .int Mtrace, .ref (aM 1), .ref (aM 2), .ref (aM 3), .int Mdeeds, .int Mpeople, .ref (aM 4), .ref (aM 5), .ref (aM 6), .ref (aM 7), .ref (aM 8), .int Mat, .int MreadDeeds, .int MreadMany, .ref (aM 9), .ref (aM 10), .ref (aM 11), .int Mpairs, .ref (aM 12), .ref (aM 13), .int Mcaught, .int Mreadings, .ref (aM 14), .ref (aM 15)]))] H := hP
        have hD : va_D A [((aM 5), .inl (cyI, 4, .inl M_kind)), ((aM 0), .inr (4, [.int o9.2, .int Mtrace, .ref (aM 1), .ref (aM 2), .ref (aM 3), .int Mdeeds, .int Mpeople, .ref (aM 4), .ref (aM 5), .ref (aM 6), .ref (aM 7), .ref (aM 8), .int Mat, .int MreadDeeds, .int MreadMany, .ref (aM 9), .ref (aM 10), .ref (aM 11), .int Mpairs, .ref (aM 12), .ref (aM 13), .int Mcaught, .int Mreadings, .ref (aM 14), .ref (aM 15)]))] := hD
        replace h := Option.some.inj h; subst h
        have hP := hP.sub (ws' := [((aM 0), .inr (4, [.int o9.2, .int Mtrace, .ref (aM 1), .ref (aM 2), .ref (aM 3), .int Mdeeds, .int Mpeople, .ref (aM 4), .ref (aM 5), .ref (aM 6), .ref (aM 7), .ref (aM 8), .int Mat, .int MreadDeeds, .int MreadMany, .ref (aM 9), .ref (aM 10), .ref (aM 11), .int Mpairs, .ref (aM 12), .ref (aM 13), .int Mcaught, .int Mreadings, .ref (aM 14), .ref (aM 15)])), ((aM 5), .inl (cyI, 4, .inl M_kind))]) [1, 0] rfl
        have hD := hD.sub (ws' := [((aM 0), .inr (4, [.int o9.2, .int Mtrace, .ref (aM 1), .ref (aM 2), .ref (aM 3), .int Mdeeds, .int Mpeople, .ref (aM 4), .ref (aM 5), .ref (aM 6), .ref (aM 7), .ref (aM 8), .int Mat, .int MreadDeeds, .int MreadMany, .ref (aM 9), .ref (aM 10), .ref (aM 11), .int Mpairs, .ref (aM 12), .ref (aM 13), .int Mcaught, .int Mreadings, .ref (aM 14), .ref (aM 15)])), ((aM 5), .inl (cyI, 4, .inl M_kind))]) [1, 0] (by decide) rfl
        exact hret () H locs _ ls hP hD hS dX4_as_46 rfl
      · replace h := it_f c8 h
        refine lv_iconst (v := 1) hx hb dX4_as_37 (by decide) ?_
        refine lv_goto (tgt := 46) hx hb dX4_as_38 (by decide) ?_
        replace h := Option.some.inj h; subst h
        have hP := hP.sub (ws' := [((aM 0), .inr (4, [.int 0, .int Mtrace, .ref (aM 1), .ref (aM 2), .ref (aM 3), .int Mdeeds, .int Mpeople, .ref (aM 4), .ref (aM 5), .ref (aM 6), .ref (aM 7), .ref (aM 8), .int Mat, .int MreadDeeds, .int MreadMany, .ref (aM 9), .ref (aM 10), .ref (aM 11), .int Mpairs, .ref (aM 12), .ref (aM 13), .int Mcaught, .int Mreadings, .ref (aM 14), .ref (aM 15)])), ((aM 5), .inl (cyI, 4, .inl M_kind))]) [1, 0] rfl
        have hD := hD.sub (ws' := [((aM 0), .inr (4, [.int 0, .int Mtrace, .ref (aM 1), .ref (aM 2), .ref (aM 3), .int Mdeeds, .int Mpeople, .ref (aM 4), .ref (aM 5), .ref (aM 6), .ref (aM 7), .ref (aM 8), .int Mat, .int MreadDeeds, .int MreadMany, .ref (aM 9), .ref (aM 10), .ref (aM 11), .int Mpairs, .ref (aM 12), .ref (aM 13), .int Mcaught, .int Mreadings, .ref (aM 14), .ref (aM 15)])), ((aM 5), .inl (cyI, 4, .inl M_kind))]) [1, 0] (by decide) rfl
        exact hret () H locs _ ls hP hD hS dX4_as_46 rfl
    · replace h := it_t c6 h
      refine lv_bipush (v := (-2)) hx hb dX4_as_24 (by decide) ?_
      replace h := Option.some.inj h; subst h
      have hP := hP.sub (ws' := [((aM 0), .inr (4, [.int 0, .int Mtrace, .ref (aM 1), .ref (aM 2), .ref (aM 3), .int Mdeeds, .int Mpeople, .ref (aM 4), .ref (aM 5), .ref (aM 6), .ref (aM 7), .ref (aM 8), .int Mat, .int MreadDeeds, .int MreadMany, .ref (aM 9), .ref (aM 10), .ref (aM 11), .int Mpairs, .ref (aM 12), .ref (aM 13), .int Mcaught, .int Mreadings, .ref (aM 14), .ref (aM 15)])), ((aM 5), .inl (cyI, 4, .inl M_kind))]) [1, 0] rfl
      have hD := hD.sub (ws' := [((aM 0), .inr (4, [.int 0, .int Mtrace, .ref (aM 1), .ref (aM 2), .ref (aM 3), .int Mdeeds, .int Mpeople, .ref (aM 4), .ref (aM 5), .ref (aM 6), .ref (aM 7), .ref (aM 8), .int Mat, .int MreadDeeds, .int MreadMany, .ref (aM 9), .ref (aM 10), .ref (aM 11), .int Mpairs, .ref (aM 12), .ref (aM 13), .int Mcaught, .int Mreadings, .ref (aM 14), .ref (aM 15)])), ((aM 5), .inl (cyI, 4, .inl M_kind))]) [1, 0] (by decide) rfl
      exact hret () H locs _ ls hP hD hS dX4_as_26 rfl
  · replace h := it_t c3 h
    refine lv_iconst (v := (-1)) hx hb dX4_as_13 (by decide) ?_
    replace h := Option.some.inj h; subst h
    have hP := hP.sub (ws' := [((aM 0), .inr (4, [.int 0, .int Mtrace, .ref (aM 1), .ref (aM 2), .ref (aM 3), .int Mdeeds, .int Mpeople, .ref (aM 4), .ref (aM 5), .ref (aM 6), .ref (aM 7), .ref (aM 8), .int Mat, .int MreadDeeds, .int MreadMany, .ref (aM 9), .ref (aM 10), .ref (aM 11), .int Mpairs, .ref (aM 12), .ref (aM 13), .int Mcaught, .int Mreadings, .ref (aM 14), .ref (aM 15)])), ((aM 5), .inl (cyI, 4, .inl M_kind))]) [1, 0] rfl
    have hD := hD.sub (ws' := [((aM 0), .inr (4, [.int 0, .int Mtrace, .ref (aM 1), .ref (aM 2), .ref (aM 3), .int Mdeeds, .int Mpeople, .ref (aM 4), .ref (aM 5), .ref (aM 6), .ref (aM 7), .ref (aM 8), .int Mat, .int MreadDeeds, .int MreadMany, .ref (aM 9), .ref (aM 10), .ref (aM 11), .int Mpairs, .ref (aM 12), .ref (aM 13), .int Mcaught, .int Mreadings, .ref (aM 14), .ref (aM 15)])), ((aM 5), .inl (cyI, 4, .inl M_kind))]) [1, 0] (by decide) rfl
    exact hret () H locs _ ls hP hD hS dX4_as_14 rfl
set_option maxHeartbeats 4000000 in
set_option maxRecDepth 100000 in
theorem c_X4_trace (l : Launch) (dC : Nat → ClassId) (dI : Nat → Nat → Nat) (cyI cyO : ClassId) (aM : Nat → Nat) (sz : Nat) (Mfault : Int32) (Mtrace : Int32) (Mdeeds : Int32) (Mpeople : Int32) (Mat : Int32) (MreadDeeds : Int32) (MreadMany : Int32) (Mpairs : Int32) (Mcaught : Int32) (Mreadings : Int32)  {o : Int32}  (h : f_X4_trace Mtrace = some o) : CtI l yX4_trace wsX4_trace { frames := 0, cells := 0, slots := 0, locals := 0 } (dC, dI) [(cyI, .int), (cyO, .object RX0)] [.ref (aM 0)] sz [((aM 0), .inr (4, [.int Mfault, .int Mtrace, .ref (aM 1), .ref (aM 2), .ref (aM 3), .int Mdeeds, .int Mpeople, .ref (aM 4), .ref (aM 5), .ref (aM 6), .ref (aM 7), .ref (aM 8), .int Mat, .int MreadDeeds, .int MreadMany, .ref (aM 9), .ref (aM 10), .ref (aM 11), .int Mpairs, .ref (aM 12), .ref (aM 13), .int Mcaught, .int Mreadings, .ref (aM 14), .ref (aM 15)]))] (fun (_ : Unit) => [((aM 0), .inr (4, [.int Mfault, .int Mtrace, .ref (aM 1), .ref (aM 2), .ref (aM 3), .int Mdeeds, .int Mpeople, .ref (aM 4), .ref (aM 5), .ref (aM 6), .ref (aM 7), .ref (aM 8), .int Mat, .int MreadDeeds, .int MreadMany, .ref (aM 9), .ref (aM 10), .ref (aM 11), .int Mpairs, .ref (aM 12), .ref (aM 13), .int Mcaught, .int Mreadings, .ref (aM 14), .ref (aM 15)]))]) o := by
  refine CtI.of (cc := cX4_trace) (maxL := 1) (by decide) rfl (Nat.le_of_ble_eq_true rfl) ?_
  intro p e s m args below meth c A Q H locs hx hb hml hown hts hA hK hP hD hS hret ls hl
  have hown : s.vm.findClass RX4 = some m.cls := hown
  have hl : lv_has ls 1 [(0, .ref (aM 0))] := hl
  unfold f_X4_trace at h
  have hiX4 : ∀ w ∈ u_ws RX4 TX4 25, w ∈ wsX4_trace := by decide +kernel
  have hf181 := hts (.fieldLink RX4 181 "TowerTellModel" "trace" "I") (by decide +kernel)
  refine lv_aload_n hx hb dX4_trace_0 rfl (lv_at hl 0 rfl) ?_
  refine va_get (D := (dC, dI)) (ci := 4) (v := .int Mtrace) (C := RX4) (T := TX4) (N := 25) hx hb hts hiX4 hown hK hP 0 rfl rfl 1 (by decide) hf181 (fun _ h9 => h9) rfl dX4_trace_1 ?_
  replace h := Option.some.inj h; subst h
  exact hret () H locs _ ls hP hD hS dX4_trace_4 rfl
set_option maxHeartbeats 4000000 in
set_option maxRecDepth 100000 in
theorem c_X4_fault (l : Launch) (dC : Nat → ClassId) (dI : Nat → Nat → Nat) (cyI cyO : ClassId) (aM : Nat → Nat) (sz : Nat) (Mfault : Int32) (Mtrace : Int32) (Mdeeds : Int32) (Mpeople : Int32) (Mat : Int32) (MreadDeeds : Int32) (MreadMany : Int32) (Mpairs : Int32) (Mcaught : Int32) (Mreadings : Int32)  {o : Int32}  (h : f_X4_fault Mfault = some o) : CtI l yX4_fault wsX4_fault { frames := 0, cells := 0, slots := 0, locals := 0 } (dC, dI) [(cyI, .int), (cyO, .object RX0)] [.ref (aM 0)] sz [((aM 0), .inr (4, [.int Mfault, .int Mtrace, .ref (aM 1), .ref (aM 2), .ref (aM 3), .int Mdeeds, .int Mpeople, .ref (aM 4), .ref (aM 5), .ref (aM 6), .ref (aM 7), .ref (aM 8), .int Mat, .int MreadDeeds, .int MreadMany, .ref (aM 9), .ref (aM 10), .ref (aM 11), .int Mpairs, .ref (aM 12), .ref (aM 13), .int Mcaught, .int Mreadings, .ref (aM 14), .ref (aM 15)]))] (fun (_ : Unit) => [((aM 0), .inr (4, [.int Mfault, .int Mtrace, .ref (aM 1), .ref (aM 2), .ref (aM 3), .int Mdeeds, .int Mpeople, .ref (aM 4), .ref (aM 5), .ref (aM 6), .ref (aM 7), .ref (aM 8), .int Mat, .int MreadDeeds, .int MreadMany, .ref (aM 9), .ref (aM 10), .ref (aM 11), .int Mpairs, .ref (aM 12), .ref (aM 13), .int Mcaught, .int Mreadings, .ref (aM 14), .ref (aM 15)]))]) o := by
  refine CtI.of (cc := cX4_fault) (maxL := 1) (by decide) rfl (Nat.le_of_ble_eq_true rfl) ?_
  intro p e s m args below meth c A Q H locs hx hb hml hown hts hA hK hP hD hS hret ls hl
  have hown : s.vm.findClass RX4 = some m.cls := hown
  have hl : lv_has ls 1 [(0, .ref (aM 0))] := hl
  unfold f_X4_fault at h
  have hiX4 : ∀ w ∈ u_ws RX4 TX4 25, w ∈ wsX4_fault := by decide +kernel
  have hf55 := hts (.fieldLink RX4 55 "TowerTellModel" "fault" "I") (by decide +kernel)
  refine lv_aload_n hx hb dX4_fault_0 rfl (lv_at hl 0 rfl) ?_
  refine va_get (D := (dC, dI)) (ci := 4) (v := .int Mfault) (C := RX4) (T := TX4) (N := 25) hx hb hts hiX4 hown hK hP 0 rfl rfl 0 (by decide) hf55 (fun _ h9 => h9) rfl dX4_fault_1 ?_
  replace h := Option.some.inj h; subst h
  exact hret () H locs _ ls hP hD hS dX4_fault_4 rfl
set_option maxHeartbeats 4000000 in
set_option maxRecDepth 100000 in
theorem c_X4_many (l : Launch) (dC : Nat → ClassId) (dI : Nat → Nat → Nat) (cyI cyO : ClassId) (aM : Nat → Nat) (sz : Nat) (Mfault : Int32) (Mtrace : Int32) (Mdeeds : Int32) (Mpeople : Int32) (Mat : Int32) (MreadDeeds : Int32) (MreadMany : Int32) (Mpairs : Int32) (Mcaught : Int32) (Mreadings : Int32) (p1 : Int32) {o : Int32}  (h : f_X4_many Mdeeds Mpeople Mreadings p1 = some o) : CtI l yX4_many wsX4_many { frames := 0, cells := 0, slots := 0, locals := 0 } (dC, dI) [(cyI, .int), (cyO, .object RX0)] [.ref (aM 0), .int p1] sz [((aM 0), .inr (4, [.int Mfault, .int Mtrace, .ref (aM 1), .ref (aM 2), .ref (aM 3), .int Mdeeds, .int Mpeople, .ref (aM 4), .ref (aM 5), .ref (aM 6), .ref (aM 7), .ref (aM 8), .int Mat, .int MreadDeeds, .int MreadMany, .ref (aM 9), .ref (aM 10), .ref (aM 11), .int Mpairs, .ref (aM 12), .ref (aM 13), .int Mcaught, .int Mreadings, .ref (aM 14), .ref (aM 15)]))] (fun (_ : Unit) => [((aM 0), .inr (4, [.int Mfault, .int Mtrace, .ref (aM 1), .ref (aM 2), .ref (aM 3), .int Mdeeds, .int Mpeople, .ref (aM 4), .ref (aM 5), .ref (aM 6), .ref (aM 7), .ref (aM 8), .int Mat, .int MreadDeeds, .int MreadMany, .ref (aM 9), .ref (aM 10), .ref (aM 11), .int Mpairs, .ref (aM 12), .ref (aM 13), .int Mcaught, .int Mreadings, .ref (aM 14), .ref (aM 15)]))]) o := by
  refine CtI.of (cc := cX4_many) (maxL := 2) (by decide) rfl (Nat.le_of_ble_eq_true rfl) ?_
  intro p e s m args below meth c A Q H locs hx hb hml hown hts hA hK hP hD hS hret ls hl
  have hown : s.vm.findClass RX4 = some m.cls := hown
  have hl : lv_has ls 2 [(0, .ref (aM 0)), (1, .int p1)] := hl
  unfold f_X4_many at h
  have hiX4 : ∀ w ∈ u_ws RX4 TX4 25, w ∈ wsX4_many := by decide +kernel
  have hf65 := hts (.fieldLink RX4 65 "TowerTellModel" "deeds" "I") (by decide +kernel)
  have hf68 := hts (.fieldLink RX4 68 "TowerTellModel" "people" "I") (by decide +kernel)
  have hf101 := hts (.fieldLink RX4 101 "TowerTellModel" "readings" "I") (by decide +kernel)
  refine lv_iload_n hx hb dX4_many_0 rfl (lv_at hl 1 rfl) ?_
  refine lv_if_ne (tgt := 11) hx hb dX4_many_1 (by decide) (fun c1 => ?_) (fun c1 => ?_)
  · replace h := it_f c1 h
    refine lv_iload_n hx hb dX4_many_11 rfl (lv_at hl 1 rfl) ?_
    refine lv_iconst (v := 1) hx hb dX4_many_12 (by decide) ?_
    refine lv_icmp_ne (tgt := 23) hx hb dX4_many_13 (by decide) (fun c2 => ?_) (fun c2 => ?_)
    · replace h := it_f c2 h
      refine lv_iload_n hx hb dX4_many_23 rfl (lv_at hl 1 rfl) ?_
      refine lv_iconst (v := 2) hx hb dX4_many_24 (by decide) ?_
      refine lv_icmp_ne (tgt := 35) hx hb dX4_many_25 (by decide) (fun c3 => ?_) (fun c3 => ?_)
      · replace h := it_f c3 h
        refine lv_bipush (v := (-2)) hx hb dX4_many_35 (by decide) ?_
        replace h := Option.some.inj h; subst h
        exact hret () H locs _ ls hP hD hS dX4_many_37 rfl
      · replace h := it_t c3 h
        refine lv_aload_n hx hb dX4_many_28 rfl (lv_at hl 0 rfl) ?_
        refine va_get (D := (dC, dI)) (ci := 4) (v := .int Mreadings) (C := RX4) (T := TX4) (N := 25) hx hb hts hiX4 hown hK hP 0 rfl rfl 22 (by decide) hf101 (fun _ h9 => h9) rfl dX4_many_29 ?_
        refine lv_goto (tgt := 37) hx hb dX4_many_32 (by decide) ?_
        replace h := Option.some.inj h; subst h
        exact hret () H locs _ ls hP hD hS dX4_many_37 rfl
    · replace h := it_t c2 h
      refine lv_aload_n hx hb dX4_many_16 rfl (lv_at hl 0 rfl) ?_
      refine va_get (D := (dC, dI)) (ci := 4) (v := .int Mdeeds) (C := RX4) (T := TX4) (N := 25) hx hb hts hiX4 hown hK hP 0 rfl rfl 5 (by decide) hf65 (fun _ h9 => h9) rfl dX4_many_17 ?_
      refine lv_goto (tgt := 37) hx hb dX4_many_20 (by decide) ?_
      replace h := Option.some.inj h; subst h
      exact hret () H locs _ ls hP hD hS dX4_many_37 rfl
  · replace h := it_t c1 h
    refine lv_aload_n hx hb dX4_many_4 rfl (lv_at hl 0 rfl) ?_
    refine va_get (D := (dC, dI)) (ci := 4) (v := .int Mpeople) (C := RX4) (T := TX4) (N := 25) hx hb hts hiX4 hown hK hP 0 rfl rfl 6 (by decide) hf68 (fun _ h9 => h9) rfl dX4_many_5 ?_
    refine lv_goto (tgt := 37) hx hb dX4_many_8 (by decide) ?_
    replace h := Option.some.inj h; subst h
    exact hret () H locs _ ls hP hD hS dX4_many_37 rfl
