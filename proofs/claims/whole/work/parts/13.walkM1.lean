/-! WALKS, by wip/whole/gen.py: X4_fails X4_lost X4_within X4_isSheet X4_isSort X4_against X4_isDeed X4_isPerson X4_digit X4_isSign X4_readDeed X4_readPerson X4_readTower X4_takeTower X4_tower X4_storeysOf X4_floorBy X4_ofPerson -/
set_option maxHeartbeats 4000000 in
set_option maxRecDepth 100000 in
theorem c_X4_fails (l : Launch) (dC : Nat → ClassId) (dI : Nat → Nat → Nat) (cyI cyO : ClassId) (aM : Nat → Nat) (sz : Nat) (Mfault : Int32) (Mtrace : Int32) (Mdeeds : Int32) (Mpeople : Int32) (Mat : Int32) (MreadDeeds : Int32) (MreadMany : Int32) (Mpairs : Int32) (Mcaught : Int32) (Mreadings : Int32) (p1 : Int32) {o : Int32 × Int32}  (h : f_X4_fails Mfault p1 = some o) : CtI l yX4_fails wsX4_fails { frames := 0, cells := 0, slots := 0, locals := 0 } (dC, dI) [(cyI, .int), (cyO, .object RX0)] [.ref (aM 0), .int p1] sz [((aM 0), .inr (4, [.int Mfault, .int Mtrace, .ref (aM 1), .ref (aM 2), .ref (aM 3), .int Mdeeds, .int Mpeople, .ref (aM 4), .ref (aM 5), .ref (aM 6), .ref (aM 7), .ref (aM 8), .int Mat, .int MreadDeeds, .int MreadMany, .ref (aM 9), .ref (aM 10), .ref (aM 11), .int Mpairs, .ref (aM 12), .ref (aM 13), .int Mcaught, .int Mreadings, .ref (aM 14), .ref (aM 15)]))] (fun (_ : Unit) => [((aM 0), .inr (4, [.int o.2, .int Mtrace, .ref (aM 1), .ref (aM 2), .ref (aM 3), .int Mdeeds, .int Mpeople, .ref (aM 4), .ref (aM 5), .ref (aM 6), .ref (aM 7), .ref (aM 8), .int Mat, .int MreadDeeds, .int MreadMany, .ref (aM 9), .ref (aM 10), .ref (aM 11), .int Mpairs, .ref (aM 12), .ref (aM 13), .int Mcaught, .int Mreadings, .ref (aM 14), .ref (aM 15)]))]) o.1 := by
  refine CtI.of (cc := cX4_fails) (maxL := 2) (by decide) rfl (Nat.le_of_ble_eq_true rfl) ?_
  intro p e s m args below meth c A Q H locs hx hb hml hown hts hA hK hP hD hS hret ls hl
  have hown : s.vm.findClass RX4 = some m.cls := hown
  have hl : lv_has ls 2 [(0, .ref (aM 0)), (1, .int p1)] := hl
  unfold f_X4_fails at h
  have hiX4 : ∀ w ∈ u_ws RX4 TX4 25, w ∈ wsX4_fails := by decide +kernel
  have hf55 := hts (.fieldLink RX4 55 "TowerTellModel" "fault" "I") (by decide +kernel)
  refine lv_aload_n hx hb dX4_fails_0 rfl (lv_at hl 0 rfl) ?_
  refine lv_iload_n hx hb dX4_fails_1 rfl (lv_at hl 1 rfl) ?_
  refine va_put (D := (dC, dI)) (ci := 4) (v := .int p1) (ty := .int) (C := RX4) (T := TX4) (N := 25) hx hb hts hiX4 tyX4 tyX4_ok nmX4 hown hK hP hD hS 0 rfl rfl 0 (by decide) hf55 (fun _ h9 => h9) rfl (tyX4_ok 0 (by decide)) rfl rfl (Nat.le_of_ble_eq_true rfl) dX4_fails_2 (fun H locs hP hD hS => ?_)
  have hP : va_P (dC, dI) vwCl [((aM 0), .inr (4, [.int p1, .int Mtrace, .ref (aM 1), .ref (aM 2), .ref (aM 3), .int Mdeeds, .int Mpeople, .ref (aM 4), .ref (aM 5), .ref (aM 6), .ref (aM 7), .ref (aM 8), .int Mat, .int MreadDeeds, .int MreadMany, .ref (aM 9), .ref (aM 10), .ref (aM 11), .int Mpairs, .ref (aM 12), .ref (aM 13), .int Mcaught, .int Mreadings, .ref (aM 14), .ref (aM 15)]))] H := hP
  have hD : va_D A [((aM 0), .inr (4, [.int p1, .int Mtrace, .ref (aM 1), .ref (aM 2), .ref (aM 3), .int Mdeeds, .int Mpeople, .ref (aM 4), .ref (aM 5), .ref (aM 6), .ref (aM 7), .ref (aM 8), .int Mat, .int MreadDeeds, .int MreadMany, .ref (aM 9), .ref (aM 10), .ref (aM 11), .int Mpairs, .ref (aM 12), .ref (aM 13), .int Mcaught, .int Mreadings, .ref (aM 14), .ref (aM 15)]))] := hD
  refine lv_bipush (v := (-10)) hx hb dX4_fails_5 (by decide) ?_
  refine lv_iload_n hx hb dX4_fails_7 rfl (lv_at hl 1 rfl) ?_
  refine lv_isub hx hb dX4_fails_8 ?_
  replace h := Option.some.inj h; subst h
  exact hret () H locs _ ls hP hD hS dX4_fails_9 rfl
set_option maxHeartbeats 4000000 in
set_option maxRecDepth 100000 in
theorem c_X4_lost (l : Launch) (dC : Nat → ClassId) (dI : Nat → Nat → Nat) (cyI cyO : ClassId) (aM : Nat → Nat) (sz : Nat) (Mfault : Int32) (Mtrace : Int32) (Mdeeds : Int32) (Mpeople : Int32) (Mat : Int32) (MreadDeeds : Int32) (MreadMany : Int32) (Mpairs : Int32) (Mcaught : Int32) (Mreadings : Int32) (p1 : Int32) {o : Int64 × Int32}  (h : f_X4_lost Mfault p1 = some o) : CtL l yX4_lost wsX4_lost { frames := 0, cells := 0, slots := 0, locals := 0 } (dC, dI) [(cyI, .int), (cyO, .object RX0)] [.ref (aM 0), .int p1] sz [((aM 0), .inr (4, [.int Mfault, .int Mtrace, .ref (aM 1), .ref (aM 2), .ref (aM 3), .int Mdeeds, .int Mpeople, .ref (aM 4), .ref (aM 5), .ref (aM 6), .ref (aM 7), .ref (aM 8), .int Mat, .int MreadDeeds, .int MreadMany, .ref (aM 9), .ref (aM 10), .ref (aM 11), .int Mpairs, .ref (aM 12), .ref (aM 13), .int Mcaught, .int Mreadings, .ref (aM 14), .ref (aM 15)]))] (fun (_ : Unit) => [((aM 0), .inr (4, [.int o.2, .int Mtrace, .ref (aM 1), .ref (aM 2), .ref (aM 3), .int Mdeeds, .int Mpeople, .ref (aM 4), .ref (aM 5), .ref (aM 6), .ref (aM 7), .ref (aM 8), .int Mat, .int MreadDeeds, .int MreadMany, .ref (aM 9), .ref (aM 10), .ref (aM 11), .int Mpairs, .ref (aM 12), .ref (aM 13), .int Mcaught, .int Mreadings, .ref (aM 14), .ref (aM 15)]))]) o.1 := by
  refine CtL.of (cc := cX4_lost) (maxL := 2) (by decide) rfl (Nat.le_of_ble_eq_true rfl) ?_
  intro p e s m args below meth c A Q H locs hx hb hml hown hts hA hK hP hD hS hret ls hl
  have hown : s.vm.findClass RX4 = some m.cls := hown
  have hl : lv_has ls 2 [(0, .ref (aM 0)), (1, .int p1)] := hl
  unfold f_X4_lost at h
  have hiX4 : ∀ w ∈ u_ws RX4 TX4 25, w ∈ wsX4_lost := by decide +kernel
  have hf55 := hts (.fieldLink RX4 55 "TowerTellModel" "fault" "I") (by decide +kernel)
  have hL59 := hts (.constantLong RX4 59 (-9223372036854775808)) (by decide +kernel)
  refine lv_aload_n hx hb dX4_lost_0 rfl (lv_at hl 0 rfl) ?_
  refine lv_iload_n hx hb dX4_lost_1 rfl (lv_at hl 1 rfl) ?_
  refine va_put (D := (dC, dI)) (ci := 4) (v := .int p1) (ty := .int) (C := RX4) (T := TX4) (N := 25) hx hb hts hiX4 tyX4 tyX4_ok nmX4 hown hK hP hD hS 0 rfl rfl 0 (by decide) hf55 (fun _ h9 => h9) rfl (tyX4_ok 0 (by decide)) rfl rfl (Nat.le_of_ble_eq_true rfl) dX4_lost_2 (fun H locs hP hD hS => ?_)
  have hP : va_P (dC, dI) vwCl [((aM 0), .inr (4, [.int p1, .int Mtrace, .ref (aM 1), .ref (aM 2), .ref (aM 3), .int Mdeeds, .int Mpeople, .ref (aM 4), .ref (aM 5), .ref (aM 6), .ref (aM 7), .ref (aM 8), .int Mat, .int MreadDeeds, .int MreadMany, .ref (aM 9), .ref (aM 10), .ref (aM 11), .int Mpairs, .ref (aM 12), .ref (aM 13), .int Mcaught, .int Mreadings, .ref (aM 14), .ref (aM 15)]))] H := hP
  have hD : va_D A [((aM 0), .inr (4, [.int p1, .int Mtrace, .ref (aM 1), .ref (aM 2), .ref (aM 3), .int Mdeeds, .int Mpeople, .ref (aM 4), .ref (aM 5), .ref (aM 6), .ref (aM 7), .ref (aM 8), .int Mat, .int MreadDeeds, .int MreadMany, .ref (aM 9), .ref (aM 10), .ref (aM 11), .int Mpairs, .ref (aM 12), .ref (aM 13), .int Mcaught, .int Mreadings, .ref (aM 14), .ref (aM 15)]))] := hD
  refine lv_ldc2 hx hb hown hL59 dX4_lost_5 ?_
  replace h := Option.some.inj h; subst h
  exact hret () H locs _ ls hP hD hS dX4_lost_8
set_option maxHeartbeats 4000000 in
set_option maxRecDepth 100000 in
theorem c_X4_within (l : Launch) (dC : Nat → ClassId) (dI : Nat → Nat → Nat) (cyI cyO : ClassId)  (sz : Nat)  (p0 : Int32) (p1 : Int32) (p2 : Int32) {o : Int32}  (h : f_X4_within p0 p1 p2 = some o) : CtI l yX4_within wsX4_within { frames := 0, cells := 0, slots := 0, locals := 0 } (dC, dI) [(cyI, .int), (cyO, .object RX0)] [.int p0, .int p1, .int p2] sz [] (fun (_ : Unit) => []) o := by
  refine CtI.of (cc := cX4_within) (maxL := 3) (by decide) rfl (Nat.le_of_ble_eq_true rfl) ?_
  intro p e s m args below meth c A Q H locs hx hb hml hown hts hA hK hP hD hS hret ls hl
  have hown : s.vm.findClass RX4 = some m.cls := hown
  have hl : lv_has ls 3 [(0, .int p0), (1, .int p1), (2, .int p2)] := hl
  unfold f_X4_within at h
  refine lv_iload_n hx hb dX4_within_0 rfl (lv_at hl 0 rfl) ?_
  refine lv_iload_n hx hb dX4_within_1 rfl (lv_at hl 1 rfl) ?_
  refine lv_icmp_lt (tgt := 14) hx hb dX4_within_2 (by decide) (fun c1 => ?_) (fun c1 => ?_)
  · replace h := it_t c1 h
    refine lv_iconst (v := 0) hx hb dX4_within_14 (by decide) ?_
    replace h := Option.some.inj h; subst h
    exact hret () H locs _ ls hP hD hS dX4_within_15 bz_0
  · replace h := it_f c1 h
    refine lv_iload_n hx hb dX4_within_5 rfl (lv_at hl 0 rfl) ?_
    refine lv_iload_n hx hb dX4_within_6 rfl (lv_at hl 2 rfl) ?_
    refine lv_icmp_gt (tgt := 14) hx hb dX4_within_7 (by decide) (fun c2 => ?_) (fun c2 => ?_)
    · replace h := it_t c2 h
      refine lv_iconst (v := 0) hx hb dX4_within_14 (by decide) ?_
      replace h := Option.some.inj h; subst h
      exact hret () H locs _ ls hP hD hS dX4_within_15 bz_0
    · replace h := it_f c2 h
      refine lv_iconst (v := 1) hx hb dX4_within_10 (by decide) ?_
      refine lv_goto (tgt := 15) hx hb dX4_within_11 (by decide) ?_
      replace h := Option.some.inj h; subst h
      exact hret () H locs _ ls hP hD hS dX4_within_15 bz_1
set_option maxHeartbeats 4000000 in
set_option maxRecDepth 100000 in
theorem c_X4_isSheet (l : Launch) (dC : Nat → ClassId) (dI : Nat → Nat → Nat) (cyI cyO : ClassId)  (sz : Nat)  (p0 : Int32) {o : Int32}  (h : f_X4_isSheet p0 = some o) : CtI l yX4_isSheet wsX4_isSheet { frames := 1, cells := 0, slots := 0, locals := 22 } (dC, dI) [(cyI, .int), (cyO, .object RX0)] [.int p0] sz [] (fun (_ : Unit) => []) o := by
  refine CtI.of (cc := cX4_isSheet) (maxL := 1) (by decide) rfl (Nat.le_of_ble_eq_true rfl) ?_
  intro p e s m args below meth c A Q H locs hx hb hml hown hts hA hK hP hD hS hret ls hl
  have hown : s.vm.findClass RX4 = some m.cls := hown
  have hl : lv_has ls 1 [(0, .int p0)] := hl
  unfold f_X4_isSheet at h
  refine lv_iload_n hx hb dX4_isSheet_0 rfl (lv_at hl 0 rfl) ?_
  refine lv_iconst (v := 0) hx hb dX4_isSheet_1 (by decide) ?_
  refine lv_iconst (v := 3) hx hb dX4_isSheet_2 (by decide) ?_
  obtain ⟨o1, hc2, h⟩ := ob h
  refine k_si (As := [.int p0, .int 0, .int 3]) (rest := []) ⟨hx, hb, hml, hown, hts⟩ (c_X4_within l dC dI cyI cyO H.size p0 0 3 hc2) (va_cwS 3 hts gX4_isSheet_X4_within rfl rfl rfl (by decide +kernel) ⟨Nat.le_of_ble_eq_true rfl, Nat.le_of_ble_eq_true rfl⟩) hP hD hK hS hA [] [] rfl rfl (by decide) (by decide) (by decide) rfl hl.1 rfl (Nat.le_of_ble_eq_true rfl) dX4_isSheet_3 ⟨Nat.zero_le _, Nat.zero_le _⟩ (fun _ H locs hP hD hS => ?_)
  have hP : va_P (dC, dI) vwCl [] H := hP
  have hD : va_D A [] := hD
  obtain ⟨e3, h⟩ := it_n h
  replace h := Option.some.inj h; subst h
  exact hret () H locs _ ls hP hD hS dX4_isSheet_6 (bz_n e3)
set_option maxHeartbeats 4000000 in
set_option maxRecDepth 100000 in
theorem c_X4_isSort (l : Launch) (dC : Nat → ClassId) (dI : Nat → Nat → Nat) (cyI cyO : ClassId)  (sz : Nat)  (p0 : Int32) {o : Int32}  (h : f_X4_isSort p0 = some o) : CtI l yX4_isSort wsX4_isSort { frames := 1, cells := 0, slots := 0, locals := 22 } (dC, dI) [(cyI, .int), (cyO, .object RX0)] [.int p0] sz [] (fun (_ : Unit) => []) o := by
  refine CtI.of (cc := cX4_isSort) (maxL := 1) (by decide) rfl (Nat.le_of_ble_eq_true rfl) ?_
  intro p e s m args below meth c A Q H locs hx hb hml hown hts hA hK hP hD hS hret ls hl
  have hown : s.vm.findClass RX4 = some m.cls := hown
  have hl : lv_has ls 1 [(0, .int p0)] := hl
  unfold f_X4_isSort at h
  refine lv_iload_n hx hb dX4_isSort_0 rfl (lv_at hl 0 rfl) ?_
  refine lv_iconst (v := 0) hx hb dX4_isSort_1 (by decide) ?_
  refine lv_iconst (v := 2) hx hb dX4_isSort_2 (by decide) ?_
  obtain ⟨o1, hc2, h⟩ := ob h
  refine k_si (As := [.int p0, .int 0, .int 2]) (rest := []) ⟨hx, hb, hml, hown, hts⟩ (c_X4_within l dC dI cyI cyO H.size p0 0 2 hc2) (va_cwS 3 hts gX4_isSort_X4_within rfl rfl rfl (by decide +kernel) ⟨Nat.le_of_ble_eq_true rfl, Nat.le_of_ble_eq_true rfl⟩) hP hD hK hS hA [] [] rfl rfl (by decide) (by decide) (by decide) rfl hl.1 rfl (Nat.le_of_ble_eq_true rfl) dX4_isSort_3 ⟨Nat.zero_le _, Nat.zero_le _⟩ (fun _ H locs hP hD hS => ?_)
  have hP : va_P (dC, dI) vwCl [] H := hP
  have hD : va_D A [] := hD
  obtain ⟨e3, h⟩ := it_n h
  replace h := Option.some.inj h; subst h
  exact hret () H locs _ ls hP hD hS dX4_isSort_6 (bz_n e3)
set_option maxHeartbeats 4000000 in
set_option maxRecDepth 100000 in
theorem c_X4_against (l : Launch) (dC : Nat → ClassId) (dI : Nat → Nat → Nat) (cyI cyO : ClassId) (aM : Nat → Nat) (sz : Nat) (Mfault : Int32) (Mtrace : Int32) (Mdeeds : Int32) (Mpeople : Int32) (Mat : Int32) (MreadDeeds : Int32) (MreadMany : Int32) (Mpairs : Int32) (Mcaught : Int32) (Mreadings : Int32) (M_sorts : Nat → Int32) (M_sheetLong : Nat → Int32) (p1 : Int32) (p2 : Int32) (p3 : Int32) (p4 : Int32) {o : Int32}  (h : f_X4_against M_sorts M_sheetLong p1 p2 p3 p4 = some o) : CtI l yX4_against wsX4_against { frames := 0, cells := 0, slots := 0, locals := 0 } (dC, dI) [(cyI, .int), (cyO, .object RX0)] [.ref (aM 0), .int p1, .int p2, .int p3, .int p4] sz [((aM 0), .inr (4, [.int Mfault, .int Mtrace, .ref (aM 1), .ref (aM 2), .ref (aM 3), .int Mdeeds, .int Mpeople, .ref (aM 4), .ref (aM 5), .ref (aM 6), .ref (aM 7), .ref (aM 8), .int Mat, .int MreadDeeds, .int MreadMany, .ref (aM 9), .ref (aM 10), .ref (aM 11), .int Mpairs, .ref (aM 12), .ref (aM 13), .int Mcaught, .int Mreadings, .ref (aM 14), .ref (aM 15)])), ((aM 1), .inl (cyI, 4, .inl M_sorts)), ((aM 2), .inl (cyI, 4, .inl M_sheetLong))] (fun (_ : Unit) => [((aM 0), .inr (4, [.int Mfault, .int Mtrace, .ref (aM 1), .ref (aM 2), .ref (aM 3), .int Mdeeds, .int Mpeople, .ref (aM 4), .ref (aM 5), .ref (aM 6), .ref (aM 7), .ref (aM 8), .int Mat, .int MreadDeeds, .int MreadMany, .ref (aM 9), .ref (aM 10), .ref (aM 11), .int Mpairs, .ref (aM 12), .ref (aM 13), .int Mcaught, .int Mreadings, .ref (aM 14), .ref (aM 15)])), ((aM 1), .inl (cyI, 4, .inl M_sorts)), ((aM 2), .inl (cyI, 4, .inl M_sheetLong))]) o := by
  refine CtI.of (cc := cX4_against) (maxL := 5) (by decide) rfl (Nat.le_of_ble_eq_true rfl) ?_
  intro p e s m args below meth c A Q H locs hx hb hml hown hts hA hK hP hD hS hret ls hl
  have hown : s.vm.findClass RX4 = some m.cls := hown
  have hl : lv_has ls 5 [(0, .ref (aM 0)), (1, .int p1), (2, .int p2), (3, .int p3), (4, .int p4)] := hl
  unfold f_X4_against at h
  have hiX4 : ∀ w ∈ u_ws RX4 TX4 25, w ∈ wsX4_against := by decide +kernel
  have hf9 := hts (.fieldLink RX4 9 "TowerTellModel" "sorts" "[I") (by decide +kernel)
  have hf13 := hts (.fieldLink RX4 13 "TowerTellModel" "sheetLong" "[I") (by decide +kernel)
  refine lv_aload_n hx hb dX4_against_0 rfl (lv_at hl 0 rfl) ?_
  refine va_get (D := (dC, dI)) (ci := 4) (v := .ref (aM 1)) (C := RX4) (T := TX4) (N := 25) hx hb hts hiX4 hown hK hP 0 rfl rfl 2 (by decide) hf9 (fun _ h9 => h9) rfl dX4_against_1 ?_
  refine lv_iload_n hx hb dX4_against_4 rfl (lv_at hl 1 rfl) ?_
  obtain ⟨e1, h⟩ := it_n h
  refine va_iald hx hb hK hP 1 0 rfl rfl (ix_in e1) dX4_against_5 ?_
  refine lv_bipush (v := (-9)) hx hb dX4_against_6 (by decide) ?_
  refine lv_icmp_eq (tgt := 23) hx hb dX4_against_8 (by decide) (fun c2 => ?_) (fun c2 => ?_)
  · replace h := it_t c2 h
    refine lv_aload_n hx hb dX4_against_23 rfl (lv_at hl 0 rfl) ?_
    refine va_get (D := (dC, dI)) (ci := 4) (v := .ref (aM 1)) (C := RX4) (T := TX4) (N := 25) hx hb hts hiX4 hown hK hP 0 rfl rfl 2 (by decide) hf9 (fun _ h9 => h9) rfl dX4_against_24 ?_
    refine lv_iload_n hx hb dX4_against_27 rfl (lv_at hl 1 rfl) ?_
    obtain ⟨e3, h⟩ := it_n h
    refine va_iald hx hb hK hP 1 0 rfl rfl (ix_in e3) dX4_against_28 ?_
    refine lv_bipush (v := (-9)) hx hb dX4_against_29 (by decide) ?_
    refine lv_icmp_ne (tgt := 36) hx hb dX4_against_31 (by decide) (fun c4 => ?_) (fun c4 => ?_)
    · replace h := it_f c4 h
      refine lv_iload hx hb dX4_against_36 (lv_at hl 4 rfl) ?_
      refine lv_if_ge (tgt := 43) hx hb dX4_against_38 (by decide) (fun c5 => ?_) (fun c5 => ?_)
      · replace h := it_t c5 h
        refine lv_iload_n hx hb dX4_against_43 rfl (lv_at hl 3 rfl) ?_
        refine lv_if_lt (tgt := 70) hx hb dX4_against_44 (by decide) (fun c6 => ?_) (fun c6 => ?_)
        · replace h := it_t c6 h
          refine lv_iconst (v := 3) hx hb dX4_against_70 (by decide) ?_
          refine lv_goto (tgt := 75) hx hb dX4_against_71 (by decide) ?_
          replace h := Option.some.inj h; subst h
          exact hret () H locs _ ls hP hD hS dX4_against_75 rfl
        · replace h := it_f c6 h
          refine lv_iload_n hx hb dX4_against_47 rfl (lv_at hl 3 rfl) ?_
          refine lv_aload_n hx hb dX4_against_48 rfl (lv_at hl 0 rfl) ?_
          refine va_get (D := (dC, dI)) (ci := 4) (v := .ref (aM 2)) (C := RX4) (T := TX4) (N := 25) hx hb hts hiX4 hown hK hP 0 rfl rfl 3 (by decide) hf13 (fun _ h9 => h9) rfl dX4_against_49 ?_
          refine lv_iload_n hx hb dX4_against_52 rfl (lv_at hl 1 rfl) ?_
          obtain ⟨e7, h⟩ := it_n h
          refine va_iald hx hb hK hP 2 0 rfl rfl (ix_in e7) dX4_against_53 ?_
          refine lv_icmp_gt (tgt := 70) hx hb dX4_against_54 (by decide) (fun c8 => ?_) (fun c8 => ?_)
          · replace h := it_t c8 h
            refine lv_iconst (v := 3) hx hb dX4_against_70 (by decide) ?_
            refine lv_goto (tgt := 75) hx hb dX4_against_71 (by decide) ?_
            replace h := Option.some.inj h; subst h
            exact hret () H locs _ ls hP hD hS dX4_against_75 rfl
          · replace h := it_f c8 h
            refine lv_iload hx hb dX4_against_57 (lv_at hl 4 rfl) ?_
            refine lv_aload_n hx hb dX4_against_59 rfl (lv_at hl 0 rfl) ?_
            refine va_get (D := (dC, dI)) (ci := 4) (v := .ref (aM 2)) (C := RX4) (T := TX4) (N := 25) hx hb hts hiX4 hown hK hP 0 rfl rfl 3 (by decide) hf13 (fun _ h9 => h9) rfl dX4_against_60 ?_
            refine lv_iload_n hx hb dX4_against_63 rfl (lv_at hl 1 rfl) ?_
            obtain ⟨e9, h⟩ := it_n h
            refine va_iald hx hb hK hP 2 0 rfl rfl (ix_in e9) dX4_against_64 ?_
            refine lv_iload_n hx hb dX4_against_65 rfl (lv_at hl 3 rfl) ?_
            refine lv_isub hx hb dX4_against_66 ?_
            refine lv_icmp_le (tgt := 74) hx hb dX4_against_67 (by decide) (fun c10 => ?_) (fun c10 => ?_)
            · replace h := it_t c10 h
              refine lv_iconst (v := 0) hx hb dX4_against_74 (by decide) ?_
              replace h := Option.some.inj h; subst h
              exact hret () H locs _ ls hP hD hS dX4_against_75 rfl
            · replace h := it_f c10 h
              refine lv_iconst (v := 3) hx hb dX4_against_70 (by decide) ?_
              refine lv_goto (tgt := 75) hx hb dX4_against_71 (by decide) ?_
              replace h := Option.some.inj h; subst h
              exact hret () H locs _ ls hP hD hS dX4_against_75 rfl
      · replace h := it_f c5 h
        refine lv_iconst (v := 4) hx hb dX4_against_41 (by decide) ?_
        replace h := Option.some.inj h; subst h
        exact hret () H locs _ ls hP hD hS dX4_against_42 rfl
    · replace h := it_t c4 h
      refine lv_iconst (v := 1) hx hb dX4_against_34 (by decide) ?_
      replace h := Option.some.inj h; subst h
      exact hret () H locs _ ls hP hD hS dX4_against_35 rfl
  · replace h := it_f c2 h
    refine lv_aload_n hx hb dX4_against_11 rfl (lv_at hl 0 rfl) ?_
    refine va_get (D := (dC, dI)) (ci := 4) (v := .ref (aM 1)) (C := RX4) (T := TX4) (N := 25) hx hb hts hiX4 hown hK hP 0 rfl rfl 2 (by decide) hf9 (fun _ h9 => h9) rfl dX4_against_12 ?_
    refine lv_iload_n hx hb dX4_against_15 rfl (lv_at hl 1 rfl) ?_
    obtain ⟨e11, h⟩ := it_n h
    refine va_iald hx hb hK hP 1 0 rfl rfl (ix_in e11) dX4_against_16 ?_
    refine lv_iload_n hx hb dX4_against_17 rfl (lv_at hl 2 rfl) ?_
    refine lv_icmp_eq (tgt := 23) hx hb dX4_against_18 (by decide) (fun c12 => ?_) (fun c12 => ?_)
    · replace h := it_t c12 h
      refine lv_aload_n hx hb dX4_against_23 rfl (lv_at hl 0 rfl) ?_
      refine va_get (D := (dC, dI)) (ci := 4) (v := .ref (aM 1)) (C := RX4) (T := TX4) (N := 25) hx hb hts hiX4 hown hK hP 0 rfl rfl 2 (by decide) hf9 (fun _ h9 => h9) rfl dX4_against_24 ?_
      refine lv_iload_n hx hb dX4_against_27 rfl (lv_at hl 1 rfl) ?_
      obtain ⟨e13, h⟩ := it_n h
      refine va_iald hx hb hK hP 1 0 rfl rfl (ix_in e13) dX4_against_28 ?_
      refine lv_bipush (v := (-9)) hx hb dX4_against_29 (by decide) ?_
      refine lv_icmp_ne (tgt := 36) hx hb dX4_against_31 (by decide) (fun c14 => ?_) (fun c14 => ?_)
      · replace h := it_f c14 h
        refine lv_iload hx hb dX4_against_36 (lv_at hl 4 rfl) ?_
        refine lv_if_ge (tgt := 43) hx hb dX4_against_38 (by decide) (fun c15 => ?_) (fun c15 => ?_)
        · replace h := it_t c15 h
          refine lv_iload_n hx hb dX4_against_43 rfl (lv_at hl 3 rfl) ?_
          refine lv_if_lt (tgt := 70) hx hb dX4_against_44 (by decide) (fun c16 => ?_) (fun c16 => ?_)
          · replace h := it_t c16 h
            refine lv_iconst (v := 3) hx hb dX4_against_70 (by decide) ?_
            refine lv_goto (tgt := 75) hx hb dX4_against_71 (by decide) ?_
            replace h := Option.some.inj h; subst h
            exact hret () H locs _ ls hP hD hS dX4_against_75 rfl
          · replace h := it_f c16 h
            refine lv_iload_n hx hb dX4_against_47 rfl (lv_at hl 3 rfl) ?_
            refine lv_aload_n hx hb dX4_against_48 rfl (lv_at hl 0 rfl) ?_
            refine va_get (D := (dC, dI)) (ci := 4) (v := .ref (aM 2)) (C := RX4) (T := TX4) (N := 25) hx hb hts hiX4 hown hK hP 0 rfl rfl 3 (by decide) hf13 (fun _ h9 => h9) rfl dX4_against_49 ?_
            refine lv_iload_n hx hb dX4_against_52 rfl (lv_at hl 1 rfl) ?_
            obtain ⟨e17, h⟩ := it_n h
            refine va_iald hx hb hK hP 2 0 rfl rfl (ix_in e17) dX4_against_53 ?_
            refine lv_icmp_gt (tgt := 70) hx hb dX4_against_54 (by decide) (fun c18 => ?_) (fun c18 => ?_)
            · replace h := it_t c18 h
              refine lv_iconst (v := 3) hx hb dX4_against_70 (by decide) ?_
              refine lv_goto (tgt := 75) hx hb dX4_against_71 (by decide) ?_
              replace h := Option.some.inj h; subst h
              exact hret () H locs _ ls hP hD hS dX4_against_75 rfl
            · replace h := it_f c18 h
              refine lv_iload hx hb dX4_against_57 (lv_at hl 4 rfl) ?_
              refine lv_aload_n hx hb dX4_against_59 rfl (lv_at hl 0 rfl) ?_
              refine va_get (D := (dC, dI)) (ci := 4) (v := .ref (aM 2)) (C := RX4) (T := TX4) (N := 25) hx hb hts hiX4 hown hK hP 0 rfl rfl 3 (by decide) hf13 (fun _ h9 => h9) rfl dX4_against_60 ?_
              refine lv_iload_n hx hb dX4_against_63 rfl (lv_at hl 1 rfl) ?_
              obtain ⟨e19, h⟩ := it_n h
              refine va_iald hx hb hK hP 2 0 rfl rfl (ix_in e19) dX4_against_64 ?_
              refine lv_iload_n hx hb dX4_against_65 rfl (lv_at hl 3 rfl) ?_
              refine lv_isub hx hb dX4_against_66 ?_
              refine lv_icmp_le (tgt := 74) hx hb dX4_against_67 (by decide) (fun c20 => ?_) (fun c20 => ?_)
              · replace h := it_t c20 h
                refine lv_iconst (v := 0) hx hb dX4_against_74 (by decide) ?_
                replace h := Option.some.inj h; subst h
                exact hret () H locs _ ls hP hD hS dX4_against_75 rfl
              · replace h := it_f c20 h
                refine lv_iconst (v := 3) hx hb dX4_against_70 (by decide) ?_
                refine lv_goto (tgt := 75) hx hb dX4_against_71 (by decide) ?_
                replace h := Option.some.inj h; subst h
                exact hret () H locs _ ls hP hD hS dX4_against_75 rfl
        · replace h := it_f c15 h
          refine lv_iconst (v := 4) hx hb dX4_against_41 (by decide) ?_
          replace h := Option.some.inj h; subst h
          exact hret () H locs _ ls hP hD hS dX4_against_42 rfl
      · replace h := it_t c14 h
        refine lv_iconst (v := 1) hx hb dX4_against_34 (by decide) ?_
        replace h := Option.some.inj h; subst h
        exact hret () H locs _ ls hP hD hS dX4_against_35 rfl
    · replace h := it_f c12 h
      refine lv_iconst (v := 2) hx hb dX4_against_21 (by decide) ?_
      replace h := Option.some.inj h; subst h
      exact hret () H locs _ ls hP hD hS dX4_against_22 rfl
set_option maxHeartbeats 4000000 in
set_option maxRecDepth 100000 in
theorem c_X4_isDeed (l : Launch) (dC : Nat → ClassId) (dI : Nat → Nat → Nat) (cyI cyO : ClassId) (aM : Nat → Nat) (sz : Nat) (Mfault : Int32) (Mtrace : Int32) (Mdeeds : Int32) (Mpeople : Int32) (Mat : Int32) (MreadDeeds : Int32) (MreadMany : Int32) (Mpairs : Int32) (Mcaught : Int32) (Mreadings : Int32) (p1 : Int32) {o : Int32}  (h : f_X4_isDeed Mdeeds p1 = some o) : CtI l yX4_isDeed wsX4_isDeed { frames := 0, cells := 0, slots := 0, locals := 0 } (dC, dI) [(cyI, .int), (cyO, .object RX0)] [.ref (aM 0), .int p1] sz [((aM 0), .inr (4, [.int Mfault, .int Mtrace, .ref (aM 1), .ref (aM 2), .ref (aM 3), .int Mdeeds, .int Mpeople, .ref (aM 4), .ref (aM 5), .ref (aM 6), .ref (aM 7), .ref (aM 8), .int Mat, .int MreadDeeds, .int MreadMany, .ref (aM 9), .ref (aM 10), .ref (aM 11), .int Mpairs, .ref (aM 12), .ref (aM 13), .int Mcaught, .int Mreadings, .ref (aM 14), .ref (aM 15)]))] (fun (_ : Unit) => [((aM 0), .inr (4, [.int Mfault, .int Mtrace, .ref (aM 1), .ref (aM 2), .ref (aM 3), .int Mdeeds, .int Mpeople, .ref (aM 4), .ref (aM 5), .ref (aM 6), .ref (aM 7), .ref (aM 8), .int Mat, .int MreadDeeds, .int MreadMany, .ref (aM 9), .ref (aM 10), .ref (aM 11), .int Mpairs, .ref (aM 12), .ref (aM 13), .int Mcaught, .int Mreadings, .ref (aM 14), .ref (aM 15)]))]) o := by
  refine CtI.of (cc := cX4_isDeed) (maxL := 2) (by decide) rfl (Nat.le_of_ble_eq_true rfl) ?_
  intro p e s m args below meth c A Q H locs hx hb hml hown hts hA hK hP hD hS hret ls hl
  have hown : s.vm.findClass RX4 = some m.cls := hown
  have hl : lv_has ls 2 [(0, .ref (aM 0)), (1, .int p1)] := hl
  unfold f_X4_isDeed at h
  have hiX4 : ∀ w ∈ u_ws RX4 TX4 25, w ∈ wsX4_isDeed := by decide +kernel
  have hf65 := hts (.fieldLink RX4 65 "TowerTellModel" "deeds" "I") (by decide +kernel)
  refine lv_iload_n hx hb dX4_isDeed_0 rfl (lv_at hl 1 rfl) ?_
  refine lv_if_lt (tgt := 16) hx hb dX4_isDeed_1 (by decide) (fun c1 => ?_) (fun c1 => ?_)
  · replace h := it_t c1 h
    refine lv_iconst (v := 0) hx hb dX4_isDeed_16 (by decide) ?_
    replace h := Option.some.inj h; subst h
    exact hret () H locs _ ls hP hD hS dX4_isDeed_17 bz_0
  · replace h := it_f c1 h
    refine lv_iload_n hx hb dX4_isDeed_4 rfl (lv_at hl 1 rfl) ?_
    refine lv_aload_n hx hb dX4_isDeed_5 rfl (lv_at hl 0 rfl) ?_
    refine va_get (D := (dC, dI)) (ci := 4) (v := .int Mdeeds) (C := RX4) (T := TX4) (N := 25) hx hb hts hiX4 hown hK hP 0 rfl rfl 5 (by decide) hf65 (fun _ h9 => h9) rfl dX4_isDeed_6 ?_
    refine lv_icmp_ge (tgt := 16) hx hb dX4_isDeed_9 (by decide) (fun c2 => ?_) (fun c2 => ?_)
    · replace h := it_t c2 h
      refine lv_iconst (v := 0) hx hb dX4_isDeed_16 (by decide) ?_
      replace h := Option.some.inj h; subst h
      exact hret () H locs _ ls hP hD hS dX4_isDeed_17 bz_0
    · replace h := it_f c2 h
      refine lv_iconst (v := 1) hx hb dX4_isDeed_12 (by decide) ?_
      refine lv_goto (tgt := 17) hx hb dX4_isDeed_13 (by decide) ?_
      replace h := Option.some.inj h; subst h
      exact hret () H locs _ ls hP hD hS dX4_isDeed_17 bz_1
set_option maxHeartbeats 4000000 in
set_option maxRecDepth 100000 in
theorem c_X4_isPerson (l : Launch) (dC : Nat → ClassId) (dI : Nat → Nat → Nat) (cyI cyO : ClassId) (aM : Nat → Nat) (sz : Nat) (Mfault : Int32) (Mtrace : Int32) (Mdeeds : Int32) (Mpeople : Int32) (Mat : Int32) (MreadDeeds : Int32) (MreadMany : Int32) (Mpairs : Int32) (Mcaught : Int32) (Mreadings : Int32) (p1 : Int32) {o : Int32}  (h : f_X4_isPerson Mpeople p1 = some o) : CtI l yX4_isPerson wsX4_isPerson { frames := 0, cells := 0, slots := 0, locals := 0 } (dC, dI) [(cyI, .int), (cyO, .object RX0)] [.ref (aM 0), .int p1] sz [((aM 0), .inr (4, [.int Mfault, .int Mtrace, .ref (aM 1), .ref (aM 2), .ref (aM 3), .int Mdeeds, .int Mpeople, .ref (aM 4), .ref (aM 5), .ref (aM 6), .ref (aM 7), .ref (aM 8), .int Mat, .int MreadDeeds, .int MreadMany, .ref (aM 9), .ref (aM 10), .ref (aM 11), .int Mpairs, .ref (aM 12), .ref (aM 13), .int Mcaught, .int Mreadings, .ref (aM 14), .ref (aM 15)]))] (fun (_ : Unit) => [((aM 0), .inr (4, [.int Mfault, .int Mtrace, .ref (aM 1), .ref (aM 2), .ref (aM 3), .int Mdeeds, .int Mpeople, .ref (aM 4), .ref (aM 5), .ref (aM 6), .ref (aM 7), .ref (aM 8), .int Mat, .int MreadDeeds, .int MreadMany, .ref (aM 9), .ref (aM 10), .ref (aM 11), .int Mpairs, .ref (aM 12), .ref (aM 13), .int Mcaught, .int Mreadings, .ref (aM 14), .ref (aM 15)]))]) o := by
  refine CtI.of (cc := cX4_isPerson) (maxL := 2) (by decide) rfl (Nat.le_of_ble_eq_true rfl) ?_
  intro p e s m args below meth c A Q H locs hx hb hml hown hts hA hK hP hD hS hret ls hl
  have hown : s.vm.findClass RX4 = some m.cls := hown
  have hl : lv_has ls 2 [(0, .ref (aM 0)), (1, .int p1)] := hl
  unfold f_X4_isPerson at h
  have hiX4 : ∀ w ∈ u_ws RX4 TX4 25, w ∈ wsX4_isPerson := by decide +kernel
  have hf68 := hts (.fieldLink RX4 68 "TowerTellModel" "people" "I") (by decide +kernel)
  refine lv_iload_n hx hb dX4_isPerson_0 rfl (lv_at hl 1 rfl) ?_
  refine lv_if_lt (tgt := 16) hx hb dX4_isPerson_1 (by decide) (fun c1 => ?_) (fun c1 => ?_)
  · replace h := it_t c1 h
    refine lv_iconst (v := 0) hx hb dX4_isPerson_16 (by decide) ?_
    replace h := Option.some.inj h; subst h
    exact hret () H locs _ ls hP hD hS dX4_isPerson_17 bz_0
  · replace h := it_f c1 h
    refine lv_iload_n hx hb dX4_isPerson_4 rfl (lv_at hl 1 rfl) ?_
    refine lv_aload_n hx hb dX4_isPerson_5 rfl (lv_at hl 0 rfl) ?_
    refine va_get (D := (dC, dI)) (ci := 4) (v := .int Mpeople) (C := RX4) (T := TX4) (N := 25) hx hb hts hiX4 hown hK hP 0 rfl rfl 6 (by decide) hf68 (fun _ h9 => h9) rfl dX4_isPerson_6 ?_
    refine lv_icmp_ge (tgt := 16) hx hb dX4_isPerson_9 (by decide) (fun c2 => ?_) (fun c2 => ?_)
    · replace h := it_t c2 h
      refine lv_iconst (v := 0) hx hb dX4_isPerson_16 (by decide) ?_
      replace h := Option.some.inj h; subst h
      exact hret () H locs _ ls hP hD hS dX4_isPerson_17 bz_0
    · replace h := it_f c2 h
      refine lv_iconst (v := 1) hx hb dX4_isPerson_12 (by decide) ?_
      refine lv_goto (tgt := 17) hx hb dX4_isPerson_13 (by decide) ?_
      replace h := Option.some.inj h; subst h
      exact hret () H locs _ ls hP hD hS dX4_isPerson_17 bz_1
set_option maxHeartbeats 4000000 in
set_option maxRecDepth 100000 in
theorem c_X4_digit (l : Launch) (dC : Nat → ClassId) (dI : Nat → Nat → Nat) (cyI cyO : ClassId) (aM : Nat → Nat) (sz : Nat) (Mfault : Int32) (Mtrace : Int32) (Mdeeds : Int32) (Mpeople : Int32) (Mat : Int32) (MreadDeeds : Int32) (MreadMany : Int32) (Mpairs : Int32) (Mcaught : Int32) (Mreadings : Int32) (M_cells : Nat → Int32) (p1 : Int32) (p2 : Int32) (p3 : Int32) {o : Int32 × Int32}  (h : f_X4_digit Mat M_cells p1 p2 p3 = some o) : CtI l yX4_digit wsX4_digit { frames := 1, cells := 0, slots := 0, locals := 22 } (dC, dI) [(cyI, .int), (cyO, .object RX0)] [.ref (aM 0), .int p1, .int p2, .int p3] sz [((aM 0), .inr (4, [.int Mfault, .int Mtrace, .ref (aM 1), .ref (aM 2), .ref (aM 3), .int Mdeeds, .int Mpeople, .ref (aM 4), .ref (aM 5), .ref (aM 6), .ref (aM 7), .ref (aM 8), .int Mat, .int MreadDeeds, .int MreadMany, .ref (aM 9), .ref (aM 10), .ref (aM 11), .int Mpairs, .ref (aM 12), .ref (aM 13), .int Mcaught, .int Mreadings, .ref (aM 14), .ref (aM 15)])), ((aM 3), .inl (cyI, 240, .inl M_cells))] (fun (_ : Unit) => [((aM 0), .inr (4, [.int Mfault, .int Mtrace, .ref (aM 1), .ref (aM 2), .ref (aM 3), .int Mdeeds, .int Mpeople, .ref (aM 4), .ref (aM 5), .ref (aM 6), .ref (aM 7), .ref (aM 8), .int o.2, .int MreadDeeds, .int MreadMany, .ref (aM 9), .ref (aM 10), .ref (aM 11), .int Mpairs, .ref (aM 12), .ref (aM 13), .int Mcaught, .int Mreadings, .ref (aM 14), .ref (aM 15)])), ((aM 3), .inl (cyI, 240, .inl M_cells))]) o.1 := by
  refine CtI.of (cc := cX4_digit) (maxL := 4) (by decide) rfl (Nat.le_of_ble_eq_true rfl) ?_
  intro p e s m args below meth c A Q H locs hx hb hml hown hts hA hK hP hD hS hret ls hl
  have hown : s.vm.findClass RX4 = some m.cls := hown
  have hl : lv_has ls 4 [(0, .ref (aM 0)), (1, .int p1), (2, .int p2), (3, .int p3)] := hl
  unfold f_X4_digit at h
  have hiX4 : ∀ w ∈ u_ws RX4 TX4 25, w ∈ wsX4_digit := by decide +kernel
  have hf16 := hts (.fieldLink RX4 16 "TowerTellModel" "cells" "[I") (by decide +kernel)
  have hf71 := hts (.fieldLink RX4 71 "TowerTellModel" "at" "I") (by decide +kernel)
  refine lv_aload_n hx hb dX4_digit_0 rfl (lv_at hl 0 rfl) ?_
  refine va_get (D := (dC, dI)) (ci := 4) (v := .int Mat) (C := RX4) (T := TX4) (N := 25) hx hb hts hiX4 hown hK hP 0 rfl rfl 12 (by decide) hf71 (fun _ h9 => h9) rfl dX4_digit_1 ?_
  refine lv_iload_n hx hb dX4_digit_4 rfl (lv_at hl 1 rfl) ?_
  refine lv_icmp_ge (tgt := 31) hx hb dX4_digit_5 (by decide) (fun c1 => ?_) (fun c1 => ?_)
  · replace h := it_t c1 h
    refine lv_bipush (v := (-9)) hx hb dX4_digit_31 (by decide) ?_
    replace h := Option.some.inj h; subst h
    exact hret () H locs _ ls hP hD hS dX4_digit_33 rfl
  · replace h := it_f c1 h
    refine lv_aload_n hx hb dX4_digit_8 rfl (lv_at hl 0 rfl) ?_
    refine va_get (D := (dC, dI)) (ci := 4) (v := .ref (aM 3)) (C := RX4) (T := TX4) (N := 25) hx hb hts hiX4 hown hK hP 0 rfl rfl 4 (by decide) hf16 (fun _ h9 => h9) rfl dX4_digit_9 ?_
    refine lv_aload_n hx hb dX4_digit_12 rfl (lv_at hl 0 rfl) ?_
    refine va_get (D := (dC, dI)) (ci := 4) (v := .int Mat) (C := RX4) (T := TX4) (N := 25) hx hb hts hiX4 hown hK hP 0 rfl rfl 12 (by decide) hf71 (fun _ h9 => h9) rfl dX4_digit_13 ?_
    obtain ⟨e2, h⟩ := it_n h
    refine va_iald hx hb hK hP 1 0 rfl rfl (ix_in e2) dX4_digit_16 ?_
    refine lv_bipush (v := 48) hx hb dX4_digit_17 (by decide) ?_
    refine lv_iload_n hx hb dX4_digit_19 rfl (lv_at hl 2 rfl) ?_
    refine lv_iadd hx hb dX4_digit_20 ?_
    refine lv_bipush (v := 48) hx hb dX4_digit_21 (by decide) ?_
    refine lv_iload_n hx hb dX4_digit_23 rfl (lv_at hl 3 rfl) ?_
    refine lv_iadd hx hb dX4_digit_24 ?_
    obtain ⟨o3, hc4, h⟩ := ob h
    refine k_si (As := [.int (M_cells Mat.toNatClampNeg), .int (48 + p2), .int (48 + p3)]) (rest := []) ⟨hx, hb, hml, hown, hts⟩ (c_X4_within l dC dI cyI cyO H.size (M_cells Mat.toNatClampNeg) (48 + p2) (48 + p3) hc4) (va_cwS 3 hts gX4_digit_X4_within rfl rfl rfl (by decide +kernel) ⟨Nat.le_of_ble_eq_true rfl, Nat.le_of_ble_eq_true rfl⟩) hP hD hK hS hA [] [0, 1] rfl rfl (by decide) (by decide) (by decide) rfl hl.1 rfl (Nat.le_of_ble_eq_true rfl) dX4_digit_25 ⟨Nat.zero_le _, Nat.zero_le _⟩ (fun _ H locs hP hD hS => ?_)
    have hP : va_P (dC, dI) vwCl [((aM 0), .inr (4, [.int Mfault, .int Mtrace, .ref (aM 1), .ref (aM 2), .ref (aM 3), .int Mdeeds, .int Mpeople, .ref (aM 4), .ref (aM 5), .ref (aM 6), .ref (aM 7), .ref (aM 8), .int Mat, .int MreadDeeds, .int MreadMany, .ref (aM 9), .ref (aM 10), .ref (aM 11), .int Mpairs, .ref (aM 12), .ref (aM 13), .int Mcaught, .int Mreadings, .ref (aM 14), .ref (aM 15)])), ((aM 3), .inl (cyI, 240, .inl M_cells))] H := hP
    have hD : va_D A [((aM 0), .inr (4, [.int Mfault, .int Mtrace, .ref (aM 1), .ref (aM 2), .ref (aM 3), .int Mdeeds, .int Mpeople, .ref (aM 4), .ref (aM 5), .ref (aM 6), .ref (aM 7), .ref (aM 8), .int Mat, .int MreadDeeds, .int MreadMany, .ref (aM 9), .ref (aM 10), .ref (aM 11), .int Mpairs, .ref (aM 12), .ref (aM 13), .int Mcaught, .int Mreadings, .ref (aM 14), .ref (aM 15)])), ((aM 3), .inl (cyI, 240, .inl M_cells))] := hD
    refine lv_if_ne (tgt := 34) hx hb dX4_digit_28 (by decide) (fun c5 => ?_) (fun c5 => ?_)
    · replace h := it_f c5 h
      refine lv_aload_n hx hb dX4_digit_34 rfl (lv_at hl 0 rfl) ?_
      refine lv_dup hx hb dX4_digit_35 rfl ?_
      refine va_get (D := (dC, dI)) (ci := 4) (v := .int Mat) (C := RX4) (T := TX4) (N := 25) hx hb hts hiX4 hown hK hP 0 rfl rfl 12 (by decide) hf71 (fun _ h9 => h9) rfl dX4_digit_36 ?_
      refine lv_iconst (v := 1) hx hb dX4_digit_39 (by decide) ?_
      refine lv_iadd hx hb dX4_digit_40 ?_
      refine va_put (D := (dC, dI)) (ci := 4) (v := .int (Mat + 1)) (ty := .int) (C := RX4) (T := TX4) (N := 25) hx hb hts hiX4 tyX4 tyX4_ok nmX4 hown hK hP hD hS 0 rfl rfl 12 (by decide) hf71 (fun _ h9 => h9) rfl (tyX4_ok 12 (by decide)) rfl rfl (Nat.le_of_ble_eq_true rfl) dX4_digit_41 (fun H locs hP hD hS => ?_)
      have hP : va_P (dC, dI) vwCl [((aM 0), .inr (4, [.int Mfault, .int Mtrace, .ref (aM 1), .ref (aM 2), .ref (aM 3), .int Mdeeds, .int Mpeople, .ref (aM 4), .ref (aM 5), .ref (aM 6), .ref (aM 7), .ref (aM 8), .int (Mat + 1), .int MreadDeeds, .int MreadMany, .ref (aM 9), .ref (aM 10), .ref (aM 11), .int Mpairs, .ref (aM 12), .ref (aM 13), .int Mcaught, .int Mreadings, .ref (aM 14), .ref (aM 15)])), ((aM 3), .inl (cyI, 240, .inl M_cells))] H := hP
      have hD : va_D A [((aM 0), .inr (4, [.int Mfault, .int Mtrace, .ref (aM 1), .ref (aM 2), .ref (aM 3), .int Mdeeds, .int Mpeople, .ref (aM 4), .ref (aM 5), .ref (aM 6), .ref (aM 7), .ref (aM 8), .int (Mat + 1), .int MreadDeeds, .int MreadMany, .ref (aM 9), .ref (aM 10), .ref (aM 11), .int Mpairs, .ref (aM 12), .ref (aM 13), .int Mcaught, .int Mreadings, .ref (aM 14), .ref (aM 15)])), ((aM 3), .inl (cyI, 240, .inl M_cells))] := hD
      refine lv_aload_n hx hb dX4_digit_44 rfl (lv_at hl 0 rfl) ?_
      refine va_get (D := (dC, dI)) (ci := 4) (v := .ref (aM 3)) (C := RX4) (T := TX4) (N := 25) hx hb hts hiX4 hown hK hP 0 rfl rfl 4 (by decide) hf16 (fun _ h9 => h9) rfl dX4_digit_45 ?_
      refine lv_aload_n hx hb dX4_digit_48 rfl (lv_at hl 0 rfl) ?_
      refine va_get (D := (dC, dI)) (ci := 4) (v := .int (Mat + 1)) (C := RX4) (T := TX4) (N := 25) hx hb hts hiX4 hown hK hP 0 rfl rfl 12 (by decide) hf71 (fun _ h9 => h9) rfl dX4_digit_49 ?_
      refine lv_iconst (v := 1) hx hb dX4_digit_52 (by decide) ?_
      refine lv_isub hx hb dX4_digit_53 ?_
      obtain ⟨e6, h⟩ := it_n h
      refine va_iald hx hb hK hP 1 0 rfl rfl (ix_in e6) dX4_digit_54 ?_
      refine lv_bipush (v := 48) hx hb dX4_digit_55 (by decide) ?_
      refine lv_isub hx hb dX4_digit_57 ?_
      replace h := Option.some.inj h; subst h
      exact hret () H locs _ ls hP hD hS dX4_digit_58 rfl
    · replace h := it_t c5 h
      refine lv_bipush (v := (-9)) hx hb dX4_digit_31 (by decide) ?_
      replace h := Option.some.inj h; subst h
      exact hret () H locs _ ls hP hD hS dX4_digit_33 rfl
set_option maxHeartbeats 4000000 in
set_option maxRecDepth 100000 in
theorem c_X4_isSign (l : Launch) (dC : Nat → ClassId) (dI : Nat → Nat → Nat) (cyI cyO : ClassId) (aM : Nat → Nat) (sz : Nat) (Mfault : Int32) (Mtrace : Int32) (Mdeeds : Int32) (Mpeople : Int32) (Mat : Int32) (MreadDeeds : Int32) (MreadMany : Int32) (Mpairs : Int32) (Mcaught : Int32) (Mreadings : Int32) (M_cells : Nat → Int32) (p1 : Int32) (p2 : Int32) {o : Int32 × Int32}  (h : f_X4_isSign Mat M_cells p1 p2 = some o) : CtI l yX4_isSign wsX4_isSign { frames := 0, cells := 0, slots := 0, locals := 0 } (dC, dI) [(cyI, .int), (cyO, .object RX0)] [.ref (aM 0), .int p1, .int p2] sz [((aM 0), .inr (4, [.int Mfault, .int Mtrace, .ref (aM 1), .ref (aM 2), .ref (aM 3), .int Mdeeds, .int Mpeople, .ref (aM 4), .ref (aM 5), .ref (aM 6), .ref (aM 7), .ref (aM 8), .int Mat, .int MreadDeeds, .int MreadMany, .ref (aM 9), .ref (aM 10), .ref (aM 11), .int Mpairs, .ref (aM 12), .ref (aM 13), .int Mcaught, .int Mreadings, .ref (aM 14), .ref (aM 15)])), ((aM 3), .inl (cyI, 240, .inl M_cells))] (fun (_ : Unit) => [((aM 0), .inr (4, [.int Mfault, .int Mtrace, .ref (aM 1), .ref (aM 2), .ref (aM 3), .int Mdeeds, .int Mpeople, .ref (aM 4), .ref (aM 5), .ref (aM 6), .ref (aM 7), .ref (aM 8), .int o.2, .int MreadDeeds, .int MreadMany, .ref (aM 9), .ref (aM 10), .ref (aM 11), .int Mpairs, .ref (aM 12), .ref (aM 13), .int Mcaught, .int Mreadings, .ref (aM 14), .ref (aM 15)])), ((aM 3), .inl (cyI, 240, .inl M_cells))]) o.1 := by
  refine CtI.of (cc := cX4_isSign) (maxL := 3) (by decide) rfl (Nat.le_of_ble_eq_true rfl) ?_
  intro p e s m args below meth c A Q H locs hx hb hml hown hts hA hK hP hD hS hret ls hl
  have hown : s.vm.findClass RX4 = some m.cls := hown
  have hl : lv_has ls 3 [(0, .ref (aM 0)), (1, .int p1), (2, .int p2)] := hl
  unfold f_X4_isSign at h
  have hiX4 : ∀ w ∈ u_ws RX4 TX4 25, w ∈ wsX4_isSign := by decide +kernel
  have hf16 := hts (.fieldLink RX4 16 "TowerTellModel" "cells" "[I") (by decide +kernel)
  have hf71 := hts (.fieldLink RX4 71 "TowerTellModel" "at" "I") (by decide +kernel)
  refine lv_aload_n hx hb dX4_isSign_0 rfl (lv_at hl 0 rfl) ?_
  refine va_get (D := (dC, dI)) (ci := 4) (v := .int Mat) (C := RX4) (T := TX4) (N := 25) hx hb hts hiX4 hown hK hP 0 rfl rfl 12 (by decide) hf71 (fun _ h9 => h9) rfl dX4_isSign_1 ?_
  refine lv_iload_n hx hb dX4_isSign_4 rfl (lv_at hl 1 rfl) ?_
  refine lv_icmp_ge (tgt := 21) hx hb dX4_isSign_5 (by decide) (fun c1 => ?_) (fun c1 => ?_)
  · replace h := it_t c1 h
    refine lv_iconst (v := 0) hx hb dX4_isSign_21 (by decide) ?_
    replace h := Option.some.inj h; subst h
    exact hret () H locs _ ls hP hD hS dX4_isSign_22 bz_0
  · replace h := it_f c1 h
    refine lv_aload_n hx hb dX4_isSign_8 rfl (lv_at hl 0 rfl) ?_
    refine va_get (D := (dC, dI)) (ci := 4) (v := .ref (aM 3)) (C := RX4) (T := TX4) (N := 25) hx hb hts hiX4 hown hK hP 0 rfl rfl 4 (by decide) hf16 (fun _ h9 => h9) rfl dX4_isSign_9 ?_
    refine lv_aload_n hx hb dX4_isSign_12 rfl (lv_at hl 0 rfl) ?_
    refine va_get (D := (dC, dI)) (ci := 4) (v := .int Mat) (C := RX4) (T := TX4) (N := 25) hx hb hts hiX4 hown hK hP 0 rfl rfl 12 (by decide) hf71 (fun _ h9 => h9) rfl dX4_isSign_13 ?_
    obtain ⟨e2, h⟩ := it_n h
    refine va_iald hx hb hK hP 1 0 rfl rfl (ix_in e2) dX4_isSign_16 ?_
    refine lv_iload_n hx hb dX4_isSign_17 rfl (lv_at hl 2 rfl) ?_
    refine lv_icmp_eq (tgt := 23) hx hb dX4_isSign_18 (by decide) (fun c3 => ?_) (fun c3 => ?_)
    · replace h := it_t c3 h
      refine lv_aload_n hx hb dX4_isSign_23 rfl (lv_at hl 0 rfl) ?_
      refine lv_dup hx hb dX4_isSign_24 rfl ?_
      refine va_get (D := (dC, dI)) (ci := 4) (v := .int Mat) (C := RX4) (T := TX4) (N := 25) hx hb hts hiX4 hown hK hP 0 rfl rfl 12 (by decide) hf71 (fun _ h9 => h9) rfl dX4_isSign_25 ?_
      refine lv_iconst (v := 1) hx hb dX4_isSign_28 (by decide) ?_
      refine lv_iadd hx hb dX4_isSign_29 ?_
      refine va_put (D := (dC, dI)) (ci := 4) (v := .int (Mat + 1)) (ty := .int) (C := RX4) (T := TX4) (N := 25) hx hb hts hiX4 tyX4 tyX4_ok nmX4 hown hK hP hD hS 0 rfl rfl 12 (by decide) hf71 (fun _ h9 => h9) rfl (tyX4_ok 12 (by decide)) rfl rfl (Nat.le_of_ble_eq_true rfl) dX4_isSign_30 (fun H locs hP hD hS => ?_)
      have hP : va_P (dC, dI) vwCl [((aM 0), .inr (4, [.int Mfault, .int Mtrace, .ref (aM 1), .ref (aM 2), .ref (aM 3), .int Mdeeds, .int Mpeople, .ref (aM 4), .ref (aM 5), .ref (aM 6), .ref (aM 7), .ref (aM 8), .int (Mat + 1), .int MreadDeeds, .int MreadMany, .ref (aM 9), .ref (aM 10), .ref (aM 11), .int Mpairs, .ref (aM 12), .ref (aM 13), .int Mcaught, .int Mreadings, .ref (aM 14), .ref (aM 15)])), ((aM 3), .inl (cyI, 240, .inl M_cells))] H := hP
      have hD : va_D A [((aM 0), .inr (4, [.int Mfault, .int Mtrace, .ref (aM 1), .ref (aM 2), .ref (aM 3), .int Mdeeds, .int Mpeople, .ref (aM 4), .ref (aM 5), .ref (aM 6), .ref (aM 7), .ref (aM 8), .int (Mat + 1), .int MreadDeeds, .int MreadMany, .ref (aM 9), .ref (aM 10), .ref (aM 11), .int Mpairs, .ref (aM 12), .ref (aM 13), .int Mcaught, .int Mreadings, .ref (aM 14), .ref (aM 15)])), ((aM 3), .inl (cyI, 240, .inl M_cells))] := hD
      refine lv_iconst (v := 1) hx hb dX4_isSign_33 (by decide) ?_
      replace h := Option.some.inj h; subst h
      exact hret () H locs _ ls hP hD hS dX4_isSign_34 bz_1
    · replace h := it_f c3 h
      refine lv_iconst (v := 0) hx hb dX4_isSign_21 (by decide) ?_
      replace h := Option.some.inj h; subst h
      exact hret () H locs _ ls hP hD hS dX4_isSign_22 bz_0
set_option maxHeartbeats 4000000 in
set_option maxRecDepth 100000 in
theorem c_X4_readDeed (l : Launch) (dC : Nat → ClassId) (dI : Nat → Nat → Nat) (cyI cyO : ClassId) (aM : Nat → Nat) (sz : Nat) (Mfault : Int32) (Mtrace : Int32) (Mdeeds : Int32) (Mpeople : Int32) (Mat : Int32) (MreadDeeds : Int32) (MreadMany : Int32) (Mpairs : Int32) (Mcaught : Int32) (Mreadings : Int32) (M_cells : Nat → Int32) (M_readWeight : Nat → Int32) (p1 : Int32) {o : Int32 × Int32 × Int32 × (Nat → Int32)}  (h : f_X4_readDeed Mat MreadDeeds M_cells M_readWeight p1 = some o) : CtI l yX4_readDeed wsX4_readDeed { frames := 2, cells := 0, slots := 0, locals := 45 } (dC, dI) [(cyI, .int), (cyO, .object RX0)] [.ref (aM 0), .int p1] sz [((aM 0), .inr (4, [.int Mfault, .int Mtrace, .ref (aM 1), .ref (aM 2), .ref (aM 3), .int Mdeeds, .int Mpeople, .ref (aM 4), .ref (aM 5), .ref (aM 6), .ref (aM 7), .ref (aM 8), .int Mat, .int MreadDeeds, .int MreadMany, .ref (aM 9), .ref (aM 10), .ref (aM 11), .int Mpairs, .ref (aM 12), .ref (aM 13), .int Mcaught, .int Mreadings, .ref (aM 14), .ref (aM 15)])), ((aM 3), .inl (cyI, 240, .inl M_cells)), ((aM 9), .inl (cyI, 6, .inl M_readWeight))] (fun (_ : Unit) => [((aM 0), .inr (4, [.int Mfault, .int Mtrace, .ref (aM 1), .ref (aM 2), .ref (aM 3), .int Mdeeds, .int Mpeople, .ref (aM 4), .ref (aM 5), .ref (aM 6), .ref (aM 7), .ref (aM 8), .int o.2.1, .int o.2.2.1, .int MreadMany, .ref (aM 9), .ref (aM 10), .ref (aM 11), .int Mpairs, .ref (aM 12), .ref (aM 13), .int Mcaught, .int Mreadings, .ref (aM 14), .ref (aM 15)])), ((aM 3), .inl (cyI, 240, .inl M_cells)), ((aM 9), .inl (cyI, 6, .inl o.2.2.2))]) o.1 := by
  refine CtI.of (cc := cX4_readDeed) (maxL := 2) (by decide) rfl (Nat.le_of_ble_eq_true rfl) ?_
  intro p e s m args below meth c A Q H locs hx hb hml hown hts hA hK hP hD hS hret ls hl
  have hown : s.vm.findClass RX4 = some m.cls := hown
  have hl : lv_has ls 2 [(0, .ref (aM 0)), (1, .int p1)] := hl
  unfold f_X4_readDeed at h
  have hiX4 : ∀ w ∈ u_ws RX4 TX4 25, w ∈ wsX4_readDeed := by decide +kernel
  have hf34 := hts (.fieldLink RX4 34 "TowerTellModel" "readWeight" "[I") (by decide +kernel)
  have hf95 := hts (.fieldLink RX4 95 "TowerTellModel" "readDeeds" "I") (by decide +kernel)
  refine lv_aload_n hx hb dX4_readDeed_0 rfl (lv_at hl 0 rfl) ?_
  refine va_get (D := (dC, dI)) (ci := 4) (v := .ref (aM 9)) (C := RX4) (T := TX4) (N := 25) hx hb hts hiX4 hown hK hP 0 rfl rfl 15 (by decide) hf34 (fun _ h9 => h9) rfl dX4_readDeed_1 ?_
  refine lv_aload_n hx hb dX4_readDeed_4 rfl (lv_at hl 0 rfl) ?_
  refine va_get (D := (dC, dI)) (ci := 4) (v := .int MreadDeeds) (C := RX4) (T := TX4) (N := 25) hx hb hts hiX4 hown hK hP 0 rfl rfl 13 (by decide) hf95 (fun _ h9 => h9) rfl dX4_readDeed_5 ?_
  refine lv_aload_n hx hb dX4_readDeed_8 rfl (lv_at hl 0 rfl) ?_
  refine lv_iload_n hx hb dX4_readDeed_9 rfl (lv_at hl 1 rfl) ?_
  refine lv_iconst (v := 1) hx hb dX4_readDeed_10 (by decide) ?_
  refine lv_bipush (v := 9) hx hb dX4_readDeed_11 (by decide) ?_
  obtain ⟨o1, hc2, h⟩ := ob h
  refine k_vi (As := [.int p1, .int 1, .int 9]) (rest := [.int MreadDeeds, .ref (aM 9)]) ⟨hx, hb, hml, hown, hts⟩ (c_X4_digit l dC dI cyI cyO aM H.size Mfault Mtrace Mdeeds Mpeople Mat MreadDeeds MreadMany Mpairs Mcaught Mreadings M_cells p1 1 9 hc2) (cwV 3 hts gX4_readDeed_X4_digit rfl rfl rfl (by decide +kernel) ⟨Nat.le_of_ble_eq_true rfl, Nat.le_of_ble_eq_true rfl⟩) hP hD hK hS hA [0, 1] [2] rfl rfl (by decide) (by decide) (by decide) 4 0 rfl rfl rfl rfl hl.1 rfl (Nat.le_of_ble_eq_true rfl) dX4_readDeed_13 ⟨Nat.zero_le _, Nat.zero_le _⟩ (fun _ H locs hP hD hS => ?_)
  have hP : va_P (dC, dI) vwCl [((aM 9), .inl (cyI, 6, .inl M_readWeight)), ((aM 0), .inr (4, [.int Mfault, .int Mtrace, .ref (aM 1), .ref (aM 2), .ref (aM 3), .int Mdeeds, .int Mpeople, .ref (aM 4), .ref (aM 5), .ref (aM 6), .ref (aM 7), .ref (aM 8), .int o1.2, .int MreadDeeds, .int MreadMany, .ref (aM 9), .ref (aM 10), .ref (aM 11), .int Mpairs, .ref (aM 12), .ref (aM 13), .int Mcaught, .int Mreadings, .ref (aM 14), .ref (aM 15)])), ((aM 3), .inl (cyI, 240, .inl M_cells))] H := hP
  have hD : va_D A [((aM 9), .inl (cyI, 6, .inl M_readWeight)), ((aM 0), .inr (4, [.int Mfault, .int Mtrace, .ref (aM 1), .ref (aM 2), .ref (aM 3), .int Mdeeds, .int Mpeople, .ref (aM 4), .ref (aM 5), .ref (aM 6), .ref (aM 7), .ref (aM 8), .int o1.2, .int MreadDeeds, .int MreadMany, .ref (aM 9), .ref (aM 10), .ref (aM 11), .int Mpairs, .ref (aM 12), .ref (aM 13), .int Mcaught, .int Mreadings, .ref (aM 14), .ref (aM 15)])), ((aM 3), .inl (cyI, 240, .inl M_cells))] := hD
  obtain ⟨e3, h⟩ := it_n h
  refine va_iast hx hb hK hP hD hS 0 0 rfl rfl (ix_in e3) dX4_readDeed_16 (fun H locs hP hD hS => ?_)
  have hP : va_P (dC, dI) vwCl [((aM 9), .inl (cyI, 6, .inl (upd M_readWeight MreadDeeds.toNatClampNeg o1.1))), ((aM 0), .inr (4, [.int Mfault, .int Mtrace, .ref (aM 1), .ref (aM 2), .ref (aM 3), .int Mdeeds, .int Mpeople, .ref (aM 4), .ref (aM 5), .ref (aM 6), .ref (aM 7), .ref (aM 8), .int o1.2, .int MreadDeeds, .int MreadMany, .ref (aM 9), .ref (aM 10), .ref (aM 11), .int Mpairs, .ref (aM 12), .ref (aM 13), .int Mcaught, .int Mreadings, .ref (aM 14), .ref (aM 15)])), ((aM 3), .inl (cyI, 240, .inl M_cells))] H := hP
  have hD : va_D A [((aM 9), .inl (cyI, 6, .inl (upd M_readWeight MreadDeeds.toNatClampNeg o1.1))), ((aM 0), .inr (4, [.int Mfault, .int Mtrace, .ref (aM 1), .ref (aM 2), .ref (aM 3), .int Mdeeds, .int Mpeople, .ref (aM 4), .ref (aM 5), .ref (aM 6), .ref (aM 7), .ref (aM 8), .int o1.2, .int MreadDeeds, .int MreadMany, .ref (aM 9), .ref (aM 10), .ref (aM 11), .int Mpairs, .ref (aM 12), .ref (aM 13), .int Mcaught, .int Mreadings, .ref (aM 14), .ref (aM 15)])), ((aM 3), .inl (cyI, 240, .inl M_cells))] := hD
  refine lv_aload_n hx hb dX4_readDeed_17 rfl (lv_at hl 0 rfl) ?_
  refine lv_dup hx hb dX4_readDeed_18 rfl ?_
  refine va_get (D := (dC, dI)) (ci := 4) (v := .int MreadDeeds) (C := RX4) (T := TX4) (N := 25) hx hb hts hiX4 hown hK hP 1 rfl rfl 13 (by decide) hf95 (fun _ h9 => h9) rfl dX4_readDeed_19 ?_
  refine lv_iconst (v := 1) hx hb dX4_readDeed_22 (by decide) ?_
  refine lv_iadd hx hb dX4_readDeed_23 ?_
  refine va_put (D := (dC, dI)) (ci := 4) (v := .int (MreadDeeds + 1)) (ty := .int) (C := RX4) (T := TX4) (N := 25) hx hb hts hiX4 tyX4 tyX4_ok nmX4 hown hK hP hD hS 1 rfl rfl 13 (by decide) hf95 (fun _ h9 => h9) rfl (tyX4_ok 13 (by decide)) rfl rfl (Nat.le_of_ble_eq_true rfl) dX4_readDeed_24 (fun H locs hP hD hS => ?_)
  have hP : va_P (dC, dI) vwCl [((aM 9), .inl (cyI, 6, .inl (upd M_readWeight MreadDeeds.toNatClampNeg o1.1))), ((aM 0), .inr (4, [.int Mfault, .int Mtrace, .ref (aM 1), .ref (aM 2), .ref (aM 3), .int Mdeeds, .int Mpeople, .ref (aM 4), .ref (aM 5), .ref (aM 6), .ref (aM 7), .ref (aM 8), .int o1.2, .int (MreadDeeds + 1), .int MreadMany, .ref (aM 9), .ref (aM 10), .ref (aM 11), .int Mpairs, .ref (aM 12), .ref (aM 13), .int Mcaught, .int Mreadings, .ref (aM 14), .ref (aM 15)])), ((aM 3), .inl (cyI, 240, .inl M_cells))] H := hP
  have hD : va_D A [((aM 9), .inl (cyI, 6, .inl (upd M_readWeight MreadDeeds.toNatClampNeg o1.1))), ((aM 0), .inr (4, [.int Mfault, .int Mtrace, .ref (aM 1), .ref (aM 2), .ref (aM 3), .int Mdeeds, .int Mpeople, .ref (aM 4), .ref (aM 5), .ref (aM 6), .ref (aM 7), .ref (aM 8), .int o1.2, .int (MreadDeeds + 1), .int MreadMany, .ref (aM 9), .ref (aM 10), .ref (aM 11), .int Mpairs, .ref (aM 12), .ref (aM 13), .int Mcaught, .int Mreadings, .ref (aM 14), .ref (aM 15)])), ((aM 3), .inl (cyI, 240, .inl M_cells))] := hD
  refine lv_aload_n hx hb dX4_readDeed_27 rfl (lv_at hl 0 rfl) ?_
  refine va_get (D := (dC, dI)) (ci := 4) (v := .ref (aM 9)) (C := RX4) (T := TX4) (N := 25) hx hb hts hiX4 hown hK hP 1 rfl rfl 15 (by decide) hf34 (fun _ h9 => h9) rfl dX4_readDeed_28 ?_
  refine lv_aload_n hx hb dX4_readDeed_31 rfl (lv_at hl 0 rfl) ?_
  refine va_get (D := (dC, dI)) (ci := 4) (v := .int (MreadDeeds + 1)) (C := RX4) (T := TX4) (N := 25) hx hb hts hiX4 hown hK hP 1 rfl rfl 13 (by decide) hf95 (fun _ h9 => h9) rfl dX4_readDeed_32 ?_
  refine lv_iconst (v := 1) hx hb dX4_readDeed_35 (by decide) ?_
  refine lv_isub hx hb dX4_readDeed_36 ?_
  obtain ⟨e4, h⟩ := it_n h
  refine va_iald hx hb hK hP 0 0 rfl rfl (ix_in e4) dX4_readDeed_37 ?_
  refine lv_bipush (v := (-9)) hx hb dX4_readDeed_38 (by decide) ?_
  refine lv_icmp_eq (tgt := 47) hx hb dX4_readDeed_40 (by decide) (fun c5 => ?_) (fun c5 => ?_)
  · replace h := it_t c5 h
    refine lv_iconst (v := 0) hx hb dX4_readDeed_47 (by decide) ?_
    replace h := Option.some.inj h; subst h
    have hP := hP.sub (ws' := [((aM 0), .inr (4, [.int Mfault, .int Mtrace, .ref (aM 1), .ref (aM 2), .ref (aM 3), .int Mdeeds, .int Mpeople, .ref (aM 4), .ref (aM 5), .ref (aM 6), .ref (aM 7), .ref (aM 8), .int o1.2, .int (MreadDeeds + 1), .int MreadMany, .ref (aM 9), .ref (aM 10), .ref (aM 11), .int Mpairs, .ref (aM 12), .ref (aM 13), .int Mcaught, .int Mreadings, .ref (aM 14), .ref (aM 15)])), ((aM 3), .inl (cyI, 240, .inl M_cells)), ((aM 9), .inl (cyI, 6, .inl (upd M_readWeight MreadDeeds.toNatClampNeg o1.1)))]) [1, 2, 0] rfl
    have hD := hD.sub (ws' := [((aM 0), .inr (4, [.int Mfault, .int Mtrace, .ref (aM 1), .ref (aM 2), .ref (aM 3), .int Mdeeds, .int Mpeople, .ref (aM 4), .ref (aM 5), .ref (aM 6), .ref (aM 7), .ref (aM 8), .int o1.2, .int (MreadDeeds + 1), .int MreadMany, .ref (aM 9), .ref (aM 10), .ref (aM 11), .int Mpairs, .ref (aM 12), .ref (aM 13), .int Mcaught, .int Mreadings, .ref (aM 14), .ref (aM 15)])), ((aM 3), .inl (cyI, 240, .inl M_cells)), ((aM 9), .inl (cyI, 6, .inl (upd M_readWeight MreadDeeds.toNatClampNeg o1.1)))]) [1, 2, 0] (by decide) rfl
    exact hret () H locs _ ls hP hD hS dX4_readDeed_48 bz_0
  · replace h := it_f c5 h
    refine lv_iconst (v := 1) hx hb dX4_readDeed_43 (by decide) ?_
    refine lv_goto (tgt := 48) hx hb dX4_readDeed_44 (by decide) ?_
    replace h := Option.some.inj h; subst h
    have hP := hP.sub (ws' := [((aM 0), .inr (4, [.int Mfault, .int Mtrace, .ref (aM 1), .ref (aM 2), .ref (aM 3), .int Mdeeds, .int Mpeople, .ref (aM 4), .ref (aM 5), .ref (aM 6), .ref (aM 7), .ref (aM 8), .int o1.2, .int (MreadDeeds + 1), .int MreadMany, .ref (aM 9), .ref (aM 10), .ref (aM 11), .int Mpairs, .ref (aM 12), .ref (aM 13), .int Mcaught, .int Mreadings, .ref (aM 14), .ref (aM 15)])), ((aM 3), .inl (cyI, 240, .inl M_cells)), ((aM 9), .inl (cyI, 6, .inl (upd M_readWeight MreadDeeds.toNatClampNeg o1.1)))]) [1, 2, 0] rfl
    have hD := hD.sub (ws' := [((aM 0), .inr (4, [.int Mfault, .int Mtrace, .ref (aM 1), .ref (aM 2), .ref (aM 3), .int Mdeeds, .int Mpeople, .ref (aM 4), .ref (aM 5), .ref (aM 6), .ref (aM 7), .ref (aM 8), .int o1.2, .int (MreadDeeds + 1), .int MreadMany, .ref (aM 9), .ref (aM 10), .ref (aM 11), .int Mpairs, .ref (aM 12), .ref (aM 13), .int Mcaught, .int Mreadings, .ref (aM 14), .ref (aM 15)])), ((aM 3), .inl (cyI, 240, .inl M_cells)), ((aM 9), .inl (cyI, 6, .inl (upd M_readWeight MreadDeeds.toNatClampNeg o1.1)))]) [1, 2, 0] (by decide) rfl
    exact hret () H locs _ ls hP hD hS dX4_readDeed_48 bz_1
set_option maxHeartbeats 4000000 in
set_option maxRecDepth 100000 in
theorem c_X4_readPerson (l : Launch) (dC : Nat → ClassId) (dI : Nat → Nat → Nat) (cyI cyO : ClassId) (aM : Nat → Nat) (sz : Nat) (Mfault : Int32) (Mtrace : Int32) (Mdeeds : Int32) (Mpeople : Int32) (Mat : Int32) (MreadDeeds : Int32) (MreadMany : Int32) (Mpairs : Int32) (Mcaught : Int32) (Mreadings : Int32) (M_cells : Nat → Int32) (M_read : Nat → Int32) (p1 : Int32) {o : Int32 × Int32 × Int32 × (Nat → Int32)}  (h : f_X4_readPerson Mat MreadMany M_cells M_read p1 = some o) : CtI l yX4_readPerson wsX4_readPerson { frames := 2, cells := 0, slots := 0, locals := 45 } (dC, dI) [(cyI, .int), (cyO, .object RX0)] [.ref (aM 0), .int p1] sz [((aM 0), .inr (4, [.int Mfault, .int Mtrace, .ref (aM 1), .ref (aM 2), .ref (aM 3), .int Mdeeds, .int Mpeople, .ref (aM 4), .ref (aM 5), .ref (aM 6), .ref (aM 7), .ref (aM 8), .int Mat, .int MreadDeeds, .int MreadMany, .ref (aM 9), .ref (aM 10), .ref (aM 11), .int Mpairs, .ref (aM 12), .ref (aM 13), .int Mcaught, .int Mreadings, .ref (aM 14), .ref (aM 15)])), ((aM 3), .inl (cyI, 240, .inl M_cells)), ((aM 10), .inl (cyI, 12, .inl M_read))] (fun (_ : Unit) => [((aM 0), .inr (4, [.int Mfault, .int Mtrace, .ref (aM 1), .ref (aM 2), .ref (aM 3), .int Mdeeds, .int Mpeople, .ref (aM 4), .ref (aM 5), .ref (aM 6), .ref (aM 7), .ref (aM 8), .int o.2.1, .int MreadDeeds, .int o.2.2.1, .ref (aM 9), .ref (aM 10), .ref (aM 11), .int Mpairs, .ref (aM 12), .ref (aM 13), .int Mcaught, .int Mreadings, .ref (aM 14), .ref (aM 15)])), ((aM 3), .inl (cyI, 240, .inl M_cells)), ((aM 10), .inl (cyI, 12, .inl o.2.2.2))]) o.1 := by
  refine CtI.of (cc := cX4_readPerson) (maxL := 6) (by decide) rfl (Nat.le_of_ble_eq_true rfl) ?_
  intro p e s m args below meth c A Q H locs hx hb hml hown hts hA hK hP hD hS hret ls hl
  have hown : s.vm.findClass RX4 = some m.cls := hown
  have hl : lv_has ls 6 [(0, .ref (aM 0)), (1, .int p1)] := hl
  unfold f_X4_readPerson at h
  have hiX4 : ∀ w ∈ u_ws RX4 TX4 25, w ∈ wsX4_readPerson := by decide +kernel
  have hf16 := hts (.fieldLink RX4 16 "TowerTellModel" "cells" "[I") (by decide +kernel)
  have hf37 := hts (.fieldLink RX4 37 "TowerTellModel" "read" "[I") (by decide +kernel)
  have hf71 := hts (.fieldLink RX4 71 "TowerTellModel" "at" "I") (by decide +kernel)
  have hf98 := hts (.fieldLink RX4 98 "TowerTellModel" "readMany" "I") (by decide +kernel)
  have jn66 : ∀ (x2 : Int32) (z1 : Int32) (z2 : Int32) (yMat : Int32) (yMreadMany : Int32) (yM_read : Nat → Int32) (H : Heap) (locs : List Loc) (ls : Array Slot), j_X4_readPerson_66 M_cells p1 x2 z1 z2 yMat yMreadMany yM_read = some o → va_P (dC, dI) vwCl [((aM 0), .inr (4, [.int Mfault, .int Mtrace, .ref (aM 1), .ref (aM 2), .ref (aM 3), .int Mdeeds, .int Mpeople, .ref (aM 4), .ref (aM 5), .ref (aM 6), .ref (aM 7), .ref (aM 8), .int yMat, .int MreadDeeds, .int yMreadMany, .ref (aM 9), .ref (aM 10), .ref (aM 11), .int Mpairs, .ref (aM 12), .ref (aM 13), .int Mcaught, .int Mreadings, .ref (aM 14), .ref (aM 15)])), ((aM 3), .inl (cyI, 240, .inl M_cells)), ((aM 10), .inl (cyI, 12, .inl yM_read))] H → va_D A [((aM 0), .inr (4, [.int Mfault, .int Mtrace, .ref (aM 1), .ref (aM 2), .ref (aM 3), .int Mdeeds, .int Mpeople, .ref (aM 4), .ref (aM 5), .ref (aM 6), .ref (aM 7), .ref (aM 8), .int yMat, .int MreadDeeds, .int yMreadMany, .ref (aM 9), .ref (aM 10), .ref (aM 11), .int Mpairs, .ref (aM 12), .ref (aM 13), .int Mcaught, .int Mreadings, .ref (aM 14), .ref (aM 15)])), ((aM 3), .inl (cyI, 240, .inl M_cells)), ((aM 10), .inl (cyI, 12, .inl yM_read))] → va_S A s.heap H locs → lv_has ls 6 [(0, .ref (aM 0)), (1, .int p1), (2, .int x2)] → W p l e { frames := 2, cells := 0, slots := 0, locals := 45 } s m args below meth c H locs 0 0 Q (F0 m 66 ls [.int z2, .int z1, .ref (aM 10)]) := by
    intro x2 z1 z2 yMat yMreadMany yM_read H locs ls h hP hD hS hl
    unfold j_X4_readPerson_66 at h
    obtain ⟨e5, h⟩ := it_n h
    refine va_iast hx hb hK hP hD hS 2 0 rfl rfl (ix_in e5) dX4_readPerson_66 (fun H locs hP hD hS => ?_)
    have hP : va_P (dC, dI) vwCl [((aM 0), .inr (4, [.int Mfault, .int Mtrace, .ref (aM 1), .ref (aM 2), .ref (aM 3), .int Mdeeds, .int Mpeople, .ref (aM 4), .ref (aM 5), .ref (aM 6), .ref (aM 7), .ref (aM 8), .int yMat, .int MreadDeeds, .int yMreadMany, .ref (aM 9), .ref (aM 10), .ref (aM 11), .int Mpairs, .ref (aM 12), .ref (aM 13), .int Mcaught, .int Mreadings, .ref (aM 14), .ref (aM 15)])), ((aM 3), .inl (cyI, 240, .inl M_cells)), ((aM 10), .inl (cyI, 12, .inl (upd yM_read z1.toNatClampNeg z2)))] H := hP
    have hD : va_D A [((aM 0), .inr (4, [.int Mfault, .int Mtrace, .ref (aM 1), .ref (aM 2), .ref (aM 3), .int Mdeeds, .int Mpeople, .ref (aM 4), .ref (aM 5), .ref (aM 6), .ref (aM 7), .ref (aM 8), .int yMat, .int MreadDeeds, .int yMreadMany, .ref (aM 9), .ref (aM 10), .ref (aM 11), .int Mpairs, .ref (aM 12), .ref (aM 13), .int Mcaught, .int Mreadings, .ref (aM 14), .ref (aM 15)])), ((aM 3), .inl (cyI, 240, .inl M_cells)), ((aM 10), .inl (cyI, 12, .inl (upd yM_read z1.toNatClampNeg z2)))] := hD
    refine lv_aload_n hx hb dX4_readPerson_67 rfl (lv_at hl 0 rfl) ?_
    refine va_get (D := (dC, dI)) (ci := 4) (v := .ref (aM 10)) (C := RX4) (T := TX4) (N := 25) hx hb hts hiX4 hown hK hP 0 rfl rfl 16 (by decide) hf37 (fun _ h9 => h9) rfl dX4_readPerson_68 ?_
    refine lv_iload_n hx hb dX4_readPerson_71 rfl (lv_at hl 2 rfl) ?_
    obtain ⟨e6, h⟩ := it_n h
    refine va_iald hx hb hK hP 2 0 rfl rfl (ix_in e6) dX4_readPerson_72 ?_
    refine lv_bipush (v := (-9)) hx hb dX4_readPerson_73 (by decide) ?_
    refine lv_icmp_ne (tgt := 80) hx hb dX4_readPerson_75 (by decide) (fun c7 => ?_) (fun c7 => ?_)
    · replace h := it_f c7 h
      refine lv_aload_n hx hb dX4_readPerson_80 rfl (lv_at hl 0 rfl) ?_
      refine lv_dup hx hb dX4_readPerson_81 rfl ?_
      refine va_get (D := (dC, dI)) (ci := 4) (v := .int yMat) (C := RX4) (T := TX4) (N := 25) hx hb hts hiX4 hown hK hP 0 rfl rfl 12 (by decide) hf71 (fun _ h9 => h9) rfl dX4_readPerson_82 ?_
      refine lv_iconst (v := 1) hx hb dX4_readPerson_85 (by decide) ?_
      refine lv_iadd hx hb dX4_readPerson_86 ?_
      refine va_put (D := (dC, dI)) (ci := 4) (v := .int (yMat + 1)) (ty := .int) (C := RX4) (T := TX4) (N := 25) hx hb hts hiX4 tyX4 tyX4_ok nmX4 hown hK hP hD hS 0 rfl rfl 12 (by decide) hf71 (fun _ h9 => h9) rfl (tyX4_ok 12 (by decide)) rfl rfl (Nat.le_of_ble_eq_true rfl) dX4_readPerson_87 (fun H locs hP hD hS => ?_)
      have hP : va_P (dC, dI) vwCl [((aM 0), .inr (4, [.int Mfault, .int Mtrace, .ref (aM 1), .ref (aM 2), .ref (aM 3), .int Mdeeds, .int Mpeople, .ref (aM 4), .ref (aM 5), .ref (aM 6), .ref (aM 7), .ref (aM 8), .int (yMat + 1), .int MreadDeeds, .int yMreadMany, .ref (aM 9), .ref (aM 10), .ref (aM 11), .int Mpairs, .ref (aM 12), .ref (aM 13), .int Mcaught, .int Mreadings, .ref (aM 14), .ref (aM 15)])), ((aM 3), .inl (cyI, 240, .inl M_cells)), ((aM 10), .inl (cyI, 12, .inl (upd yM_read z1.toNatClampNeg z2)))] H := hP
      have hD : va_D A [((aM 0), .inr (4, [.int Mfault, .int Mtrace, .ref (aM 1), .ref (aM 2), .ref (aM 3), .int Mdeeds, .int Mpeople, .ref (aM 4), .ref (aM 5), .ref (aM 6), .ref (aM 7), .ref (aM 8), .int (yMat + 1), .int MreadDeeds, .int yMreadMany, .ref (aM 9), .ref (aM 10), .ref (aM 11), .int Mpairs, .ref (aM 12), .ref (aM 13), .int Mcaught, .int Mreadings, .ref (aM 14), .ref (aM 15)])), ((aM 3), .inl (cyI, 240, .inl M_cells)), ((aM 10), .inl (cyI, 12, .inl (upd yM_read z1.toNatClampNeg z2)))] := hD
      refine lv_aload_n hx hb dX4_readPerson_90 rfl (lv_at hl 0 rfl) ?_
      refine lv_iload_n hx hb dX4_readPerson_91 rfl (lv_at hl 1 rfl) ?_
      refine lv_iconst (v := 0) hx hb dX4_readPerson_92 (by decide) ?_
      refine lv_bipush (v := 6) hx hb dX4_readPerson_93 (by decide) ?_
      obtain ⟨o8, hc9, h⟩ := ob h
      refine k_vi (As := [.int p1, .int 0, .int 6]) (rest := []) ⟨hx, hb, hml, hown, hts⟩ (c_X4_digit l dC dI cyI cyO aM H.size Mfault Mtrace Mdeeds Mpeople (yMat + 1) MreadDeeds yMreadMany Mpairs Mcaught Mreadings M_cells p1 0 6 hc9) (cwV 3 hts gX4_readPerson_X4_digit rfl rfl rfl (by decide +kernel) ⟨Nat.le_of_ble_eq_true rfl, Nat.le_of_ble_eq_true rfl⟩) hP hD hK hS hA [0, 1] [2] rfl rfl (by decide) (by decide) (by decide) 4 0 rfl rfl rfl rfl hl.1 rfl (Nat.le_of_ble_eq_true rfl) dX4_readPerson_95 ⟨Nat.zero_le _, Nat.zero_le _⟩ (fun _ H locs hP hD hS => ?_)
      have hP : va_P (dC, dI) vwCl [((aM 10), .inl (cyI, 12, .inl (upd yM_read z1.toNatClampNeg z2))), ((aM 0), .inr (4, [.int Mfault, .int Mtrace, .ref (aM 1), .ref (aM 2), .ref (aM 3), .int Mdeeds, .int Mpeople, .ref (aM 4), .ref (aM 5), .ref (aM 6), .ref (aM 7), .ref (aM 8), .int o8.2, .int MreadDeeds, .int yMreadMany, .ref (aM 9), .ref (aM 10), .ref (aM 11), .int Mpairs, .ref (aM 12), .ref (aM 13), .int Mcaught, .int Mreadings, .ref (aM 14), .ref (aM 15)])), ((aM 3), .inl (cyI, 240, .inl M_cells))] H := hP
      have hD : va_D A [((aM 10), .inl (cyI, 12, .inl (upd yM_read z1.toNatClampNeg z2))), ((aM 0), .inr (4, [.int Mfault, .int Mtrace, .ref (aM 1), .ref (aM 2), .ref (aM 3), .int Mdeeds, .int Mpeople, .ref (aM 4), .ref (aM 5), .ref (aM 6), .ref (aM 7), .ref (aM 8), .int o8.2, .int MreadDeeds, .int yMreadMany, .ref (aM 9), .ref (aM 10), .ref (aM 11), .int Mpairs, .ref (aM 12), .ref (aM 13), .int Mcaught, .int Mreadings, .ref (aM 14), .ref (aM 15)])), ((aM 3), .inl (cyI, 240, .inl M_cells))] := hD
      refine lv_istore (lv' := [(4, .int o8.1), (0, .ref (aM 0)), (1, .int p1), (2, .int x2)]) hx hb dX4_readPerson_98 hl (by decide) rfl (fun ls hl => ?_)
      refine lv_iload hx hb dX4_readPerson_100 (lv_at hl 0 rfl) ?_
      refine lv_bipush (v := (-9)) hx hb dX4_readPerson_102 (by decide) ?_
      refine lv_icmp_ne (tgt := 109) hx hb dX4_readPerson_104 (by decide) (fun c10 => ?_) (fun c10 => ?_)
      · replace h := it_f c10 h
        refine lv_aload_n hx hb dX4_readPerson_109 rfl (lv_at hl 1 rfl) ?_
        refine lv_iload_n hx hb dX4_readPerson_110 rfl (lv_at hl 2 rfl) ?_
        refine lv_iconst (v := 0) hx hb dX4_readPerson_111 (by decide) ?_
        refine lv_iload hx hb dX4_readPerson_112 (lv_at hl 0 rfl) ?_
        refine lv_bipush (v := 6) hx hb dX4_readPerson_114 (by decide) ?_
        refine lv_icmp_ne (tgt := 123) hx hb dX4_readPerson_116 (by decide) (fun c11 => ?_) (fun c11 => ?_)
        · replace h := it_f c11 h
          refine lv_bipush (v := 9) hx hb dX4_readPerson_123 (by decide) ?_
          obtain ⟨o12, hc13, h⟩ := ob h
          refine k_vi (As := [.int p1, .int 0, .int 9]) (rest := []) ⟨hx, hb, hml, hown, hts⟩ (c_X4_digit l dC dI cyI cyO aM H.size Mfault Mtrace Mdeeds Mpeople o8.2 MreadDeeds yMreadMany Mpairs Mcaught Mreadings M_cells p1 0 9 hc13) (cwV 3 hts gX4_readPerson_X4_digit rfl rfl rfl (by decide +kernel) ⟨Nat.le_of_ble_eq_true rfl, Nat.le_of_ble_eq_true rfl⟩) hP hD hK hS hA [1, 2] [0] rfl rfl (by decide) (by decide) (by decide) 4 0 rfl rfl rfl rfl hl.1 rfl (Nat.le_of_ble_eq_true rfl) dX4_readPerson_125 ⟨Nat.zero_le _, Nat.zero_le _⟩ (fun _ H locs hP hD hS => ?_)
          have hP : va_P (dC, dI) vwCl [((aM 10), .inl (cyI, 12, .inl (upd yM_read z1.toNatClampNeg z2))), ((aM 0), .inr (4, [.int Mfault, .int Mtrace, .ref (aM 1), .ref (aM 2), .ref (aM 3), .int Mdeeds, .int Mpeople, .ref (aM 4), .ref (aM 5), .ref (aM 6), .ref (aM 7), .ref (aM 8), .int o12.2, .int MreadDeeds, .int yMreadMany, .ref (aM 9), .ref (aM 10), .ref (aM 11), .int Mpairs, .ref (aM 12), .ref (aM 13), .int Mcaught, .int Mreadings, .ref (aM 14), .ref (aM 15)])), ((aM 3), .inl (cyI, 240, .inl M_cells))] H := hP
          have hD : va_D A [((aM 10), .inl (cyI, 12, .inl (upd yM_read z1.toNatClampNeg z2))), ((aM 0), .inr (4, [.int Mfault, .int Mtrace, .ref (aM 1), .ref (aM 2), .ref (aM 3), .int Mdeeds, .int Mpeople, .ref (aM 4), .ref (aM 5), .ref (aM 6), .ref (aM 7), .ref (aM 8), .int o12.2, .int MreadDeeds, .int yMreadMany, .ref (aM 9), .ref (aM 10), .ref (aM 11), .int Mpairs, .ref (aM 12), .ref (aM 13), .int Mcaught, .int Mreadings, .ref (aM 14), .ref (aM 15)])), ((aM 3), .inl (cyI, 240, .inl M_cells))] := hD
          refine lv_istore (lv' := [(5, .int o12.1), (4, .int o8.1), (0, .ref (aM 0)), (1, .int p1), (2, .int x2)]) hx hb dX4_readPerson_128 hl (by decide) rfl (fun ls hl => ?_)
          refine lv_iload hx hb dX4_readPerson_130 (lv_at hl 0 rfl) ?_
          refine lv_bipush (v := (-9)) hx hb dX4_readPerson_132 (by decide) ?_
          refine lv_icmp_ne (tgt := 139) hx hb dX4_readPerson_134 (by decide) (fun c14 => ?_) (fun c14 => ?_)
          · replace h := it_f c14 h
            refine lv_aload_n hx hb dX4_readPerson_139 rfl (lv_at hl 2 rfl) ?_
            refine va_get (D := (dC, dI)) (ci := 4) (v := .ref (aM 10)) (C := RX4) (T := TX4) (N := 25) hx hb hts hiX4 hown hK hP 1 rfl rfl 16 (by decide) hf37 (fun _ h9 => h9) rfl dX4_readPerson_140 ?_
            refine lv_iload_n hx hb dX4_readPerson_143 rfl (lv_at hl 4 rfl) ?_
            refine lv_iconst (v := 1) hx hb dX4_readPerson_144 (by decide) ?_
            refine lv_iadd hx hb dX4_readPerson_145 ?_
            refine lv_bipush (v := 10) hx hb dX4_readPerson_146 (by decide) ?_
            refine lv_iload hx hb dX4_readPerson_148 (lv_at hl 1 rfl) ?_
            refine lv_imul hx hb dX4_readPerson_150 ?_
            refine lv_iload hx hb dX4_readPerson_151 (lv_at hl 0 rfl) ?_
            refine lv_iadd hx hb dX4_readPerson_153 ?_
            obtain ⟨e15, h⟩ := it_n h
            refine va_iast hx hb hK hP hD hS 0 0 rfl rfl (ix_in e15) dX4_readPerson_154 (fun H locs hP hD hS => ?_)
            have hP : va_P (dC, dI) vwCl [((aM 10), .inl (cyI, 12, .inl (upd (upd yM_read z1.toNatClampNeg z2) (x2 + 1).toNatClampNeg ((10 * o8.1) + o12.1)))), ((aM 0), .inr (4, [.int Mfault, .int Mtrace, .ref (aM 1), .ref (aM 2), .ref (aM 3), .int Mdeeds, .int Mpeople, .ref (aM 4), .ref (aM 5), .ref (aM 6), .ref (aM 7), .ref (aM 8), .int o12.2, .int MreadDeeds, .int yMreadMany, .ref (aM 9), .ref (aM 10), .ref (aM 11), .int Mpairs, .ref (aM 12), .ref (aM 13), .int Mcaught, .int Mreadings, .ref (aM 14), .ref (aM 15)])), ((aM 3), .inl (cyI, 240, .inl M_cells))] H := hP
            have hD : va_D A [((aM 10), .inl (cyI, 12, .inl (upd (upd yM_read z1.toNatClampNeg z2) (x2 + 1).toNatClampNeg ((10 * o8.1) + o12.1)))), ((aM 0), .inr (4, [.int Mfault, .int Mtrace, .ref (aM 1), .ref (aM 2), .ref (aM 3), .int Mdeeds, .int Mpeople, .ref (aM 4), .ref (aM 5), .ref (aM 6), .ref (aM 7), .ref (aM 8), .int o12.2, .int MreadDeeds, .int yMreadMany, .ref (aM 9), .ref (aM 10), .ref (aM 11), .int Mpairs, .ref (aM 12), .ref (aM 13), .int Mcaught, .int Mreadings, .ref (aM 14), .ref (aM 15)])), ((aM 3), .inl (cyI, 240, .inl M_cells))] := hD
            refine lv_aload_n hx hb dX4_readPerson_155 rfl (lv_at hl 2 rfl) ?_
            refine va_get (D := (dC, dI)) (ci := 4) (v := .ref (aM 10)) (C := RX4) (T := TX4) (N := 25) hx hb hts hiX4 hown hK hP 1 rfl rfl 16 (by decide) hf37 (fun _ h9 => h9) rfl dX4_readPerson_156 ?_
            refine lv_iload_n hx hb dX4_readPerson_159 rfl (lv_at hl 4 rfl) ?_
            refine lv_iconst (v := 2) hx hb dX4_readPerson_160 (by decide) ?_
            refine lv_iadd hx hb dX4_readPerson_161 ?_
            refine lv_aload_n hx hb dX4_readPerson_162 rfl (lv_at hl 2 rfl) ?_
            refine lv_iload_n hx hb dX4_readPerson_163 rfl (lv_at hl 3 rfl) ?_
            refine lv_iconst (v := 0) hx hb dX4_readPerson_164 (by decide) ?_
            refine lv_iconst (v := 4) hx hb dX4_readPerson_165 (by decide) ?_
            obtain ⟨o16, hc17, h⟩ := ob h
            refine k_vi (As := [.int p1, .int 0, .int 4]) (rest := [.int (x2 + 2), .ref (aM 10)]) ⟨hx, hb, hml, hown, hts⟩ (c_X4_digit l dC dI cyI cyO aM H.size Mfault Mtrace Mdeeds Mpeople o12.2 MreadDeeds yMreadMany Mpairs Mcaught Mreadings M_cells p1 0 4 hc17) (cwV 3 hts gX4_readPerson_X4_digit rfl rfl rfl (by decide +kernel) ⟨Nat.le_of_ble_eq_true rfl, Nat.le_of_ble_eq_true rfl⟩) hP hD hK hS hA [1, 2] [0] rfl rfl (by decide) (by decide) (by decide) 4 0 rfl rfl rfl rfl hl.1 rfl (Nat.le_of_ble_eq_true rfl) dX4_readPerson_166 ⟨Nat.zero_le _, Nat.zero_le _⟩ (fun _ H locs hP hD hS => ?_)
            have hP : va_P (dC, dI) vwCl [((aM 10), .inl (cyI, 12, .inl (upd (upd yM_read z1.toNatClampNeg z2) (x2 + 1).toNatClampNeg ((10 * o8.1) + o12.1)))), ((aM 0), .inr (4, [.int Mfault, .int Mtrace, .ref (aM 1), .ref (aM 2), .ref (aM 3), .int Mdeeds, .int Mpeople, .ref (aM 4), .ref (aM 5), .ref (aM 6), .ref (aM 7), .ref (aM 8), .int o16.2, .int MreadDeeds, .int yMreadMany, .ref (aM 9), .ref (aM 10), .ref (aM 11), .int Mpairs, .ref (aM 12), .ref (aM 13), .int Mcaught, .int Mreadings, .ref (aM 14), .ref (aM 15)])), ((aM 3), .inl (cyI, 240, .inl M_cells))] H := hP
            have hD : va_D A [((aM 10), .inl (cyI, 12, .inl (upd (upd yM_read z1.toNatClampNeg z2) (x2 + 1).toNatClampNeg ((10 * o8.1) + o12.1)))), ((aM 0), .inr (4, [.int Mfault, .int Mtrace, .ref (aM 1), .ref (aM 2), .ref (aM 3), .int Mdeeds, .int Mpeople, .ref (aM 4), .ref (aM 5), .ref (aM 6), .ref (aM 7), .ref (aM 8), .int o16.2, .int MreadDeeds, .int yMreadMany, .ref (aM 9), .ref (aM 10), .ref (aM 11), .int Mpairs, .ref (aM 12), .ref (aM 13), .int Mcaught, .int Mreadings, .ref (aM 14), .ref (aM 15)])), ((aM 3), .inl (cyI, 240, .inl M_cells))] := hD
            obtain ⟨e18, h⟩ := it_n h
            refine va_iast hx hb hK hP hD hS 0 0 rfl rfl (ix_in e18) dX4_readPerson_169 (fun H locs hP hD hS => ?_)
            have hP : va_P (dC, dI) vwCl [((aM 10), .inl (cyI, 12, .inl (upd (upd (upd yM_read z1.toNatClampNeg z2) (x2 + 1).toNatClampNeg ((10 * o8.1) + o12.1)) (x2 + 2).toNatClampNeg o16.1))), ((aM 0), .inr (4, [.int Mfault, .int Mtrace, .ref (aM 1), .ref (aM 2), .ref (aM 3), .int Mdeeds, .int Mpeople, .ref (aM 4), .ref (aM 5), .ref (aM 6), .ref (aM 7), .ref (aM 8), .int o16.2, .int MreadDeeds, .int yMreadMany, .ref (aM 9), .ref (aM 10), .ref (aM 11), .int Mpairs, .ref (aM 12), .ref (aM 13), .int Mcaught, .int Mreadings, .ref (aM 14), .ref (aM 15)])), ((aM 3), .inl (cyI, 240, .inl M_cells))] H := hP
            have hD : va_D A [((aM 10), .inl (cyI, 12, .inl (upd (upd (upd yM_read z1.toNatClampNeg z2) (x2 + 1).toNatClampNeg ((10 * o8.1) + o12.1)) (x2 + 2).toNatClampNeg o16.1))), ((aM 0), .inr (4, [.int Mfault, .int Mtrace, .ref (aM 1), .ref (aM 2), .ref (aM 3), .int Mdeeds, .int Mpeople, .ref (aM 4), .ref (aM 5), .ref (aM 6), .ref (aM 7), .ref (aM 8), .int o16.2, .int MreadDeeds, .int yMreadMany, .ref (aM 9), .ref (aM 10), .ref (aM 11), .int Mpairs, .ref (aM 12), .ref (aM 13), .int Mcaught, .int Mreadings, .ref (aM 14), .ref (aM 15)])), ((aM 3), .inl (cyI, 240, .inl M_cells))] := hD
            refine lv_aload_n hx hb dX4_readPerson_170 rfl (lv_at hl 2 rfl) ?_
            refine lv_dup hx hb dX4_readPerson_171 rfl ?_
            refine va_get (D := (dC, dI)) (ci := 4) (v := .int yMreadMany) (C := RX4) (T := TX4) (N := 25) hx hb hts hiX4 hown hK hP 1 rfl rfl 14 (by decide) hf98 (fun _ h9 => h9) rfl dX4_readPerson_172 ?_
            refine lv_iconst (v := 1) hx hb dX4_readPerson_175 (by decide) ?_
            refine lv_iadd hx hb dX4_readPerson_176 ?_
            refine va_put (D := (dC, dI)) (ci := 4) (v := .int (yMreadMany + 1)) (ty := .int) (C := RX4) (T := TX4) (N := 25) hx hb hts hiX4 tyX4 tyX4_ok nmX4 hown hK hP hD hS 1 rfl rfl 14 (by decide) hf98 (fun _ h9 => h9) rfl (tyX4_ok 14 (by decide)) rfl rfl (Nat.le_of_ble_eq_true rfl) dX4_readPerson_177 (fun H locs hP hD hS => ?_)
            have hP : va_P (dC, dI) vwCl [((aM 10), .inl (cyI, 12, .inl (upd (upd (upd yM_read z1.toNatClampNeg z2) (x2 + 1).toNatClampNeg ((10 * o8.1) + o12.1)) (x2 + 2).toNatClampNeg o16.1))), ((aM 0), .inr (4, [.int Mfault, .int Mtrace, .ref (aM 1), .ref (aM 2), .ref (aM 3), .int Mdeeds, .int Mpeople, .ref (aM 4), .ref (aM 5), .ref (aM 6), .ref (aM 7), .ref (aM 8), .int o16.2, .int MreadDeeds, .int (yMreadMany + 1), .ref (aM 9), .ref (aM 10), .ref (aM 11), .int Mpairs, .ref (aM 12), .ref (aM 13), .int Mcaught, .int Mreadings, .ref (aM 14), .ref (aM 15)])), ((aM 3), .inl (cyI, 240, .inl M_cells))] H := hP
            have hD : va_D A [((aM 10), .inl (cyI, 12, .inl (upd (upd (upd yM_read z1.toNatClampNeg z2) (x2 + 1).toNatClampNeg ((10 * o8.1) + o12.1)) (x2 + 2).toNatClampNeg o16.1))), ((aM 0), .inr (4, [.int Mfault, .int Mtrace, .ref (aM 1), .ref (aM 2), .ref (aM 3), .int Mdeeds, .int Mpeople, .ref (aM 4), .ref (aM 5), .ref (aM 6), .ref (aM 7), .ref (aM 8), .int o16.2, .int MreadDeeds, .int (yMreadMany + 1), .ref (aM 9), .ref (aM 10), .ref (aM 11), .int Mpairs, .ref (aM 12), .ref (aM 13), .int Mcaught, .int Mreadings, .ref (aM 14), .ref (aM 15)])), ((aM 3), .inl (cyI, 240, .inl M_cells))] := hD
            refine lv_aload_n hx hb dX4_readPerson_180 rfl (lv_at hl 2 rfl) ?_
            refine va_get (D := (dC, dI)) (ci := 4) (v := .ref (aM 10)) (C := RX4) (T := TX4) (N := 25) hx hb hts hiX4 hown hK hP 1 rfl rfl 16 (by decide) hf37 (fun _ h9 => h9) rfl dX4_readPerson_181 ?_
            refine lv_iload_n hx hb dX4_readPerson_184 rfl (lv_at hl 4 rfl) ?_
            refine lv_iconst (v := 2) hx hb dX4_readPerson_185 (by decide) ?_
            refine lv_iadd hx hb dX4_readPerson_186 ?_
            obtain ⟨e19, h⟩ := it_n h
            refine va_iald hx hb hK hP 0 0 rfl rfl (ix_in e19) dX4_readPerson_187 ?_
            refine lv_bipush (v := (-9)) hx hb dX4_readPerson_188 (by decide) ?_
            refine lv_icmp_eq (tgt := 197) hx hb dX4_readPerson_190 (by decide) (fun c20 => ?_) (fun c20 => ?_)
            · replace h := it_t c20 h
              refine lv_iconst (v := 0) hx hb dX4_readPerson_197 (by decide) ?_
              replace h := Option.some.inj h; subst h
              have hP := hP.sub (ws' := [((aM 0), .inr (4, [.int Mfault, .int Mtrace, .ref (aM 1), .ref (aM 2), .ref (aM 3), .int Mdeeds, .int Mpeople, .ref (aM 4), .ref (aM 5), .ref (aM 6), .ref (aM 7), .ref (aM 8), .int o16.2, .int MreadDeeds, .int (yMreadMany + 1), .ref (aM 9), .ref (aM 10), .ref (aM 11), .int Mpairs, .ref (aM 12), .ref (aM 13), .int Mcaught, .int Mreadings, .ref (aM 14), .ref (aM 15)])), ((aM 3), .inl (cyI, 240, .inl M_cells)), ((aM 10), .inl (cyI, 12, .inl (upd (upd (upd yM_read z1.toNatClampNeg z2) (x2 + 1).toNatClampNeg ((10 * o8.1) + o12.1)) (x2 + 2).toNatClampNeg o16.1)))]) [1, 2, 0] rfl
              have hD := hD.sub (ws' := [((aM 0), .inr (4, [.int Mfault, .int Mtrace, .ref (aM 1), .ref (aM 2), .ref (aM 3), .int Mdeeds, .int Mpeople, .ref (aM 4), .ref (aM 5), .ref (aM 6), .ref (aM 7), .ref (aM 8), .int o16.2, .int MreadDeeds, .int (yMreadMany + 1), .ref (aM 9), .ref (aM 10), .ref (aM 11), .int Mpairs, .ref (aM 12), .ref (aM 13), .int Mcaught, .int Mreadings, .ref (aM 14), .ref (aM 15)])), ((aM 3), .inl (cyI, 240, .inl M_cells)), ((aM 10), .inl (cyI, 12, .inl (upd (upd (upd yM_read z1.toNatClampNeg z2) (x2 + 1).toNatClampNeg ((10 * o8.1) + o12.1)) (x2 + 2).toNatClampNeg o16.1)))]) [1, 2, 0] (by decide) rfl
              exact hret () H locs _ ls hP hD hS dX4_readPerson_198 bz_0
            · replace h := it_f c20 h
              refine lv_iconst (v := 1) hx hb dX4_readPerson_193 (by decide) ?_
              refine lv_goto (tgt := 198) hx hb dX4_readPerson_194 (by decide) ?_
              replace h := Option.some.inj h; subst h
              have hP := hP.sub (ws' := [((aM 0), .inr (4, [.int Mfault, .int Mtrace, .ref (aM 1), .ref (aM 2), .ref (aM 3), .int Mdeeds, .int Mpeople, .ref (aM 4), .ref (aM 5), .ref (aM 6), .ref (aM 7), .ref (aM 8), .int o16.2, .int MreadDeeds, .int (yMreadMany + 1), .ref (aM 9), .ref (aM 10), .ref (aM 11), .int Mpairs, .ref (aM 12), .ref (aM 13), .int Mcaught, .int Mreadings, .ref (aM 14), .ref (aM 15)])), ((aM 3), .inl (cyI, 240, .inl M_cells)), ((aM 10), .inl (cyI, 12, .inl (upd (upd (upd yM_read z1.toNatClampNeg z2) (x2 + 1).toNatClampNeg ((10 * o8.1) + o12.1)) (x2 + 2).toNatClampNeg o16.1)))]) [1, 2, 0] rfl
              have hD := hD.sub (ws' := [((aM 0), .inr (4, [.int Mfault, .int Mtrace, .ref (aM 1), .ref (aM 2), .ref (aM 3), .int Mdeeds, .int Mpeople, .ref (aM 4), .ref (aM 5), .ref (aM 6), .ref (aM 7), .ref (aM 8), .int o16.2, .int MreadDeeds, .int (yMreadMany + 1), .ref (aM 9), .ref (aM 10), .ref (aM 11), .int Mpairs, .ref (aM 12), .ref (aM 13), .int Mcaught, .int Mreadings, .ref (aM 14), .ref (aM 15)])), ((aM 3), .inl (cyI, 240, .inl M_cells)), ((aM 10), .inl (cyI, 12, .inl (upd (upd (upd yM_read z1.toNatClampNeg z2) (x2 + 1).toNatClampNeg ((10 * o8.1) + o12.1)) (x2 + 2).toNatClampNeg o16.1)))]) [1, 2, 0] (by decide) rfl
              exact hret () H locs _ ls hP hD hS dX4_readPerson_198 bz_1
          · replace h := it_t c14 h
            refine lv_iconst (v := 0) hx hb dX4_readPerson_137 (by decide) ?_
            replace h := Option.some.inj h; subst h
            have hP := hP.sub (ws' := [((aM 0), .inr (4, [.int Mfault, .int Mtrace, .ref (aM 1), .ref (aM 2), .ref (aM 3), .int Mdeeds, .int Mpeople, .ref (aM 4), .ref (aM 5), .ref (aM 6), .ref (aM 7), .ref (aM 8), .int o12.2, .int MreadDeeds, .int yMreadMany, .ref (aM 9), .ref (aM 10), .ref (aM 11), .int Mpairs, .ref (aM 12), .ref (aM 13), .int Mcaught, .int Mreadings, .ref (aM 14), .ref (aM 15)])), ((aM 3), .inl (cyI, 240, .inl M_cells)), ((aM 10), .inl (cyI, 12, .inl (upd yM_read z1.toNatClampNeg z2)))]) [1, 2, 0] rfl
            have hD := hD.sub (ws' := [((aM 0), .inr (4, [.int Mfault, .int Mtrace, .ref (aM 1), .ref (aM 2), .ref (aM 3), .int Mdeeds, .int Mpeople, .ref (aM 4), .ref (aM 5), .ref (aM 6), .ref (aM 7), .ref (aM 8), .int o12.2, .int MreadDeeds, .int yMreadMany, .ref (aM 9), .ref (aM 10), .ref (aM 11), .int Mpairs, .ref (aM 12), .ref (aM 13), .int Mcaught, .int Mreadings, .ref (aM 14), .ref (aM 15)])), ((aM 3), .inl (cyI, 240, .inl M_cells)), ((aM 10), .inl (cyI, 12, .inl (upd yM_read z1.toNatClampNeg z2)))]) [1, 2, 0] (by decide) rfl
            exact hret () H locs _ ls hP hD hS dX4_readPerson_138 bz_0
        · replace h := it_t c11 h
          refine lv_iconst (v := 3) hx hb dX4_readPerson_119 (by decide) ?_
          refine lv_goto (tgt := 125) hx hb dX4_readPerson_120 (by decide) ?_
          obtain ⟨o21, hc22, h⟩ := ob h
          refine k_vi (As := [.int p1, .int 0, .int 3]) (rest := []) ⟨hx, hb, hml, hown, hts⟩ (c_X4_digit l dC dI cyI cyO aM H.size Mfault Mtrace Mdeeds Mpeople o8.2 MreadDeeds yMreadMany Mpairs Mcaught Mreadings M_cells p1 0 3 hc22) (cwV 3 hts gX4_readPerson_X4_digit rfl rfl rfl (by decide +kernel) ⟨Nat.le_of_ble_eq_true rfl, Nat.le_of_ble_eq_true rfl⟩) hP hD hK hS hA [1, 2] [0] rfl rfl (by decide) (by decide) (by decide) 4 0 rfl rfl rfl rfl hl.1 rfl (Nat.le_of_ble_eq_true rfl) dX4_readPerson_125 ⟨Nat.zero_le _, Nat.zero_le _⟩ (fun _ H locs hP hD hS => ?_)
          have hP : va_P (dC, dI) vwCl [((aM 10), .inl (cyI, 12, .inl (upd yM_read z1.toNatClampNeg z2))), ((aM 0), .inr (4, [.int Mfault, .int Mtrace, .ref (aM 1), .ref (aM 2), .ref (aM 3), .int Mdeeds, .int Mpeople, .ref (aM 4), .ref (aM 5), .ref (aM 6), .ref (aM 7), .ref (aM 8), .int o21.2, .int MreadDeeds, .int yMreadMany, .ref (aM 9), .ref (aM 10), .ref (aM 11), .int Mpairs, .ref (aM 12), .ref (aM 13), .int Mcaught, .int Mreadings, .ref (aM 14), .ref (aM 15)])), ((aM 3), .inl (cyI, 240, .inl M_cells))] H := hP
          have hD : va_D A [((aM 10), .inl (cyI, 12, .inl (upd yM_read z1.toNatClampNeg z2))), ((aM 0), .inr (4, [.int Mfault, .int Mtrace, .ref (aM 1), .ref (aM 2), .ref (aM 3), .int Mdeeds, .int Mpeople, .ref (aM 4), .ref (aM 5), .ref (aM 6), .ref (aM 7), .ref (aM 8), .int o21.2, .int MreadDeeds, .int yMreadMany, .ref (aM 9), .ref (aM 10), .ref (aM 11), .int Mpairs, .ref (aM 12), .ref (aM 13), .int Mcaught, .int Mreadings, .ref (aM 14), .ref (aM 15)])), ((aM 3), .inl (cyI, 240, .inl M_cells))] := hD
          refine lv_istore (lv' := [(5, .int o21.1), (4, .int o8.1), (0, .ref (aM 0)), (1, .int p1), (2, .int x2)]) hx hb dX4_readPerson_128 hl (by decide) rfl (fun ls hl => ?_)
          refine lv_iload hx hb dX4_readPerson_130 (lv_at hl 0 rfl) ?_
          refine lv_bipush (v := (-9)) hx hb dX4_readPerson_132 (by decide) ?_
          refine lv_icmp_ne (tgt := 139) hx hb dX4_readPerson_134 (by decide) (fun c23 => ?_) (fun c23 => ?_)
          · replace h := it_f c23 h
            refine lv_aload_n hx hb dX4_readPerson_139 rfl (lv_at hl 2 rfl) ?_
            refine va_get (D := (dC, dI)) (ci := 4) (v := .ref (aM 10)) (C := RX4) (T := TX4) (N := 25) hx hb hts hiX4 hown hK hP 1 rfl rfl 16 (by decide) hf37 (fun _ h9 => h9) rfl dX4_readPerson_140 ?_
            refine lv_iload_n hx hb dX4_readPerson_143 rfl (lv_at hl 4 rfl) ?_
            refine lv_iconst (v := 1) hx hb dX4_readPerson_144 (by decide) ?_
            refine lv_iadd hx hb dX4_readPerson_145 ?_
            refine lv_bipush (v := 10) hx hb dX4_readPerson_146 (by decide) ?_
            refine lv_iload hx hb dX4_readPerson_148 (lv_at hl 1 rfl) ?_
            refine lv_imul hx hb dX4_readPerson_150 ?_
            refine lv_iload hx hb dX4_readPerson_151 (lv_at hl 0 rfl) ?_
            refine lv_iadd hx hb dX4_readPerson_153 ?_
            obtain ⟨e24, h⟩ := it_n h
            refine va_iast hx hb hK hP hD hS 0 0 rfl rfl (ix_in e24) dX4_readPerson_154 (fun H locs hP hD hS => ?_)
            have hP : va_P (dC, dI) vwCl [((aM 10), .inl (cyI, 12, .inl (upd (upd yM_read z1.toNatClampNeg z2) (x2 + 1).toNatClampNeg ((10 * o8.1) + o21.1)))), ((aM 0), .inr (4, [.int Mfault, .int Mtrace, .ref (aM 1), .ref (aM 2), .ref (aM 3), .int Mdeeds, .int Mpeople, .ref (aM 4), .ref (aM 5), .ref (aM 6), .ref (aM 7), .ref (aM 8), .int o21.2, .int MreadDeeds, .int yMreadMany, .ref (aM 9), .ref (aM 10), .ref (aM 11), .int Mpairs, .ref (aM 12), .ref (aM 13), .int Mcaught, .int Mreadings, .ref (aM 14), .ref (aM 15)])), ((aM 3), .inl (cyI, 240, .inl M_cells))] H := hP
            have hD : va_D A [((aM 10), .inl (cyI, 12, .inl (upd (upd yM_read z1.toNatClampNeg z2) (x2 + 1).toNatClampNeg ((10 * o8.1) + o21.1)))), ((aM 0), .inr (4, [.int Mfault, .int Mtrace, .ref (aM 1), .ref (aM 2), .ref (aM 3), .int Mdeeds, .int Mpeople, .ref (aM 4), .ref (aM 5), .ref (aM 6), .ref (aM 7), .ref (aM 8), .int o21.2, .int MreadDeeds, .int yMreadMany, .ref (aM 9), .ref (aM 10), .ref (aM 11), .int Mpairs, .ref (aM 12), .ref (aM 13), .int Mcaught, .int Mreadings, .ref (aM 14), .ref (aM 15)])), ((aM 3), .inl (cyI, 240, .inl M_cells))] := hD
            refine lv_aload_n hx hb dX4_readPerson_155 rfl (lv_at hl 2 rfl) ?_
            refine va_get (D := (dC, dI)) (ci := 4) (v := .ref (aM 10)) (C := RX4) (T := TX4) (N := 25) hx hb hts hiX4 hown hK hP 1 rfl rfl 16 (by decide) hf37 (fun _ h9 => h9) rfl dX4_readPerson_156 ?_
            refine lv_iload_n hx hb dX4_readPerson_159 rfl (lv_at hl 4 rfl) ?_
            refine lv_iconst (v := 2) hx hb dX4_readPerson_160 (by decide) ?_
            refine lv_iadd hx hb dX4_readPerson_161 ?_
            refine lv_aload_n hx hb dX4_readPerson_162 rfl (lv_at hl 2 rfl) ?_
            refine lv_iload_n hx hb dX4_readPerson_163 rfl (lv_at hl 3 rfl) ?_
            refine lv_iconst (v := 0) hx hb dX4_readPerson_164 (by decide) ?_
            refine lv_iconst (v := 4) hx hb dX4_readPerson_165 (by decide) ?_
            obtain ⟨o25, hc26, h⟩ := ob h
            refine k_vi (As := [.int p1, .int 0, .int 4]) (rest := [.int (x2 + 2), .ref (aM 10)]) ⟨hx, hb, hml, hown, hts⟩ (c_X4_digit l dC dI cyI cyO aM H.size Mfault Mtrace Mdeeds Mpeople o21.2 MreadDeeds yMreadMany Mpairs Mcaught Mreadings M_cells p1 0 4 hc26) (cwV 3 hts gX4_readPerson_X4_digit rfl rfl rfl (by decide +kernel) ⟨Nat.le_of_ble_eq_true rfl, Nat.le_of_ble_eq_true rfl⟩) hP hD hK hS hA [1, 2] [0] rfl rfl (by decide) (by decide) (by decide) 4 0 rfl rfl rfl rfl hl.1 rfl (Nat.le_of_ble_eq_true rfl) dX4_readPerson_166 ⟨Nat.zero_le _, Nat.zero_le _⟩ (fun _ H locs hP hD hS => ?_)
            have hP : va_P (dC, dI) vwCl [((aM 10), .inl (cyI, 12, .inl (upd (upd yM_read z1.toNatClampNeg z2) (x2 + 1).toNatClampNeg ((10 * o8.1) + o21.1)))), ((aM 0), .inr (4, [.int Mfault, .int Mtrace, .ref (aM 1), .ref (aM 2), .ref (aM 3), .int Mdeeds, .int Mpeople, .ref (aM 4), .ref (aM 5), .ref (aM 6), .ref (aM 7), .ref (aM 8), .int o25.2, .int MreadDeeds, .int yMreadMany, .ref (aM 9), .ref (aM 10), .ref (aM 11), .int Mpairs, .ref (aM 12), .ref (aM 13), .int Mcaught, .int Mreadings, .ref (aM 14), .ref (aM 15)])), ((aM 3), .inl (cyI, 240, .inl M_cells))] H := hP
            have hD : va_D A [((aM 10), .inl (cyI, 12, .inl (upd (upd yM_read z1.toNatClampNeg z2) (x2 + 1).toNatClampNeg ((10 * o8.1) + o21.1)))), ((aM 0), .inr (4, [.int Mfault, .int Mtrace, .ref (aM 1), .ref (aM 2), .ref (aM 3), .int Mdeeds, .int Mpeople, .ref (aM 4), .ref (aM 5), .ref (aM 6), .ref (aM 7), .ref (aM 8), .int o25.2, .int MreadDeeds, .int yMreadMany, .ref (aM 9), .ref (aM 10), .ref (aM 11), .int Mpairs, .ref (aM 12), .ref (aM 13), .int Mcaught, .int Mreadings, .ref (aM 14), .ref (aM 15)])), ((aM 3), .inl (cyI, 240, .inl M_cells))] := hD
            obtain ⟨e27, h⟩ := it_n h
            refine va_iast hx hb hK hP hD hS 0 0 rfl rfl (ix_in e27) dX4_readPerson_169 (fun H locs hP hD hS => ?_)
            have hP : va_P (dC, dI) vwCl [((aM 10), .inl (cyI, 12, .inl (upd (upd (upd yM_read z1.toNatClampNeg z2) (x2 + 1).toNatClampNeg ((10 * o8.1) + o21.1)) (x2 + 2).toNatClampNeg o25.1))), ((aM 0), .inr (4, [.int Mfault, .int Mtrace, .ref (aM 1), .ref (aM 2), .ref (aM 3), .int Mdeeds, .int Mpeople, .ref (aM 4), .ref (aM 5), .ref (aM 6), .ref (aM 7), .ref (aM 8), .int o25.2, .int MreadDeeds, .int yMreadMany, .ref (aM 9), .ref (aM 10), .ref (aM 11), .int Mpairs, .ref (aM 12), .ref (aM 13), .int Mcaught, .int Mreadings, .ref (aM 14), .ref (aM 15)])), ((aM 3), .inl (cyI, 240, .inl M_cells))] H := hP
            have hD : va_D A [((aM 10), .inl (cyI, 12, .inl (upd (upd (upd yM_read z1.toNatClampNeg z2) (x2 + 1).toNatClampNeg ((10 * o8.1) + o21.1)) (x2 + 2).toNatClampNeg o25.1))), ((aM 0), .inr (4, [.int Mfault, .int Mtrace, .ref (aM 1), .ref (aM 2), .ref (aM 3), .int Mdeeds, .int Mpeople, .ref (aM 4), .ref (aM 5), .ref (aM 6), .ref (aM 7), .ref (aM 8), .int o25.2, .int MreadDeeds, .int yMreadMany, .ref (aM 9), .ref (aM 10), .ref (aM 11), .int Mpairs, .ref (aM 12), .ref (aM 13), .int Mcaught, .int Mreadings, .ref (aM 14), .ref (aM 15)])), ((aM 3), .inl (cyI, 240, .inl M_cells))] := hD
            refine lv_aload_n hx hb dX4_readPerson_170 rfl (lv_at hl 2 rfl) ?_
            refine lv_dup hx hb dX4_readPerson_171 rfl ?_
            refine va_get (D := (dC, dI)) (ci := 4) (v := .int yMreadMany) (C := RX4) (T := TX4) (N := 25) hx hb hts hiX4 hown hK hP 1 rfl rfl 14 (by decide) hf98 (fun _ h9 => h9) rfl dX4_readPerson_172 ?_
            refine lv_iconst (v := 1) hx hb dX4_readPerson_175 (by decide) ?_
            refine lv_iadd hx hb dX4_readPerson_176 ?_
            refine va_put (D := (dC, dI)) (ci := 4) (v := .int (yMreadMany + 1)) (ty := .int) (C := RX4) (T := TX4) (N := 25) hx hb hts hiX4 tyX4 tyX4_ok nmX4 hown hK hP hD hS 1 rfl rfl 14 (by decide) hf98 (fun _ h9 => h9) rfl (tyX4_ok 14 (by decide)) rfl rfl (Nat.le_of_ble_eq_true rfl) dX4_readPerson_177 (fun H locs hP hD hS => ?_)
            have hP : va_P (dC, dI) vwCl [((aM 10), .inl (cyI, 12, .inl (upd (upd (upd yM_read z1.toNatClampNeg z2) (x2 + 1).toNatClampNeg ((10 * o8.1) + o21.1)) (x2 + 2).toNatClampNeg o25.1))), ((aM 0), .inr (4, [.int Mfault, .int Mtrace, .ref (aM 1), .ref (aM 2), .ref (aM 3), .int Mdeeds, .int Mpeople, .ref (aM 4), .ref (aM 5), .ref (aM 6), .ref (aM 7), .ref (aM 8), .int o25.2, .int MreadDeeds, .int (yMreadMany + 1), .ref (aM 9), .ref (aM 10), .ref (aM 11), .int Mpairs, .ref (aM 12), .ref (aM 13), .int Mcaught, .int Mreadings, .ref (aM 14), .ref (aM 15)])), ((aM 3), .inl (cyI, 240, .inl M_cells))] H := hP
            have hD : va_D A [((aM 10), .inl (cyI, 12, .inl (upd (upd (upd yM_read z1.toNatClampNeg z2) (x2 + 1).toNatClampNeg ((10 * o8.1) + o21.1)) (x2 + 2).toNatClampNeg o25.1))), ((aM 0), .inr (4, [.int Mfault, .int Mtrace, .ref (aM 1), .ref (aM 2), .ref (aM 3), .int Mdeeds, .int Mpeople, .ref (aM 4), .ref (aM 5), .ref (aM 6), .ref (aM 7), .ref (aM 8), .int o25.2, .int MreadDeeds, .int (yMreadMany + 1), .ref (aM 9), .ref (aM 10), .ref (aM 11), .int Mpairs, .ref (aM 12), .ref (aM 13), .int Mcaught, .int Mreadings, .ref (aM 14), .ref (aM 15)])), ((aM 3), .inl (cyI, 240, .inl M_cells))] := hD
            refine lv_aload_n hx hb dX4_readPerson_180 rfl (lv_at hl 2 rfl) ?_
            refine va_get (D := (dC, dI)) (ci := 4) (v := .ref (aM 10)) (C := RX4) (T := TX4) (N := 25) hx hb hts hiX4 hown hK hP 1 rfl rfl 16 (by decide) hf37 (fun _ h9 => h9) rfl dX4_readPerson_181 ?_
            refine lv_iload_n hx hb dX4_readPerson_184 rfl (lv_at hl 4 rfl) ?_
            refine lv_iconst (v := 2) hx hb dX4_readPerson_185 (by decide) ?_
            refine lv_iadd hx hb dX4_readPerson_186 ?_
            obtain ⟨e28, h⟩ := it_n h
            refine va_iald hx hb hK hP 0 0 rfl rfl (ix_in e28) dX4_readPerson_187 ?_
            refine lv_bipush (v := (-9)) hx hb dX4_readPerson_188 (by decide) ?_
            refine lv_icmp_eq (tgt := 197) hx hb dX4_readPerson_190 (by decide) (fun c29 => ?_) (fun c29 => ?_)
            · replace h := it_t c29 h
              refine lv_iconst (v := 0) hx hb dX4_readPerson_197 (by decide) ?_
              replace h := Option.some.inj h; subst h
              have hP := hP.sub (ws' := [((aM 0), .inr (4, [.int Mfault, .int Mtrace, .ref (aM 1), .ref (aM 2), .ref (aM 3), .int Mdeeds, .int Mpeople, .ref (aM 4), .ref (aM 5), .ref (aM 6), .ref (aM 7), .ref (aM 8), .int o25.2, .int MreadDeeds, .int (yMreadMany + 1), .ref (aM 9), .ref (aM 10), .ref (aM 11), .int Mpairs, .ref (aM 12), .ref (aM 13), .int Mcaught, .int Mreadings, .ref (aM 14), .ref (aM 15)])), ((aM 3), .inl (cyI, 240, .inl M_cells)), ((aM 10), .inl (cyI, 12, .inl (upd (upd (upd yM_read z1.toNatClampNeg z2) (x2 + 1).toNatClampNeg ((10 * o8.1) + o21.1)) (x2 + 2).toNatClampNeg o25.1)))]) [1, 2, 0] rfl
              have hD := hD.sub (ws' := [((aM 0), .inr (4, [.int Mfault, .int Mtrace, .ref (aM 1), .ref (aM 2), .ref (aM 3), .int Mdeeds, .int Mpeople, .ref (aM 4), .ref (aM 5), .ref (aM 6), .ref (aM 7), .ref (aM 8), .int o25.2, .int MreadDeeds, .int (yMreadMany + 1), .ref (aM 9), .ref (aM 10), .ref (aM 11), .int Mpairs, .ref (aM 12), .ref (aM 13), .int Mcaught, .int Mreadings, .ref (aM 14), .ref (aM 15)])), ((aM 3), .inl (cyI, 240, .inl M_cells)), ((aM 10), .inl (cyI, 12, .inl (upd (upd (upd yM_read z1.toNatClampNeg z2) (x2 + 1).toNatClampNeg ((10 * o8.1) + o21.1)) (x2 + 2).toNatClampNeg o25.1)))]) [1, 2, 0] (by decide) rfl
              exact hret () H locs _ ls hP hD hS dX4_readPerson_198 bz_0
            · replace h := it_f c29 h
              refine lv_iconst (v := 1) hx hb dX4_readPerson_193 (by decide) ?_
              refine lv_goto (tgt := 198) hx hb dX4_readPerson_194 (by decide) ?_
              replace h := Option.some.inj h; subst h
              have hP := hP.sub (ws' := [((aM 0), .inr (4, [.int Mfault, .int Mtrace, .ref (aM 1), .ref (aM 2), .ref (aM 3), .int Mdeeds, .int Mpeople, .ref (aM 4), .ref (aM 5), .ref (aM 6), .ref (aM 7), .ref (aM 8), .int o25.2, .int MreadDeeds, .int (yMreadMany + 1), .ref (aM 9), .ref (aM 10), .ref (aM 11), .int Mpairs, .ref (aM 12), .ref (aM 13), .int Mcaught, .int Mreadings, .ref (aM 14), .ref (aM 15)])), ((aM 3), .inl (cyI, 240, .inl M_cells)), ((aM 10), .inl (cyI, 12, .inl (upd (upd (upd yM_read z1.toNatClampNeg z2) (x2 + 1).toNatClampNeg ((10 * o8.1) + o21.1)) (x2 + 2).toNatClampNeg o25.1)))]) [1, 2, 0] rfl
              have hD := hD.sub (ws' := [((aM 0), .inr (4, [.int Mfault, .int Mtrace, .ref (aM 1), .ref (aM 2), .ref (aM 3), .int Mdeeds, .int Mpeople, .ref (aM 4), .ref (aM 5), .ref (aM 6), .ref (aM 7), .ref (aM 8), .int o25.2, .int MreadDeeds, .int (yMreadMany + 1), .ref (aM 9), .ref (aM 10), .ref (aM 11), .int Mpairs, .ref (aM 12), .ref (aM 13), .int Mcaught, .int Mreadings, .ref (aM 14), .ref (aM 15)])), ((aM 3), .inl (cyI, 240, .inl M_cells)), ((aM 10), .inl (cyI, 12, .inl (upd (upd (upd yM_read z1.toNatClampNeg z2) (x2 + 1).toNatClampNeg ((10 * o8.1) + o21.1)) (x2 + 2).toNatClampNeg o25.1)))]) [1, 2, 0] (by decide) rfl
              exact hret () H locs _ ls hP hD hS dX4_readPerson_198 bz_1
          · replace h := it_t c23 h
            refine lv_iconst (v := 0) hx hb dX4_readPerson_137 (by decide) ?_
            replace h := Option.some.inj h; subst h
            have hP := hP.sub (ws' := [((aM 0), .inr (4, [.int Mfault, .int Mtrace, .ref (aM 1), .ref (aM 2), .ref (aM 3), .int Mdeeds, .int Mpeople, .ref (aM 4), .ref (aM 5), .ref (aM 6), .ref (aM 7), .ref (aM 8), .int o21.2, .int MreadDeeds, .int yMreadMany, .ref (aM 9), .ref (aM 10), .ref (aM 11), .int Mpairs, .ref (aM 12), .ref (aM 13), .int Mcaught, .int Mreadings, .ref (aM 14), .ref (aM 15)])), ((aM 3), .inl (cyI, 240, .inl M_cells)), ((aM 10), .inl (cyI, 12, .inl (upd yM_read z1.toNatClampNeg z2)))]) [1, 2, 0] rfl
            have hD := hD.sub (ws' := [((aM 0), .inr (4, [.int Mfault, .int Mtrace, .ref (aM 1), .ref (aM 2), .ref (aM 3), .int Mdeeds, .int Mpeople, .ref (aM 4), .ref (aM 5), .ref (aM 6), .ref (aM 7), .ref (aM 8), .int o21.2, .int MreadDeeds, .int yMreadMany, .ref (aM 9), .ref (aM 10), .ref (aM 11), .int Mpairs, .ref (aM 12), .ref (aM 13), .int Mcaught, .int Mreadings, .ref (aM 14), .ref (aM 15)])), ((aM 3), .inl (cyI, 240, .inl M_cells)), ((aM 10), .inl (cyI, 12, .inl (upd yM_read z1.toNatClampNeg z2)))]) [1, 2, 0] (by decide) rfl
            exact hret () H locs _ ls hP hD hS dX4_readPerson_138 bz_0
      · replace h := it_t c10 h
        refine lv_iconst (v := 0) hx hb dX4_readPerson_107 (by decide) ?_
        replace h := Option.some.inj h; subst h
        have hP := hP.sub (ws' := [((aM 0), .inr (4, [.int Mfault, .int Mtrace, .ref (aM 1), .ref (aM 2), .ref (aM 3), .int Mdeeds, .int Mpeople, .ref (aM 4), .ref (aM 5), .ref (aM 6), .ref (aM 7), .ref (aM 8), .int o8.2, .int MreadDeeds, .int yMreadMany, .ref (aM 9), .ref (aM 10), .ref (aM 11), .int Mpairs, .ref (aM 12), .ref (aM 13), .int Mcaught, .int Mreadings, .ref (aM 14), .ref (aM 15)])), ((aM 3), .inl (cyI, 240, .inl M_cells)), ((aM 10), .inl (cyI, 12, .inl (upd yM_read z1.toNatClampNeg z2)))]) [1, 2, 0] rfl
        have hD := hD.sub (ws' := [((aM 0), .inr (4, [.int Mfault, .int Mtrace, .ref (aM 1), .ref (aM 2), .ref (aM 3), .int Mdeeds, .int Mpeople, .ref (aM 4), .ref (aM 5), .ref (aM 6), .ref (aM 7), .ref (aM 8), .int o8.2, .int MreadDeeds, .int yMreadMany, .ref (aM 9), .ref (aM 10), .ref (aM 11), .int Mpairs, .ref (aM 12), .ref (aM 13), .int Mcaught, .int Mreadings, .ref (aM 14), .ref (aM 15)])), ((aM 3), .inl (cyI, 240, .inl M_cells)), ((aM 10), .inl (cyI, 12, .inl (upd yM_read z1.toNatClampNeg z2)))]) [1, 2, 0] (by decide) rfl
        exact hret () H locs _ ls hP hD hS dX4_readPerson_108 bz_0
    · replace h := it_t c7 h
      refine lv_iconst (v := 0) hx hb dX4_readPerson_78 (by decide) ?_
      replace h := Option.some.inj h; subst h
      exact hret () H locs _ ls hP hD hS dX4_readPerson_79 bz_0
  have jn28 : ∀ (x2 : Int32) (z0 : Int32) (yMat : Int32) (yMreadMany : Int32) (yM_read : Nat → Int32) (H : Heap) (locs : List Loc) (ls : Array Slot), j_X4_readPerson_28 M_cells p1 x2 z0 yMat yMreadMany yM_read = some o → va_P (dC, dI) vwCl [((aM 0), .inr (4, [.int Mfault, .int Mtrace, .ref (aM 1), .ref (aM 2), .ref (aM 3), .int Mdeeds, .int Mpeople, .ref (aM 4), .ref (aM 5), .ref (aM 6), .ref (aM 7), .ref (aM 8), .int yMat, .int MreadDeeds, .int yMreadMany, .ref (aM 9), .ref (aM 10), .ref (aM 11), .int Mpairs, .ref (aM 12), .ref (aM 13), .int Mcaught, .int Mreadings, .ref (aM 14), .ref (aM 15)])), ((aM 3), .inl (cyI, 240, .inl M_cells)), ((aM 10), .inl (cyI, 12, .inl yM_read))] H → va_D A [((aM 0), .inr (4, [.int Mfault, .int Mtrace, .ref (aM 1), .ref (aM 2), .ref (aM 3), .int Mdeeds, .int Mpeople, .ref (aM 4), .ref (aM 5), .ref (aM 6), .ref (aM 7), .ref (aM 8), .int yMat, .int MreadDeeds, .int yMreadMany, .ref (aM 9), .ref (aM 10), .ref (aM 11), .int Mpairs, .ref (aM 12), .ref (aM 13), .int Mcaught, .int Mreadings, .ref (aM 14), .ref (aM 15)])), ((aM 3), .inl (cyI, 240, .inl M_cells)), ((aM 10), .inl (cyI, 12, .inl yM_read))] → va_S A s.heap H locs → lv_has ls 6 [(0, .ref (aM 0)), (1, .int p1), (2, .int x2)] → W p l e { frames := 2, cells := 0, slots := 0, locals := 45 } s m args below meth c H locs 0 0 Q (F0 m 28 ls [.int z0]) := by
    intro x2 z0 yMat yMreadMany yM_read H locs ls h hP hD hS hl
    unfold j_X4_readPerson_28 at h
    refine lv_istore_n (lv' := [(3, .int z0), (0, .ref (aM 0)), (1, .int p1), (2, .int x2)]) hx hb dX4_readPerson_28 rfl hl (by decide) rfl (fun ls hl => ?_)
    refine lv_aload_n hx hb dX4_readPerson_29 rfl (lv_at hl 1 rfl) ?_
    refine va_get (D := (dC, dI)) (ci := 4) (v := .ref (aM 10)) (C := RX4) (T := TX4) (N := 25) hx hb hts hiX4 hown hK hP 0 rfl rfl 16 (by decide) hf37 (fun _ h9 => h9) rfl dX4_readPerson_30 ?_
    refine lv_iload_n hx hb dX4_readPerson_33 rfl (lv_at hl 3 rfl) ?_
    refine lv_iload_n hx hb dX4_readPerson_34 rfl (lv_at hl 0 rfl) ?_
    refine lv_bipush (v := 112) hx hb dX4_readPerson_35 (by decide) ?_
    refine lv_icmp_ne (tgt := 44) hx hb dX4_readPerson_37 (by decide) (fun c2 => ?_) (fun c2 => ?_)
    · replace h := it_f c2 h
      refine lv_iload_n hx hb dX4_readPerson_44 rfl (lv_at hl 0 rfl) ?_
      refine lv_bipush (v := 114) hx hb dX4_readPerson_45 (by decide) ?_
      refine lv_icmp_ne (tgt := 54) hx hb dX4_readPerson_47 (by decide) (fun c3 => ?_) (fun c3 => ?_)
      · replace h := it_f c3 h
        refine lv_iload_n hx hb dX4_readPerson_54 rfl (lv_at hl 0 rfl) ?_
        refine lv_bipush (v := 97) hx hb dX4_readPerson_55 (by decide) ?_
        refine lv_icmp_ne (tgt := 64) hx hb dX4_readPerson_57 (by decide) (fun c4 => ?_) (fun c4 => ?_)
        · replace h := it_f c4 h
          refine lv_bipush (v := (-9)) hx hb dX4_readPerson_64 (by decide) ?_
          exact jn66 x2 x2 (-9) yMat yMreadMany yM_read H locs ls h hP hD hS (lv_sub hl [1, 2, 3] rfl)
        · replace h := it_t c4 h
          refine lv_iconst (v := 2) hx hb dX4_readPerson_60 (by decide) ?_
          refine lv_goto (tgt := 66) hx hb dX4_readPerson_61 (by decide) ?_
          exact jn66 x2 x2 2 yMat yMreadMany yM_read H locs ls h hP hD hS (lv_sub hl [1, 2, 3] rfl)
      · replace h := it_t c3 h
        refine lv_iconst (v := 1) hx hb dX4_readPerson_50 (by decide) ?_
        refine lv_goto (tgt := 66) hx hb dX4_readPerson_51 (by decide) ?_
        exact jn66 x2 x2 1 yMat yMreadMany yM_read H locs ls h hP hD hS (lv_sub hl [1, 2, 3] rfl)
    · replace h := it_t c2 h
      refine lv_iconst (v := 0) hx hb dX4_readPerson_40 (by decide) ?_
      refine lv_goto (tgt := 66) hx hb dX4_readPerson_41 (by decide) ?_
      exact jn66 x2 x2 0 yMat yMreadMany yM_read H locs ls h hP hD hS (lv_sub hl [1, 2, 3] rfl)
  refine lv_iconst (v := 3) hx hb dX4_readPerson_0 (by decide) ?_
  refine lv_aload_n hx hb dX4_readPerson_1 rfl (lv_at hl 0 rfl) ?_
  refine va_get (D := (dC, dI)) (ci := 4) (v := .int MreadMany) (C := RX4) (T := TX4) (N := 25) hx hb hts hiX4 hown hK hP 0 rfl rfl 14 (by decide) hf98 (fun _ h9 => h9) rfl dX4_readPerson_2 ?_
  refine lv_imul hx hb dX4_readPerson_5 ?_
  refine lv_istore_n (lv' := [(2, .int (3 * MreadMany)), (0, .ref (aM 0)), (1, .int p1)]) hx hb dX4_readPerson_6 rfl hl (by decide) rfl (fun ls hl => ?_)
  refine lv_aload_n hx hb dX4_readPerson_7 rfl (lv_at hl 1 rfl) ?_
  refine va_get (D := (dC, dI)) (ci := 4) (v := .int Mat) (C := RX4) (T := TX4) (N := 25) hx hb hts hiX4 hown hK hP 0 rfl rfl 12 (by decide) hf71 (fun _ h9 => h9) rfl dX4_readPerson_8 ?_
  refine lv_iload_n hx hb dX4_readPerson_11 rfl (lv_at hl 2 rfl) ?_
  refine lv_icmp_ge (tgt := 27) hx hb dX4_readPerson_12 (by decide) (fun c1 => ?_) (fun c1 => ?_)
  · replace h := it_t c1 h
    refine lv_iconst (v := 0) hx hb dX4_readPerson_27 (by decide) ?_
    exact jn28 (3 * MreadMany) 0 Mat MreadMany M_read H locs ls h hP hD hS (lv_sub hl [1, 2, 0] rfl)
  · replace h := it_f c1 h
    refine lv_aload_n hx hb dX4_readPerson_15 rfl (lv_at hl 1 rfl) ?_
    refine va_get (D := (dC, dI)) (ci := 4) (v := .ref (aM 3)) (C := RX4) (T := TX4) (N := 25) hx hb hts hiX4 hown hK hP 0 rfl rfl 4 (by decide) hf16 (fun _ h9 => h9) rfl dX4_readPerson_16 ?_
    refine lv_aload_n hx hb dX4_readPerson_19 rfl (lv_at hl 1 rfl) ?_
    refine va_get (D := (dC, dI)) (ci := 4) (v := .int Mat) (C := RX4) (T := TX4) (N := 25) hx hb hts hiX4 hown hK hP 0 rfl rfl 12 (by decide) hf71 (fun _ h9 => h9) rfl dX4_readPerson_20 ?_
    obtain ⟨e30, h⟩ := it_n h
    refine va_iald hx hb hK hP 1 0 rfl rfl (ix_in e30) dX4_readPerson_23 ?_
    refine lv_goto (tgt := 28) hx hb dX4_readPerson_24 (by decide) ?_
    exact jn28 (3 * MreadMany) (M_cells Mat.toNatClampNeg) Mat MreadMany M_read H locs ls h hP hD hS (lv_sub hl [1, 2, 0] rfl)
set_option maxHeartbeats 4000000 in
set_option maxRecDepth 100000 in
theorem c_X4_readTower (l : Launch) (dC : Nat → ClassId) (dI : Nat → Nat → Nat) (cyI cyO : ClassId) (aM : Nat → Nat) (sz : Nat) (Mfault : Int32) (Mtrace : Int32) (Mdeeds : Int32) (Mpeople : Int32) (Mat : Int32) (MreadDeeds : Int32) (MreadMany : Int32) (Mpairs : Int32) (Mcaught : Int32) (Mreadings : Int32) (M_cells : Nat → Int32) (M_readWeight : Nat → Int32) (M_read : Nat → Int32) (p1 : Int32) {o : Int32 × Int32 × Int32 × Int32 × (Nat → Int32) × (Nat → Int32)}  (h : f_X4_readTower Mat MreadDeeds MreadMany M_cells M_readWeight M_read p1 = some o) : CtI l yX4_readTower wsX4_readTower { frames := 3, cells := 0, slots := 0, locals := 70 } (dC, dI) [(cyI, .int), (cyO, .object RX0)] [.ref (aM 0), .int p1] sz [((aM 0), .inr (4, [.int Mfault, .int Mtrace, .ref (aM 1), .ref (aM 2), .ref (aM 3), .int Mdeeds, .int Mpeople, .ref (aM 4), .ref (aM 5), .ref (aM 6), .ref (aM 7), .ref (aM 8), .int Mat, .int MreadDeeds, .int MreadMany, .ref (aM 9), .ref (aM 10), .ref (aM 11), .int Mpairs, .ref (aM 12), .ref (aM 13), .int Mcaught, .int Mreadings, .ref (aM 14), .ref (aM 15)])), ((aM 3), .inl (cyI, 240, .inl M_cells)), ((aM 9), .inl (cyI, 6, .inl M_readWeight)), ((aM 10), .inl (cyI, 12, .inl M_read))] (fun (_ : Unit) => [((aM 0), .inr (4, [.int Mfault, .int Mtrace, .ref (aM 1), .ref (aM 2), .ref (aM 3), .int Mdeeds, .int Mpeople, .ref (aM 4), .ref (aM 5), .ref (aM 6), .ref (aM 7), .ref (aM 8), .int o.2.1, .int o.2.2.1, .int o.2.2.2.1, .ref (aM 9), .ref (aM 10), .ref (aM 11), .int Mpairs, .ref (aM 12), .ref (aM 13), .int Mcaught, .int Mreadings, .ref (aM 14), .ref (aM 15)])), ((aM 3), .inl (cyI, 240, .inl M_cells)), ((aM 9), .inl (cyI, 6, .inl o.2.2.2.2.1)), ((aM 10), .inl (cyI, 12, .inl o.2.2.2.2.2))]) o.1 := by
  refine CtI.of (cc := cX4_readTower) (maxL := 2) (by decide) rfl (Nat.le_of_ble_eq_true rfl) ?_
  intro p e s m args below meth c A Q H locs hx hb hml hown hts hA hK hP hD hS hret ls hl
  have hown : s.vm.findClass RX4 = some m.cls := hown
  have hl : lv_has ls 2 [(0, .ref (aM 0)), (1, .int p1)] := hl
  unfold f_X4_readTower at h
  have hiX4 : ∀ w ∈ u_ws RX4 TX4 25, w ∈ wsX4_readTower := by decide +kernel
  have hf71 := hts (.fieldLink RX4 71 "TowerTellModel" "at" "I") (by decide +kernel)
  have hf95 := hts (.fieldLink RX4 95 "TowerTellModel" "readDeeds" "I") (by decide +kernel)
  have hf98 := hts (.fieldLink RX4 98 "TowerTellModel" "readMany" "I") (by decide +kernel)
  have lp71 : ∀ (n : Nat) (yMat : Int32) (yMreadDeeds : Int32) (yMreadMany : Int32) (yM_readWeight : Nat → Int32) (yM_read : Nat → Int32) (H : Heap) (locs : List Loc) (ls : Array Slot), l_X4_readTower_71 M_cells p1 n (yMat, yMreadDeeds, yMreadMany, yM_readWeight, yM_read) = some o → va_P (dC, dI) vwCl [((aM 0), .inr (4, [.int Mfault, .int Mtrace, .ref (aM 1), .ref (aM 2), .ref (aM 3), .int Mdeeds, .int Mpeople, .ref (aM 4), .ref (aM 5), .ref (aM 6), .ref (aM 7), .ref (aM 8), .int yMat, .int yMreadDeeds, .int yMreadMany, .ref (aM 9), .ref (aM 10), .ref (aM 11), .int Mpairs, .ref (aM 12), .ref (aM 13), .int Mcaught, .int Mreadings, .ref (aM 14), .ref (aM 15)])), ((aM 3), .inl (cyI, 240, .inl M_cells)), ((aM 9), .inl (cyI, 6, .inl yM_readWeight)), ((aM 10), .inl (cyI, 12, .inl yM_read))] H → va_D A [((aM 0), .inr (4, [.int Mfault, .int Mtrace, .ref (aM 1), .ref (aM 2), .ref (aM 3), .int Mdeeds, .int Mpeople, .ref (aM 4), .ref (aM 5), .ref (aM 6), .ref (aM 7), .ref (aM 8), .int yMat, .int yMreadDeeds, .int yMreadMany, .ref (aM 9), .ref (aM 10), .ref (aM 11), .int Mpairs, .ref (aM 12), .ref (aM 13), .int Mcaught, .int Mreadings, .ref (aM 14), .ref (aM 15)])), ((aM 3), .inl (cyI, 240, .inl M_cells)), ((aM 9), .inl (cyI, 6, .inl yM_readWeight)), ((aM 10), .inl (cyI, 12, .inl yM_read))] → va_S A s.heap H locs → lv_has ls 2 [(0, .ref (aM 0)), (1, .int p1)] → W p l e { frames := 3, cells := 0, slots := 0, locals := 70 } s m args below meth c H locs 0 0 Q (F0 m 71 ls []) := by
    intro n
    induction n with
    | zero => intro _ _ _ _ _ H locs ls h _ _ _ _; exact (lpF_0 h).elim
    | succ n ih =>
      intro yMat yMreadDeeds yMreadMany yM_readWeight yM_read H locs ls h hP hD hS hl
      replace h : b_X4_readTower_71 M_cells p1 (l_X4_readTower_71 M_cells p1 n) yMat yMreadDeeds yMreadMany yM_readWeight yM_read = some o := h
      unfold b_X4_readTower_71 at h
      refine lv_aload_n hx hb dX4_readTower_71 rfl (lv_at hl 0 rfl) ?_
      refine va_get (D := (dC, dI)) (ci := 4) (v := .int yMreadMany) (C := RX4) (T := TX4) (N := 25) hx hb hts hiX4 hown hK hP 0 rfl rfl 14 (by decide) hf98 (fun _ h9 => h9) rfl dX4_readTower_72 ?_
      refine lv_if_eq (tgt := 94) hx hb dX4_readTower_75 (by decide) (fun c11 => ?_) (fun c11 => ?_)
      · replace h := it_t c11 h
        refine lv_aload_n hx hb dX4_readTower_94 rfl (lv_at hl 0 rfl) ?_
        refine lv_iload_n hx hb dX4_readTower_95 rfl (lv_at hl 1 rfl) ?_
        refine lv_bipush (v := 44) hx hb dX4_readTower_96 (by decide) ?_
        obtain ⟨o12, hc13, h⟩ := ob h
        refine k_vi (As := [.int p1, .int 44]) (rest := []) ⟨hx, hb, hml, hown, hts⟩ (c_X4_isSign l dC dI cyI cyO aM H.size Mfault Mtrace Mdeeds Mpeople yMat yMreadDeeds yMreadMany Mpairs Mcaught Mreadings M_cells p1 44 hc13) (cwV 2 hts gX4_readTower_X4_isSign rfl rfl rfl (by decide +kernel) ⟨Nat.le_of_ble_eq_true rfl, Nat.le_of_ble_eq_true rfl⟩) hP hD hK hS hA [0, 1] [2, 3] rfl rfl (by decide) (by decide) (by decide) 4 0 rfl rfl rfl rfl hl.1 rfl (Nat.le_of_ble_eq_true rfl) dX4_readTower_98 ⟨Nat.zero_le _, Nat.zero_le _⟩ (fun _ H locs hP hD hS => ?_)
        have hP : va_P (dC, dI) vwCl [((aM 9), .inl (cyI, 6, .inl yM_readWeight)), ((aM 10), .inl (cyI, 12, .inl yM_read)), ((aM 0), .inr (4, [.int Mfault, .int Mtrace, .ref (aM 1), .ref (aM 2), .ref (aM 3), .int Mdeeds, .int Mpeople, .ref (aM 4), .ref (aM 5), .ref (aM 6), .ref (aM 7), .ref (aM 8), .int o12.2, .int yMreadDeeds, .int yMreadMany, .ref (aM 9), .ref (aM 10), .ref (aM 11), .int Mpairs, .ref (aM 12), .ref (aM 13), .int Mcaught, .int Mreadings, .ref (aM 14), .ref (aM 15)])), ((aM 3), .inl (cyI, 240, .inl M_cells))] H := hP
        have hD : va_D A [((aM 9), .inl (cyI, 6, .inl yM_readWeight)), ((aM 10), .inl (cyI, 12, .inl yM_read)), ((aM 0), .inr (4, [.int Mfault, .int Mtrace, .ref (aM 1), .ref (aM 2), .ref (aM 3), .int Mdeeds, .int Mpeople, .ref (aM 4), .ref (aM 5), .ref (aM 6), .ref (aM 7), .ref (aM 8), .int o12.2, .int yMreadDeeds, .int yMreadMany, .ref (aM 9), .ref (aM 10), .ref (aM 11), .int Mpairs, .ref (aM 12), .ref (aM 13), .int Mcaught, .int Mreadings, .ref (aM 14), .ref (aM 15)])), ((aM 3), .inl (cyI, 240, .inl M_cells))] := hD
        refine lv_if_eq (tgt := 112) hx hb dX4_readTower_101 (by decide) (fun c14 => ?_) (fun c14 => ?_)
        · replace h := it_t c14 h
          refine lv_iconst (v := 0) hx hb dX4_readTower_112 (by decide) ?_
          replace h := Option.some.inj h; subst h
          have hP := hP.sub (ws' := [((aM 0), .inr (4, [.int Mfault, .int Mtrace, .ref (aM 1), .ref (aM 2), .ref (aM 3), .int Mdeeds, .int Mpeople, .ref (aM 4), .ref (aM 5), .ref (aM 6), .ref (aM 7), .ref (aM 8), .int o12.2, .int yMreadDeeds, .int yMreadMany, .ref (aM 9), .ref (aM 10), .ref (aM 11), .int Mpairs, .ref (aM 12), .ref (aM 13), .int Mcaught, .int Mreadings, .ref (aM 14), .ref (aM 15)])), ((aM 3), .inl (cyI, 240, .inl M_cells)), ((aM 9), .inl (cyI, 6, .inl yM_readWeight)), ((aM 10), .inl (cyI, 12, .inl yM_read))]) [2, 3, 0, 1] rfl
          have hD := hD.sub (ws' := [((aM 0), .inr (4, [.int Mfault, .int Mtrace, .ref (aM 1), .ref (aM 2), .ref (aM 3), .int Mdeeds, .int Mpeople, .ref (aM 4), .ref (aM 5), .ref (aM 6), .ref (aM 7), .ref (aM 8), .int o12.2, .int yMreadDeeds, .int yMreadMany, .ref (aM 9), .ref (aM 10), .ref (aM 11), .int Mpairs, .ref (aM 12), .ref (aM 13), .int Mcaught, .int Mreadings, .ref (aM 14), .ref (aM 15)])), ((aM 3), .inl (cyI, 240, .inl M_cells)), ((aM 9), .inl (cyI, 6, .inl yM_readWeight)), ((aM 10), .inl (cyI, 12, .inl yM_read))]) [2, 3, 0, 1] (by decide) rfl
          exact hret () H locs _ ls hP hD hS dX4_readTower_113 bz_0
        · replace h := it_f c14 h
          refine lv_aload_n hx hb dX4_readTower_104 rfl (lv_at hl 0 rfl) ?_
          refine lv_iload_n hx hb dX4_readTower_105 rfl (lv_at hl 1 rfl) ?_
          obtain ⟨o15, hc16, h⟩ := ob h
          refine k_vi (As := [.int p1]) (rest := []) ⟨hx, hb, hml, hown, hts⟩ (c_X4_readPerson l dC dI cyI cyO aM H.size Mfault Mtrace Mdeeds Mpeople o12.2 yMreadDeeds yMreadMany Mpairs Mcaught Mreadings M_cells yM_read p1 hc16) (cwV 1 hts gX4_readTower_X4_readPerson rfl rfl rfl (by decide +kernel) ⟨Nat.le_of_ble_eq_true rfl, Nat.le_of_ble_eq_true rfl⟩) hP hD hK hS hA [2, 3, 1] [0] rfl rfl (by decide) (by decide) (by decide) 4 0 rfl rfl rfl rfl hl.1 rfl (Nat.le_of_ble_eq_true rfl) dX4_readTower_106 ⟨Nat.zero_le _, Nat.zero_le _⟩ (fun _ H locs hP hD hS => ?_)
          have hP : va_P (dC, dI) vwCl [((aM 9), .inl (cyI, 6, .inl yM_readWeight)), ((aM 0), .inr (4, [.int Mfault, .int Mtrace, .ref (aM 1), .ref (aM 2), .ref (aM 3), .int Mdeeds, .int Mpeople, .ref (aM 4), .ref (aM 5), .ref (aM 6), .ref (aM 7), .ref (aM 8), .int o15.2.1, .int yMreadDeeds, .int o15.2.2.1, .ref (aM 9), .ref (aM 10), .ref (aM 11), .int Mpairs, .ref (aM 12), .ref (aM 13), .int Mcaught, .int Mreadings, .ref (aM 14), .ref (aM 15)])), ((aM 3), .inl (cyI, 240, .inl M_cells)), ((aM 10), .inl (cyI, 12, .inl o15.2.2.2))] H := hP
          have hD : va_D A [((aM 9), .inl (cyI, 6, .inl yM_readWeight)), ((aM 0), .inr (4, [.int Mfault, .int Mtrace, .ref (aM 1), .ref (aM 2), .ref (aM 3), .int Mdeeds, .int Mpeople, .ref (aM 4), .ref (aM 5), .ref (aM 6), .ref (aM 7), .ref (aM 8), .int o15.2.1, .int yMreadDeeds, .int o15.2.2.1, .ref (aM 9), .ref (aM 10), .ref (aM 11), .int Mpairs, .ref (aM 12), .ref (aM 13), .int Mcaught, .int Mreadings, .ref (aM 14), .ref (aM 15)])), ((aM 3), .inl (cyI, 240, .inl M_cells)), ((aM 10), .inl (cyI, 12, .inl o15.2.2.2))] := hD
          refine lv_if_ne (tgt := 71) hx hb dX4_readTower_109 (by decide) (fun c17 => ?_) (fun c17 => ?_)
          · replace h := it_f c17 h
            have hP := hP.sub (ws' := [((aM 0), .inr (4, [.int Mfault, .int Mtrace, .ref (aM 1), .ref (aM 2), .ref (aM 3), .int Mdeeds, .int Mpeople, .ref (aM 4), .ref (aM 5), .ref (aM 6), .ref (aM 7), .ref (aM 8), .int o15.2.1, .int yMreadDeeds, .int o15.2.2.1, .ref (aM 9), .ref (aM 10), .ref (aM 11), .int Mpairs, .ref (aM 12), .ref (aM 13), .int Mcaught, .int Mreadings, .ref (aM 14), .ref (aM 15)])), ((aM 3), .inl (cyI, 240, .inl M_cells)), ((aM 9), .inl (cyI, 6, .inl yM_readWeight)), ((aM 10), .inl (cyI, 12, .inl o15.2.2.2))]) [1, 2, 0, 3] rfl
            have hD := hD.sub (ws' := [((aM 0), .inr (4, [.int Mfault, .int Mtrace, .ref (aM 1), .ref (aM 2), .ref (aM 3), .int Mdeeds, .int Mpeople, .ref (aM 4), .ref (aM 5), .ref (aM 6), .ref (aM 7), .ref (aM 8), .int o15.2.1, .int yMreadDeeds, .int o15.2.2.1, .ref (aM 9), .ref (aM 10), .ref (aM 11), .int Mpairs, .ref (aM 12), .ref (aM 13), .int Mcaught, .int Mreadings, .ref (aM 14), .ref (aM 15)])), ((aM 3), .inl (cyI, 240, .inl M_cells)), ((aM 9), .inl (cyI, 6, .inl yM_readWeight)), ((aM 10), .inl (cyI, 12, .inl o15.2.2.2))]) [1, 2, 0, 3] (by decide) rfl
            exact ih o15.2.1 yMreadDeeds o15.2.2.1 yM_readWeight o15.2.2.2 H locs ls h hP hD hS (lv_sub hl [0, 1] rfl)
          · replace h := it_t c17 h
            refine lv_iconst (v := 0) hx hb dX4_readTower_112 (by decide) ?_
            replace h := Option.some.inj h; subst h
            have hP := hP.sub (ws' := [((aM 0), .inr (4, [.int Mfault, .int Mtrace, .ref (aM 1), .ref (aM 2), .ref (aM 3), .int Mdeeds, .int Mpeople, .ref (aM 4), .ref (aM 5), .ref (aM 6), .ref (aM 7), .ref (aM 8), .int o15.2.1, .int yMreadDeeds, .int o15.2.2.1, .ref (aM 9), .ref (aM 10), .ref (aM 11), .int Mpairs, .ref (aM 12), .ref (aM 13), .int Mcaught, .int Mreadings, .ref (aM 14), .ref (aM 15)])), ((aM 3), .inl (cyI, 240, .inl M_cells)), ((aM 9), .inl (cyI, 6, .inl yM_readWeight)), ((aM 10), .inl (cyI, 12, .inl o15.2.2.2))]) [1, 2, 0, 3] rfl
            have hD := hD.sub (ws' := [((aM 0), .inr (4, [.int Mfault, .int Mtrace, .ref (aM 1), .ref (aM 2), .ref (aM 3), .int Mdeeds, .int Mpeople, .ref (aM 4), .ref (aM 5), .ref (aM 6), .ref (aM 7), .ref (aM 8), .int o15.2.1, .int yMreadDeeds, .int o15.2.2.1, .ref (aM 9), .ref (aM 10), .ref (aM 11), .int Mpairs, .ref (aM 12), .ref (aM 13), .int Mcaught, .int Mreadings, .ref (aM 14), .ref (aM 15)])), ((aM 3), .inl (cyI, 240, .inl M_cells)), ((aM 9), .inl (cyI, 6, .inl yM_readWeight)), ((aM 10), .inl (cyI, 12, .inl o15.2.2.2))]) [1, 2, 0, 3] (by decide) rfl
            exact hret () H locs _ ls hP hD hS dX4_readTower_113 bz_0
      · replace h := it_f c11 h
        refine lv_aload_n hx hb dX4_readTower_78 rfl (lv_at hl 0 rfl) ?_
        refine va_get (D := (dC, dI)) (ci := 4) (v := .int yMreadMany) (C := RX4) (T := TX4) (N := 25) hx hb hts hiX4 hown hK hP 0 rfl rfl 14 (by decide) hf98 (fun _ h9 => h9) rfl dX4_readTower_79 ?_
        refine lv_iconst (v := 4) hx hb dX4_readTower_82 (by decide) ?_
        refine lv_icmp_ge (tgt := 114) hx hb dX4_readTower_83 (by decide) (fun c18 => ?_) (fun c18 => ?_)
        · replace h := it_t c18 h
          refine lv_aload_n hx hb dX4_readTower_114 rfl (lv_at hl 0 rfl) ?_
          refine va_get (D := (dC, dI)) (ci := 4) (v := .int yMat) (C := RX4) (T := TX4) (N := 25) hx hb hts hiX4 hown hK hP 0 rfl rfl 12 (by decide) hf71 (fun _ h9 => h9) rfl dX4_readTower_115 ?_
          refine lv_iload_n hx hb dX4_readTower_118 rfl (lv_at hl 1 rfl) ?_
          refine lv_icmp_ne (tgt := 126) hx hb dX4_readTower_119 (by decide) (fun c19 => ?_) (fun c19 => ?_)
          · replace h := it_f c19 h
            refine lv_iconst (v := 0) hx hb dX4_readTower_126 (by decide) ?_
            replace h := Option.some.inj h; subst h
            exact hret () H locs _ ls hP hD hS dX4_readTower_127 bz_0
          · replace h := it_t c19 h
            refine lv_iconst (v := 1) hx hb dX4_readTower_122 (by decide) ?_
            refine lv_goto (tgt := 127) hx hb dX4_readTower_123 (by decide) ?_
            replace h := Option.some.inj h; subst h
            exact hret () H locs _ ls hP hD hS dX4_readTower_127 bz_1
        · replace h := it_f c18 h
          refine lv_aload_n hx hb dX4_readTower_86 rfl (lv_at hl 0 rfl) ?_
          refine va_get (D := (dC, dI)) (ci := 4) (v := .int yMat) (C := RX4) (T := TX4) (N := 25) hx hb hts hiX4 hown hK hP 0 rfl rfl 12 (by decide) hf71 (fun _ h9 => h9) rfl dX4_readTower_87 ?_
          refine lv_iload_n hx hb dX4_readTower_90 rfl (lv_at hl 1 rfl) ?_
          refine lv_icmp_ge (tgt := 114) hx hb dX4_readTower_91 (by decide) (fun c20 => ?_) (fun c20 => ?_)
          · replace h := it_t c20 h
            refine lv_aload_n hx hb dX4_readTower_114 rfl (lv_at hl 0 rfl) ?_
            refine va_get (D := (dC, dI)) (ci := 4) (v := .int yMat) (C := RX4) (T := TX4) (N := 25) hx hb hts hiX4 hown hK hP 0 rfl rfl 12 (by decide) hf71 (fun _ h9 => h9) rfl dX4_readTower_115 ?_
            refine lv_iload_n hx hb dX4_readTower_118 rfl (lv_at hl 1 rfl) ?_
            refine lv_icmp_ne (tgt := 126) hx hb dX4_readTower_119 (by decide) (fun c21 => ?_) (fun c21 => ?_)
            · replace h := it_f c21 h
              refine lv_iconst (v := 0) hx hb dX4_readTower_126 (by decide) ?_
              replace h := Option.some.inj h; subst h
              exact hret () H locs _ ls hP hD hS dX4_readTower_127 bz_0
            · replace h := it_t c21 h
              refine lv_iconst (v := 1) hx hb dX4_readTower_122 (by decide) ?_
              refine lv_goto (tgt := 127) hx hb dX4_readTower_123 (by decide) ?_
              replace h := Option.some.inj h; subst h
              exact hret () H locs _ ls hP hD hS dX4_readTower_127 bz_1
          · replace h := it_f c20 h
            refine lv_aload_n hx hb dX4_readTower_94 rfl (lv_at hl 0 rfl) ?_
            refine lv_iload_n hx hb dX4_readTower_95 rfl (lv_at hl 1 rfl) ?_
            refine lv_bipush (v := 44) hx hb dX4_readTower_96 (by decide) ?_
            obtain ⟨o22, hc23, h⟩ := ob h
            refine k_vi (As := [.int p1, .int 44]) (rest := []) ⟨hx, hb, hml, hown, hts⟩ (c_X4_isSign l dC dI cyI cyO aM H.size Mfault Mtrace Mdeeds Mpeople yMat yMreadDeeds yMreadMany Mpairs Mcaught Mreadings M_cells p1 44 hc23) (cwV 2 hts gX4_readTower_X4_isSign rfl rfl rfl (by decide +kernel) ⟨Nat.le_of_ble_eq_true rfl, Nat.le_of_ble_eq_true rfl⟩) hP hD hK hS hA [0, 1] [2, 3] rfl rfl (by decide) (by decide) (by decide) 4 0 rfl rfl rfl rfl hl.1 rfl (Nat.le_of_ble_eq_true rfl) dX4_readTower_98 ⟨Nat.zero_le _, Nat.zero_le _⟩ (fun _ H locs hP hD hS => ?_)
            have hP : va_P (dC, dI) vwCl [((aM 9), .inl (cyI, 6, .inl yM_readWeight)), ((aM 10), .inl (cyI, 12, .inl yM_read)), ((aM 0), .inr (4, [.int Mfault, .int Mtrace, .ref (aM 1), .ref (aM 2), .ref (aM 3), .int Mdeeds, .int Mpeople, .ref (aM 4), .ref (aM 5), .ref (aM 6), .ref (aM 7), .ref (aM 8), .int o22.2, .int yMreadDeeds, .int yMreadMany, .ref (aM 9), .ref (aM 10), .ref (aM 11), .int Mpairs, .ref (aM 12), .ref (aM 13), .int Mcaught, .int Mreadings, .ref (aM 14), .ref (aM 15)])), ((aM 3), .inl (cyI, 240, .inl M_cells))] H := hP
            have hD : va_D A [((aM 9), .inl (cyI, 6, .inl yM_readWeight)), ((aM 10), .inl (cyI, 12, .inl yM_read)), ((aM 0), .inr (4, [.int Mfault, .int Mtrace, .ref (aM 1), .ref (aM 2), .ref (aM 3), .int Mdeeds, .int Mpeople, .ref (aM 4), .ref (aM 5), .ref (aM 6), .ref (aM 7), .ref (aM 8), .int o22.2, .int yMreadDeeds, .int yMreadMany, .ref (aM 9), .ref (aM 10), .ref (aM 11), .int Mpairs, .ref (aM 12), .ref (aM 13), .int Mcaught, .int Mreadings, .ref (aM 14), .ref (aM 15)])), ((aM 3), .inl (cyI, 240, .inl M_cells))] := hD
            refine lv_if_eq (tgt := 112) hx hb dX4_readTower_101 (by decide) (fun c24 => ?_) (fun c24 => ?_)
            · replace h := it_t c24 h
              refine lv_iconst (v := 0) hx hb dX4_readTower_112 (by decide) ?_
              replace h := Option.some.inj h; subst h
              have hP := hP.sub (ws' := [((aM 0), .inr (4, [.int Mfault, .int Mtrace, .ref (aM 1), .ref (aM 2), .ref (aM 3), .int Mdeeds, .int Mpeople, .ref (aM 4), .ref (aM 5), .ref (aM 6), .ref (aM 7), .ref (aM 8), .int o22.2, .int yMreadDeeds, .int yMreadMany, .ref (aM 9), .ref (aM 10), .ref (aM 11), .int Mpairs, .ref (aM 12), .ref (aM 13), .int Mcaught, .int Mreadings, .ref (aM 14), .ref (aM 15)])), ((aM 3), .inl (cyI, 240, .inl M_cells)), ((aM 9), .inl (cyI, 6, .inl yM_readWeight)), ((aM 10), .inl (cyI, 12, .inl yM_read))]) [2, 3, 0, 1] rfl
              have hD := hD.sub (ws' := [((aM 0), .inr (4, [.int Mfault, .int Mtrace, .ref (aM 1), .ref (aM 2), .ref (aM 3), .int Mdeeds, .int Mpeople, .ref (aM 4), .ref (aM 5), .ref (aM 6), .ref (aM 7), .ref (aM 8), .int o22.2, .int yMreadDeeds, .int yMreadMany, .ref (aM 9), .ref (aM 10), .ref (aM 11), .int Mpairs, .ref (aM 12), .ref (aM 13), .int Mcaught, .int Mreadings, .ref (aM 14), .ref (aM 15)])), ((aM 3), .inl (cyI, 240, .inl M_cells)), ((aM 9), .inl (cyI, 6, .inl yM_readWeight)), ((aM 10), .inl (cyI, 12, .inl yM_read))]) [2, 3, 0, 1] (by decide) rfl
              exact hret () H locs _ ls hP hD hS dX4_readTower_113 bz_0
            · replace h := it_f c24 h
              refine lv_aload_n hx hb dX4_readTower_104 rfl (lv_at hl 0 rfl) ?_
              refine lv_iload_n hx hb dX4_readTower_105 rfl (lv_at hl 1 rfl) ?_
              obtain ⟨o25, hc26, h⟩ := ob h
              refine k_vi (As := [.int p1]) (rest := []) ⟨hx, hb, hml, hown, hts⟩ (c_X4_readPerson l dC dI cyI cyO aM H.size Mfault Mtrace Mdeeds Mpeople o22.2 yMreadDeeds yMreadMany Mpairs Mcaught Mreadings M_cells yM_read p1 hc26) (cwV 1 hts gX4_readTower_X4_readPerson rfl rfl rfl (by decide +kernel) ⟨Nat.le_of_ble_eq_true rfl, Nat.le_of_ble_eq_true rfl⟩) hP hD hK hS hA [2, 3, 1] [0] rfl rfl (by decide) (by decide) (by decide) 4 0 rfl rfl rfl rfl hl.1 rfl (Nat.le_of_ble_eq_true rfl) dX4_readTower_106 ⟨Nat.zero_le _, Nat.zero_le _⟩ (fun _ H locs hP hD hS => ?_)
              have hP : va_P (dC, dI) vwCl [((aM 9), .inl (cyI, 6, .inl yM_readWeight)), ((aM 0), .inr (4, [.int Mfault, .int Mtrace, .ref (aM 1), .ref (aM 2), .ref (aM 3), .int Mdeeds, .int Mpeople, .ref (aM 4), .ref (aM 5), .ref (aM 6), .ref (aM 7), .ref (aM 8), .int o25.2.1, .int yMreadDeeds, .int o25.2.2.1, .ref (aM 9), .ref (aM 10), .ref (aM 11), .int Mpairs, .ref (aM 12), .ref (aM 13), .int Mcaught, .int Mreadings, .ref (aM 14), .ref (aM 15)])), ((aM 3), .inl (cyI, 240, .inl M_cells)), ((aM 10), .inl (cyI, 12, .inl o25.2.2.2))] H := hP
              have hD : va_D A [((aM 9), .inl (cyI, 6, .inl yM_readWeight)), ((aM 0), .inr (4, [.int Mfault, .int Mtrace, .ref (aM 1), .ref (aM 2), .ref (aM 3), .int Mdeeds, .int Mpeople, .ref (aM 4), .ref (aM 5), .ref (aM 6), .ref (aM 7), .ref (aM 8), .int o25.2.1, .int yMreadDeeds, .int o25.2.2.1, .ref (aM 9), .ref (aM 10), .ref (aM 11), .int Mpairs, .ref (aM 12), .ref (aM 13), .int Mcaught, .int Mreadings, .ref (aM 14), .ref (aM 15)])), ((aM 3), .inl (cyI, 240, .inl M_cells)), ((aM 10), .inl (cyI, 12, .inl o25.2.2.2))] := hD
              refine lv_if_ne (tgt := 71) hx hb dX4_readTower_109 (by decide) (fun c27 => ?_) (fun c27 => ?_)
              · replace h := it_f c27 h
                have hP := hP.sub (ws' := [((aM 0), .inr (4, [.int Mfault, .int Mtrace, .ref (aM 1), .ref (aM 2), .ref (aM 3), .int Mdeeds, .int Mpeople, .ref (aM 4), .ref (aM 5), .ref (aM 6), .ref (aM 7), .ref (aM 8), .int o25.2.1, .int yMreadDeeds, .int o25.2.2.1, .ref (aM 9), .ref (aM 10), .ref (aM 11), .int Mpairs, .ref (aM 12), .ref (aM 13), .int Mcaught, .int Mreadings, .ref (aM 14), .ref (aM 15)])), ((aM 3), .inl (cyI, 240, .inl M_cells)), ((aM 9), .inl (cyI, 6, .inl yM_readWeight)), ((aM 10), .inl (cyI, 12, .inl o25.2.2.2))]) [1, 2, 0, 3] rfl
                have hD := hD.sub (ws' := [((aM 0), .inr (4, [.int Mfault, .int Mtrace, .ref (aM 1), .ref (aM 2), .ref (aM 3), .int Mdeeds, .int Mpeople, .ref (aM 4), .ref (aM 5), .ref (aM 6), .ref (aM 7), .ref (aM 8), .int o25.2.1, .int yMreadDeeds, .int o25.2.2.1, .ref (aM 9), .ref (aM 10), .ref (aM 11), .int Mpairs, .ref (aM 12), .ref (aM 13), .int Mcaught, .int Mreadings, .ref (aM 14), .ref (aM 15)])), ((aM 3), .inl (cyI, 240, .inl M_cells)), ((aM 9), .inl (cyI, 6, .inl yM_readWeight)), ((aM 10), .inl (cyI, 12, .inl o25.2.2.2))]) [1, 2, 0, 3] (by decide) rfl
                exact ih o25.2.1 yMreadDeeds o25.2.2.1 yM_readWeight o25.2.2.2 H locs ls h hP hD hS (lv_sub hl [0, 1] rfl)
              · replace h := it_t c27 h
                refine lv_iconst (v := 0) hx hb dX4_readTower_112 (by decide) ?_
                replace h := Option.some.inj h; subst h
                have hP := hP.sub (ws' := [((aM 0), .inr (4, [.int Mfault, .int Mtrace, .ref (aM 1), .ref (aM 2), .ref (aM 3), .int Mdeeds, .int Mpeople, .ref (aM 4), .ref (aM 5), .ref (aM 6), .ref (aM 7), .ref (aM 8), .int o25.2.1, .int yMreadDeeds, .int o25.2.2.1, .ref (aM 9), .ref (aM 10), .ref (aM 11), .int Mpairs, .ref (aM 12), .ref (aM 13), .int Mcaught, .int Mreadings, .ref (aM 14), .ref (aM 15)])), ((aM 3), .inl (cyI, 240, .inl M_cells)), ((aM 9), .inl (cyI, 6, .inl yM_readWeight)), ((aM 10), .inl (cyI, 12, .inl o25.2.2.2))]) [1, 2, 0, 3] rfl
                have hD := hD.sub (ws' := [((aM 0), .inr (4, [.int Mfault, .int Mtrace, .ref (aM 1), .ref (aM 2), .ref (aM 3), .int Mdeeds, .int Mpeople, .ref (aM 4), .ref (aM 5), .ref (aM 6), .ref (aM 7), .ref (aM 8), .int o25.2.1, .int yMreadDeeds, .int o25.2.2.1, .ref (aM 9), .ref (aM 10), .ref (aM 11), .int Mpairs, .ref (aM 12), .ref (aM 13), .int Mcaught, .int Mreadings, .ref (aM 14), .ref (aM 15)])), ((aM 3), .inl (cyI, 240, .inl M_cells)), ((aM 9), .inl (cyI, 6, .inl yM_readWeight)), ((aM 10), .inl (cyI, 12, .inl o25.2.2.2))]) [1, 2, 0, 3] (by decide) rfl
                exact hret () H locs _ ls hP hD hS dX4_readTower_113 bz_0
  have lp42 : ∀ (n : Nat) (yMat : Int32) (yMreadDeeds : Int32) (yMreadMany : Int32) (yM_readWeight : Nat → Int32) (yM_read : Nat → Int32) (H : Heap) (locs : List Loc) (ls : Array Slot), l_X4_readTower_42 M_cells p1 n (yMat, yMreadDeeds, yMreadMany, yM_readWeight, yM_read) = some o → va_P (dC, dI) vwCl [((aM 0), .inr (4, [.int Mfault, .int Mtrace, .ref (aM 1), .ref (aM 2), .ref (aM 3), .int Mdeeds, .int Mpeople, .ref (aM 4), .ref (aM 5), .ref (aM 6), .ref (aM 7), .ref (aM 8), .int yMat, .int yMreadDeeds, .int yMreadMany, .ref (aM 9), .ref (aM 10), .ref (aM 11), .int Mpairs, .ref (aM 12), .ref (aM 13), .int Mcaught, .int Mreadings, .ref (aM 14), .ref (aM 15)])), ((aM 3), .inl (cyI, 240, .inl M_cells)), ((aM 9), .inl (cyI, 6, .inl yM_readWeight)), ((aM 10), .inl (cyI, 12, .inl yM_read))] H → va_D A [((aM 0), .inr (4, [.int Mfault, .int Mtrace, .ref (aM 1), .ref (aM 2), .ref (aM 3), .int Mdeeds, .int Mpeople, .ref (aM 4), .ref (aM 5), .ref (aM 6), .ref (aM 7), .ref (aM 8), .int yMat, .int yMreadDeeds, .int yMreadMany, .ref (aM 9), .ref (aM 10), .ref (aM 11), .int Mpairs, .ref (aM 12), .ref (aM 13), .int Mcaught, .int Mreadings, .ref (aM 14), .ref (aM 15)])), ((aM 3), .inl (cyI, 240, .inl M_cells)), ((aM 9), .inl (cyI, 6, .inl yM_readWeight)), ((aM 10), .inl (cyI, 12, .inl yM_read))] → va_S A s.heap H locs → lv_has ls 2 [(0, .ref (aM 0)), (1, .int p1)] → W p l e { frames := 3, cells := 0, slots := 0, locals := 70 } s m args below meth c H locs 0 0 Q (F0 m 42 ls []) := by
    intro n
    induction n with
    | zero => intro _ _ _ _ _ H locs ls h _ _ _ _; exact (lpF_0 h).elim
    | succ n ih =>
      intro yMat yMreadDeeds yMreadMany yM_readWeight yM_read H locs ls h hP hD hS hl
      replace h : b_X4_readTower_42 M_cells p1 (l_X4_readTower_42 M_cells p1 n) yMat yMreadDeeds yMreadMany yM_readWeight yM_read = some o := h
      unfold b_X4_readTower_42 at h
      refine lv_aload_n hx hb dX4_readTower_42 rfl (lv_at hl 0 rfl) ?_
      refine va_get (D := (dC, dI)) (ci := 4) (v := .int yMreadDeeds) (C := RX4) (T := TX4) (N := 25) hx hb hts hiX4 hown hK hP 0 rfl rfl 13 (by decide) hf95 (fun _ h9 => h9) rfl dX4_readTower_43 ?_
      refine lv_bipush (v := 6) hx hb dX4_readTower_46 (by decide) ?_
      refine lv_icmp_ge (tgt := 71) hx hb dX4_readTower_48 (by decide) (fun c10 => ?_) (fun c10 => ?_)
      · replace h := it_t c10 h
        exact lp71 99 yMat yMreadDeeds yMreadMany yM_readWeight yM_read H locs ls h hP hD hS (lv_sub hl [0, 1] rfl)
      · replace h := it_f c10 h
        refine lv_aload_n hx hb dX4_readTower_51 rfl (lv_at hl 0 rfl) ?_
        refine lv_iload_n hx hb dX4_readTower_52 rfl (lv_at hl 1 rfl) ?_
        refine lv_bipush (v := 45) hx hb dX4_readTower_53 (by decide) ?_
        obtain ⟨o28, hc29, h⟩ := ob h
        refine k_vi (As := [.int p1, .int 45]) (rest := []) ⟨hx, hb, hml, hown, hts⟩ (c_X4_isSign l dC dI cyI cyO aM H.size Mfault Mtrace Mdeeds Mpeople yMat yMreadDeeds yMreadMany Mpairs Mcaught Mreadings M_cells p1 45 hc29) (cwV 2 hts gX4_readTower_X4_isSign rfl rfl rfl (by decide +kernel) ⟨Nat.le_of_ble_eq_true rfl, Nat.le_of_ble_eq_true rfl⟩) hP hD hK hS hA [0, 1] [2, 3] rfl rfl (by decide) (by decide) (by decide) 4 0 rfl rfl rfl rfl hl.1 rfl (Nat.le_of_ble_eq_true rfl) dX4_readTower_55 ⟨Nat.zero_le _, Nat.zero_le _⟩ (fun _ H locs hP hD hS => ?_)
        have hP : va_P (dC, dI) vwCl [((aM 9), .inl (cyI, 6, .inl yM_readWeight)), ((aM 10), .inl (cyI, 12, .inl yM_read)), ((aM 0), .inr (4, [.int Mfault, .int Mtrace, .ref (aM 1), .ref (aM 2), .ref (aM 3), .int Mdeeds, .int Mpeople, .ref (aM 4), .ref (aM 5), .ref (aM 6), .ref (aM 7), .ref (aM 8), .int o28.2, .int yMreadDeeds, .int yMreadMany, .ref (aM 9), .ref (aM 10), .ref (aM 11), .int Mpairs, .ref (aM 12), .ref (aM 13), .int Mcaught, .int Mreadings, .ref (aM 14), .ref (aM 15)])), ((aM 3), .inl (cyI, 240, .inl M_cells))] H := hP
        have hD : va_D A [((aM 9), .inl (cyI, 6, .inl yM_readWeight)), ((aM 10), .inl (cyI, 12, .inl yM_read)), ((aM 0), .inr (4, [.int Mfault, .int Mtrace, .ref (aM 1), .ref (aM 2), .ref (aM 3), .int Mdeeds, .int Mpeople, .ref (aM 4), .ref (aM 5), .ref (aM 6), .ref (aM 7), .ref (aM 8), .int o28.2, .int yMreadDeeds, .int yMreadMany, .ref (aM 9), .ref (aM 10), .ref (aM 11), .int Mpairs, .ref (aM 12), .ref (aM 13), .int Mcaught, .int Mreadings, .ref (aM 14), .ref (aM 15)])), ((aM 3), .inl (cyI, 240, .inl M_cells))] := hD
        refine lv_if_eq (tgt := 71) hx hb dX4_readTower_58 (by decide) (fun c30 => ?_) (fun c30 => ?_)
        · replace h := it_t c30 h
          have hP := hP.sub (ws' := [((aM 0), .inr (4, [.int Mfault, .int Mtrace, .ref (aM 1), .ref (aM 2), .ref (aM 3), .int Mdeeds, .int Mpeople, .ref (aM 4), .ref (aM 5), .ref (aM 6), .ref (aM 7), .ref (aM 8), .int o28.2, .int yMreadDeeds, .int yMreadMany, .ref (aM 9), .ref (aM 10), .ref (aM 11), .int Mpairs, .ref (aM 12), .ref (aM 13), .int Mcaught, .int Mreadings, .ref (aM 14), .ref (aM 15)])), ((aM 3), .inl (cyI, 240, .inl M_cells)), ((aM 9), .inl (cyI, 6, .inl yM_readWeight)), ((aM 10), .inl (cyI, 12, .inl yM_read))]) [2, 3, 0, 1] rfl
          have hD := hD.sub (ws' := [((aM 0), .inr (4, [.int Mfault, .int Mtrace, .ref (aM 1), .ref (aM 2), .ref (aM 3), .int Mdeeds, .int Mpeople, .ref (aM 4), .ref (aM 5), .ref (aM 6), .ref (aM 7), .ref (aM 8), .int o28.2, .int yMreadDeeds, .int yMreadMany, .ref (aM 9), .ref (aM 10), .ref (aM 11), .int Mpairs, .ref (aM 12), .ref (aM 13), .int Mcaught, .int Mreadings, .ref (aM 14), .ref (aM 15)])), ((aM 3), .inl (cyI, 240, .inl M_cells)), ((aM 9), .inl (cyI, 6, .inl yM_readWeight)), ((aM 10), .inl (cyI, 12, .inl yM_read))]) [2, 3, 0, 1] (by decide) rfl
          exact lp71 99 o28.2 yMreadDeeds yMreadMany yM_readWeight yM_read H locs ls h hP hD hS (lv_sub hl [0, 1] rfl)
        · replace h := it_f c30 h
          refine lv_aload_n hx hb dX4_readTower_61 rfl (lv_at hl 0 rfl) ?_
          refine lv_iload_n hx hb dX4_readTower_62 rfl (lv_at hl 1 rfl) ?_
          obtain ⟨o31, hc32, h⟩ := ob h
          refine k_vi (As := [.int p1]) (rest := []) ⟨hx, hb, hml, hown, hts⟩ (c_X4_readDeed l dC dI cyI cyO aM H.size Mfault Mtrace Mdeeds Mpeople o28.2 yMreadDeeds yMreadMany Mpairs Mcaught Mreadings M_cells yM_readWeight p1 hc32) (cwV 1 hts gX4_readTower_X4_readDeed rfl rfl rfl (by decide +kernel) ⟨Nat.le_of_ble_eq_true rfl, Nat.le_of_ble_eq_true rfl⟩) hP hD hK hS hA [2, 3, 0] [1] rfl rfl (by decide) (by decide) (by decide) 4 0 rfl rfl rfl rfl hl.1 rfl (Nat.le_of_ble_eq_true rfl) dX4_readTower_63 ⟨Nat.zero_le _, Nat.zero_le _⟩ (fun _ H locs hP hD hS => ?_)
          have hP : va_P (dC, dI) vwCl [((aM 10), .inl (cyI, 12, .inl yM_read)), ((aM 0), .inr (4, [.int Mfault, .int Mtrace, .ref (aM 1), .ref (aM 2), .ref (aM 3), .int Mdeeds, .int Mpeople, .ref (aM 4), .ref (aM 5), .ref (aM 6), .ref (aM 7), .ref (aM 8), .int o31.2.1, .int o31.2.2.1, .int yMreadMany, .ref (aM 9), .ref (aM 10), .ref (aM 11), .int Mpairs, .ref (aM 12), .ref (aM 13), .int Mcaught, .int Mreadings, .ref (aM 14), .ref (aM 15)])), ((aM 3), .inl (cyI, 240, .inl M_cells)), ((aM 9), .inl (cyI, 6, .inl o31.2.2.2))] H := hP
          have hD : va_D A [((aM 10), .inl (cyI, 12, .inl yM_read)), ((aM 0), .inr (4, [.int Mfault, .int Mtrace, .ref (aM 1), .ref (aM 2), .ref (aM 3), .int Mdeeds, .int Mpeople, .ref (aM 4), .ref (aM 5), .ref (aM 6), .ref (aM 7), .ref (aM 8), .int o31.2.1, .int o31.2.2.1, .int yMreadMany, .ref (aM 9), .ref (aM 10), .ref (aM 11), .int Mpairs, .ref (aM 12), .ref (aM 13), .int Mcaught, .int Mreadings, .ref (aM 14), .ref (aM 15)])), ((aM 3), .inl (cyI, 240, .inl M_cells)), ((aM 9), .inl (cyI, 6, .inl o31.2.2.2))] := hD
          refine lv_if_ne (tgt := 42) hx hb dX4_readTower_66 (by decide) (fun c33 => ?_) (fun c33 => ?_)
          · replace h := it_f c33 h
            have hP := hP.sub (ws' := [((aM 0), .inr (4, [.int Mfault, .int Mtrace, .ref (aM 1), .ref (aM 2), .ref (aM 3), .int Mdeeds, .int Mpeople, .ref (aM 4), .ref (aM 5), .ref (aM 6), .ref (aM 7), .ref (aM 8), .int o31.2.1, .int o31.2.2.1, .int yMreadMany, .ref (aM 9), .ref (aM 10), .ref (aM 11), .int Mpairs, .ref (aM 12), .ref (aM 13), .int Mcaught, .int Mreadings, .ref (aM 14), .ref (aM 15)])), ((aM 3), .inl (cyI, 240, .inl M_cells)), ((aM 9), .inl (cyI, 6, .inl o31.2.2.2)), ((aM 10), .inl (cyI, 12, .inl yM_read))]) [1, 2, 3, 0] rfl
            have hD := hD.sub (ws' := [((aM 0), .inr (4, [.int Mfault, .int Mtrace, .ref (aM 1), .ref (aM 2), .ref (aM 3), .int Mdeeds, .int Mpeople, .ref (aM 4), .ref (aM 5), .ref (aM 6), .ref (aM 7), .ref (aM 8), .int o31.2.1, .int o31.2.2.1, .int yMreadMany, .ref (aM 9), .ref (aM 10), .ref (aM 11), .int Mpairs, .ref (aM 12), .ref (aM 13), .int Mcaught, .int Mreadings, .ref (aM 14), .ref (aM 15)])), ((aM 3), .inl (cyI, 240, .inl M_cells)), ((aM 9), .inl (cyI, 6, .inl o31.2.2.2)), ((aM 10), .inl (cyI, 12, .inl yM_read))]) [1, 2, 3, 0] (by decide) rfl
            exact ih o31.2.1 o31.2.2.1 yMreadMany o31.2.2.2 yM_read H locs ls h hP hD hS (lv_sub hl [0, 1] rfl)
          · replace h := it_t c33 h
            refine lv_iconst (v := 0) hx hb dX4_readTower_69 (by decide) ?_
            replace h := Option.some.inj h; subst h
            have hP := hP.sub (ws' := [((aM 0), .inr (4, [.int Mfault, .int Mtrace, .ref (aM 1), .ref (aM 2), .ref (aM 3), .int Mdeeds, .int Mpeople, .ref (aM 4), .ref (aM 5), .ref (aM 6), .ref (aM 7), .ref (aM 8), .int o31.2.1, .int o31.2.2.1, .int yMreadMany, .ref (aM 9), .ref (aM 10), .ref (aM 11), .int Mpairs, .ref (aM 12), .ref (aM 13), .int Mcaught, .int Mreadings, .ref (aM 14), .ref (aM 15)])), ((aM 3), .inl (cyI, 240, .inl M_cells)), ((aM 9), .inl (cyI, 6, .inl o31.2.2.2)), ((aM 10), .inl (cyI, 12, .inl yM_read))]) [1, 2, 3, 0] rfl
            have hD := hD.sub (ws' := [((aM 0), .inr (4, [.int Mfault, .int Mtrace, .ref (aM 1), .ref (aM 2), .ref (aM 3), .int Mdeeds, .int Mpeople, .ref (aM 4), .ref (aM 5), .ref (aM 6), .ref (aM 7), .ref (aM 8), .int o31.2.1, .int o31.2.2.1, .int yMreadMany, .ref (aM 9), .ref (aM 10), .ref (aM 11), .int Mpairs, .ref (aM 12), .ref (aM 13), .int Mcaught, .int Mreadings, .ref (aM 14), .ref (aM 15)])), ((aM 3), .inl (cyI, 240, .inl M_cells)), ((aM 9), .inl (cyI, 6, .inl o31.2.2.2)), ((aM 10), .inl (cyI, 12, .inl yM_read))]) [1, 2, 3, 0] (by decide) rfl
            exact hret () H locs _ ls hP hD hS dX4_readTower_70 bz_0
  refine lv_aload_n hx hb dX4_readTower_0 rfl (lv_at hl 0 rfl) ?_
  refine lv_iconst (v := 0) hx hb dX4_readTower_1 (by decide) ?_
  refine va_put (D := (dC, dI)) (ci := 4) (v := .int 0) (ty := .int) (C := RX4) (T := TX4) (N := 25) hx hb hts hiX4 tyX4 tyX4_ok nmX4 hown hK hP hD hS 0 rfl rfl 13 (by decide) hf95 (fun _ h9 => h9) rfl (tyX4_ok 13 (by decide)) rfl rfl (Nat.le_of_ble_eq_true rfl) dX4_readTower_2 (fun H locs hP hD hS => ?_)
  have hP : va_P (dC, dI) vwCl [((aM 0), .inr (4, [.int Mfault, .int Mtrace, .ref (aM 1), .ref (aM 2), .ref (aM 3), .int Mdeeds, .int Mpeople, .ref (aM 4), .ref (aM 5), .ref (aM 6), .ref (aM 7), .ref (aM 8), .int Mat, .int 0, .int MreadMany, .ref (aM 9), .ref (aM 10), .ref (aM 11), .int Mpairs, .ref (aM 12), .ref (aM 13), .int Mcaught, .int Mreadings, .ref (aM 14), .ref (aM 15)])), ((aM 3), .inl (cyI, 240, .inl M_cells)), ((aM 9), .inl (cyI, 6, .inl M_readWeight)), ((aM 10), .inl (cyI, 12, .inl M_read))] H := hP
  have hD : va_D A [((aM 0), .inr (4, [.int Mfault, .int Mtrace, .ref (aM 1), .ref (aM 2), .ref (aM 3), .int Mdeeds, .int Mpeople, .ref (aM 4), .ref (aM 5), .ref (aM 6), .ref (aM 7), .ref (aM 8), .int Mat, .int 0, .int MreadMany, .ref (aM 9), .ref (aM 10), .ref (aM 11), .int Mpairs, .ref (aM 12), .ref (aM 13), .int Mcaught, .int Mreadings, .ref (aM 14), .ref (aM 15)])), ((aM 3), .inl (cyI, 240, .inl M_cells)), ((aM 9), .inl (cyI, 6, .inl M_readWeight)), ((aM 10), .inl (cyI, 12, .inl M_read))] := hD
  refine lv_aload_n hx hb dX4_readTower_5 rfl (lv_at hl 0 rfl) ?_
  refine lv_iconst (v := 0) hx hb dX4_readTower_6 (by decide) ?_
  refine va_put (D := (dC, dI)) (ci := 4) (v := .int 0) (ty := .int) (C := RX4) (T := TX4) (N := 25) hx hb hts hiX4 tyX4 tyX4_ok nmX4 hown hK hP hD hS 0 rfl rfl 14 (by decide) hf98 (fun _ h9 => h9) rfl (tyX4_ok 14 (by decide)) rfl rfl (Nat.le_of_ble_eq_true rfl) dX4_readTower_7 (fun H locs hP hD hS => ?_)
  have hP : va_P (dC, dI) vwCl [((aM 0), .inr (4, [.int Mfault, .int Mtrace, .ref (aM 1), .ref (aM 2), .ref (aM 3), .int Mdeeds, .int Mpeople, .ref (aM 4), .ref (aM 5), .ref (aM 6), .ref (aM 7), .ref (aM 8), .int Mat, .int 0, .int 0, .ref (aM 9), .ref (aM 10), .ref (aM 11), .int Mpairs, .ref (aM 12), .ref (aM 13), .int Mcaught, .int Mreadings, .ref (aM 14), .ref (aM 15)])), ((aM 3), .inl (cyI, 240, .inl M_cells)), ((aM 9), .inl (cyI, 6, .inl M_readWeight)), ((aM 10), .inl (cyI, 12, .inl M_read))] H := hP
  have hD : va_D A [((aM 0), .inr (4, [.int Mfault, .int Mtrace, .ref (aM 1), .ref (aM 2), .ref (aM 3), .int Mdeeds, .int Mpeople, .ref (aM 4), .ref (aM 5), .ref (aM 6), .ref (aM 7), .ref (aM 8), .int Mat, .int 0, .int 0, .ref (aM 9), .ref (aM 10), .ref (aM 11), .int Mpairs, .ref (aM 12), .ref (aM 13), .int Mcaught, .int Mreadings, .ref (aM 14), .ref (aM 15)])), ((aM 3), .inl (cyI, 240, .inl M_cells)), ((aM 9), .inl (cyI, 6, .inl M_readWeight)), ((aM 10), .inl (cyI, 12, .inl M_read))] := hD
  refine lv_aload_n hx hb dX4_readTower_10 rfl (lv_at hl 0 rfl) ?_
  refine lv_iload_n hx hb dX4_readTower_11 rfl (lv_at hl 1 rfl) ?_
  refine lv_bipush (v := 117) hx hb dX4_readTower_12 (by decide) ?_
  obtain ⟨o1, hc2, h⟩ := ob h
  refine k_vi (As := [.int p1, .int 117]) (rest := []) ⟨hx, hb, hml, hown, hts⟩ (c_X4_isSign l dC dI cyI cyO aM H.size Mfault Mtrace Mdeeds Mpeople Mat 0 0 Mpairs Mcaught Mreadings M_cells p1 117 hc2) (cwV 2 hts gX4_readTower_X4_isSign rfl rfl rfl (by decide +kernel) ⟨Nat.le_of_ble_eq_true rfl, Nat.le_of_ble_eq_true rfl⟩) hP hD hK hS hA [0, 1] [2, 3] rfl rfl (by decide) (by decide) (by decide) 4 0 rfl rfl rfl rfl hl.1 rfl (Nat.le_of_ble_eq_true rfl) dX4_readTower_14 ⟨Nat.zero_le _, Nat.zero_le _⟩ (fun _ H locs hP hD hS => ?_)
  have hP : va_P (dC, dI) vwCl [((aM 9), .inl (cyI, 6, .inl M_readWeight)), ((aM 10), .inl (cyI, 12, .inl M_read)), ((aM 0), .inr (4, [.int Mfault, .int Mtrace, .ref (aM 1), .ref (aM 2), .ref (aM 3), .int Mdeeds, .int Mpeople, .ref (aM 4), .ref (aM 5), .ref (aM 6), .ref (aM 7), .ref (aM 8), .int o1.2, .int 0, .int 0, .ref (aM 9), .ref (aM 10), .ref (aM 11), .int Mpairs, .ref (aM 12), .ref (aM 13), .int Mcaught, .int Mreadings, .ref (aM 14), .ref (aM 15)])), ((aM 3), .inl (cyI, 240, .inl M_cells))] H := hP
  have hD : va_D A [((aM 9), .inl (cyI, 6, .inl M_readWeight)), ((aM 10), .inl (cyI, 12, .inl M_read)), ((aM 0), .inr (4, [.int Mfault, .int Mtrace, .ref (aM 1), .ref (aM 2), .ref (aM 3), .int Mdeeds, .int Mpeople, .ref (aM 4), .ref (aM 5), .ref (aM 6), .ref (aM 7), .ref (aM 8), .int o1.2, .int 0, .int 0, .ref (aM 9), .ref (aM 10), .ref (aM 11), .int Mpairs, .ref (aM 12), .ref (aM 13), .int Mcaught, .int Mreadings, .ref (aM 14), .ref (aM 15)])), ((aM 3), .inl (cyI, 240, .inl M_cells))] := hD
  refine lv_if_ne (tgt := 22) hx hb dX4_readTower_17 (by decide) (fun c3 => ?_) (fun c3 => ?_)
  · replace h := it_f c3 h
    refine lv_aload_n hx hb dX4_readTower_22 rfl (lv_at hl 0 rfl) ?_
    refine lv_iload_n hx hb dX4_readTower_23 rfl (lv_at hl 1 rfl) ?_
    refine lv_bipush (v := 45) hx hb dX4_readTower_24 (by decide) ?_
    obtain ⟨o4, hc5, h⟩ := ob h
    refine k_vi (As := [.int p1, .int 45]) (rest := []) ⟨hx, hb, hml, hown, hts⟩ (c_X4_isSign l dC dI cyI cyO aM H.size Mfault Mtrace Mdeeds Mpeople o1.2 0 0 Mpairs Mcaught Mreadings M_cells p1 45 hc5) (cwV 2 hts gX4_readTower_X4_isSign rfl rfl rfl (by decide +kernel) ⟨Nat.le_of_ble_eq_true rfl, Nat.le_of_ble_eq_true rfl⟩) hP hD hK hS hA [2, 3] [0, 1] rfl rfl (by decide) (by decide) (by decide) 4 0 rfl rfl rfl rfl hl.1 rfl (Nat.le_of_ble_eq_true rfl) dX4_readTower_26 ⟨Nat.zero_le _, Nat.zero_le _⟩ (fun _ H locs hP hD hS => ?_)
    have hP : va_P (dC, dI) vwCl [((aM 9), .inl (cyI, 6, .inl M_readWeight)), ((aM 10), .inl (cyI, 12, .inl M_read)), ((aM 0), .inr (4, [.int Mfault, .int Mtrace, .ref (aM 1), .ref (aM 2), .ref (aM 3), .int Mdeeds, .int Mpeople, .ref (aM 4), .ref (aM 5), .ref (aM 6), .ref (aM 7), .ref (aM 8), .int o4.2, .int 0, .int 0, .ref (aM 9), .ref (aM 10), .ref (aM 11), .int Mpairs, .ref (aM 12), .ref (aM 13), .int Mcaught, .int Mreadings, .ref (aM 14), .ref (aM 15)])), ((aM 3), .inl (cyI, 240, .inl M_cells))] H := hP
    have hD : va_D A [((aM 9), .inl (cyI, 6, .inl M_readWeight)), ((aM 10), .inl (cyI, 12, .inl M_read)), ((aM 0), .inr (4, [.int Mfault, .int Mtrace, .ref (aM 1), .ref (aM 2), .ref (aM 3), .int Mdeeds, .int Mpeople, .ref (aM 4), .ref (aM 5), .ref (aM 6), .ref (aM 7), .ref (aM 8), .int o4.2, .int 0, .int 0, .ref (aM 9), .ref (aM 10), .ref (aM 11), .int Mpairs, .ref (aM 12), .ref (aM 13), .int Mcaught, .int Mreadings, .ref (aM 14), .ref (aM 15)])), ((aM 3), .inl (cyI, 240, .inl M_cells))] := hD
    refine lv_if_eq (tgt := 40) hx hb dX4_readTower_29 (by decide) (fun c6 => ?_) (fun c6 => ?_)
    · replace h := it_t c6 h
      refine lv_iconst (v := 0) hx hb dX4_readTower_40 (by decide) ?_
      replace h := Option.some.inj h; subst h
      have hP := hP.sub (ws' := [((aM 0), .inr (4, [.int Mfault, .int Mtrace, .ref (aM 1), .ref (aM 2), .ref (aM 3), .int Mdeeds, .int Mpeople, .ref (aM 4), .ref (aM 5), .ref (aM 6), .ref (aM 7), .ref (aM 8), .int o4.2, .int 0, .int 0, .ref (aM 9), .ref (aM 10), .ref (aM 11), .int Mpairs, .ref (aM 12), .ref (aM 13), .int Mcaught, .int Mreadings, .ref (aM 14), .ref (aM 15)])), ((aM 3), .inl (cyI, 240, .inl M_cells)), ((aM 9), .inl (cyI, 6, .inl M_readWeight)), ((aM 10), .inl (cyI, 12, .inl M_read))]) [2, 3, 0, 1] rfl
      have hD := hD.sub (ws' := [((aM 0), .inr (4, [.int Mfault, .int Mtrace, .ref (aM 1), .ref (aM 2), .ref (aM 3), .int Mdeeds, .int Mpeople, .ref (aM 4), .ref (aM 5), .ref (aM 6), .ref (aM 7), .ref (aM 8), .int o4.2, .int 0, .int 0, .ref (aM 9), .ref (aM 10), .ref (aM 11), .int Mpairs, .ref (aM 12), .ref (aM 13), .int Mcaught, .int Mreadings, .ref (aM 14), .ref (aM 15)])), ((aM 3), .inl (cyI, 240, .inl M_cells)), ((aM 9), .inl (cyI, 6, .inl M_readWeight)), ((aM 10), .inl (cyI, 12, .inl M_read))]) [2, 3, 0, 1] (by decide) rfl
      exact hret () H locs _ ls hP hD hS dX4_readTower_41 bz_0
    · replace h := it_f c6 h
      refine lv_aload_n hx hb dX4_readTower_32 rfl (lv_at hl 0 rfl) ?_
      refine lv_iload_n hx hb dX4_readTower_33 rfl (lv_at hl 1 rfl) ?_
      obtain ⟨o7, hc8, h⟩ := ob h
      refine k_vi (As := [.int p1]) (rest := []) ⟨hx, hb, hml, hown, hts⟩ (c_X4_readDeed l dC dI cyI cyO aM H.size Mfault Mtrace Mdeeds Mpeople o4.2 0 0 Mpairs Mcaught Mreadings M_cells M_readWeight p1 hc8) (cwV 1 hts gX4_readTower_X4_readDeed rfl rfl rfl (by decide +kernel) ⟨Nat.le_of_ble_eq_true rfl, Nat.le_of_ble_eq_true rfl⟩) hP hD hK hS hA [2, 3, 0] [1] rfl rfl (by decide) (by decide) (by decide) 4 0 rfl rfl rfl rfl hl.1 rfl (Nat.le_of_ble_eq_true rfl) dX4_readTower_34 ⟨Nat.zero_le _, Nat.zero_le _⟩ (fun _ H locs hP hD hS => ?_)
      have hP : va_P (dC, dI) vwCl [((aM 10), .inl (cyI, 12, .inl M_read)), ((aM 0), .inr (4, [.int Mfault, .int Mtrace, .ref (aM 1), .ref (aM 2), .ref (aM 3), .int Mdeeds, .int Mpeople, .ref (aM 4), .ref (aM 5), .ref (aM 6), .ref (aM 7), .ref (aM 8), .int o7.2.1, .int o7.2.2.1, .int 0, .ref (aM 9), .ref (aM 10), .ref (aM 11), .int Mpairs, .ref (aM 12), .ref (aM 13), .int Mcaught, .int Mreadings, .ref (aM 14), .ref (aM 15)])), ((aM 3), .inl (cyI, 240, .inl M_cells)), ((aM 9), .inl (cyI, 6, .inl o7.2.2.2))] H := hP
      have hD : va_D A [((aM 10), .inl (cyI, 12, .inl M_read)), ((aM 0), .inr (4, [.int Mfault, .int Mtrace, .ref (aM 1), .ref (aM 2), .ref (aM 3), .int Mdeeds, .int Mpeople, .ref (aM 4), .ref (aM 5), .ref (aM 6), .ref (aM 7), .ref (aM 8), .int o7.2.1, .int o7.2.2.1, .int 0, .ref (aM 9), .ref (aM 10), .ref (aM 11), .int Mpairs, .ref (aM 12), .ref (aM 13), .int Mcaught, .int Mreadings, .ref (aM 14), .ref (aM 15)])), ((aM 3), .inl (cyI, 240, .inl M_cells)), ((aM 9), .inl (cyI, 6, .inl o7.2.2.2))] := hD
      refine lv_if_ne (tgt := 42) hx hb dX4_readTower_37 (by decide) (fun c9 => ?_) (fun c9 => ?_)
      · replace h := it_f c9 h
        have hP := hP.sub (ws' := [((aM 0), .inr (4, [.int Mfault, .int Mtrace, .ref (aM 1), .ref (aM 2), .ref (aM 3), .int Mdeeds, .int Mpeople, .ref (aM 4), .ref (aM 5), .ref (aM 6), .ref (aM 7), .ref (aM 8), .int o7.2.1, .int o7.2.2.1, .int 0, .ref (aM 9), .ref (aM 10), .ref (aM 11), .int Mpairs, .ref (aM 12), .ref (aM 13), .int Mcaught, .int Mreadings, .ref (aM 14), .ref (aM 15)])), ((aM 3), .inl (cyI, 240, .inl M_cells)), ((aM 9), .inl (cyI, 6, .inl o7.2.2.2)), ((aM 10), .inl (cyI, 12, .inl M_read))]) [1, 2, 3, 0] rfl
        have hD := hD.sub (ws' := [((aM 0), .inr (4, [.int Mfault, .int Mtrace, .ref (aM 1), .ref (aM 2), .ref (aM 3), .int Mdeeds, .int Mpeople, .ref (aM 4), .ref (aM 5), .ref (aM 6), .ref (aM 7), .ref (aM 8), .int o7.2.1, .int o7.2.2.1, .int 0, .ref (aM 9), .ref (aM 10), .ref (aM 11), .int Mpairs, .ref (aM 12), .ref (aM 13), .int Mcaught, .int Mreadings, .ref (aM 14), .ref (aM 15)])), ((aM 3), .inl (cyI, 240, .inl M_cells)), ((aM 9), .inl (cyI, 6, .inl o7.2.2.2)), ((aM 10), .inl (cyI, 12, .inl M_read))]) [1, 2, 3, 0] (by decide) rfl
        exact lp42 99 o7.2.1 o7.2.2.1 0 o7.2.2.2 M_read H locs ls h hP hD hS (lv_sub hl [0, 1] rfl)
      · replace h := it_t c9 h
        refine lv_iconst (v := 0) hx hb dX4_readTower_40 (by decide) ?_
        replace h := Option.some.inj h; subst h
        have hP := hP.sub (ws' := [((aM 0), .inr (4, [.int Mfault, .int Mtrace, .ref (aM 1), .ref (aM 2), .ref (aM 3), .int Mdeeds, .int Mpeople, .ref (aM 4), .ref (aM 5), .ref (aM 6), .ref (aM 7), .ref (aM 8), .int o7.2.1, .int o7.2.2.1, .int 0, .ref (aM 9), .ref (aM 10), .ref (aM 11), .int Mpairs, .ref (aM 12), .ref (aM 13), .int Mcaught, .int Mreadings, .ref (aM 14), .ref (aM 15)])), ((aM 3), .inl (cyI, 240, .inl M_cells)), ((aM 9), .inl (cyI, 6, .inl o7.2.2.2)), ((aM 10), .inl (cyI, 12, .inl M_read))]) [1, 2, 3, 0] rfl
        have hD := hD.sub (ws' := [((aM 0), .inr (4, [.int Mfault, .int Mtrace, .ref (aM 1), .ref (aM 2), .ref (aM 3), .int Mdeeds, .int Mpeople, .ref (aM 4), .ref (aM 5), .ref (aM 6), .ref (aM 7), .ref (aM 8), .int o7.2.1, .int o7.2.2.1, .int 0, .ref (aM 9), .ref (aM 10), .ref (aM 11), .int Mpairs, .ref (aM 12), .ref (aM 13), .int Mcaught, .int Mreadings, .ref (aM 14), .ref (aM 15)])), ((aM 3), .inl (cyI, 240, .inl M_cells)), ((aM 9), .inl (cyI, 6, .inl o7.2.2.2)), ((aM 10), .inl (cyI, 12, .inl M_read))]) [1, 2, 3, 0] (by decide) rfl
        exact hret () H locs _ ls hP hD hS dX4_readTower_41 bz_0
  · replace h := it_t c3 h
    refine lv_iconst (v := 0) hx hb dX4_readTower_20 (by decide) ?_
    replace h := Option.some.inj h; subst h
    have hP := hP.sub (ws' := [((aM 0), .inr (4, [.int Mfault, .int Mtrace, .ref (aM 1), .ref (aM 2), .ref (aM 3), .int Mdeeds, .int Mpeople, .ref (aM 4), .ref (aM 5), .ref (aM 6), .ref (aM 7), .ref (aM 8), .int o1.2, .int 0, .int 0, .ref (aM 9), .ref (aM 10), .ref (aM 11), .int Mpairs, .ref (aM 12), .ref (aM 13), .int Mcaught, .int Mreadings, .ref (aM 14), .ref (aM 15)])), ((aM 3), .inl (cyI, 240, .inl M_cells)), ((aM 9), .inl (cyI, 6, .inl M_readWeight)), ((aM 10), .inl (cyI, 12, .inl M_read))]) [2, 3, 0, 1] rfl
    have hD := hD.sub (ws' := [((aM 0), .inr (4, [.int Mfault, .int Mtrace, .ref (aM 1), .ref (aM 2), .ref (aM 3), .int Mdeeds, .int Mpeople, .ref (aM 4), .ref (aM 5), .ref (aM 6), .ref (aM 7), .ref (aM 8), .int o1.2, .int 0, .int 0, .ref (aM 9), .ref (aM 10), .ref (aM 11), .int Mpairs, .ref (aM 12), .ref (aM 13), .int Mcaught, .int Mreadings, .ref (aM 14), .ref (aM 15)])), ((aM 3), .inl (cyI, 240, .inl M_cells)), ((aM 9), .inl (cyI, 6, .inl M_readWeight)), ((aM 10), .inl (cyI, 12, .inl M_read))]) [2, 3, 0, 1] (by decide) rfl
    exact hret () H locs _ ls hP hD hS dX4_readTower_21 bz_0
set_option maxHeartbeats 4000000 in
set_option maxRecDepth 100000 in
theorem c_X4_takeTower (l : Launch) (dC : Nat → ClassId) (dI : Nat → Nat → Nat) (cyI cyO : ClassId) (aM : Nat → Nat) (sz : Nat) (Mfault : Int32) (Mtrace : Int32) (Mdeeds : Int32) (Mpeople : Int32) (Mat : Int32) (MreadDeeds : Int32) (MreadMany : Int32) (Mpairs : Int32) (Mcaught : Int32) (Mreadings : Int32) (M_weightOf : Nat → Int32) (M_kind : Nat → Int32) (M_done : Nat → Int32) (M_knows : Nat → Int32) (M_told : Nat → Int32) (M_readWeight : Nat → Int32) (M_read : Nat → Int32)  {o : Int32 × Int32 × Int32 × (Nat → Int32) × (Nat → Int32) × (Nat → Int32) × (Nat → Int32) × (Nat → Int32)}  (h : f_X4_takeTower Mdeeds Mpeople MreadDeeds MreadMany Mreadings M_weightOf M_kind M_done M_knows M_told M_readWeight M_read = some o) : CtV l yX4_takeTower wsX4_takeTower { frames := 0, cells := 0, slots := 0, locals := 0 } (dC, dI) [(cyI, .int), (cyO, .object RX0)] [.ref (aM 0)] sz [((aM 0), .inr (4, [.int Mfault, .int Mtrace, .ref (aM 1), .ref (aM 2), .ref (aM 3), .int Mdeeds, .int Mpeople, .ref (aM 4), .ref (aM 5), .ref (aM 6), .ref (aM 7), .ref (aM 8), .int Mat, .int MreadDeeds, .int MreadMany, .ref (aM 9), .ref (aM 10), .ref (aM 11), .int Mpairs, .ref (aM 12), .ref (aM 13), .int Mcaught, .int Mreadings, .ref (aM 14), .ref (aM 15)])), ((aM 4), .inl (cyI, 6, .inl M_weightOf)), ((aM 5), .inl (cyI, 4, .inl M_kind)), ((aM 6), .inl (cyI, 4, .inl M_done)), ((aM 7), .inl (cyI, 4, .inl M_knows)), ((aM 8), .inl (cyI, 4, .inl M_told)), ((aM 9), .inl (cyI, 6, .inl M_readWeight)), ((aM 10), .inl (cyI, 12, .inl M_read))] (fun (_ : Unit) => [((aM 0), .inr (4, [.int Mfault, .int Mtrace, .ref (aM 1), .ref (aM 2), .ref (aM 3), .int o.1, .int o.2.1, .ref (aM 4), .ref (aM 5), .ref (aM 6), .ref (aM 7), .ref (aM 8), .int Mat, .int MreadDeeds, .int MreadMany, .ref (aM 9), .ref (aM 10), .ref (aM 11), .int Mpairs, .ref (aM 12), .ref (aM 13), .int Mcaught, .int o.2.2.1, .ref (aM 14), .ref (aM 15)])), ((aM 4), .inl (cyI, 6, .inl o.2.2.2.1)), ((aM 5), .inl (cyI, 4, .inl o.2.2.2.2.1)), ((aM 6), .inl (cyI, 4, .inl o.2.2.2.2.2.1)), ((aM 7), .inl (cyI, 4, .inl o.2.2.2.2.2.2.1)), ((aM 8), .inl (cyI, 4, .inl o.2.2.2.2.2.2.2)), ((aM 9), .inl (cyI, 6, .inl M_readWeight)), ((aM 10), .inl (cyI, 12, .inl M_read))]) := by
  refine CtV.of (cc := cX4_takeTower) (maxL := 2) (by decide) rfl (Nat.le_of_ble_eq_true rfl) ?_
  intro p e s m args below meth c A Q H locs hx hb hml hown hts hA hK hP hD hS hret ls hl
  have hown : s.vm.findClass RX4 = some m.cls := hown
  have hl : lv_has ls 2 [(0, .ref (aM 0))] := hl
  unfold f_X4_takeTower at h
  have hiX4 : ∀ w ∈ u_ws RX4 TX4 25, w ∈ wsX4_takeTower := by decide +kernel
  have hf19 := hts (.fieldLink RX4 19 "TowerTellModel" "weightOf" "[I") (by decide +kernel)
  have hf22 := hts (.fieldLink RX4 22 "TowerTellModel" "kind" "[I") (by decide +kernel)
  have hf25 := hts (.fieldLink RX4 25 "TowerTellModel" "done" "[I") (by decide +kernel)
  have hf28 := hts (.fieldLink RX4 28 "TowerTellModel" "knows" "[I") (by decide +kernel)
  have hf31 := hts (.fieldLink RX4 31 "TowerTellModel" "told" "[I") (by decide +kernel)
  have hf34 := hts (.fieldLink RX4 34 "TowerTellModel" "readWeight" "[I") (by decide +kernel)
  have hf37 := hts (.fieldLink RX4 37 "TowerTellModel" "read" "[I") (by decide +kernel)
  have hf65 := hts (.fieldLink RX4 65 "TowerTellModel" "deeds" "I") (by decide +kernel)
  have hf68 := hts (.fieldLink RX4 68 "TowerTellModel" "people" "I") (by decide +kernel)
  have hf95 := hts (.fieldLink RX4 95 "TowerTellModel" "readDeeds" "I") (by decide +kernel)
  have hf98 := hts (.fieldLink RX4 98 "TowerTellModel" "readMany" "I") (by decide +kernel)
  have hf101 := hts (.fieldLink RX4 101 "TowerTellModel" "readings" "I") (by decide +kernel)
  have lp46 : ∀ (n : Nat) (x1 : Int32) (yMdeeds : Int32) (yMpeople : Int32) (yMreadings : Int32) (yM_weightOf : Nat → Int32) (yM_kind : Nat → Int32) (yM_done : Nat → Int32) (yM_knows : Nat → Int32) (yM_told : Nat → Int32) (H : Heap) (locs : List Loc) (ls : Array Slot), l_X4_takeTower_46 MreadDeeds MreadMany M_readWeight M_read n (x1, yMdeeds, yMpeople, yMreadings, yM_weightOf, yM_kind, yM_done, yM_knows, yM_told) = some o → va_P (dC, dI) vwCl [((aM 0), .inr (4, [.int Mfault, .int Mtrace, .ref (aM 1), .ref (aM 2), .ref (aM 3), .int yMdeeds, .int yMpeople, .ref (aM 4), .ref (aM 5), .ref (aM 6), .ref (aM 7), .ref (aM 8), .int Mat, .int MreadDeeds, .int MreadMany, .ref (aM 9), .ref (aM 10), .ref (aM 11), .int Mpairs, .ref (aM 12), .ref (aM 13), .int Mcaught, .int yMreadings, .ref (aM 14), .ref (aM 15)])), ((aM 4), .inl (cyI, 6, .inl yM_weightOf)), ((aM 5), .inl (cyI, 4, .inl yM_kind)), ((aM 6), .inl (cyI, 4, .inl yM_done)), ((aM 7), .inl (cyI, 4, .inl yM_knows)), ((aM 8), .inl (cyI, 4, .inl yM_told)), ((aM 9), .inl (cyI, 6, .inl M_readWeight)), ((aM 10), .inl (cyI, 12, .inl M_read))] H → va_D A [((aM 0), .inr (4, [.int Mfault, .int Mtrace, .ref (aM 1), .ref (aM 2), .ref (aM 3), .int yMdeeds, .int yMpeople, .ref (aM 4), .ref (aM 5), .ref (aM 6), .ref (aM 7), .ref (aM 8), .int Mat, .int MreadDeeds, .int MreadMany, .ref (aM 9), .ref (aM 10), .ref (aM 11), .int Mpairs, .ref (aM 12), .ref (aM 13), .int Mcaught, .int yMreadings, .ref (aM 14), .ref (aM 15)])), ((aM 4), .inl (cyI, 6, .inl yM_weightOf)), ((aM 5), .inl (cyI, 4, .inl yM_kind)), ((aM 6), .inl (cyI, 4, .inl yM_done)), ((aM 7), .inl (cyI, 4, .inl yM_knows)), ((aM 8), .inl (cyI, 4, .inl yM_told)), ((aM 9), .inl (cyI, 6, .inl M_readWeight)), ((aM 10), .inl (cyI, 12, .inl M_read))] → va_S A s.heap H locs → lv_has ls 2 [(0, .ref (aM 0)), (1, .int x1)] → W p l e { frames := 0, cells := 0, slots := 0, locals := 0 } s m args below meth c H locs 0 0 Q (F0 m 46 ls []) := by
    intro n
    induction n with
    | zero => intro _ _ _ _ _ _ _ _ _ H locs ls h _ _ _ _; exact (lpF_0 h).elim
    | succ n ih =>
      intro x1 yMdeeds yMpeople yMreadings yM_weightOf yM_kind yM_done yM_knows yM_told H locs ls h hP hD hS hl
      replace h : b_X4_takeTower_46 MreadDeeds MreadMany M_readWeight M_read (l_X4_takeTower_46 MreadDeeds MreadMany M_readWeight M_read n) x1 yMdeeds yMpeople yMreadings yM_weightOf yM_kind yM_done yM_knows yM_told = some o := h
      unfold b_X4_takeTower_46 at h
      refine lv_iload_n hx hb dX4_takeTower_46 rfl (lv_at hl 1 rfl) ?_
      refine lv_aload_n hx hb dX4_takeTower_47 rfl (lv_at hl 0 rfl) ?_
      refine va_get (D := (dC, dI)) (ci := 4) (v := .int yMpeople) (C := RX4) (T := TX4) (N := 25) hx hb hts hiX4 hown hK hP 0 rfl rfl 6 (by decide) hf68 (fun _ h9 => h9) rfl dX4_takeTower_48 ?_
      refine lv_icmp_ge (tgt := 122) hx hb dX4_takeTower_51 (by decide) (fun c2 => ?_) (fun c2 => ?_)
      · replace h := it_t c2 h
        refine lv_aload_n hx hb dX4_takeTower_122 rfl (lv_at hl 0 rfl) ?_
        refine lv_iconst (v := 0) hx hb dX4_takeTower_123 (by decide) ?_
        refine va_put (D := (dC, dI)) (ci := 4) (v := .int 0) (ty := .int) (C := RX4) (T := TX4) (N := 25) hx hb hts hiX4 tyX4 tyX4_ok nmX4 hown hK hP hD hS 0 rfl rfl 22 (by decide) hf101 (fun _ h9 => h9) rfl (tyX4_ok 22 (by decide)) rfl rfl (Nat.le_of_ble_eq_true rfl) dX4_takeTower_124 (fun H locs hP hD hS => ?_)
        have hP : va_P (dC, dI) vwCl [((aM 0), .inr (4, [.int Mfault, .int Mtrace, .ref (aM 1), .ref (aM 2), .ref (aM 3), .int yMdeeds, .int yMpeople, .ref (aM 4), .ref (aM 5), .ref (aM 6), .ref (aM 7), .ref (aM 8), .int Mat, .int MreadDeeds, .int MreadMany, .ref (aM 9), .ref (aM 10), .ref (aM 11), .int Mpairs, .ref (aM 12), .ref (aM 13), .int Mcaught, .int 0, .ref (aM 14), .ref (aM 15)])), ((aM 4), .inl (cyI, 6, .inl yM_weightOf)), ((aM 5), .inl (cyI, 4, .inl yM_kind)), ((aM 6), .inl (cyI, 4, .inl yM_done)), ((aM 7), .inl (cyI, 4, .inl yM_knows)), ((aM 8), .inl (cyI, 4, .inl yM_told)), ((aM 9), .inl (cyI, 6, .inl M_readWeight)), ((aM 10), .inl (cyI, 12, .inl M_read))] H := hP
        have hD : va_D A [((aM 0), .inr (4, [.int Mfault, .int Mtrace, .ref (aM 1), .ref (aM 2), .ref (aM 3), .int yMdeeds, .int yMpeople, .ref (aM 4), .ref (aM 5), .ref (aM 6), .ref (aM 7), .ref (aM 8), .int Mat, .int MreadDeeds, .int MreadMany, .ref (aM 9), .ref (aM 10), .ref (aM 11), .int Mpairs, .ref (aM 12), .ref (aM 13), .int Mcaught, .int 0, .ref (aM 14), .ref (aM 15)])), ((aM 4), .inl (cyI, 6, .inl yM_weightOf)), ((aM 5), .inl (cyI, 4, .inl yM_kind)), ((aM 6), .inl (cyI, 4, .inl yM_done)), ((aM 7), .inl (cyI, 4, .inl yM_knows)), ((aM 8), .inl (cyI, 4, .inl yM_told)), ((aM 9), .inl (cyI, 6, .inl M_readWeight)), ((aM 10), .inl (cyI, 12, .inl M_read))] := hD
        replace h := Option.some.inj h; subst h
        exact hret () H locs _ ls hP hD hS dX4_takeTower_127
      · replace h := it_f c2 h
        refine lv_aload_n hx hb dX4_takeTower_54 rfl (lv_at hl 0 rfl) ?_
        refine va_get (D := (dC, dI)) (ci := 4) (v := .ref (aM 5)) (C := RX4) (T := TX4) (N := 25) hx hb hts hiX4 hown hK hP 0 rfl rfl 8 (by decide) hf22 (fun _ h9 => h9) rfl dX4_takeTower_55 ?_
        refine lv_iload_n hx hb dX4_takeTower_58 rfl (lv_at hl 1 rfl) ?_
        refine lv_aload_n hx hb dX4_takeTower_59 rfl (lv_at hl 0 rfl) ?_
        refine va_get (D := (dC, dI)) (ci := 4) (v := .ref (aM 10)) (C := RX4) (T := TX4) (N := 25) hx hb hts hiX4 hown hK hP 0 rfl rfl 16 (by decide) hf37 (fun _ h9 => h9) rfl dX4_takeTower_60 ?_
        refine lv_iconst (v := 3) hx hb dX4_takeTower_63 (by decide) ?_
        refine lv_iload_n hx hb dX4_takeTower_64 rfl (lv_at hl 1 rfl) ?_
        refine lv_imul hx hb dX4_takeTower_65 ?_
        obtain ⟨e3, h⟩ := it_n h
        refine va_iald hx hb hK hP 7 0 rfl rfl (ix_in e3) dX4_takeTower_66 ?_
        obtain ⟨e4, h⟩ := it_n h
        refine va_iast hx hb hK hP hD hS 2 0 rfl rfl (ix_in e4) dX4_takeTower_67 (fun H locs hP hD hS => ?_)
        have hP : va_P (dC, dI) vwCl [((aM 0), .inr (4, [.int Mfault, .int Mtrace, .ref (aM 1), .ref (aM 2), .ref (aM 3), .int yMdeeds, .int yMpeople, .ref (aM 4), .ref (aM 5), .ref (aM 6), .ref (aM 7), .ref (aM 8), .int Mat, .int MreadDeeds, .int MreadMany, .ref (aM 9), .ref (aM 10), .ref (aM 11), .int Mpairs, .ref (aM 12), .ref (aM 13), .int Mcaught, .int yMreadings, .ref (aM 14), .ref (aM 15)])), ((aM 4), .inl (cyI, 6, .inl yM_weightOf)), ((aM 5), .inl (cyI, 4, .inl (upd yM_kind x1.toNatClampNeg (M_read (3 * x1).toNatClampNeg)))), ((aM 6), .inl (cyI, 4, .inl yM_done)), ((aM 7), .inl (cyI, 4, .inl yM_knows)), ((aM 8), .inl (cyI, 4, .inl yM_told)), ((aM 9), .inl (cyI, 6, .inl M_readWeight)), ((aM 10), .inl (cyI, 12, .inl M_read))] H := hP
        have hD : va_D A [((aM 0), .inr (4, [.int Mfault, .int Mtrace, .ref (aM 1), .ref (aM 2), .ref (aM 3), .int yMdeeds, .int yMpeople, .ref (aM 4), .ref (aM 5), .ref (aM 6), .ref (aM 7), .ref (aM 8), .int Mat, .int MreadDeeds, .int MreadMany, .ref (aM 9), .ref (aM 10), .ref (aM 11), .int Mpairs, .ref (aM 12), .ref (aM 13), .int Mcaught, .int yMreadings, .ref (aM 14), .ref (aM 15)])), ((aM 4), .inl (cyI, 6, .inl yM_weightOf)), ((aM 5), .inl (cyI, 4, .inl (upd yM_kind x1.toNatClampNeg (M_read (3 * x1).toNatClampNeg)))), ((aM 6), .inl (cyI, 4, .inl yM_done)), ((aM 7), .inl (cyI, 4, .inl yM_knows)), ((aM 8), .inl (cyI, 4, .inl yM_told)), ((aM 9), .inl (cyI, 6, .inl M_readWeight)), ((aM 10), .inl (cyI, 12, .inl M_read))] := hD
        refine lv_aload_n hx hb dX4_takeTower_68 rfl (lv_at hl 0 rfl) ?_
        refine va_get (D := (dC, dI)) (ci := 4) (v := .ref (aM 6)) (C := RX4) (T := TX4) (N := 25) hx hb hts hiX4 hown hK hP 0 rfl rfl 9 (by decide) hf25 (fun _ h9 => h9) rfl dX4_takeTower_69 ?_
        refine lv_iload_n hx hb dX4_takeTower_72 rfl (lv_at hl 1 rfl) ?_
        refine lv_aload_n hx hb dX4_takeTower_73 rfl (lv_at hl 0 rfl) ?_
        refine va_get (D := (dC, dI)) (ci := 4) (v := .ref (aM 10)) (C := RX4) (T := TX4) (N := 25) hx hb hts hiX4 hown hK hP 0 rfl rfl 16 (by decide) hf37 (fun _ h9 => h9) rfl dX4_takeTower_74 ?_
        refine lv_iconst (v := 3) hx hb dX4_takeTower_77 (by decide) ?_
        refine lv_iload_n hx hb dX4_takeTower_78 rfl (lv_at hl 1 rfl) ?_
        refine lv_imul hx hb dX4_takeTower_79 ?_
        refine lv_iconst (v := 1) hx hb dX4_takeTower_80 (by decide) ?_
        refine lv_iadd hx hb dX4_takeTower_81 ?_
        obtain ⟨e5, h⟩ := it_n h
        refine va_iald hx hb hK hP 7 0 rfl rfl (ix_in e5) dX4_takeTower_82 ?_
        refine lv_iconst (v := 1) hx hb dX4_takeTower_83 (by decide) ?_
        refine lv_aload_n hx hb dX4_takeTower_84 rfl (lv_at hl 0 rfl) ?_
        refine va_get (D := (dC, dI)) (ci := 4) (v := .int yMdeeds) (C := RX4) (T := TX4) (N := 25) hx hb hts hiX4 hown hK hP 0 rfl rfl 5 (by decide) hf65 (fun _ h9 => h9) rfl dX4_takeTower_85 ?_
        refine lv_ishl hx hb dX4_takeTower_88 ?_
        refine lv_iconst (v := 1) hx hb dX4_takeTower_89 (by decide) ?_
        refine lv_isub hx hb dX4_takeTower_90 ?_
        refine lv_iand hx hb dX4_takeTower_91 ?_
        obtain ⟨e6, h⟩ := it_n h
        refine va_iast hx hb hK hP hD hS 3 0 rfl rfl (ix_in e6) dX4_takeTower_92 (fun H locs hP hD hS => ?_)
        have hP : va_P (dC, dI) vwCl [((aM 0), .inr (4, [.int Mfault, .int Mtrace, .ref (aM 1), .ref (aM 2), .ref (aM 3), .int yMdeeds, .int yMpeople, .ref (aM 4), .ref (aM 5), .ref (aM 6), .ref (aM 7), .ref (aM 8), .int Mat, .int MreadDeeds, .int MreadMany, .ref (aM 9), .ref (aM 10), .ref (aM 11), .int Mpairs, .ref (aM 12), .ref (aM 13), .int Mcaught, .int yMreadings, .ref (aM 14), .ref (aM 15)])), ((aM 4), .inl (cyI, 6, .inl yM_weightOf)), ((aM 5), .inl (cyI, 4, .inl (upd yM_kind x1.toNatClampNeg (M_read (3 * x1).toNatClampNeg)))), ((aM 6), .inl (cyI, 4, .inl (upd yM_done x1.toNatClampNeg ((M_read ((3 * x1) + 1).toNatClampNeg) &&& ((1 <<< (yMdeeds &&& 31)) - 1))))), ((aM 7), .inl (cyI, 4, .inl yM_knows)), ((aM 8), .inl (cyI, 4, .inl yM_told)), ((aM 9), .inl (cyI, 6, .inl M_readWeight)), ((aM 10), .inl (cyI, 12, .inl M_read))] H := hP
        have hD : va_D A [((aM 0), .inr (4, [.int Mfault, .int Mtrace, .ref (aM 1), .ref (aM 2), .ref (aM 3), .int yMdeeds, .int yMpeople, .ref (aM 4), .ref (aM 5), .ref (aM 6), .ref (aM 7), .ref (aM 8), .int Mat, .int MreadDeeds, .int MreadMany, .ref (aM 9), .ref (aM 10), .ref (aM 11), .int Mpairs, .ref (aM 12), .ref (aM 13), .int Mcaught, .int yMreadings, .ref (aM 14), .ref (aM 15)])), ((aM 4), .inl (cyI, 6, .inl yM_weightOf)), ((aM 5), .inl (cyI, 4, .inl (upd yM_kind x1.toNatClampNeg (M_read (3 * x1).toNatClampNeg)))), ((aM 6), .inl (cyI, 4, .inl (upd yM_done x1.toNatClampNeg ((M_read ((3 * x1) + 1).toNatClampNeg) &&& ((1 <<< (yMdeeds &&& 31)) - 1))))), ((aM 7), .inl (cyI, 4, .inl yM_knows)), ((aM 8), .inl (cyI, 4, .inl yM_told)), ((aM 9), .inl (cyI, 6, .inl M_readWeight)), ((aM 10), .inl (cyI, 12, .inl M_read))] := hD
        refine lv_aload_n hx hb dX4_takeTower_93 rfl (lv_at hl 0 rfl) ?_
        refine va_get (D := (dC, dI)) (ci := 4) (v := .ref (aM 7)) (C := RX4) (T := TX4) (N := 25) hx hb hts hiX4 hown hK hP 0 rfl rfl 10 (by decide) hf28 (fun _ h9 => h9) rfl dX4_takeTower_94 ?_
        refine lv_iload_n hx hb dX4_takeTower_97 rfl (lv_at hl 1 rfl) ?_
        refine lv_aload_n hx hb dX4_takeTower_98 rfl (lv_at hl 0 rfl) ?_
        refine va_get (D := (dC, dI)) (ci := 4) (v := .ref (aM 10)) (C := RX4) (T := TX4) (N := 25) hx hb hts hiX4 hown hK hP 0 rfl rfl 16 (by decide) hf37 (fun _ h9 => h9) rfl dX4_takeTower_99 ?_
        refine lv_iconst (v := 3) hx hb dX4_takeTower_102 (by decide) ?_
        refine lv_iload_n hx hb dX4_takeTower_103 rfl (lv_at hl 1 rfl) ?_
        refine lv_imul hx hb dX4_takeTower_104 ?_
        refine lv_iconst (v := 2) hx hb dX4_takeTower_105 (by decide) ?_
        refine lv_iadd hx hb dX4_takeTower_106 ?_
        obtain ⟨e7, h⟩ := it_n h
        refine va_iald hx hb hK hP 7 0 rfl rfl (ix_in e7) dX4_takeTower_107 ?_
        obtain ⟨e8, h⟩ := it_n h
        refine va_iast hx hb hK hP hD hS 4 0 rfl rfl (ix_in e8) dX4_takeTower_108 (fun H locs hP hD hS => ?_)
        have hP : va_P (dC, dI) vwCl [((aM 0), .inr (4, [.int Mfault, .int Mtrace, .ref (aM 1), .ref (aM 2), .ref (aM 3), .int yMdeeds, .int yMpeople, .ref (aM 4), .ref (aM 5), .ref (aM 6), .ref (aM 7), .ref (aM 8), .int Mat, .int MreadDeeds, .int MreadMany, .ref (aM 9), .ref (aM 10), .ref (aM 11), .int Mpairs, .ref (aM 12), .ref (aM 13), .int Mcaught, .int yMreadings, .ref (aM 14), .ref (aM 15)])), ((aM 4), .inl (cyI, 6, .inl yM_weightOf)), ((aM 5), .inl (cyI, 4, .inl (upd yM_kind x1.toNatClampNeg (M_read (3 * x1).toNatClampNeg)))), ((aM 6), .inl (cyI, 4, .inl (upd yM_done x1.toNatClampNeg ((M_read ((3 * x1) + 1).toNatClampNeg) &&& ((1 <<< (yMdeeds &&& 31)) - 1))))), ((aM 7), .inl (cyI, 4, .inl (upd yM_knows x1.toNatClampNeg (M_read ((3 * x1) + 2).toNatClampNeg)))), ((aM 8), .inl (cyI, 4, .inl yM_told)), ((aM 9), .inl (cyI, 6, .inl M_readWeight)), ((aM 10), .inl (cyI, 12, .inl M_read))] H := hP
        have hD : va_D A [((aM 0), .inr (4, [.int Mfault, .int Mtrace, .ref (aM 1), .ref (aM 2), .ref (aM 3), .int yMdeeds, .int yMpeople, .ref (aM 4), .ref (aM 5), .ref (aM 6), .ref (aM 7), .ref (aM 8), .int Mat, .int MreadDeeds, .int MreadMany, .ref (aM 9), .ref (aM 10), .ref (aM 11), .int Mpairs, .ref (aM 12), .ref (aM 13), .int Mcaught, .int yMreadings, .ref (aM 14), .ref (aM 15)])), ((aM 4), .inl (cyI, 6, .inl yM_weightOf)), ((aM 5), .inl (cyI, 4, .inl (upd yM_kind x1.toNatClampNeg (M_read (3 * x1).toNatClampNeg)))), ((aM 6), .inl (cyI, 4, .inl (upd yM_done x1.toNatClampNeg ((M_read ((3 * x1) + 1).toNatClampNeg) &&& ((1 <<< (yMdeeds &&& 31)) - 1))))), ((aM 7), .inl (cyI, 4, .inl (upd yM_knows x1.toNatClampNeg (M_read ((3 * x1) + 2).toNatClampNeg)))), ((aM 8), .inl (cyI, 4, .inl yM_told)), ((aM 9), .inl (cyI, 6, .inl M_readWeight)), ((aM 10), .inl (cyI, 12, .inl M_read))] := hD
        refine lv_aload_n hx hb dX4_takeTower_109 rfl (lv_at hl 0 rfl) ?_
        refine va_get (D := (dC, dI)) (ci := 4) (v := .ref (aM 8)) (C := RX4) (T := TX4) (N := 25) hx hb hts hiX4 hown hK hP 0 rfl rfl 11 (by decide) hf31 (fun _ h9 => h9) rfl dX4_takeTower_110 ?_
        refine lv_iload_n hx hb dX4_takeTower_113 rfl (lv_at hl 1 rfl) ?_
        refine lv_iconst (v := 0) hx hb dX4_takeTower_114 (by decide) ?_
        obtain ⟨e9, h⟩ := it_n h
        refine va_iast hx hb hK hP hD hS 5 0 rfl rfl (ix_in e9) dX4_takeTower_115 (fun H locs hP hD hS => ?_)
        have hP : va_P (dC, dI) vwCl [((aM 0), .inr (4, [.int Mfault, .int Mtrace, .ref (aM 1), .ref (aM 2), .ref (aM 3), .int yMdeeds, .int yMpeople, .ref (aM 4), .ref (aM 5), .ref (aM 6), .ref (aM 7), .ref (aM 8), .int Mat, .int MreadDeeds, .int MreadMany, .ref (aM 9), .ref (aM 10), .ref (aM 11), .int Mpairs, .ref (aM 12), .ref (aM 13), .int Mcaught, .int yMreadings, .ref (aM 14), .ref (aM 15)])), ((aM 4), .inl (cyI, 6, .inl yM_weightOf)), ((aM 5), .inl (cyI, 4, .inl (upd yM_kind x1.toNatClampNeg (M_read (3 * x1).toNatClampNeg)))), ((aM 6), .inl (cyI, 4, .inl (upd yM_done x1.toNatClampNeg ((M_read ((3 * x1) + 1).toNatClampNeg) &&& ((1 <<< (yMdeeds &&& 31)) - 1))))), ((aM 7), .inl (cyI, 4, .inl (upd yM_knows x1.toNatClampNeg (M_read ((3 * x1) + 2).toNatClampNeg)))), ((aM 8), .inl (cyI, 4, .inl (upd yM_told x1.toNatClampNeg 0))), ((aM 9), .inl (cyI, 6, .inl M_readWeight)), ((aM 10), .inl (cyI, 12, .inl M_read))] H := hP
        have hD : va_D A [((aM 0), .inr (4, [.int Mfault, .int Mtrace, .ref (aM 1), .ref (aM 2), .ref (aM 3), .int yMdeeds, .int yMpeople, .ref (aM 4), .ref (aM 5), .ref (aM 6), .ref (aM 7), .ref (aM 8), .int Mat, .int MreadDeeds, .int MreadMany, .ref (aM 9), .ref (aM 10), .ref (aM 11), .int Mpairs, .ref (aM 12), .ref (aM 13), .int Mcaught, .int yMreadings, .ref (aM 14), .ref (aM 15)])), ((aM 4), .inl (cyI, 6, .inl yM_weightOf)), ((aM 5), .inl (cyI, 4, .inl (upd yM_kind x1.toNatClampNeg (M_read (3 * x1).toNatClampNeg)))), ((aM 6), .inl (cyI, 4, .inl (upd yM_done x1.toNatClampNeg ((M_read ((3 * x1) + 1).toNatClampNeg) &&& ((1 <<< (yMdeeds &&& 31)) - 1))))), ((aM 7), .inl (cyI, 4, .inl (upd yM_knows x1.toNatClampNeg (M_read ((3 * x1) + 2).toNatClampNeg)))), ((aM 8), .inl (cyI, 4, .inl (upd yM_told x1.toNatClampNeg 0))), ((aM 9), .inl (cyI, 6, .inl M_readWeight)), ((aM 10), .inl (cyI, 12, .inl M_read))] := hD
        refine lv_iinc (v := (x1 + 1)) (lv' := [(1, .int (x1 + 1)), (0, .ref (aM 0))]) hx hb dX4_takeTower_116 hl (k := 1) rfl rfl (by decide) rfl (fun ls hl => ?_)
        refine lv_goto (tgt := 46) hx hb dX4_takeTower_119 (by decide) ?_
        exact ih (x1 + 1) yMdeeds yMpeople yMreadings yM_weightOf (upd yM_kind x1.toNatClampNeg (M_read (3 * x1).toNatClampNeg)) (upd yM_done x1.toNatClampNeg ((M_read ((3 * x1) + 1).toNatClampNeg) &&& ((1 <<< (yMdeeds &&& 31)) - 1))) (upd yM_knows x1.toNatClampNeg (M_read ((3 * x1) + 2).toNatClampNeg)) (upd yM_told x1.toNatClampNeg 0) H locs ls h hP hD hS (lv_sub hl [1, 0] rfl)
  have lp10 : ∀ (n : Nat) (x1 : Int32) (yMdeeds : Int32) (yMpeople : Int32) (yMreadings : Int32) (yM_weightOf : Nat → Int32) (yM_kind : Nat → Int32) (yM_done : Nat → Int32) (yM_knows : Nat → Int32) (yM_told : Nat → Int32) (H : Heap) (locs : List Loc) (ls : Array Slot), l_X4_takeTower_10 MreadDeeds MreadMany M_readWeight M_read n (x1, yMdeeds, yMpeople, yMreadings, yM_weightOf, yM_kind, yM_done, yM_knows, yM_told) = some o → va_P (dC, dI) vwCl [((aM 0), .inr (4, [.int Mfault, .int Mtrace, .ref (aM 1), .ref (aM 2), .ref (aM 3), .int yMdeeds, .int yMpeople, .ref (aM 4), .ref (aM 5), .ref (aM 6), .ref (aM 7), .ref (aM 8), .int Mat, .int MreadDeeds, .int MreadMany, .ref (aM 9), .ref (aM 10), .ref (aM 11), .int Mpairs, .ref (aM 12), .ref (aM 13), .int Mcaught, .int yMreadings, .ref (aM 14), .ref (aM 15)])), ((aM 4), .inl (cyI, 6, .inl yM_weightOf)), ((aM 5), .inl (cyI, 4, .inl yM_kind)), ((aM 6), .inl (cyI, 4, .inl yM_done)), ((aM 7), .inl (cyI, 4, .inl yM_knows)), ((aM 8), .inl (cyI, 4, .inl yM_told)), ((aM 9), .inl (cyI, 6, .inl M_readWeight)), ((aM 10), .inl (cyI, 12, .inl M_read))] H → va_D A [((aM 0), .inr (4, [.int Mfault, .int Mtrace, .ref (aM 1), .ref (aM 2), .ref (aM 3), .int yMdeeds, .int yMpeople, .ref (aM 4), .ref (aM 5), .ref (aM 6), .ref (aM 7), .ref (aM 8), .int Mat, .int MreadDeeds, .int MreadMany, .ref (aM 9), .ref (aM 10), .ref (aM 11), .int Mpairs, .ref (aM 12), .ref (aM 13), .int Mcaught, .int yMreadings, .ref (aM 14), .ref (aM 15)])), ((aM 4), .inl (cyI, 6, .inl yM_weightOf)), ((aM 5), .inl (cyI, 4, .inl yM_kind)), ((aM 6), .inl (cyI, 4, .inl yM_done)), ((aM 7), .inl (cyI, 4, .inl yM_knows)), ((aM 8), .inl (cyI, 4, .inl yM_told)), ((aM 9), .inl (cyI, 6, .inl M_readWeight)), ((aM 10), .inl (cyI, 12, .inl M_read))] → va_S A s.heap H locs → lv_has ls 2 [(0, .ref (aM 0)), (1, .int x1)] → W p l e { frames := 0, cells := 0, slots := 0, locals := 0 } s m args below meth c H locs 0 0 Q (F0 m 10 ls []) := by
    intro n
    induction n with
    | zero => intro _ _ _ _ _ _ _ _ _ H locs ls h _ _ _ _; exact (lpF_0 h).elim
    | succ n ih =>
      intro x1 yMdeeds yMpeople yMreadings yM_weightOf yM_kind yM_done yM_knows yM_told H locs ls h hP hD hS hl
      replace h : b_X4_takeTower_10 MreadDeeds MreadMany M_readWeight M_read (l_X4_takeTower_10 MreadDeeds MreadMany M_readWeight M_read n) x1 yMdeeds yMpeople yMreadings yM_weightOf yM_kind yM_done yM_knows yM_told = some o := h
      unfold b_X4_takeTower_10 at h
      refine lv_iload_n hx hb dX4_takeTower_10 rfl (lv_at hl 1 rfl) ?_
      refine lv_aload_n hx hb dX4_takeTower_11 rfl (lv_at hl 0 rfl) ?_
      refine va_get (D := (dC, dI)) (ci := 4) (v := .int yMdeeds) (C := RX4) (T := TX4) (N := 25) hx hb hts hiX4 hown hK hP 0 rfl rfl 5 (by decide) hf65 (fun _ h9 => h9) rfl dX4_takeTower_12 ?_
      refine lv_icmp_ge (tgt := 36) hx hb dX4_takeTower_15 (by decide) (fun c1 => ?_) (fun c1 => ?_)
      · replace h := it_t c1 h
        refine lv_aload_n hx hb dX4_takeTower_36 rfl (lv_at hl 0 rfl) ?_
        refine lv_aload_n hx hb dX4_takeTower_37 rfl (lv_at hl 0 rfl) ?_
        refine va_get (D := (dC, dI)) (ci := 4) (v := .int MreadMany) (C := RX4) (T := TX4) (N := 25) hx hb hts hiX4 hown hK hP 0 rfl rfl 14 (by decide) hf98 (fun _ h9 => h9) rfl dX4_takeTower_38 ?_
        refine va_put (D := (dC, dI)) (ci := 4) (v := .int MreadMany) (ty := .int) (C := RX4) (T := TX4) (N := 25) hx hb hts hiX4 tyX4 tyX4_ok nmX4 hown hK hP hD hS 0 rfl rfl 6 (by decide) hf68 (fun _ h9 => h9) rfl (tyX4_ok 6 (by decide)) rfl rfl (Nat.le_of_ble_eq_true rfl) dX4_takeTower_41 (fun H locs hP hD hS => ?_)
        have hP : va_P (dC, dI) vwCl [((aM 0), .inr (4, [.int Mfault, .int Mtrace, .ref (aM 1), .ref (aM 2), .ref (aM 3), .int yMdeeds, .int MreadMany, .ref (aM 4), .ref (aM 5), .ref (aM 6), .ref (aM 7), .ref (aM 8), .int Mat, .int MreadDeeds, .int MreadMany, .ref (aM 9), .ref (aM 10), .ref (aM 11), .int Mpairs, .ref (aM 12), .ref (aM 13), .int Mcaught, .int yMreadings, .ref (aM 14), .ref (aM 15)])), ((aM 4), .inl (cyI, 6, .inl yM_weightOf)), ((aM 5), .inl (cyI, 4, .inl yM_kind)), ((aM 6), .inl (cyI, 4, .inl yM_done)), ((aM 7), .inl (cyI, 4, .inl yM_knows)), ((aM 8), .inl (cyI, 4, .inl yM_told)), ((aM 9), .inl (cyI, 6, .inl M_readWeight)), ((aM 10), .inl (cyI, 12, .inl M_read))] H := hP
        have hD : va_D A [((aM 0), .inr (4, [.int Mfault, .int Mtrace, .ref (aM 1), .ref (aM 2), .ref (aM 3), .int yMdeeds, .int MreadMany, .ref (aM 4), .ref (aM 5), .ref (aM 6), .ref (aM 7), .ref (aM 8), .int Mat, .int MreadDeeds, .int MreadMany, .ref (aM 9), .ref (aM 10), .ref (aM 11), .int Mpairs, .ref (aM 12), .ref (aM 13), .int Mcaught, .int yMreadings, .ref (aM 14), .ref (aM 15)])), ((aM 4), .inl (cyI, 6, .inl yM_weightOf)), ((aM 5), .inl (cyI, 4, .inl yM_kind)), ((aM 6), .inl (cyI, 4, .inl yM_done)), ((aM 7), .inl (cyI, 4, .inl yM_knows)), ((aM 8), .inl (cyI, 4, .inl yM_told)), ((aM 9), .inl (cyI, 6, .inl M_readWeight)), ((aM 10), .inl (cyI, 12, .inl M_read))] := hD
        refine lv_iconst (v := 0) hx hb dX4_takeTower_44 (by decide) ?_
        refine lv_istore_n (lv' := [(1, .int 0), (0, .ref (aM 0))]) hx hb dX4_takeTower_45 rfl hl (by decide) rfl (fun ls hl => ?_)
        exact lp46 99 0 yMdeeds MreadMany yMreadings yM_weightOf yM_kind yM_done yM_knows yM_told H locs ls h hP hD hS (lv_sub hl [1, 0] rfl)
      · replace h := it_f c1 h
        refine lv_aload_n hx hb dX4_takeTower_18 rfl (lv_at hl 0 rfl) ?_
        refine va_get (D := (dC, dI)) (ci := 4) (v := .ref (aM 4)) (C := RX4) (T := TX4) (N := 25) hx hb hts hiX4 hown hK hP 0 rfl rfl 7 (by decide) hf19 (fun _ h9 => h9) rfl dX4_takeTower_19 ?_
        refine lv_iload_n hx hb dX4_takeTower_22 rfl (lv_at hl 1 rfl) ?_
        refine lv_aload_n hx hb dX4_takeTower_23 rfl (lv_at hl 0 rfl) ?_
        refine va_get (D := (dC, dI)) (ci := 4) (v := .ref (aM 9)) (C := RX4) (T := TX4) (N := 25) hx hb hts hiX4 hown hK hP 0 rfl rfl 15 (by decide) hf34 (fun _ h9 => h9) rfl dX4_takeTower_24 ?_
        refine lv_iload_n hx hb dX4_takeTower_27 rfl (lv_at hl 1 rfl) ?_
        obtain ⟨e10, h⟩ := it_n h
        refine va_iald hx hb hK hP 6 0 rfl rfl (ix_in e10) dX4_takeTower_28 ?_
        obtain ⟨e11, h⟩ := it_n h
        refine va_iast hx hb hK hP hD hS 1 0 rfl rfl (ix_in e11) dX4_takeTower_29 (fun H locs hP hD hS => ?_)
        have hP : va_P (dC, dI) vwCl [((aM 0), .inr (4, [.int Mfault, .int Mtrace, .ref (aM 1), .ref (aM 2), .ref (aM 3), .int yMdeeds, .int yMpeople, .ref (aM 4), .ref (aM 5), .ref (aM 6), .ref (aM 7), .ref (aM 8), .int Mat, .int MreadDeeds, .int MreadMany, .ref (aM 9), .ref (aM 10), .ref (aM 11), .int Mpairs, .ref (aM 12), .ref (aM 13), .int Mcaught, .int yMreadings, .ref (aM 14), .ref (aM 15)])), ((aM 4), .inl (cyI, 6, .inl (upd yM_weightOf x1.toNatClampNeg (M_readWeight x1.toNatClampNeg)))), ((aM 5), .inl (cyI, 4, .inl yM_kind)), ((aM 6), .inl (cyI, 4, .inl yM_done)), ((aM 7), .inl (cyI, 4, .inl yM_knows)), ((aM 8), .inl (cyI, 4, .inl yM_told)), ((aM 9), .inl (cyI, 6, .inl M_readWeight)), ((aM 10), .inl (cyI, 12, .inl M_read))] H := hP
        have hD : va_D A [((aM 0), .inr (4, [.int Mfault, .int Mtrace, .ref (aM 1), .ref (aM 2), .ref (aM 3), .int yMdeeds, .int yMpeople, .ref (aM 4), .ref (aM 5), .ref (aM 6), .ref (aM 7), .ref (aM 8), .int Mat, .int MreadDeeds, .int MreadMany, .ref (aM 9), .ref (aM 10), .ref (aM 11), .int Mpairs, .ref (aM 12), .ref (aM 13), .int Mcaught, .int yMreadings, .ref (aM 14), .ref (aM 15)])), ((aM 4), .inl (cyI, 6, .inl (upd yM_weightOf x1.toNatClampNeg (M_readWeight x1.toNatClampNeg)))), ((aM 5), .inl (cyI, 4, .inl yM_kind)), ((aM 6), .inl (cyI, 4, .inl yM_done)), ((aM 7), .inl (cyI, 4, .inl yM_knows)), ((aM 8), .inl (cyI, 4, .inl yM_told)), ((aM 9), .inl (cyI, 6, .inl M_readWeight)), ((aM 10), .inl (cyI, 12, .inl M_read))] := hD
        refine lv_iinc (v := (x1 + 1)) (lv' := [(1, .int (x1 + 1)), (0, .ref (aM 0))]) hx hb dX4_takeTower_30 hl (k := 1) rfl rfl (by decide) rfl (fun ls hl => ?_)
        refine lv_goto (tgt := 10) hx hb dX4_takeTower_33 (by decide) ?_
        exact ih (x1 + 1) yMdeeds yMpeople yMreadings (upd yM_weightOf x1.toNatClampNeg (M_readWeight x1.toNatClampNeg)) yM_kind yM_done yM_knows yM_told H locs ls h hP hD hS (lv_sub hl [1, 0] rfl)
  refine lv_aload_n hx hb dX4_takeTower_0 rfl (lv_at hl 0 rfl) ?_
  refine lv_aload_n hx hb dX4_takeTower_1 rfl (lv_at hl 0 rfl) ?_
  refine va_get (D := (dC, dI)) (ci := 4) (v := .int MreadDeeds) (C := RX4) (T := TX4) (N := 25) hx hb hts hiX4 hown hK hP 0 rfl rfl 13 (by decide) hf95 (fun _ h9 => h9) rfl dX4_takeTower_2 ?_
  refine va_put (D := (dC, dI)) (ci := 4) (v := .int MreadDeeds) (ty := .int) (C := RX4) (T := TX4) (N := 25) hx hb hts hiX4 tyX4 tyX4_ok nmX4 hown hK hP hD hS 0 rfl rfl 5 (by decide) hf65 (fun _ h9 => h9) rfl (tyX4_ok 5 (by decide)) rfl rfl (Nat.le_of_ble_eq_true rfl) dX4_takeTower_5 (fun H locs hP hD hS => ?_)
  have hP : va_P (dC, dI) vwCl [((aM 0), .inr (4, [.int Mfault, .int Mtrace, .ref (aM 1), .ref (aM 2), .ref (aM 3), .int MreadDeeds, .int Mpeople, .ref (aM 4), .ref (aM 5), .ref (aM 6), .ref (aM 7), .ref (aM 8), .int Mat, .int MreadDeeds, .int MreadMany, .ref (aM 9), .ref (aM 10), .ref (aM 11), .int Mpairs, .ref (aM 12), .ref (aM 13), .int Mcaught, .int Mreadings, .ref (aM 14), .ref (aM 15)])), ((aM 4), .inl (cyI, 6, .inl M_weightOf)), ((aM 5), .inl (cyI, 4, .inl M_kind)), ((aM 6), .inl (cyI, 4, .inl M_done)), ((aM 7), .inl (cyI, 4, .inl M_knows)), ((aM 8), .inl (cyI, 4, .inl M_told)), ((aM 9), .inl (cyI, 6, .inl M_readWeight)), ((aM 10), .inl (cyI, 12, .inl M_read))] H := hP
  have hD : va_D A [((aM 0), .inr (4, [.int Mfault, .int Mtrace, .ref (aM 1), .ref (aM 2), .ref (aM 3), .int MreadDeeds, .int Mpeople, .ref (aM 4), .ref (aM 5), .ref (aM 6), .ref (aM 7), .ref (aM 8), .int Mat, .int MreadDeeds, .int MreadMany, .ref (aM 9), .ref (aM 10), .ref (aM 11), .int Mpairs, .ref (aM 12), .ref (aM 13), .int Mcaught, .int Mreadings, .ref (aM 14), .ref (aM 15)])), ((aM 4), .inl (cyI, 6, .inl M_weightOf)), ((aM 5), .inl (cyI, 4, .inl M_kind)), ((aM 6), .inl (cyI, 4, .inl M_done)), ((aM 7), .inl (cyI, 4, .inl M_knows)), ((aM 8), .inl (cyI, 4, .inl M_told)), ((aM 9), .inl (cyI, 6, .inl M_readWeight)), ((aM 10), .inl (cyI, 12, .inl M_read))] := hD
  refine lv_iconst (v := 0) hx hb dX4_takeTower_8 (by decide) ?_
  refine lv_istore_n (lv' := [(1, .int 0), (0, .ref (aM 0))]) hx hb dX4_takeTower_9 rfl hl (by decide) rfl (fun ls hl => ?_)
  exact lp10 99 0 MreadDeeds Mpeople Mreadings M_weightOf M_kind M_done M_knows M_told H locs ls h hP hD hS (lv_sub hl [1, 0] rfl)
set_option maxHeartbeats 4000000 in
set_option maxRecDepth 100000 in
theorem c_X4_tower (l : Launch) (dC : Nat → ClassId) (dI : Nat → Nat → Nat) (cyI cyO : ClassId) (aM : Nat → Nat) (sz : Nat) (Mfault : Int32) (Mtrace : Int32) (Mdeeds : Int32) (Mpeople : Int32) (Mat : Int32) (MreadDeeds : Int32) (MreadMany : Int32) (Mpairs : Int32) (Mcaught : Int32) (Mreadings : Int32) (M_sorts : Nat → Int32) (M_sheetLong : Nat → Int32) (M_cells : Nat → Int32) (M_weightOf : Nat → Int32) (M_kind : Nat → Int32) (M_done : Nat → Int32) (M_knows : Nat → Int32) (M_told : Nat → Int32) (M_readWeight : Nat → Int32) (M_read : Nat → Int32) (p1 : Int32) (p2 : Int32) (p3 : Int32) (p4 : Int32) {o : Int32 × Int32 × Int32 × Int32 × Int32 × Int32 × Int32 × Int32 × (Nat → Int32) × (Nat → Int32) × (Nat → Int32) × (Nat → Int32) × (Nat → Int32) × (Nat → Int32) × (Nat → Int32)}  (h : f_X4_tower Mfault Mdeeds Mpeople Mat MreadDeeds MreadMany Mreadings M_sorts M_sheetLong M_cells M_weightOf M_kind M_done M_knows M_told M_readWeight M_read p1 p2 p3 p4 = some o) : CtI l yX4_tower wsX4_tower { frames := 4, cells := 0, slots := 0, locals := 91 } (dC, dI) [(cyI, .int), (cyO, .object RX0)] [.ref (aM 0), .int p1, .int p2, .int p3, .int p4] sz [((aM 0), .inr (4, [.int Mfault, .int Mtrace, .ref (aM 1), .ref (aM 2), .ref (aM 3), .int Mdeeds, .int Mpeople, .ref (aM 4), .ref (aM 5), .ref (aM 6), .ref (aM 7), .ref (aM 8), .int Mat, .int MreadDeeds, .int MreadMany, .ref (aM 9), .ref (aM 10), .ref (aM 11), .int Mpairs, .ref (aM 12), .ref (aM 13), .int Mcaught, .int Mreadings, .ref (aM 14), .ref (aM 15)])), ((aM 1), .inl (cyI, 4, .inl M_sorts)), ((aM 2), .inl (cyI, 4, .inl M_sheetLong)), ((aM 3), .inl (cyI, 240, .inl M_cells)), ((aM 4), .inl (cyI, 6, .inl M_weightOf)), ((aM 5), .inl (cyI, 4, .inl M_kind)), ((aM 6), .inl (cyI, 4, .inl M_done)), ((aM 7), .inl (cyI, 4, .inl M_knows)), ((aM 8), .inl (cyI, 4, .inl M_told)), ((aM 9), .inl (cyI, 6, .inl M_readWeight)), ((aM 10), .inl (cyI, 12, .inl M_read))] (fun (_ : Unit) => [((aM 0), .inr (4, [.int o.2.1, .int Mtrace, .ref (aM 1), .ref (aM 2), .ref (aM 3), .int o.2.2.1, .int o.2.2.2.1, .ref (aM 4), .ref (aM 5), .ref (aM 6), .ref (aM 7), .ref (aM 8), .int o.2.2.2.2.1, .int o.2.2.2.2.2.1, .int o.2.2.2.2.2.2.1, .ref (aM 9), .ref (aM 10), .ref (aM 11), .int Mpairs, .ref (aM 12), .ref (aM 13), .int Mcaught, .int o.2.2.2.2.2.2.2.1, .ref (aM 14), .ref (aM 15)])), ((aM 1), .inl (cyI, 4, .inl M_sorts)), ((aM 2), .inl (cyI, 4, .inl M_sheetLong)), ((aM 3), .inl (cyI, 240, .inl M_cells)), ((aM 4), .inl (cyI, 6, .inl o.2.2.2.2.2.2.2.2.1)), ((aM 5), .inl (cyI, 4, .inl o.2.2.2.2.2.2.2.2.2.1)), ((aM 6), .inl (cyI, 4, .inl o.2.2.2.2.2.2.2.2.2.2.1)), ((aM 7), .inl (cyI, 4, .inl o.2.2.2.2.2.2.2.2.2.2.2.1)), ((aM 8), .inl (cyI, 4, .inl o.2.2.2.2.2.2.2.2.2.2.2.2.1)), ((aM 9), .inl (cyI, 6, .inl o.2.2.2.2.2.2.2.2.2.2.2.2.2.1)), ((aM 10), .inl (cyI, 12, .inl o.2.2.2.2.2.2.2.2.2.2.2.2.2.2))]) o.1 := by
  refine CtI.of (cc := cX4_tower) (maxL := 7) (by decide) rfl (Nat.le_of_ble_eq_true rfl) ?_
  intro p e s m args below meth c A Q H locs hx hb hml hown hts hA hK hP hD hS hret ls hl
  have hown : s.vm.findClass RX4 = some m.cls := hown
  have hl : lv_has ls 7 [(0, .ref (aM 0)), (1, .int p1), (2, .int p2), (3, .int p3), (4, .int p4)] := hl
  unfold f_X4_tower at h
  have hiX4 : ∀ w ∈ u_ws RX4 TX4 25, w ∈ wsX4_tower := by decide +kernel
  have hf55 := hts (.fieldLink RX4 55 "TowerTellModel" "fault" "I") (by decide +kernel)
  have hf68 := hts (.fieldLink RX4 68 "TowerTellModel" "people" "I") (by decide +kernel)
  have hf71 := hts (.fieldLink RX4 71 "TowerTellModel" "at" "I") (by decide +kernel)
  refine lv_aload_n hx hb dX4_tower_0 rfl (lv_at hl 0 rfl) ?_
  refine lv_iconst (v := 0) hx hb dX4_tower_1 (by decide) ?_
  refine va_put (D := (dC, dI)) (ci := 4) (v := .int 0) (ty := .int) (C := RX4) (T := TX4) (N := 25) hx hb hts hiX4 tyX4 tyX4_ok nmX4 hown hK hP hD hS 0 rfl rfl 0 (by decide) hf55 (fun _ h9 => h9) rfl (tyX4_ok 0 (by decide)) rfl rfl (Nat.le_of_ble_eq_true rfl) dX4_tower_2 (fun H locs hP hD hS => ?_)
  have hP : va_P (dC, dI) vwCl [((aM 0), .inr (4, [.int 0, .int Mtrace, .ref (aM 1), .ref (aM 2), .ref (aM 3), .int Mdeeds, .int Mpeople, .ref (aM 4), .ref (aM 5), .ref (aM 6), .ref (aM 7), .ref (aM 8), .int Mat, .int MreadDeeds, .int MreadMany, .ref (aM 9), .ref (aM 10), .ref (aM 11), .int Mpairs, .ref (aM 12), .ref (aM 13), .int Mcaught, .int Mreadings, .ref (aM 14), .ref (aM 15)])), ((aM 1), .inl (cyI, 4, .inl M_sorts)), ((aM 2), .inl (cyI, 4, .inl M_sheetLong)), ((aM 3), .inl (cyI, 240, .inl M_cells)), ((aM 4), .inl (cyI, 6, .inl M_weightOf)), ((aM 5), .inl (cyI, 4, .inl M_kind)), ((aM 6), .inl (cyI, 4, .inl M_done)), ((aM 7), .inl (cyI, 4, .inl M_knows)), ((aM 8), .inl (cyI, 4, .inl M_told)), ((aM 9), .inl (cyI, 6, .inl M_readWeight)), ((aM 10), .inl (cyI, 12, .inl M_read))] H := hP
  have hD : va_D A [((aM 0), .inr (4, [.int 0, .int Mtrace, .ref (aM 1), .ref (aM 2), .ref (aM 3), .int Mdeeds, .int Mpeople, .ref (aM 4), .ref (aM 5), .ref (aM 6), .ref (aM 7), .ref (aM 8), .int Mat, .int MreadDeeds, .int MreadMany, .ref (aM 9), .ref (aM 10), .ref (aM 11), .int Mpairs, .ref (aM 12), .ref (aM 13), .int Mcaught, .int Mreadings, .ref (aM 14), .ref (aM 15)])), ((aM 1), .inl (cyI, 4, .inl M_sorts)), ((aM 2), .inl (cyI, 4, .inl M_sheetLong)), ((aM 3), .inl (cyI, 240, .inl M_cells)), ((aM 4), .inl (cyI, 6, .inl M_weightOf)), ((aM 5), .inl (cyI, 4, .inl M_kind)), ((aM 6), .inl (cyI, 4, .inl M_done)), ((aM 7), .inl (cyI, 4, .inl M_knows)), ((aM 8), .inl (cyI, 4, .inl M_told)), ((aM 9), .inl (cyI, 6, .inl M_readWeight)), ((aM 10), .inl (cyI, 12, .inl M_read))] := hD
  refine lv_iload_n hx hb dX4_tower_5 rfl (lv_at hl 1 rfl) ?_
  obtain ⟨o1, hc2, h⟩ := ob h
  refine k_si (As := [.int p1]) (rest := []) ⟨hx, hb, hml, hown, hts⟩ (c_X4_isSheet l dC dI cyI cyO H.size p1 hc2) (va_cwS 1 hts gX4_tower_X4_isSheet rfl rfl rfl (by decide +kernel) ⟨Nat.le_of_ble_eq_true rfl, Nat.le_of_ble_eq_true rfl⟩) hP hD hK hS hA [] [0, 1, 2, 3, 4, 5, 6, 7, 8, 9, 10] rfl rfl (by decide) (by decide) (by decide) rfl hl.1 rfl (Nat.le_of_ble_eq_true rfl) dX4_tower_6 ⟨Nat.zero_le _, Nat.zero_le _⟩ (fun _ H locs hP hD hS => ?_)
  have hP : va_P (dC, dI) vwCl [((aM 0), .inr (4, [.int 0, .int Mtrace, .ref (aM 1), .ref (aM 2), .ref (aM 3), .int Mdeeds, .int Mpeople, .ref (aM 4), .ref (aM 5), .ref (aM 6), .ref (aM 7), .ref (aM 8), .int Mat, .int MreadDeeds, .int MreadMany, .ref (aM 9), .ref (aM 10), .ref (aM 11), .int Mpairs, .ref (aM 12), .ref (aM 13), .int Mcaught, .int Mreadings, .ref (aM 14), .ref (aM 15)])), ((aM 1), .inl (cyI, 4, .inl M_sorts)), ((aM 2), .inl (cyI, 4, .inl M_sheetLong)), ((aM 3), .inl (cyI, 240, .inl M_cells)), ((aM 4), .inl (cyI, 6, .inl M_weightOf)), ((aM 5), .inl (cyI, 4, .inl M_kind)), ((aM 6), .inl (cyI, 4, .inl M_done)), ((aM 7), .inl (cyI, 4, .inl M_knows)), ((aM 8), .inl (cyI, 4, .inl M_told)), ((aM 9), .inl (cyI, 6, .inl M_readWeight)), ((aM 10), .inl (cyI, 12, .inl M_read))] H := hP
  have hD : va_D A [((aM 0), .inr (4, [.int 0, .int Mtrace, .ref (aM 1), .ref (aM 2), .ref (aM 3), .int Mdeeds, .int Mpeople, .ref (aM 4), .ref (aM 5), .ref (aM 6), .ref (aM 7), .ref (aM 8), .int Mat, .int MreadDeeds, .int MreadMany, .ref (aM 9), .ref (aM 10), .ref (aM 11), .int Mpairs, .ref (aM 12), .ref (aM 13), .int Mcaught, .int Mreadings, .ref (aM 14), .ref (aM 15)])), ((aM 1), .inl (cyI, 4, .inl M_sorts)), ((aM 2), .inl (cyI, 4, .inl M_sheetLong)), ((aM 3), .inl (cyI, 240, .inl M_cells)), ((aM 4), .inl (cyI, 6, .inl M_weightOf)), ((aM 5), .inl (cyI, 4, .inl M_kind)), ((aM 6), .inl (cyI, 4, .inl M_done)), ((aM 7), .inl (cyI, 4, .inl M_knows)), ((aM 8), .inl (cyI, 4, .inl M_told)), ((aM 9), .inl (cyI, 6, .inl M_readWeight)), ((aM 10), .inl (cyI, 12, .inl M_read))] := hD
  refine lv_if_ne (tgt := 14) hx hb dX4_tower_9 (by decide) (fun c3 => ?_) (fun c3 => ?_)
  · replace h := it_f c3 h
    refine lv_iload_n hx hb dX4_tower_14 rfl (lv_at hl 2 rfl) ?_
    obtain ⟨o4, hc5, h⟩ := ob h
    refine k_si (As := [.int p2]) (rest := []) ⟨hx, hb, hml, hown, hts⟩ (c_X4_isSort l dC dI cyI cyO H.size p2 hc5) (va_cwS 1 hts gX4_tower_X4_isSort rfl rfl rfl (by decide +kernel) ⟨Nat.le_of_ble_eq_true rfl, Nat.le_of_ble_eq_true rfl⟩) hP hD hK hS hA [] [0, 1, 2, 3, 4, 5, 6, 7, 8, 9, 10] rfl rfl (by decide) (by decide) (by decide) rfl hl.1 rfl (Nat.le_of_ble_eq_true rfl) dX4_tower_15 ⟨Nat.zero_le _, Nat.zero_le _⟩ (fun _ H locs hP hD hS => ?_)
    have hP : va_P (dC, dI) vwCl [((aM 0), .inr (4, [.int 0, .int Mtrace, .ref (aM 1), .ref (aM 2), .ref (aM 3), .int Mdeeds, .int Mpeople, .ref (aM 4), .ref (aM 5), .ref (aM 6), .ref (aM 7), .ref (aM 8), .int Mat, .int MreadDeeds, .int MreadMany, .ref (aM 9), .ref (aM 10), .ref (aM 11), .int Mpairs, .ref (aM 12), .ref (aM 13), .int Mcaught, .int Mreadings, .ref (aM 14), .ref (aM 15)])), ((aM 1), .inl (cyI, 4, .inl M_sorts)), ((aM 2), .inl (cyI, 4, .inl M_sheetLong)), ((aM 3), .inl (cyI, 240, .inl M_cells)), ((aM 4), .inl (cyI, 6, .inl M_weightOf)), ((aM 5), .inl (cyI, 4, .inl M_kind)), ((aM 6), .inl (cyI, 4, .inl M_done)), ((aM 7), .inl (cyI, 4, .inl M_knows)), ((aM 8), .inl (cyI, 4, .inl M_told)), ((aM 9), .inl (cyI, 6, .inl M_readWeight)), ((aM 10), .inl (cyI, 12, .inl M_read))] H := hP
    have hD : va_D A [((aM 0), .inr (4, [.int 0, .int Mtrace, .ref (aM 1), .ref (aM 2), .ref (aM 3), .int Mdeeds, .int Mpeople, .ref (aM 4), .ref (aM 5), .ref (aM 6), .ref (aM 7), .ref (aM 8), .int Mat, .int MreadDeeds, .int MreadMany, .ref (aM 9), .ref (aM 10), .ref (aM 11), .int Mpairs, .ref (aM 12), .ref (aM 13), .int Mcaught, .int Mreadings, .ref (aM 14), .ref (aM 15)])), ((aM 1), .inl (cyI, 4, .inl M_sorts)), ((aM 2), .inl (cyI, 4, .inl M_sheetLong)), ((aM 3), .inl (cyI, 240, .inl M_cells)), ((aM 4), .inl (cyI, 6, .inl M_weightOf)), ((aM 5), .inl (cyI, 4, .inl M_kind)), ((aM 6), .inl (cyI, 4, .inl M_done)), ((aM 7), .inl (cyI, 4, .inl M_knows)), ((aM 8), .inl (cyI, 4, .inl M_told)), ((aM 9), .inl (cyI, 6, .inl M_readWeight)), ((aM 10), .inl (cyI, 12, .inl M_read))] := hD
    refine lv_if_ne (tgt := 24) hx hb dX4_tower_18 (by decide) (fun c6 => ?_) (fun c6 => ?_)
    · replace h := it_f c6 h
      refine lv_aload_n hx hb dX4_tower_24 rfl (lv_at hl 0 rfl) ?_
      refine lv_iload_n hx hb dX4_tower_25 rfl (lv_at hl 1 rfl) ?_
      refine lv_iload_n hx hb dX4_tower_26 rfl (lv_at hl 2 rfl) ?_
      refine lv_iload_n hx hb dX4_tower_27 rfl (lv_at hl 3 rfl) ?_
      refine lv_iload hx hb dX4_tower_28 (lv_at hl 4 rfl) ?_
      obtain ⟨o7, hc8, h⟩ := ob h
      refine k_vi (As := [.int p1, .int p2, .int p3, .int p4]) (rest := []) ⟨hx, hb, hml, hown, hts⟩ (c_X4_against l dC dI cyI cyO aM H.size 0 Mtrace Mdeeds Mpeople Mat MreadDeeds MreadMany Mpairs Mcaught Mreadings M_sorts M_sheetLong p1 p2 p3 p4 hc8) (cwV 4 hts gX4_tower_X4_against rfl rfl rfl (by decide +kernel) ⟨Nat.le_of_ble_eq_true rfl, Nat.le_of_ble_eq_true rfl⟩) hP hD hK hS hA [0, 1, 2] [3, 4, 5, 6, 7, 8, 9, 10] rfl rfl (by decide) (by decide) (by decide) 4 0 rfl rfl rfl rfl hl.1 rfl (Nat.le_of_ble_eq_true rfl) dX4_tower_30 ⟨Nat.zero_le _, Nat.zero_le _⟩ (fun _ H locs hP hD hS => ?_)
      have hP : va_P (dC, dI) vwCl [((aM 3), .inl (cyI, 240, .inl M_cells)), ((aM 4), .inl (cyI, 6, .inl M_weightOf)), ((aM 5), .inl (cyI, 4, .inl M_kind)), ((aM 6), .inl (cyI, 4, .inl M_done)), ((aM 7), .inl (cyI, 4, .inl M_knows)), ((aM 8), .inl (cyI, 4, .inl M_told)), ((aM 9), .inl (cyI, 6, .inl M_readWeight)), ((aM 10), .inl (cyI, 12, .inl M_read)), ((aM 0), .inr (4, [.int 0, .int Mtrace, .ref (aM 1), .ref (aM 2), .ref (aM 3), .int Mdeeds, .int Mpeople, .ref (aM 4), .ref (aM 5), .ref (aM 6), .ref (aM 7), .ref (aM 8), .int Mat, .int MreadDeeds, .int MreadMany, .ref (aM 9), .ref (aM 10), .ref (aM 11), .int Mpairs, .ref (aM 12), .ref (aM 13), .int Mcaught, .int Mreadings, .ref (aM 14), .ref (aM 15)])), ((aM 1), .inl (cyI, 4, .inl M_sorts)), ((aM 2), .inl (cyI, 4, .inl M_sheetLong))] H := hP
      have hD : va_D A [((aM 3), .inl (cyI, 240, .inl M_cells)), ((aM 4), .inl (cyI, 6, .inl M_weightOf)), ((aM 5), .inl (cyI, 4, .inl M_kind)), ((aM 6), .inl (cyI, 4, .inl M_done)), ((aM 7), .inl (cyI, 4, .inl M_knows)), ((aM 8), .inl (cyI, 4, .inl M_told)), ((aM 9), .inl (cyI, 6, .inl M_readWeight)), ((aM 10), .inl (cyI, 12, .inl M_read)), ((aM 0), .inr (4, [.int 0, .int Mtrace, .ref (aM 1), .ref (aM 2), .ref (aM 3), .int Mdeeds, .int Mpeople, .ref (aM 4), .ref (aM 5), .ref (aM 6), .ref (aM 7), .ref (aM 8), .int Mat, .int MreadDeeds, .int MreadMany, .ref (aM 9), .ref (aM 10), .ref (aM 11), .int Mpairs, .ref (aM 12), .ref (aM 13), .int Mcaught, .int Mreadings, .ref (aM 14), .ref (aM 15)])), ((aM 1), .inl (cyI, 4, .inl M_sorts)), ((aM 2), .inl (cyI, 4, .inl M_sheetLong))] := hD
      refine lv_istore (lv' := [(5, .int o7), (0, .ref (aM 0)), (1, .int p1), (2, .int p2), (3, .int p3), (4, .int p4)]) hx hb dX4_tower_33 hl (by decide) rfl (fun ls hl => ?_)
      refine lv_iload hx hb dX4_tower_35 (lv_at hl 0 rfl) ?_
      refine lv_if_eq (tgt := 47) hx hb dX4_tower_37 (by decide) (fun c9 => ?_) (fun c9 => ?_)
      · replace h := it_t c9 h
        refine lv_bipush (v := 60) hx hb dX4_tower_47 (by decide) ?_
        refine lv_iload_n hx hb dX4_tower_49 rfl (lv_at hl 2 rfl) ?_
        refine lv_imul hx hb dX4_tower_50 ?_
        refine lv_iload_n hx hb dX4_tower_51 rfl (lv_at hl 4 rfl) ?_
        refine lv_iadd hx hb dX4_tower_52 ?_
        refine lv_istore (lv' := [(6, .int ((60 * p1) + p3)), (5, .int o7), (0, .ref (aM 0)), (1, .int p1), (2, .int p2), (3, .int p3), (4, .int p4)]) hx hb dX4_tower_53 hl (by decide) rfl (fun ls hl => ?_)
        refine lv_aload_n hx hb dX4_tower_55 rfl (lv_at hl 2 rfl) ?_
        refine lv_iload hx hb dX4_tower_56 (lv_at hl 0 rfl) ?_
        refine va_put (D := (dC, dI)) (ci := 4) (v := .int ((60 * p1) + p3)) (ty := .int) (C := RX4) (T := TX4) (N := 25) hx hb hts hiX4 tyX4 tyX4_ok nmX4 hown hK hP hD hS 8 rfl rfl 12 (by decide) hf71 (fun _ h9 => h9) rfl (tyX4_ok 12 (by decide)) rfl rfl (Nat.le_of_ble_eq_true rfl) dX4_tower_58 (fun H locs hP hD hS => ?_)
        have hP : va_P (dC, dI) vwCl [((aM 3), .inl (cyI, 240, .inl M_cells)), ((aM 4), .inl (cyI, 6, .inl M_weightOf)), ((aM 5), .inl (cyI, 4, .inl M_kind)), ((aM 6), .inl (cyI, 4, .inl M_done)), ((aM 7), .inl (cyI, 4, .inl M_knows)), ((aM 8), .inl (cyI, 4, .inl M_told)), ((aM 9), .inl (cyI, 6, .inl M_readWeight)), ((aM 10), .inl (cyI, 12, .inl M_read)), ((aM 0), .inr (4, [.int 0, .int Mtrace, .ref (aM 1), .ref (aM 2), .ref (aM 3), .int Mdeeds, .int Mpeople, .ref (aM 4), .ref (aM 5), .ref (aM 6), .ref (aM 7), .ref (aM 8), .int ((60 * p1) + p3), .int MreadDeeds, .int MreadMany, .ref (aM 9), .ref (aM 10), .ref (aM 11), .int Mpairs, .ref (aM 12), .ref (aM 13), .int Mcaught, .int Mreadings, .ref (aM 14), .ref (aM 15)])), ((aM 1), .inl (cyI, 4, .inl M_sorts)), ((aM 2), .inl (cyI, 4, .inl M_sheetLong))] H := hP
        have hD : va_D A [((aM 3), .inl (cyI, 240, .inl M_cells)), ((aM 4), .inl (cyI, 6, .inl M_weightOf)), ((aM 5), .inl (cyI, 4, .inl M_kind)), ((aM 6), .inl (cyI, 4, .inl M_done)), ((aM 7), .inl (cyI, 4, .inl M_knows)), ((aM 8), .inl (cyI, 4, .inl M_told)), ((aM 9), .inl (cyI, 6, .inl M_readWeight)), ((aM 10), .inl (cyI, 12, .inl M_read)), ((aM 0), .inr (4, [.int 0, .int Mtrace, .ref (aM 1), .ref (aM 2), .ref (aM 3), .int Mdeeds, .int Mpeople, .ref (aM 4), .ref (aM 5), .ref (aM 6), .ref (aM 7), .ref (aM 8), .int ((60 * p1) + p3), .int MreadDeeds, .int MreadMany, .ref (aM 9), .ref (aM 10), .ref (aM 11), .int Mpairs, .ref (aM 12), .ref (aM 13), .int Mcaught, .int Mreadings, .ref (aM 14), .ref (aM 15)])), ((aM 1), .inl (cyI, 4, .inl M_sorts)), ((aM 2), .inl (cyI, 4, .inl M_sheetLong))] := hD
        refine lv_aload_n hx hb dX4_tower_61 rfl (lv_at hl 2 rfl) ?_
        refine lv_iload hx hb dX4_tower_62 (lv_at hl 0 rfl) ?_
        refine lv_iload hx hb dX4_tower_64 (lv_at hl 6 rfl) ?_
        refine lv_iadd hx hb dX4_tower_66 ?_
        obtain ⟨o10, hc11, h⟩ := ob h
        refine k_vi (As := [.int (((60 * p1) + p3) + p4)]) (rest := []) ⟨hx, hb, hml, hown, hts⟩ (c_X4_readTower l dC dI cyI cyO aM H.size 0 Mtrace Mdeeds Mpeople ((60 * p1) + p3) MreadDeeds MreadMany Mpairs Mcaught Mreadings M_cells M_readWeight M_read (((60 * p1) + p3) + p4) hc11) (cwV 1 hts gX4_tower_X4_readTower rfl rfl rfl (by decide +kernel) ⟨Nat.le_of_ble_eq_true rfl, Nat.le_of_ble_eq_true rfl⟩) hP hD hK hS hA [8, 0, 6, 7] [1, 2, 3, 4, 5, 9, 10] rfl rfl (by decide) (by decide) (by decide) 4 0 rfl rfl rfl rfl hl.1 rfl (Nat.le_of_ble_eq_true rfl) dX4_tower_67 ⟨Nat.zero_le _, Nat.zero_le _⟩ (fun _ H locs hP hD hS => ?_)
        have hP : va_P (dC, dI) vwCl [((aM 4), .inl (cyI, 6, .inl M_weightOf)), ((aM 5), .inl (cyI, 4, .inl M_kind)), ((aM 6), .inl (cyI, 4, .inl M_done)), ((aM 7), .inl (cyI, 4, .inl M_knows)), ((aM 8), .inl (cyI, 4, .inl M_told)), ((aM 1), .inl (cyI, 4, .inl M_sorts)), ((aM 2), .inl (cyI, 4, .inl M_sheetLong)), ((aM 0), .inr (4, [.int 0, .int Mtrace, .ref (aM 1), .ref (aM 2), .ref (aM 3), .int Mdeeds, .int Mpeople, .ref (aM 4), .ref (aM 5), .ref (aM 6), .ref (aM 7), .ref (aM 8), .int o10.2.1, .int o10.2.2.1, .int o10.2.2.2.1, .ref (aM 9), .ref (aM 10), .ref (aM 11), .int Mpairs, .ref (aM 12), .ref (aM 13), .int Mcaught, .int Mreadings, .ref (aM 14), .ref (aM 15)])), ((aM 3), .inl (cyI, 240, .inl M_cells)), ((aM 9), .inl (cyI, 6, .inl o10.2.2.2.2.1)), ((aM 10), .inl (cyI, 12, .inl o10.2.2.2.2.2))] H := hP
        have hD : va_D A [((aM 4), .inl (cyI, 6, .inl M_weightOf)), ((aM 5), .inl (cyI, 4, .inl M_kind)), ((aM 6), .inl (cyI, 4, .inl M_done)), ((aM 7), .inl (cyI, 4, .inl M_knows)), ((aM 8), .inl (cyI, 4, .inl M_told)), ((aM 1), .inl (cyI, 4, .inl M_sorts)), ((aM 2), .inl (cyI, 4, .inl M_sheetLong)), ((aM 0), .inr (4, [.int 0, .int Mtrace, .ref (aM 1), .ref (aM 2), .ref (aM 3), .int Mdeeds, .int Mpeople, .ref (aM 4), .ref (aM 5), .ref (aM 6), .ref (aM 7), .ref (aM 8), .int o10.2.1, .int o10.2.2.1, .int o10.2.2.2.1, .ref (aM 9), .ref (aM 10), .ref (aM 11), .int Mpairs, .ref (aM 12), .ref (aM 13), .int Mcaught, .int Mreadings, .ref (aM 14), .ref (aM 15)])), ((aM 3), .inl (cyI, 240, .inl M_cells)), ((aM 9), .inl (cyI, 6, .inl o10.2.2.2.2.1)), ((aM 10), .inl (cyI, 12, .inl o10.2.2.2.2.2))] := hD
        refine lv_if_ne (tgt := 84) hx hb dX4_tower_70 (by decide) (fun c12 => ?_) (fun c12 => ?_)
        · replace h := it_f c12 h
          refine lv_aload_n hx hb dX4_tower_84 rfl (lv_at hl 2 rfl) ?_
          obtain ⟨o13, hc14, h⟩ := ob h
          refine k_vv (As := []) (rest := []) ⟨hx, hb, hml, hown, hts⟩ (c_X4_takeTower l dC dI cyI cyO aM H.size 0 Mtrace Mdeeds Mpeople o10.2.1 o10.2.2.1 o10.2.2.2.1 Mpairs Mcaught Mreadings M_weightOf M_kind M_done M_knows M_told o10.2.2.2.2.1 o10.2.2.2.2.2 hc14) (cwV 0 hts gX4_tower_X4_takeTower rfl rfl rfl (by decide +kernel) ⟨Nat.le_of_ble_eq_true rfl, Nat.le_of_ble_eq_true rfl⟩) hP hD hK hS hA [7, 0, 1, 2, 3, 4, 9, 10] [5, 6, 8] rfl rfl (by decide) (by decide) (by decide) 4 0 rfl rfl rfl rfl hl.1 rfl (Nat.le_of_ble_eq_true rfl) dX4_tower_85 ⟨Nat.zero_le _, Nat.zero_le _⟩ (fun _ H locs hP hD hS => ?_)
          have hP : va_P (dC, dI) vwCl [((aM 1), .inl (cyI, 4, .inl M_sorts)), ((aM 2), .inl (cyI, 4, .inl M_sheetLong)), ((aM 3), .inl (cyI, 240, .inl M_cells)), ((aM 0), .inr (4, [.int 0, .int Mtrace, .ref (aM 1), .ref (aM 2), .ref (aM 3), .int o13.1, .int o13.2.1, .ref (aM 4), .ref (aM 5), .ref (aM 6), .ref (aM 7), .ref (aM 8), .int o10.2.1, .int o10.2.2.1, .int o10.2.2.2.1, .ref (aM 9), .ref (aM 10), .ref (aM 11), .int Mpairs, .ref (aM 12), .ref (aM 13), .int Mcaught, .int o13.2.2.1, .ref (aM 14), .ref (aM 15)])), ((aM 4), .inl (cyI, 6, .inl o13.2.2.2.1)), ((aM 5), .inl (cyI, 4, .inl o13.2.2.2.2.1)), ((aM 6), .inl (cyI, 4, .inl o13.2.2.2.2.2.1)), ((aM 7), .inl (cyI, 4, .inl o13.2.2.2.2.2.2.1)), ((aM 8), .inl (cyI, 4, .inl o13.2.2.2.2.2.2.2)), ((aM 9), .inl (cyI, 6, .inl o10.2.2.2.2.1)), ((aM 10), .inl (cyI, 12, .inl o10.2.2.2.2.2))] H := hP
          have hD : va_D A [((aM 1), .inl (cyI, 4, .inl M_sorts)), ((aM 2), .inl (cyI, 4, .inl M_sheetLong)), ((aM 3), .inl (cyI, 240, .inl M_cells)), ((aM 0), .inr (4, [.int 0, .int Mtrace, .ref (aM 1), .ref (aM 2), .ref (aM 3), .int o13.1, .int o13.2.1, .ref (aM 4), .ref (aM 5), .ref (aM 6), .ref (aM 7), .ref (aM 8), .int o10.2.1, .int o10.2.2.1, .int o10.2.2.2.1, .ref (aM 9), .ref (aM 10), .ref (aM 11), .int Mpairs, .ref (aM 12), .ref (aM 13), .int Mcaught, .int o13.2.2.1, .ref (aM 14), .ref (aM 15)])), ((aM 4), .inl (cyI, 6, .inl o13.2.2.2.1)), ((aM 5), .inl (cyI, 4, .inl o13.2.2.2.2.1)), ((aM 6), .inl (cyI, 4, .inl o13.2.2.2.2.2.1)), ((aM 7), .inl (cyI, 4, .inl o13.2.2.2.2.2.2.1)), ((aM 8), .inl (cyI, 4, .inl o13.2.2.2.2.2.2.2)), ((aM 9), .inl (cyI, 6, .inl o10.2.2.2.2.1)), ((aM 10), .inl (cyI, 12, .inl o10.2.2.2.2.2))] := hD
          refine lv_aload_n hx hb dX4_tower_88 rfl (lv_at hl 2 rfl) ?_
          refine va_get (D := (dC, dI)) (ci := 4) (v := .int o13.2.1) (C := RX4) (T := TX4) (N := 25) hx hb hts hiX4 hown hK hP 3 rfl rfl 6 (by decide) hf68 (fun _ h9 => h9) rfl dX4_tower_89 ?_
          replace h := Option.some.inj h; subst h
          have hP := hP.sub (ws' := [((aM 0), .inr (4, [.int 0, .int Mtrace, .ref (aM 1), .ref (aM 2), .ref (aM 3), .int o13.1, .int o13.2.1, .ref (aM 4), .ref (aM 5), .ref (aM 6), .ref (aM 7), .ref (aM 8), .int o10.2.1, .int o10.2.2.1, .int o10.2.2.2.1, .ref (aM 9), .ref (aM 10), .ref (aM 11), .int Mpairs, .ref (aM 12), .ref (aM 13), .int Mcaught, .int o13.2.2.1, .ref (aM 14), .ref (aM 15)])), ((aM 1), .inl (cyI, 4, .inl M_sorts)), ((aM 2), .inl (cyI, 4, .inl M_sheetLong)), ((aM 3), .inl (cyI, 240, .inl M_cells)), ((aM 4), .inl (cyI, 6, .inl o13.2.2.2.1)), ((aM 5), .inl (cyI, 4, .inl o13.2.2.2.2.1)), ((aM 6), .inl (cyI, 4, .inl o13.2.2.2.2.2.1)), ((aM 7), .inl (cyI, 4, .inl o13.2.2.2.2.2.2.1)), ((aM 8), .inl (cyI, 4, .inl o13.2.2.2.2.2.2.2)), ((aM 9), .inl (cyI, 6, .inl o10.2.2.2.2.1)), ((aM 10), .inl (cyI, 12, .inl o10.2.2.2.2.2))]) [3, 0, 1, 2, 4, 5, 6, 7, 8, 9, 10] rfl
          have hD := hD.sub (ws' := [((aM 0), .inr (4, [.int 0, .int Mtrace, .ref (aM 1), .ref (aM 2), .ref (aM 3), .int o13.1, .int o13.2.1, .ref (aM 4), .ref (aM 5), .ref (aM 6), .ref (aM 7), .ref (aM 8), .int o10.2.1, .int o10.2.2.1, .int o10.2.2.2.1, .ref (aM 9), .ref (aM 10), .ref (aM 11), .int Mpairs, .ref (aM 12), .ref (aM 13), .int Mcaught, .int o13.2.2.1, .ref (aM 14), .ref (aM 15)])), ((aM 1), .inl (cyI, 4, .inl M_sorts)), ((aM 2), .inl (cyI, 4, .inl M_sheetLong)), ((aM 3), .inl (cyI, 240, .inl M_cells)), ((aM 4), .inl (cyI, 6, .inl o13.2.2.2.1)), ((aM 5), .inl (cyI, 4, .inl o13.2.2.2.2.1)), ((aM 6), .inl (cyI, 4, .inl o13.2.2.2.2.2.1)), ((aM 7), .inl (cyI, 4, .inl o13.2.2.2.2.2.2.1)), ((aM 8), .inl (cyI, 4, .inl o13.2.2.2.2.2.2.2)), ((aM 9), .inl (cyI, 6, .inl o10.2.2.2.2.1)), ((aM 10), .inl (cyI, 12, .inl o10.2.2.2.2.2))]) [3, 0, 1, 2, 4, 5, 6, 7, 8, 9, 10] (by decide) rfl
          exact hret () H locs _ ls hP hD hS dX4_tower_92 rfl
        · replace h := it_t c12 h
          refine lv_bipush (v := (-100)) hx hb dX4_tower_73 (by decide) ?_
          refine lv_aload_n hx hb dX4_tower_75 rfl (lv_at hl 2 rfl) ?_
          refine va_get (D := (dC, dI)) (ci := 4) (v := .int o10.2.1) (C := RX4) (T := TX4) (N := 25) hx hb hts hiX4 hown hK hP 7 rfl rfl 12 (by decide) hf71 (fun _ h9 => h9) rfl dX4_tower_76 ?_
          refine lv_iload hx hb dX4_tower_79 (lv_at hl 0 rfl) ?_
          refine lv_isub hx hb dX4_tower_81 ?_
          refine lv_isub hx hb dX4_tower_82 ?_
          replace h := Option.some.inj h; subst h
          have hP := hP.sub (ws' := [((aM 0), .inr (4, [.int 0, .int Mtrace, .ref (aM 1), .ref (aM 2), .ref (aM 3), .int Mdeeds, .int Mpeople, .ref (aM 4), .ref (aM 5), .ref (aM 6), .ref (aM 7), .ref (aM 8), .int o10.2.1, .int o10.2.2.1, .int o10.2.2.2.1, .ref (aM 9), .ref (aM 10), .ref (aM 11), .int Mpairs, .ref (aM 12), .ref (aM 13), .int Mcaught, .int Mreadings, .ref (aM 14), .ref (aM 15)])), ((aM 1), .inl (cyI, 4, .inl M_sorts)), ((aM 2), .inl (cyI, 4, .inl M_sheetLong)), ((aM 3), .inl (cyI, 240, .inl M_cells)), ((aM 4), .inl (cyI, 6, .inl M_weightOf)), ((aM 5), .inl (cyI, 4, .inl M_kind)), ((aM 6), .inl (cyI, 4, .inl M_done)), ((aM 7), .inl (cyI, 4, .inl M_knows)), ((aM 8), .inl (cyI, 4, .inl M_told)), ((aM 9), .inl (cyI, 6, .inl o10.2.2.2.2.1)), ((aM 10), .inl (cyI, 12, .inl o10.2.2.2.2.2))]) [7, 5, 6, 8, 0, 1, 2, 3, 4, 9, 10] rfl
          have hD := hD.sub (ws' := [((aM 0), .inr (4, [.int 0, .int Mtrace, .ref (aM 1), .ref (aM 2), .ref (aM 3), .int Mdeeds, .int Mpeople, .ref (aM 4), .ref (aM 5), .ref (aM 6), .ref (aM 7), .ref (aM 8), .int o10.2.1, .int o10.2.2.1, .int o10.2.2.2.1, .ref (aM 9), .ref (aM 10), .ref (aM 11), .int Mpairs, .ref (aM 12), .ref (aM 13), .int Mcaught, .int Mreadings, .ref (aM 14), .ref (aM 15)])), ((aM 1), .inl (cyI, 4, .inl M_sorts)), ((aM 2), .inl (cyI, 4, .inl M_sheetLong)), ((aM 3), .inl (cyI, 240, .inl M_cells)), ((aM 4), .inl (cyI, 6, .inl M_weightOf)), ((aM 5), .inl (cyI, 4, .inl M_kind)), ((aM 6), .inl (cyI, 4, .inl M_done)), ((aM 7), .inl (cyI, 4, .inl M_knows)), ((aM 8), .inl (cyI, 4, .inl M_told)), ((aM 9), .inl (cyI, 6, .inl o10.2.2.2.2.1)), ((aM 10), .inl (cyI, 12, .inl o10.2.2.2.2.2))]) [7, 5, 6, 8, 0, 1, 2, 3, 4, 9, 10] (by decide) rfl
          exact hret () H locs _ ls hP hD hS dX4_tower_83 rfl
      · replace h := it_f c9 h
        refine lv_aload_n hx hb dX4_tower_40 rfl (lv_at hl 1 rfl) ?_
        refine lv_iload hx hb dX4_tower_41 (lv_at hl 0 rfl) ?_
        obtain ⟨o15, hc16, h⟩ := ob h
        refine k_vi (As := [.int o7]) (rest := []) ⟨hx, hb, hml, hown, hts⟩ (c_X4_fails l dC dI cyI cyO aM H.size 0 Mtrace Mdeeds Mpeople Mat MreadDeeds MreadMany Mpairs Mcaught Mreadings o7 hc16) (cwV 1 hts gX4_tower_X4_fails rfl rfl rfl (by decide +kernel) ⟨Nat.le_of_ble_eq_true rfl, Nat.le_of_ble_eq_true rfl⟩) hP hD hK hS hA [8] [0, 1, 2, 3, 4, 5, 6, 7, 9, 10] rfl rfl (by decide) (by decide) (by decide) 4 0 rfl rfl rfl rfl hl.1 rfl (Nat.le_of_ble_eq_true rfl) dX4_tower_43 ⟨Nat.zero_le _, Nat.zero_le _⟩ (fun _ H locs hP hD hS => ?_)
        have hP : va_P (dC, dI) vwCl [((aM 3), .inl (cyI, 240, .inl M_cells)), ((aM 4), .inl (cyI, 6, .inl M_weightOf)), ((aM 5), .inl (cyI, 4, .inl M_kind)), ((aM 6), .inl (cyI, 4, .inl M_done)), ((aM 7), .inl (cyI, 4, .inl M_knows)), ((aM 8), .inl (cyI, 4, .inl M_told)), ((aM 9), .inl (cyI, 6, .inl M_readWeight)), ((aM 10), .inl (cyI, 12, .inl M_read)), ((aM 1), .inl (cyI, 4, .inl M_sorts)), ((aM 2), .inl (cyI, 4, .inl M_sheetLong)), ((aM 0), .inr (4, [.int o15.2, .int Mtrace, .ref (aM 1), .ref (aM 2), .ref (aM 3), .int Mdeeds, .int Mpeople, .ref (aM 4), .ref (aM 5), .ref (aM 6), .ref (aM 7), .ref (aM 8), .int Mat, .int MreadDeeds, .int MreadMany, .ref (aM 9), .ref (aM 10), .ref (aM 11), .int Mpairs, .ref (aM 12), .ref (aM 13), .int Mcaught, .int Mreadings, .ref (aM 14), .ref (aM 15)]))] H := hP
        have hD : va_D A [((aM 3), .inl (cyI, 240, .inl M_cells)), ((aM 4), .inl (cyI, 6, .inl M_weightOf)), ((aM 5), .inl (cyI, 4, .inl M_kind)), ((aM 6), .inl (cyI, 4, .inl M_done)), ((aM 7), .inl (cyI, 4, .inl M_knows)), ((aM 8), .inl (cyI, 4, .inl M_told)), ((aM 9), .inl (cyI, 6, .inl M_readWeight)), ((aM 10), .inl (cyI, 12, .inl M_read)), ((aM 1), .inl (cyI, 4, .inl M_sorts)), ((aM 2), .inl (cyI, 4, .inl M_sheetLong)), ((aM 0), .inr (4, [.int o15.2, .int Mtrace, .ref (aM 1), .ref (aM 2), .ref (aM 3), .int Mdeeds, .int Mpeople, .ref (aM 4), .ref (aM 5), .ref (aM 6), .ref (aM 7), .ref (aM 8), .int Mat, .int MreadDeeds, .int MreadMany, .ref (aM 9), .ref (aM 10), .ref (aM 11), .int Mpairs, .ref (aM 12), .ref (aM 13), .int Mcaught, .int Mreadings, .ref (aM 14), .ref (aM 15)]))] := hD
        replace h := Option.some.inj h; subst h
        have hP := hP.sub (ws' := [((aM 0), .inr (4, [.int o15.2, .int Mtrace, .ref (aM 1), .ref (aM 2), .ref (aM 3), .int Mdeeds, .int Mpeople, .ref (aM 4), .ref (aM 5), .ref (aM 6), .ref (aM 7), .ref (aM 8), .int Mat, .int MreadDeeds, .int MreadMany, .ref (aM 9), .ref (aM 10), .ref (aM 11), .int Mpairs, .ref (aM 12), .ref (aM 13), .int Mcaught, .int Mreadings, .ref (aM 14), .ref (aM 15)])), ((aM 1), .inl (cyI, 4, .inl M_sorts)), ((aM 2), .inl (cyI, 4, .inl M_sheetLong)), ((aM 3), .inl (cyI, 240, .inl M_cells)), ((aM 4), .inl (cyI, 6, .inl M_weightOf)), ((aM 5), .inl (cyI, 4, .inl M_kind)), ((aM 6), .inl (cyI, 4, .inl M_done)), ((aM 7), .inl (cyI, 4, .inl M_knows)), ((aM 8), .inl (cyI, 4, .inl M_told)), ((aM 9), .inl (cyI, 6, .inl M_readWeight)), ((aM 10), .inl (cyI, 12, .inl M_read))]) [10, 8, 9, 0, 1, 2, 3, 4, 5, 6, 7] rfl
        have hD := hD.sub (ws' := [((aM 0), .inr (4, [.int o15.2, .int Mtrace, .ref (aM 1), .ref (aM 2), .ref (aM 3), .int Mdeeds, .int Mpeople, .ref (aM 4), .ref (aM 5), .ref (aM 6), .ref (aM 7), .ref (aM 8), .int Mat, .int MreadDeeds, .int MreadMany, .ref (aM 9), .ref (aM 10), .ref (aM 11), .int Mpairs, .ref (aM 12), .ref (aM 13), .int Mcaught, .int Mreadings, .ref (aM 14), .ref (aM 15)])), ((aM 1), .inl (cyI, 4, .inl M_sorts)), ((aM 2), .inl (cyI, 4, .inl M_sheetLong)), ((aM 3), .inl (cyI, 240, .inl M_cells)), ((aM 4), .inl (cyI, 6, .inl M_weightOf)), ((aM 5), .inl (cyI, 4, .inl M_kind)), ((aM 6), .inl (cyI, 4, .inl M_done)), ((aM 7), .inl (cyI, 4, .inl M_knows)), ((aM 8), .inl (cyI, 4, .inl M_told)), ((aM 9), .inl (cyI, 6, .inl M_readWeight)), ((aM 10), .inl (cyI, 12, .inl M_read))]) [10, 8, 9, 0, 1, 2, 3, 4, 5, 6, 7] (by decide) rfl
        exact hret () H locs _ ls hP hD hS dX4_tower_46 rfl
    · replace h := it_t c6 h
      refine lv_bipush (v := (-2)) hx hb dX4_tower_21 (by decide) ?_
      replace h := Option.some.inj h; subst h
      exact hret () H locs _ ls hP hD hS dX4_tower_23 rfl
  · replace h := it_t c3 h
    refine lv_iconst (v := (-1)) hx hb dX4_tower_12 (by decide) ?_
    replace h := Option.some.inj h; subst h
    exact hret () H locs _ ls hP hD hS dX4_tower_13 rfl
set_option maxHeartbeats 4000000 in
set_option maxRecDepth 100000 in
theorem c_X4_storeysOf (l : Launch) (dC : Nat → ClassId) (dI : Nat → Nat → Nat) (cyI cyO : ClassId) (aM : Nat → Nat) (sz : Nat) (Mfault : Int32) (Mtrace : Int32) (Mdeeds : Int32) (Mpeople : Int32) (Mat : Int32) (MreadDeeds : Int32) (MreadMany : Int32) (Mpairs : Int32) (Mcaught : Int32) (Mreadings : Int32) (M_weightOf : Nat → Int32) (M_kind : Nat → Int32) (p1 : Int32) (p2 : Int32) {o : Int32}  (h : f_X4_storeysOf M_weightOf M_kind p1 p2 = some o) : CtI l yX4_storeysOf wsX4_storeysOf { frames := 0, cells := 0, slots := 0, locals := 0 } (dC, dI) [(cyI, .int), (cyO, .object RX0)] [.ref (aM 0), .int p1, .int p2] sz [((aM 0), .inr (4, [.int Mfault, .int Mtrace, .ref (aM 1), .ref (aM 2), .ref (aM 3), .int Mdeeds, .int Mpeople, .ref (aM 4), .ref (aM 5), .ref (aM 6), .ref (aM 7), .ref (aM 8), .int Mat, .int MreadDeeds, .int MreadMany, .ref (aM 9), .ref (aM 10), .ref (aM 11), .int Mpairs, .ref (aM 12), .ref (aM 13), .int Mcaught, .int Mreadings, .ref (aM 14), .ref (aM 15)])), ((aM 4), .inl (cyI, 6, .inl M_weightOf)), ((aM 5), .inl (cyI, 4, .inl M_kind))] (fun (_ : Unit) => [((aM 0), .inr (4, [.int Mfault, .int Mtrace, .ref (aM 1), .ref (aM 2), .ref (aM 3), .int Mdeeds, .int Mpeople, .ref (aM 4), .ref (aM 5), .ref (aM 6), .ref (aM 7), .ref (aM 8), .int Mat, .int MreadDeeds, .int MreadMany, .ref (aM 9), .ref (aM 10), .ref (aM 11), .int Mpairs, .ref (aM 12), .ref (aM 13), .int Mcaught, .int Mreadings, .ref (aM 14), .ref (aM 15)])), ((aM 4), .inl (cyI, 6, .inl M_weightOf)), ((aM 5), .inl (cyI, 4, .inl M_kind))]) o := by
  refine CtI.of (cc := cX4_storeysOf) (maxL := 3) (by decide) rfl (Nat.le_of_ble_eq_true rfl) ?_
  intro p e s m args below meth c A Q H locs hx hb hml hown hts hA hK hP hD hS hret ls hl
  have hown : s.vm.findClass RX4 = some m.cls := hown
  have hl : lv_has ls 3 [(0, .ref (aM 0)), (1, .int p1), (2, .int p2)] := hl
  unfold f_X4_storeysOf at h
  have hiX4 : ∀ w ∈ u_ws RX4 TX4 25, w ∈ wsX4_storeysOf := by decide +kernel
  have hf19 := hts (.fieldLink RX4 19 "TowerTellModel" "weightOf" "[I") (by decide +kernel)
  have hf22 := hts (.fieldLink RX4 22 "TowerTellModel" "kind" "[I") (by decide +kernel)
  refine lv_aload_n hx hb dX4_storeysOf_0 rfl (lv_at hl 0 rfl) ?_
  refine va_get (D := (dC, dI)) (ci := 4) (v := .ref (aM 5)) (C := RX4) (T := TX4) (N := 25) hx hb hts hiX4 hown hK hP 0 rfl rfl 8 (by decide) hf22 (fun _ h9 => h9) rfl dX4_storeysOf_1 ?_
  refine lv_iload_n hx hb dX4_storeysOf_4 rfl (lv_at hl 1 rfl) ?_
  obtain ⟨e1, h⟩ := it_n h
  refine va_iald hx hb hK hP 2 0 rfl rfl (ix_in e1) dX4_storeysOf_5 ?_
  refine lv_if_ne (tgt := 18) hx hb dX4_storeysOf_6 (by decide) (fun c2 => ?_) (fun c2 => ?_)
  · replace h := it_f c2 h
    refine lv_aload_n hx hb dX4_storeysOf_18 rfl (lv_at hl 0 rfl) ?_
    refine va_get (D := (dC, dI)) (ci := 4) (v := .ref (aM 5)) (C := RX4) (T := TX4) (N := 25) hx hb hts hiX4 hown hK hP 0 rfl rfl 8 (by decide) hf22 (fun _ h9 => h9) rfl dX4_storeysOf_19 ?_
    refine lv_iload_n hx hb dX4_storeysOf_22 rfl (lv_at hl 1 rfl) ?_
    obtain ⟨e3, h⟩ := it_n h
    refine va_iald hx hb hK hP 2 0 rfl rfl (ix_in e3) dX4_storeysOf_23 ?_
    refine lv_iconst (v := 1) hx hb dX4_storeysOf_24 (by decide) ?_
    refine lv_icmp_ne (tgt := 39) hx hb dX4_storeysOf_25 (by decide) (fun c4 => ?_) (fun c4 => ?_)
    · replace h := it_f c4 h
      refine lv_iconst (v := 2) hx hb dX4_storeysOf_39 (by decide) ?_
      refine lv_aload_n hx hb dX4_storeysOf_40 rfl (lv_at hl 0 rfl) ?_
      refine va_get (D := (dC, dI)) (ci := 4) (v := .ref (aM 4)) (C := RX4) (T := TX4) (N := 25) hx hb hts hiX4 hown hK hP 0 rfl rfl 7 (by decide) hf19 (fun _ h9 => h9) rfl dX4_storeysOf_41 ?_
      refine lv_iload_n hx hb dX4_storeysOf_44 rfl (lv_at hl 2 rfl) ?_
      obtain ⟨e5, h⟩ := it_n h
      refine va_iald hx hb hK hP 1 0 rfl rfl (ix_in e5) dX4_storeysOf_45 ?_
      refine lv_imul hx hb dX4_storeysOf_46 ?_
      replace h := Option.some.inj h; subst h
      exact hret () H locs _ ls hP hD hS dX4_storeysOf_47 rfl
    · replace h := it_t c4 h
      refine lv_aload_n hx hb dX4_storeysOf_28 rfl (lv_at hl 0 rfl) ?_
      refine va_get (D := (dC, dI)) (ci := 4) (v := .ref (aM 4)) (C := RX4) (T := TX4) (N := 25) hx hb hts hiX4 hown hK hP 0 rfl rfl 7 (by decide) hf19 (fun _ h9 => h9) rfl dX4_storeysOf_29 ?_
      refine lv_iload_n hx hb dX4_storeysOf_32 rfl (lv_at hl 2 rfl) ?_
      obtain ⟨e6, h⟩ := it_n h
      refine va_iald hx hb hK hP 1 0 rfl rfl (ix_in e6) dX4_storeysOf_33 ?_
      refine lv_iconst (v := 1) hx hb dX4_storeysOf_34 (by decide) ?_
      refine lv_isub hx hb dX4_storeysOf_35 ?_
      refine lv_goto (tgt := 47) hx hb dX4_storeysOf_36 (by decide) ?_
      replace h := Option.some.inj h; subst h
      exact hret () H locs _ ls hP hD hS dX4_storeysOf_47 rfl
  · replace h := it_t c2 h
    refine lv_aload_n hx hb dX4_storeysOf_9 rfl (lv_at hl 0 rfl) ?_
    refine va_get (D := (dC, dI)) (ci := 4) (v := .ref (aM 4)) (C := RX4) (T := TX4) (N := 25) hx hb hts hiX4 hown hK hP 0 rfl rfl 7 (by decide) hf19 (fun _ h9 => h9) rfl dX4_storeysOf_10 ?_
    refine lv_iload_n hx hb dX4_storeysOf_13 rfl (lv_at hl 2 rfl) ?_
    obtain ⟨e7, h⟩ := it_n h
    refine va_iald hx hb hK hP 1 0 rfl rfl (ix_in e7) dX4_storeysOf_14 ?_
    refine lv_goto (tgt := 47) hx hb dX4_storeysOf_15 (by decide) ?_
    replace h := Option.some.inj h; subst h
    exact hret () H locs _ ls hP hD hS dX4_storeysOf_47 rfl
set_option maxHeartbeats 4000000 in
set_option maxRecDepth 100000 in
theorem c_X4_floorBy (l : Launch) (dC : Nat → ClassId) (dI : Nat → Nat → Nat) (cyI cyO : ClassId) (aM : Nat → Nat) (sz : Nat) (Mfault : Int32) (Mtrace : Int32) (Mdeeds : Int32) (Mpeople : Int32) (Mat : Int32) (MreadDeeds : Int32) (MreadMany : Int32) (Mpairs : Int32) (Mcaught : Int32) (Mreadings : Int32) (M_weightOf : Nat → Int32) (M_kind : Nat → Int32) (p1 : Int32) (p2 : Int32) {o : Int32}  (h : f_X4_floorBy Mdeeds M_weightOf M_kind p1 p2 = some o) : CtI l yX4_floorBy wsX4_floorBy { frames := 1, cells := 0, slots := 0, locals := 22 } (dC, dI) [(cyI, .int), (cyO, .object RX0)] [.ref (aM 0), .int p1, .int p2] sz [((aM 0), .inr (4, [.int Mfault, .int Mtrace, .ref (aM 1), .ref (aM 2), .ref (aM 3), .int Mdeeds, .int Mpeople, .ref (aM 4), .ref (aM 5), .ref (aM 6), .ref (aM 7), .ref (aM 8), .int Mat, .int MreadDeeds, .int MreadMany, .ref (aM 9), .ref (aM 10), .ref (aM 11), .int Mpairs, .ref (aM 12), .ref (aM 13), .int Mcaught, .int Mreadings, .ref (aM 14), .ref (aM 15)])), ((aM 4), .inl (cyI, 6, .inl M_weightOf)), ((aM 5), .inl (cyI, 4, .inl M_kind))] (fun (_ : Unit) => [((aM 0), .inr (4, [.int Mfault, .int Mtrace, .ref (aM 1), .ref (aM 2), .ref (aM 3), .int Mdeeds, .int Mpeople, .ref (aM 4), .ref (aM 5), .ref (aM 6), .ref (aM 7), .ref (aM 8), .int Mat, .int MreadDeeds, .int MreadMany, .ref (aM 9), .ref (aM 10), .ref (aM 11), .int Mpairs, .ref (aM 12), .ref (aM 13), .int Mcaught, .int Mreadings, .ref (aM 14), .ref (aM 15)])), ((aM 4), .inl (cyI, 6, .inl M_weightOf)), ((aM 5), .inl (cyI, 4, .inl M_kind))]) o := by
  refine CtI.of (cc := cX4_floorBy) (maxL := 5) (by decide) rfl (Nat.le_of_ble_eq_true rfl) ?_
  intro p e s m args below meth c A Q H locs hx hb hml hown hts hA hK hP hD hS hret ls hl
  have hown : s.vm.findClass RX4 = some m.cls := hown
  have hl : lv_has ls 5 [(0, .ref (aM 0)), (1, .int p1), (2, .int p2)] := hl
  unfold f_X4_floorBy at h
  have hiX4 : ∀ w ∈ u_ws RX4 TX4 25, w ∈ wsX4_floorBy := by decide +kernel
  have hf65 := hts (.fieldLink RX4 65 "TowerTellModel" "deeds" "I") (by decide +kernel)
  have lp5 : ∀ (n : Nat) (x3 : Int32) (x4 : Int32) (H : Heap) (locs : List Loc) (ls : Array Slot), l_X4_floorBy_5 Mdeeds M_weightOf M_kind p1 p2 n (x3, x4) = some o → va_P (dC, dI) vwCl [((aM 0), .inr (4, [.int Mfault, .int Mtrace, .ref (aM 1), .ref (aM 2), .ref (aM 3), .int Mdeeds, .int Mpeople, .ref (aM 4), .ref (aM 5), .ref (aM 6), .ref (aM 7), .ref (aM 8), .int Mat, .int MreadDeeds, .int MreadMany, .ref (aM 9), .ref (aM 10), .ref (aM 11), .int Mpairs, .ref (aM 12), .ref (aM 13), .int Mcaught, .int Mreadings, .ref (aM 14), .ref (aM 15)])), ((aM 4), .inl (cyI, 6, .inl M_weightOf)), ((aM 5), .inl (cyI, 4, .inl M_kind))] H → va_D A [((aM 0), .inr (4, [.int Mfault, .int Mtrace, .ref (aM 1), .ref (aM 2), .ref (aM 3), .int Mdeeds, .int Mpeople, .ref (aM 4), .ref (aM 5), .ref (aM 6), .ref (aM 7), .ref (aM 8), .int Mat, .int MreadDeeds, .int MreadMany, .ref (aM 9), .ref (aM 10), .ref (aM 11), .int Mpairs, .ref (aM 12), .ref (aM 13), .int Mcaught, .int Mreadings, .ref (aM 14), .ref (aM 15)])), ((aM 4), .inl (cyI, 6, .inl M_weightOf)), ((aM 5), .inl (cyI, 4, .inl M_kind))] → va_S A s.heap H locs → lv_has ls 5 [(0, .ref (aM 0)), (1, .int p1), (2, .int p2), (3, .int x3), (4, .int x4)] → W p l e { frames := 1, cells := 0, slots := 0, locals := 22 } s m args below meth c H locs 0 0 Q (F0 m 5 ls []) := by
    intro n
    induction n with
    | zero => intro _ _ H locs ls h _ _ _ _; exact (lpF_0 h).elim
    | succ n ih =>
      intro x3 x4 H locs ls h hP hD hS hl
      replace h : b_X4_floorBy_5 Mdeeds M_weightOf M_kind p1 p2 (l_X4_floorBy_5 Mdeeds M_weightOf M_kind p1 p2 n) x3 x4 = some o := h
      unfold b_X4_floorBy_5 at h
      refine lv_iload hx hb dX4_floorBy_5 (lv_at hl 4 rfl) ?_
      refine lv_aload_n hx hb dX4_floorBy_7 rfl (lv_at hl 0 rfl) ?_
      refine va_get (D := (dC, dI)) (ci := 4) (v := .int Mdeeds) (C := RX4) (T := TX4) (N := 25) hx hb hts hiX4 hown hK hP 0 rfl rfl 5 (by decide) hf65 (fun _ h9 => h9) rfl dX4_floorBy_8 ?_
      refine lv_icmp_ge (tgt := 44) hx hb dX4_floorBy_11 (by decide) (fun c1 => ?_) (fun c1 => ?_)
      · replace h := it_t c1 h
        refine lv_iload_n hx hb dX4_floorBy_44 rfl (lv_at hl 3 rfl) ?_
        replace h := Option.some.inj h; subst h
        exact hret () H locs _ ls hP hD hS dX4_floorBy_45 rfl
      · replace h := it_f c1 h
        refine lv_iload_n hx hb dX4_floorBy_14 rfl (lv_at hl 3 rfl) ?_
        refine lv_iload_n hx hb dX4_floorBy_15 rfl (lv_at hl 2 rfl) ?_
        refine lv_iload hx hb dX4_floorBy_16 (lv_at hl 4 rfl) ?_
        refine lv_ishr hx hb dX4_floorBy_18 ?_
        refine lv_iconst (v := 1) hx hb dX4_floorBy_19 (by decide) ?_
        refine lv_iand hx hb dX4_floorBy_20 ?_
        refine lv_iconst (v := 1) hx hb dX4_floorBy_21 (by decide) ?_
        refine lv_icmp_ne (tgt := 35) hx hb dX4_floorBy_22 (by decide) (fun c2 => ?_) (fun c2 => ?_)
        · replace h := it_f c2 h
          refine lv_iconst (v := 0) hx hb dX4_floorBy_35 (by decide) ?_
          refine lv_iadd hx hb dX4_floorBy_36 ?_
          refine lv_istore_n (lv' := [(3, .int (x3 + 0)), (0, .ref (aM 0)), (1, .int p1), (2, .int p2), (4, .int x4)]) hx hb dX4_floorBy_37 rfl hl (by decide) rfl (fun ls hl => ?_)
          refine lv_iinc (v := (x4 + 1)) (lv' := [(4, .int (x4 + 1)), (3, .int (x3 + 0)), (0, .ref (aM 0)), (1, .int p1), (2, .int p2)]) hx hb dX4_floorBy_38 hl (k := 4) rfl rfl (by decide) rfl (fun ls hl => ?_)
          refine lv_goto (tgt := 5) hx hb dX4_floorBy_41 (by decide) ?_
          exact ih (x3 + 0) (x4 + 1) H locs ls h hP hD hS (lv_sub hl [2, 3, 4, 1, 0] rfl)
        · replace h := it_t c2 h
          refine lv_aload_n hx hb dX4_floorBy_25 rfl (lv_at hl 0 rfl) ?_
          refine lv_iload_n hx hb dX4_floorBy_26 rfl (lv_at hl 1 rfl) ?_
          refine lv_iload hx hb dX4_floorBy_27 (lv_at hl 4 rfl) ?_
          obtain ⟨o3, hc4, h⟩ := ob h
          refine k_vi (As := [.int p1, .int x4]) (rest := [.int x3]) ⟨hx, hb, hml, hown, hts⟩ (c_X4_storeysOf l dC dI cyI cyO aM H.size Mfault Mtrace Mdeeds Mpeople Mat MreadDeeds MreadMany Mpairs Mcaught Mreadings M_weightOf M_kind p1 x4 hc4) (cwV 2 hts gX4_floorBy_X4_storeysOf rfl rfl rfl (by decide +kernel) ⟨Nat.le_of_ble_eq_true rfl, Nat.le_of_ble_eq_true rfl⟩) hP hD hK hS hA [0, 1, 2] [] rfl rfl (by decide) (by decide) (by decide) 4 0 rfl rfl rfl rfl hl.1 rfl (Nat.le_of_ble_eq_true rfl) dX4_floorBy_29 ⟨Nat.zero_le _, Nat.zero_le _⟩ (fun _ H locs hP hD hS => ?_)
          have hP : va_P (dC, dI) vwCl [((aM 0), .inr (4, [.int Mfault, .int Mtrace, .ref (aM 1), .ref (aM 2), .ref (aM 3), .int Mdeeds, .int Mpeople, .ref (aM 4), .ref (aM 5), .ref (aM 6), .ref (aM 7), .ref (aM 8), .int Mat, .int MreadDeeds, .int MreadMany, .ref (aM 9), .ref (aM 10), .ref (aM 11), .int Mpairs, .ref (aM 12), .ref (aM 13), .int Mcaught, .int Mreadings, .ref (aM 14), .ref (aM 15)])), ((aM 4), .inl (cyI, 6, .inl M_weightOf)), ((aM 5), .inl (cyI, 4, .inl M_kind))] H := hP
          have hD : va_D A [((aM 0), .inr (4, [.int Mfault, .int Mtrace, .ref (aM 1), .ref (aM 2), .ref (aM 3), .int Mdeeds, .int Mpeople, .ref (aM 4), .ref (aM 5), .ref (aM 6), .ref (aM 7), .ref (aM 8), .int Mat, .int MreadDeeds, .int MreadMany, .ref (aM 9), .ref (aM 10), .ref (aM 11), .int Mpairs, .ref (aM 12), .ref (aM 13), .int Mcaught, .int Mreadings, .ref (aM 14), .ref (aM 15)])), ((aM 4), .inl (cyI, 6, .inl M_weightOf)), ((aM 5), .inl (cyI, 4, .inl M_kind))] := hD
          refine lv_goto (tgt := 36) hx hb dX4_floorBy_32 (by decide) ?_
          refine lv_iadd hx hb dX4_floorBy_36 ?_
          refine lv_istore_n (lv' := [(3, .int (x3 + o3)), (0, .ref (aM 0)), (1, .int p1), (2, .int p2), (4, .int x4)]) hx hb dX4_floorBy_37 rfl hl (by decide) rfl (fun ls hl => ?_)
          refine lv_iinc (v := (x4 + 1)) (lv' := [(4, .int (x4 + 1)), (3, .int (x3 + o3)), (0, .ref (aM 0)), (1, .int p1), (2, .int p2)]) hx hb dX4_floorBy_38 hl (k := 4) rfl rfl (by decide) rfl (fun ls hl => ?_)
          refine lv_goto (tgt := 5) hx hb dX4_floorBy_41 (by decide) ?_
          exact ih (x3 + o3) (x4 + 1) H locs ls h hP hD hS (lv_sub hl [2, 3, 4, 1, 0] rfl)
  refine lv_iconst (v := 0) hx hb dX4_floorBy_0 (by decide) ?_
  refine lv_istore_n (lv' := [(3, .int 0), (0, .ref (aM 0)), (1, .int p1), (2, .int p2)]) hx hb dX4_floorBy_1 rfl hl (by decide) rfl (fun ls hl => ?_)
  refine lv_iconst (v := 0) hx hb dX4_floorBy_2 (by decide) ?_
  refine lv_istore (lv' := [(4, .int 0), (3, .int 0), (0, .ref (aM 0)), (1, .int p1), (2, .int p2)]) hx hb dX4_floorBy_3 hl (by decide) rfl (fun ls hl => ?_)
  exact lp5 99 0 0 H locs ls h hP hD hS (lv_sub hl [2, 3, 4, 1, 0] rfl)
set_option maxHeartbeats 4000000 in
set_option maxRecDepth 100000 in
theorem c_X4_ofPerson (l : Launch) (dC : Nat → ClassId) (dI : Nat → Nat → Nat) (cyI cyO : ClassId) (aM : Nat → Nat) (sz : Nat) (Mfault : Int32) (Mtrace : Int32) (Mdeeds : Int32) (Mpeople : Int32) (Mat : Int32) (MreadDeeds : Int32) (MreadMany : Int32) (Mpairs : Int32) (Mcaught : Int32) (Mreadings : Int32) (M_weightOf : Nat → Int32) (M_kind : Nat → Int32) (M_done : Nat → Int32) (M_knows : Nat → Int32) (M_told : Nat → Int32) (p1 : Int32) (p2 : Int32) {o : Int32}  (h : f_X4_ofPerson Mdeeds Mpeople M_weightOf M_kind M_done M_knows M_told p1 p2 = some o) : CtI l yX4_ofPerson wsX4_ofPerson { frames := 2, cells := 0, slots := 0, locals := 46 } (dC, dI) [(cyI, .int), (cyO, .object RX0)] [.ref (aM 0), .int p1, .int p2] sz [((aM 0), .inr (4, [.int Mfault, .int Mtrace, .ref (aM 1), .ref (aM 2), .ref (aM 3), .int Mdeeds, .int Mpeople, .ref (aM 4), .ref (aM 5), .ref (aM 6), .ref (aM 7), .ref (aM 8), .int Mat, .int MreadDeeds, .int MreadMany, .ref (aM 9), .ref (aM 10), .ref (aM 11), .int Mpairs, .ref (aM 12), .ref (aM 13), .int Mcaught, .int Mreadings, .ref (aM 14), .ref (aM 15)])), ((aM 4), .inl (cyI, 6, .inl M_weightOf)), ((aM 5), .inl (cyI, 4, .inl M_kind)), ((aM 6), .inl (cyI, 4, .inl M_done)), ((aM 7), .inl (cyI, 4, .inl M_knows)), ((aM 8), .inl (cyI, 4, .inl M_told))] (fun (_ : Unit) => [((aM 0), .inr (4, [.int Mfault, .int Mtrace, .ref (aM 1), .ref (aM 2), .ref (aM 3), .int Mdeeds, .int Mpeople, .ref (aM 4), .ref (aM 5), .ref (aM 6), .ref (aM 7), .ref (aM 8), .int Mat, .int MreadDeeds, .int MreadMany, .ref (aM 9), .ref (aM 10), .ref (aM 11), .int Mpairs, .ref (aM 12), .ref (aM 13), .int Mcaught, .int Mreadings, .ref (aM 14), .ref (aM 15)])), ((aM 4), .inl (cyI, 6, .inl M_weightOf)), ((aM 5), .inl (cyI, 4, .inl M_kind)), ((aM 6), .inl (cyI, 4, .inl M_done)), ((aM 7), .inl (cyI, 4, .inl M_knows)), ((aM 8), .inl (cyI, 4, .inl M_told))]) o := by
  refine CtI.of (cc := cX4_ofPerson) (maxL := 3) (by decide) rfl (Nat.le_of_ble_eq_true rfl) ?_
  intro p e s m args below meth c A Q H locs hx hb hml hown hts hA hK hP hD hS hret ls hl
  have hown : s.vm.findClass RX4 = some m.cls := hown
  have hl : lv_has ls 3 [(0, .ref (aM 0)), (1, .int p1), (2, .int p2)] := hl
  unfold f_X4_ofPerson at h
  have hiX4 : ∀ w ∈ u_ws RX4 TX4 25, w ∈ wsX4_ofPerson := by decide +kernel
  have hf22 := hts (.fieldLink RX4 22 "TowerTellModel" "kind" "[I") (by decide +kernel)
  have hf25 := hts (.fieldLink RX4 25 "TowerTellModel" "done" "[I") (by decide +kernel)
  have hf28 := hts (.fieldLink RX4 28 "TowerTellModel" "knows" "[I") (by decide +kernel)
  have hf31 := hts (.fieldLink RX4 31 "TowerTellModel" "told" "[I") (by decide +kernel)
  refine lv_aload_n hx hb dX4_ofPerson_0 rfl (lv_at hl 0 rfl) ?_
  refine lv_iload_n hx hb dX4_ofPerson_1 rfl (lv_at hl 1 rfl) ?_
  obtain ⟨o1, hc2, h⟩ := ob h
  refine k_vi (As := [.int p1]) (rest := []) ⟨hx, hb, hml, hown, hts⟩ (c_X4_isPerson l dC dI cyI cyO aM H.size Mfault Mtrace Mdeeds Mpeople Mat MreadDeeds MreadMany Mpairs Mcaught Mreadings p1 hc2) (cwV 1 hts gX4_ofPerson_X4_isPerson rfl rfl rfl (by decide +kernel) ⟨Nat.le_of_ble_eq_true rfl, Nat.le_of_ble_eq_true rfl⟩) hP hD hK hS hA [0] [1, 2, 3, 4, 5] rfl rfl (by decide) (by decide) (by decide) 4 0 rfl rfl rfl rfl hl.1 rfl (Nat.le_of_ble_eq_true rfl) dX4_ofPerson_2 ⟨Nat.zero_le _, Nat.zero_le _⟩ (fun _ H locs hP hD hS => ?_)
  have hP : va_P (dC, dI) vwCl [((aM 4), .inl (cyI, 6, .inl M_weightOf)), ((aM 5), .inl (cyI, 4, .inl M_kind)), ((aM 6), .inl (cyI, 4, .inl M_done)), ((aM 7), .inl (cyI, 4, .inl M_knows)), ((aM 8), .inl (cyI, 4, .inl M_told)), ((aM 0), .inr (4, [.int Mfault, .int Mtrace, .ref (aM 1), .ref (aM 2), .ref (aM 3), .int Mdeeds, .int Mpeople, .ref (aM 4), .ref (aM 5), .ref (aM 6), .ref (aM 7), .ref (aM 8), .int Mat, .int MreadDeeds, .int MreadMany, .ref (aM 9), .ref (aM 10), .ref (aM 11), .int Mpairs, .ref (aM 12), .ref (aM 13), .int Mcaught, .int Mreadings, .ref (aM 14), .ref (aM 15)]))] H := hP
  have hD : va_D A [((aM 4), .inl (cyI, 6, .inl M_weightOf)), ((aM 5), .inl (cyI, 4, .inl M_kind)), ((aM 6), .inl (cyI, 4, .inl M_done)), ((aM 7), .inl (cyI, 4, .inl M_knows)), ((aM 8), .inl (cyI, 4, .inl M_told)), ((aM 0), .inr (4, [.int Mfault, .int Mtrace, .ref (aM 1), .ref (aM 2), .ref (aM 3), .int Mdeeds, .int Mpeople, .ref (aM 4), .ref (aM 5), .ref (aM 6), .ref (aM 7), .ref (aM 8), .int Mat, .int MreadDeeds, .int MreadMany, .ref (aM 9), .ref (aM 10), .ref (aM 11), .int Mpairs, .ref (aM 12), .ref (aM 13), .int Mcaught, .int Mreadings, .ref (aM 14), .ref (aM 15)]))] := hD
  refine lv_if_ne (tgt := 10) hx hb dX4_ofPerson_5 (by decide) (fun c3 => ?_) (fun c3 => ?_)
  · replace h := it_f c3 h
    refine lv_iload_n hx hb dX4_ofPerson_10 rfl (lv_at hl 2 rfl) ?_
    by_cases c4 : p2 = 0
    · replace h := it_t c4 h
      refine lv_tableIn (tgt := 44) (off := 33) hx hb dX4_ofPerson_11 (by rw [c4]; decide) (by rw [c4]; decide) (by rw [c4]; rfl) (by decide) ?_
      refine lv_aload_n hx hb dX4_ofPerson_44 rfl (lv_at hl 0 rfl) ?_
      refine va_get (D := (dC, dI)) (ci := 4) (v := .ref (aM 5)) (C := RX4) (T := TX4) (N := 25) hx hb hts hiX4 hown hK hP 5 rfl rfl 8 (by decide) hf22 (fun _ h9 => h9) rfl dX4_ofPerson_45 ?_
      refine lv_iload_n hx hb dX4_ofPerson_48 rfl (lv_at hl 1 rfl) ?_
      obtain ⟨e5, h⟩ := it_n h
      refine va_iald hx hb hK hP 1 0 rfl rfl (ix_in e5) dX4_ofPerson_49 ?_
      replace h := Option.some.inj h; subst h
      have hP := hP.sub (ws' := [((aM 0), .inr (4, [.int Mfault, .int Mtrace, .ref (aM 1), .ref (aM 2), .ref (aM 3), .int Mdeeds, .int Mpeople, .ref (aM 4), .ref (aM 5), .ref (aM 6), .ref (aM 7), .ref (aM 8), .int Mat, .int MreadDeeds, .int MreadMany, .ref (aM 9), .ref (aM 10), .ref (aM 11), .int Mpairs, .ref (aM 12), .ref (aM 13), .int Mcaught, .int Mreadings, .ref (aM 14), .ref (aM 15)])), ((aM 4), .inl (cyI, 6, .inl M_weightOf)), ((aM 5), .inl (cyI, 4, .inl M_kind)), ((aM 6), .inl (cyI, 4, .inl M_done)), ((aM 7), .inl (cyI, 4, .inl M_knows)), ((aM 8), .inl (cyI, 4, .inl M_told))]) [5, 0, 1, 2, 3, 4] rfl
      have hD := hD.sub (ws' := [((aM 0), .inr (4, [.int Mfault, .int Mtrace, .ref (aM 1), .ref (aM 2), .ref (aM 3), .int Mdeeds, .int Mpeople, .ref (aM 4), .ref (aM 5), .ref (aM 6), .ref (aM 7), .ref (aM 8), .int Mat, .int MreadDeeds, .int MreadMany, .ref (aM 9), .ref (aM 10), .ref (aM 11), .int Mpairs, .ref (aM 12), .ref (aM 13), .int Mcaught, .int Mreadings, .ref (aM 14), .ref (aM 15)])), ((aM 4), .inl (cyI, 6, .inl M_weightOf)), ((aM 5), .inl (cyI, 4, .inl M_kind)), ((aM 6), .inl (cyI, 4, .inl M_done)), ((aM 7), .inl (cyI, 4, .inl M_knows)), ((aM 8), .inl (cyI, 4, .inl M_told))]) [5, 0, 1, 2, 3, 4] (by decide) rfl
      exact hret () H locs _ ls hP hD hS dX4_ofPerson_50 rfl
    · replace h := it_f c4 h
      by_cases c6 : p2 = 1
      · replace h := it_t c6 h
        refine lv_tableIn (tgt := 51) (off := 40) hx hb dX4_ofPerson_11 (by rw [c6]; decide) (by rw [c6]; decide) (by rw [c6]; rfl) (by decide) ?_
        refine lv_aload_n hx hb dX4_ofPerson_51 rfl (lv_at hl 0 rfl) ?_
        refine va_get (D := (dC, dI)) (ci := 4) (v := .ref (aM 6)) (C := RX4) (T := TX4) (N := 25) hx hb hts hiX4 hown hK hP 5 rfl rfl 9 (by decide) hf25 (fun _ h9 => h9) rfl dX4_ofPerson_52 ?_
        refine lv_iload_n hx hb dX4_ofPerson_55 rfl (lv_at hl 1 rfl) ?_
        obtain ⟨e7, h⟩ := it_n h
        refine va_iald hx hb hK hP 2 0 rfl rfl (ix_in e7) dX4_ofPerson_56 ?_
        replace h := Option.some.inj h; subst h
        have hP := hP.sub (ws' := [((aM 0), .inr (4, [.int Mfault, .int Mtrace, .ref (aM 1), .ref (aM 2), .ref (aM 3), .int Mdeeds, .int Mpeople, .ref (aM 4), .ref (aM 5), .ref (aM 6), .ref (aM 7), .ref (aM 8), .int Mat, .int MreadDeeds, .int MreadMany, .ref (aM 9), .ref (aM 10), .ref (aM 11), .int Mpairs, .ref (aM 12), .ref (aM 13), .int Mcaught, .int Mreadings, .ref (aM 14), .ref (aM 15)])), ((aM 4), .inl (cyI, 6, .inl M_weightOf)), ((aM 5), .inl (cyI, 4, .inl M_kind)), ((aM 6), .inl (cyI, 4, .inl M_done)), ((aM 7), .inl (cyI, 4, .inl M_knows)), ((aM 8), .inl (cyI, 4, .inl M_told))]) [5, 0, 1, 2, 3, 4] rfl
        have hD := hD.sub (ws' := [((aM 0), .inr (4, [.int Mfault, .int Mtrace, .ref (aM 1), .ref (aM 2), .ref (aM 3), .int Mdeeds, .int Mpeople, .ref (aM 4), .ref (aM 5), .ref (aM 6), .ref (aM 7), .ref (aM 8), .int Mat, .int MreadDeeds, .int MreadMany, .ref (aM 9), .ref (aM 10), .ref (aM 11), .int Mpairs, .ref (aM 12), .ref (aM 13), .int Mcaught, .int Mreadings, .ref (aM 14), .ref (aM 15)])), ((aM 4), .inl (cyI, 6, .inl M_weightOf)), ((aM 5), .inl (cyI, 4, .inl M_kind)), ((aM 6), .inl (cyI, 4, .inl M_done)), ((aM 7), .inl (cyI, 4, .inl M_knows)), ((aM 8), .inl (cyI, 4, .inl M_told))]) [5, 0, 1, 2, 3, 4] (by decide) rfl
        exact hret () H locs _ ls hP hD hS dX4_ofPerson_57 rfl
      · replace h := it_f c6 h
        by_cases c8 : p2 = 2
        · replace h := it_t c8 h
          refine lv_tableIn (tgt := 58) (off := 47) hx hb dX4_ofPerson_11 (by rw [c8]; decide) (by rw [c8]; decide) (by rw [c8]; rfl) (by decide) ?_
          refine lv_aload_n hx hb dX4_ofPerson_58 rfl (lv_at hl 0 rfl) ?_
          refine va_get (D := (dC, dI)) (ci := 4) (v := .ref (aM 7)) (C := RX4) (T := TX4) (N := 25) hx hb hts hiX4 hown hK hP 5 rfl rfl 10 (by decide) hf28 (fun _ h9 => h9) rfl dX4_ofPerson_59 ?_
          refine lv_iload_n hx hb dX4_ofPerson_62 rfl (lv_at hl 1 rfl) ?_
          obtain ⟨e9, h⟩ := it_n h
          refine va_iald hx hb hK hP 3 0 rfl rfl (ix_in e9) dX4_ofPerson_63 ?_
          replace h := Option.some.inj h; subst h
          have hP := hP.sub (ws' := [((aM 0), .inr (4, [.int Mfault, .int Mtrace, .ref (aM 1), .ref (aM 2), .ref (aM 3), .int Mdeeds, .int Mpeople, .ref (aM 4), .ref (aM 5), .ref (aM 6), .ref (aM 7), .ref (aM 8), .int Mat, .int MreadDeeds, .int MreadMany, .ref (aM 9), .ref (aM 10), .ref (aM 11), .int Mpairs, .ref (aM 12), .ref (aM 13), .int Mcaught, .int Mreadings, .ref (aM 14), .ref (aM 15)])), ((aM 4), .inl (cyI, 6, .inl M_weightOf)), ((aM 5), .inl (cyI, 4, .inl M_kind)), ((aM 6), .inl (cyI, 4, .inl M_done)), ((aM 7), .inl (cyI, 4, .inl M_knows)), ((aM 8), .inl (cyI, 4, .inl M_told))]) [5, 0, 1, 2, 3, 4] rfl
          have hD := hD.sub (ws' := [((aM 0), .inr (4, [.int Mfault, .int Mtrace, .ref (aM 1), .ref (aM 2), .ref (aM 3), .int Mdeeds, .int Mpeople, .ref (aM 4), .ref (aM 5), .ref (aM 6), .ref (aM 7), .ref (aM 8), .int Mat, .int MreadDeeds, .int MreadMany, .ref (aM 9), .ref (aM 10), .ref (aM 11), .int Mpairs, .ref (aM 12), .ref (aM 13), .int Mcaught, .int Mreadings, .ref (aM 14), .ref (aM 15)])), ((aM 4), .inl (cyI, 6, .inl M_weightOf)), ((aM 5), .inl (cyI, 4, .inl M_kind)), ((aM 6), .inl (cyI, 4, .inl M_done)), ((aM 7), .inl (cyI, 4, .inl M_knows)), ((aM 8), .inl (cyI, 4, .inl M_told))]) [5, 0, 1, 2, 3, 4] (by decide) rfl
          exact hret () H locs _ ls hP hD hS dX4_ofPerson_64 rfl
        · replace h := it_f c8 h
          by_cases c10 : p2 = 3
          · replace h := it_t c10 h
            refine lv_tableIn (tgt := 65) (off := 54) hx hb dX4_ofPerson_11 (by rw [c10]; decide) (by rw [c10]; decide) (by rw [c10]; rfl) (by decide) ?_
            refine lv_aload_n hx hb dX4_ofPerson_65 rfl (lv_at hl 0 rfl) ?_
            refine va_get (D := (dC, dI)) (ci := 4) (v := .ref (aM 8)) (C := RX4) (T := TX4) (N := 25) hx hb hts hiX4 hown hK hP 5 rfl rfl 11 (by decide) hf31 (fun _ h9 => h9) rfl dX4_ofPerson_66 ?_
            refine lv_iload_n hx hb dX4_ofPerson_69 rfl (lv_at hl 1 rfl) ?_
            obtain ⟨e11, h⟩ := it_n h
            refine va_iald hx hb hK hP 4 0 rfl rfl (ix_in e11) dX4_ofPerson_70 ?_
            replace h := Option.some.inj h; subst h
            have hP := hP.sub (ws' := [((aM 0), .inr (4, [.int Mfault, .int Mtrace, .ref (aM 1), .ref (aM 2), .ref (aM 3), .int Mdeeds, .int Mpeople, .ref (aM 4), .ref (aM 5), .ref (aM 6), .ref (aM 7), .ref (aM 8), .int Mat, .int MreadDeeds, .int MreadMany, .ref (aM 9), .ref (aM 10), .ref (aM 11), .int Mpairs, .ref (aM 12), .ref (aM 13), .int Mcaught, .int Mreadings, .ref (aM 14), .ref (aM 15)])), ((aM 4), .inl (cyI, 6, .inl M_weightOf)), ((aM 5), .inl (cyI, 4, .inl M_kind)), ((aM 6), .inl (cyI, 4, .inl M_done)), ((aM 7), .inl (cyI, 4, .inl M_knows)), ((aM 8), .inl (cyI, 4, .inl M_told))]) [5, 0, 1, 2, 3, 4] rfl
            have hD := hD.sub (ws' := [((aM 0), .inr (4, [.int Mfault, .int Mtrace, .ref (aM 1), .ref (aM 2), .ref (aM 3), .int Mdeeds, .int Mpeople, .ref (aM 4), .ref (aM 5), .ref (aM 6), .ref (aM 7), .ref (aM 8), .int Mat, .int MreadDeeds, .int MreadMany, .ref (aM 9), .ref (aM 10), .ref (aM 11), .int Mpairs, .ref (aM 12), .ref (aM 13), .int Mcaught, .int Mreadings, .ref (aM 14), .ref (aM 15)])), ((aM 4), .inl (cyI, 6, .inl M_weightOf)), ((aM 5), .inl (cyI, 4, .inl M_kind)), ((aM 6), .inl (cyI, 4, .inl M_done)), ((aM 7), .inl (cyI, 4, .inl M_knows)), ((aM 8), .inl (cyI, 4, .inl M_told))]) [5, 0, 1, 2, 3, 4] (by decide) rfl
            exact hret () H locs _ ls hP hD hS dX4_ofPerson_71 rfl
          · replace h := it_f c10 h
            by_cases c12 : p2 = 4
            · replace h := it_t c12 h
              refine lv_tableIn (tgt := 72) (off := 61) hx hb dX4_ofPerson_11 (by rw [c12]; decide) (by rw [c12]; decide) (by rw [c12]; rfl) (by decide) ?_
              refine lv_aload_n hx hb dX4_ofPerson_72 rfl (lv_at hl 0 rfl) ?_
              refine lv_iload_n hx hb dX4_ofPerson_73 rfl (lv_at hl 1 rfl) ?_
              refine lv_aload_n hx hb dX4_ofPerson_74 rfl (lv_at hl 0 rfl) ?_
              refine va_get (D := (dC, dI)) (ci := 4) (v := .ref (aM 8)) (C := RX4) (T := TX4) (N := 25) hx hb hts hiX4 hown hK hP 5 rfl rfl 11 (by decide) hf31 (fun _ h9 => h9) rfl dX4_ofPerson_75 ?_
              refine lv_iload_n hx hb dX4_ofPerson_78 rfl (lv_at hl 1 rfl) ?_
              obtain ⟨e13, h⟩ := it_n h
              refine va_iald hx hb hK hP 4 0 rfl rfl (ix_in e13) dX4_ofPerson_79 ?_
              obtain ⟨o14, hc15, h⟩ := ob h
              refine k_vi (As := [.int p1, .int (M_told p1.toNatClampNeg)]) (rest := []) ⟨hx, hb, hml, hown, hts⟩ (c_X4_floorBy l dC dI cyI cyO aM H.size Mfault Mtrace Mdeeds Mpeople Mat MreadDeeds MreadMany Mpairs Mcaught Mreadings M_weightOf M_kind p1 (M_told p1.toNatClampNeg) hc15) (cwV 2 hts gX4_ofPerson_X4_floorBy rfl rfl rfl (by decide +kernel) ⟨Nat.le_of_ble_eq_true rfl, Nat.le_of_ble_eq_true rfl⟩) hP hD hK hS hA [5, 0, 1] [2, 3, 4] rfl rfl (by decide) (by decide) (by decide) 4 0 rfl rfl rfl rfl hl.1 rfl (Nat.le_of_ble_eq_true rfl) dX4_ofPerson_80 ⟨Nat.zero_le _, Nat.zero_le _⟩ (fun _ H locs hP hD hS => ?_)
              have hP : va_P (dC, dI) vwCl [((aM 6), .inl (cyI, 4, .inl M_done)), ((aM 7), .inl (cyI, 4, .inl M_knows)), ((aM 8), .inl (cyI, 4, .inl M_told)), ((aM 0), .inr (4, [.int Mfault, .int Mtrace, .ref (aM 1), .ref (aM 2), .ref (aM 3), .int Mdeeds, .int Mpeople, .ref (aM 4), .ref (aM 5), .ref (aM 6), .ref (aM 7), .ref (aM 8), .int Mat, .int MreadDeeds, .int MreadMany, .ref (aM 9), .ref (aM 10), .ref (aM 11), .int Mpairs, .ref (aM 12), .ref (aM 13), .int Mcaught, .int Mreadings, .ref (aM 14), .ref (aM 15)])), ((aM 4), .inl (cyI, 6, .inl M_weightOf)), ((aM 5), .inl (cyI, 4, .inl M_kind))] H := hP
              have hD : va_D A [((aM 6), .inl (cyI, 4, .inl M_done)), ((aM 7), .inl (cyI, 4, .inl M_knows)), ((aM 8), .inl (cyI, 4, .inl M_told)), ((aM 0), .inr (4, [.int Mfault, .int Mtrace, .ref (aM 1), .ref (aM 2), .ref (aM 3), .int Mdeeds, .int Mpeople, .ref (aM 4), .ref (aM 5), .ref (aM 6), .ref (aM 7), .ref (aM 8), .int Mat, .int MreadDeeds, .int MreadMany, .ref (aM 9), .ref (aM 10), .ref (aM 11), .int Mpairs, .ref (aM 12), .ref (aM 13), .int Mcaught, .int Mreadings, .ref (aM 14), .ref (aM 15)])), ((aM 4), .inl (cyI, 6, .inl M_weightOf)), ((aM 5), .inl (cyI, 4, .inl M_kind))] := hD
              replace h := Option.some.inj h; subst h
              have hP := hP.sub (ws' := [((aM 0), .inr (4, [.int Mfault, .int Mtrace, .ref (aM 1), .ref (aM 2), .ref (aM 3), .int Mdeeds, .int Mpeople, .ref (aM 4), .ref (aM 5), .ref (aM 6), .ref (aM 7), .ref (aM 8), .int Mat, .int MreadDeeds, .int MreadMany, .ref (aM 9), .ref (aM 10), .ref (aM 11), .int Mpairs, .ref (aM 12), .ref (aM 13), .int Mcaught, .int Mreadings, .ref (aM 14), .ref (aM 15)])), ((aM 4), .inl (cyI, 6, .inl M_weightOf)), ((aM 5), .inl (cyI, 4, .inl M_kind)), ((aM 6), .inl (cyI, 4, .inl M_done)), ((aM 7), .inl (cyI, 4, .inl M_knows)), ((aM 8), .inl (cyI, 4, .inl M_told))]) [3, 4, 5, 0, 1, 2] rfl
              have hD := hD.sub (ws' := [((aM 0), .inr (4, [.int Mfault, .int Mtrace, .ref (aM 1), .ref (aM 2), .ref (aM 3), .int Mdeeds, .int Mpeople, .ref (aM 4), .ref (aM 5), .ref (aM 6), .ref (aM 7), .ref (aM 8), .int Mat, .int MreadDeeds, .int MreadMany, .ref (aM 9), .ref (aM 10), .ref (aM 11), .int Mpairs, .ref (aM 12), .ref (aM 13), .int Mcaught, .int Mreadings, .ref (aM 14), .ref (aM 15)])), ((aM 4), .inl (cyI, 6, .inl M_weightOf)), ((aM 5), .inl (cyI, 4, .inl M_kind)), ((aM 6), .inl (cyI, 4, .inl M_done)), ((aM 7), .inl (cyI, 4, .inl M_knows)), ((aM 8), .inl (cyI, 4, .inl M_told))]) [3, 4, 5, 0, 1, 2] (by decide) rfl
              exact hret () H locs _ ls hP hD hS dX4_ofPerson_83 rfl
            · replace h := it_f c12 h
              refine lv_tableOut (tgt := 84) hx hb dX4_ofPerson_11 (by have z0 := lv_neT c4 (show (0 : Int32).toInt = 0 from rfl); have z1 := lv_neT c6 (show (1 : Int32).toInt = 1 from rfl); have z2 := lv_neT c8 (show (2 : Int32).toInt = 2 from rfl); have z3 := lv_neT c10 (show (3 : Int32).toInt = 3 from rfl); have z4 := lv_neT c12 (show (4 : Int32).toInt = 4 from rfl); omega) (by decide) ?_
              refine lv_bipush (v := (-2)) hx hb dX4_ofPerson_84 (by decide) ?_
              replace h := Option.some.inj h; subst h
              have hP := hP.sub (ws' := [((aM 0), .inr (4, [.int Mfault, .int Mtrace, .ref (aM 1), .ref (aM 2), .ref (aM 3), .int Mdeeds, .int Mpeople, .ref (aM 4), .ref (aM 5), .ref (aM 6), .ref (aM 7), .ref (aM 8), .int Mat, .int MreadDeeds, .int MreadMany, .ref (aM 9), .ref (aM 10), .ref (aM 11), .int Mpairs, .ref (aM 12), .ref (aM 13), .int Mcaught, .int Mreadings, .ref (aM 14), .ref (aM 15)])), ((aM 4), .inl (cyI, 6, .inl M_weightOf)), ((aM 5), .inl (cyI, 4, .inl M_kind)), ((aM 6), .inl (cyI, 4, .inl M_done)), ((aM 7), .inl (cyI, 4, .inl M_knows)), ((aM 8), .inl (cyI, 4, .inl M_told))]) [5, 0, 1, 2, 3, 4] rfl
              have hD := hD.sub (ws' := [((aM 0), .inr (4, [.int Mfault, .int Mtrace, .ref (aM 1), .ref (aM 2), .ref (aM 3), .int Mdeeds, .int Mpeople, .ref (aM 4), .ref (aM 5), .ref (aM 6), .ref (aM 7), .ref (aM 8), .int Mat, .int MreadDeeds, .int MreadMany, .ref (aM 9), .ref (aM 10), .ref (aM 11), .int Mpairs, .ref (aM 12), .ref (aM 13), .int Mcaught, .int Mreadings, .ref (aM 14), .ref (aM 15)])), ((aM 4), .inl (cyI, 6, .inl M_weightOf)), ((aM 5), .inl (cyI, 4, .inl M_kind)), ((aM 6), .inl (cyI, 4, .inl M_done)), ((aM 7), .inl (cyI, 4, .inl M_knows)), ((aM 8), .inl (cyI, 4, .inl M_told))]) [5, 0, 1, 2, 3, 4] (by decide) rfl
              exact hret () H locs _ ls hP hD hS dX4_ofPerson_86 rfl
  · replace h := it_t c3 h
    refine lv_iconst (v := (-1)) hx hb dX4_ofPerson_8 (by decide) ?_
    replace h := Option.some.inj h; subst h
    have hP := hP.sub (ws' := [((aM 0), .inr (4, [.int Mfault, .int Mtrace, .ref (aM 1), .ref (aM 2), .ref (aM 3), .int Mdeeds, .int Mpeople, .ref (aM 4), .ref (aM 5), .ref (aM 6), .ref (aM 7), .ref (aM 8), .int Mat, .int MreadDeeds, .int MreadMany, .ref (aM 9), .ref (aM 10), .ref (aM 11), .int Mpairs, .ref (aM 12), .ref (aM 13), .int Mcaught, .int Mreadings, .ref (aM 14), .ref (aM 15)])), ((aM 4), .inl (cyI, 6, .inl M_weightOf)), ((aM 5), .inl (cyI, 4, .inl M_kind)), ((aM 6), .inl (cyI, 4, .inl M_done)), ((aM 7), .inl (cyI, 4, .inl M_knows)), ((aM 8), .inl (cyI, 4, .inl M_told))]) [5, 0, 1, 2, 3, 4] rfl
    have hD := hD.sub (ws' := [((aM 0), .inr (4, [.int Mfault, .int Mtrace, .ref (aM 1), .ref (aM 2), .ref (aM 3), .int Mdeeds, .int Mpeople, .ref (aM 4), .ref (aM 5), .ref (aM 6), .ref (aM 7), .ref (aM 8), .int Mat, .int MreadDeeds, .int MreadMany, .ref (aM 9), .ref (aM 10), .ref (aM 11), .int Mpairs, .ref (aM 12), .ref (aM 13), .int Mcaught, .int Mreadings, .ref (aM 14), .ref (aM 15)])), ((aM 4), .inl (cyI, 6, .inl M_weightOf)), ((aM 5), .inl (cyI, 4, .inl M_kind)), ((aM 6), .inl (cyI, 4, .inl M_done)), ((aM 7), .inl (cyI, 4, .inl M_knows)), ((aM 8), .inl (cyI, 4, .inl M_told))]) [5, 0, 1, 2, 3, 4] (by decide) rfl
    exact hret () H locs _ ls hP hD hS dX4_ofPerson_9 rfl
