/-! WALKS, by wip/whole/gen.py: X3_faulted X3_isLane X3_isSheet X3_tower X3_ofPerson X3_weight X3_weigh X3_storeys X3_say X3_hush X3_landing X3_answerOfTrial X3_isDaysLength X3_isQuestion X3_liveDays X3_stopOfDays X3_days -/
set_option maxHeartbeats 4000000 in
set_option maxRecDepth 100000 in
theorem c_X3_faulted (l : Launch) (dC : Nat → ClassId) (dI : Nat → Nat → Nat) (cyI cyO : ClassId) (aX : Nat → Nat) (aR : Nat) (aN : Nat → Nat) (aT : Nat → Nat) (sz : Nat) (Xreadings : Int32) (Xtrail : Int32) (XlatestFault : Int32) (p1 : Int32) {o : Int32 × Int32}  (h : f_X3_faulted XlatestFault p1 = some o) : CtI l yX3_faulted wsX3_faulted { frames := 0, cells := 0, slots := 0, locals := 0 } (dC, dI) [(cyI, .int), (cyO, .object RX0)] [.ref (aX 0), .int p1] sz [((aX 0), .inr (3, [.ref (aX 1), .ref aR, .ref (aX 2), .ref (aX 3), .int Xreadings, .ref (aN 0), .ref (aT 0), .int Xtrail, .int XlatestFault]))] (fun (_ : Unit) => [((aX 0), .inr (3, [.ref (aX 1), .ref aR, .ref (aX 2), .ref (aX 3), .int Xreadings, .ref (aN 0), .ref (aT 0), .int Xtrail, .int o.2]))]) o.1 := by
  refine CtI.of (cc := cX3_faulted) (maxL := 2) (by decide) rfl (Nat.le_of_ble_eq_true rfl) ?_
  intro p e s m args below meth c A Q H locs hx hb hml hown hts hA hK hP hD hS hret ls hl
  have hown : s.vm.findClass RX3 = some m.cls := hown
  have hl : lv_has ls 2 [(0, .ref (aX 0)), (1, .int p1)] := hl
  unfold f_X3_faulted at h
  have hiX3 : ∀ w ∈ u_ws RX3 TX3 9, w ∈ wsX3_faulted := by decide +kernel
  have hf42 := hts (.fieldLink RX3 42 "TowerTell" "latestFault" "I") (by decide +kernel)
  refine lv_aload_n hx hb dX3_faulted_0 rfl (lv_at hl 0 rfl) ?_
  refine lv_iload_n hx hb dX3_faulted_1 rfl (lv_at hl 1 rfl) ?_
  refine va_put (D := (dC, dI)) (ci := 3) (v := .int p1) (ty := .int) (C := RX3) (T := TX3) (N := 9) hx hb hts hiX3 tyX3 tyX3_ok nmX3 hown hK hP hD hS 0 rfl rfl 8 (by decide) hf42 (fun _ h9 => h9) rfl (tyX3_ok 8 (by decide)) rfl rfl (Nat.le_of_ble_eq_true rfl) dX3_faulted_2 (fun H locs hP hD hS => ?_)
  have hP : va_P (dC, dI) vwCl [((aX 0), .inr (3, [.ref (aX 1), .ref aR, .ref (aX 2), .ref (aX 3), .int Xreadings, .ref (aN 0), .ref (aT 0), .int Xtrail, .int p1]))] H := hP
  have hD : va_D A [((aX 0), .inr (3, [.ref (aX 1), .ref aR, .ref (aX 2), .ref (aX 3), .int Xreadings, .ref (aN 0), .ref (aT 0), .int Xtrail, .int p1]))] := hD
  refine lv_bipush (v := (-10)) hx hb dX3_faulted_5 (by decide) ?_
  refine lv_iload_n hx hb dX3_faulted_7 rfl (lv_at hl 1 rfl) ?_
  refine lv_isub hx hb dX3_faulted_8 ?_
  replace h := Option.some.inj h; subst h
  exact hret () H locs _ ls hP hD hS dX3_faulted_9 rfl
set_option maxHeartbeats 4000000 in
set_option maxRecDepth 100000 in
theorem c_X3_isLane (l : Launch) (dC : Nat → ClassId) (dI : Nat → Nat → Nat) (cyI cyO : ClassId)  (sz : Nat)  (p0 : Int32) {o : Int32}  (h : f_X3_isLane p0 = some o) : CtI l yX3_isLane wsX3_isLane { frames := 0, cells := 0, slots := 0, locals := 0 } (dC, dI) [(cyI, .int), (cyO, .object RX0)] [.int p0] sz [] (fun (_ : Unit) => []) o := by
  refine CtI.of (cc := cX3_isLane) (maxL := 1) (by decide) rfl (Nat.le_of_ble_eq_true rfl) ?_
  intro p e s m args below meth c A Q H locs hx hb hml hown hts hA hK hP hD hS hret ls hl
  have hown : s.vm.findClass RX3 = some m.cls := hown
  have hl : lv_has ls 1 [(0, .int p0)] := hl
  unfold f_X3_isLane at h
  refine lv_iload_n hx hb dX3_isLane_0 rfl (lv_at hl 0 rfl) ?_
  refine lv_if_lt (tgt := 13) hx hb dX3_isLane_1 (by decide) (fun c1 => ?_) (fun c1 => ?_)
  · replace h := it_t c1 h
    refine lv_iconst (v := 0) hx hb dX3_isLane_13 (by decide) ?_
    replace h := Option.some.inj h; subst h
    exact hret () H locs _ ls hP hD hS dX3_isLane_14 bz_0
  · replace h := it_f c1 h
    refine lv_iload_n hx hb dX3_isLane_4 rfl (lv_at hl 0 rfl) ?_
    refine lv_iconst (v := 2) hx hb dX3_isLane_5 (by decide) ?_
    refine lv_icmp_gt (tgt := 13) hx hb dX3_isLane_6 (by decide) (fun c2 => ?_) (fun c2 => ?_)
    · replace h := it_t c2 h
      refine lv_iconst (v := 0) hx hb dX3_isLane_13 (by decide) ?_
      replace h := Option.some.inj h; subst h
      exact hret () H locs _ ls hP hD hS dX3_isLane_14 bz_0
    · replace h := it_f c2 h
      refine lv_iconst (v := 1) hx hb dX3_isLane_9 (by decide) ?_
      refine lv_goto (tgt := 14) hx hb dX3_isLane_10 (by decide) ?_
      replace h := Option.some.inj h; subst h
      exact hret () H locs _ ls hP hD hS dX3_isLane_14 bz_1
set_option maxHeartbeats 4000000 in
set_option maxRecDepth 100000 in
theorem c_X3_isSheet (l : Launch) (dC : Nat → ClassId) (dI : Nat → Nat → Nat) (cyI cyO : ClassId)  (sz : Nat)  (p0 : Int32) {o : Int32}  (h : f_X3_isSheet p0 = some o) : CtI l yX3_isSheet wsX3_isSheet { frames := 0, cells := 0, slots := 0, locals := 0 } (dC, dI) [(cyI, .int), (cyO, .object RX0)] [.int p0] sz [] (fun (_ : Unit) => []) o := by
  refine CtI.of (cc := cX3_isSheet) (maxL := 1) (by decide) rfl (Nat.le_of_ble_eq_true rfl) ?_
  intro p e s m args below meth c A Q H locs hx hb hml hown hts hA hK hP hD hS hret ls hl
  have hown : s.vm.findClass RX3 = some m.cls := hown
  have hl : lv_has ls 1 [(0, .int p0)] := hl
  unfold f_X3_isSheet at h
  refine lv_iload_n hx hb dX3_isSheet_0 rfl (lv_at hl 0 rfl) ?_
  refine lv_if_lt (tgt := 13) hx hb dX3_isSheet_1 (by decide) (fun c1 => ?_) (fun c1 => ?_)
  · replace h := it_t c1 h
    refine lv_iconst (v := 0) hx hb dX3_isSheet_13 (by decide) ?_
    replace h := Option.some.inj h; subst h
    exact hret () H locs _ ls hP hD hS dX3_isSheet_14 bz_0
  · replace h := it_f c1 h
    refine lv_iload_n hx hb dX3_isSheet_4 rfl (lv_at hl 0 rfl) ?_
    refine lv_iconst (v := 4) hx hb dX3_isSheet_5 (by decide) ?_
    refine lv_icmp_ge (tgt := 13) hx hb dX3_isSheet_6 (by decide) (fun c2 => ?_) (fun c2 => ?_)
    · replace h := it_t c2 h
      refine lv_iconst (v := 0) hx hb dX3_isSheet_13 (by decide) ?_
      replace h := Option.some.inj h; subst h
      exact hret () H locs _ ls hP hD hS dX3_isSheet_14 bz_0
    · replace h := it_f c2 h
      refine lv_iconst (v := 1) hx hb dX3_isSheet_9 (by decide) ?_
      refine lv_goto (tgt := 14) hx hb dX3_isSheet_10 (by decide) ?_
      replace h := Option.some.inj h; subst h
      exact hret () H locs _ ls hP hD hS dX3_isSheet_14 bz_1
set_option maxHeartbeats 4000000 in
set_option maxRecDepth 100000 in
theorem c_X3_tower (l : Launch) (dC : Nat → ClassId) (dI : Nat → Nat → Nat) (cyI cyO : ClassId) (aX : Nat → Nat) (aR : Nat) (aT : Nat → Nat) (aS : Nat → Nat) (cd : Nat) (aN : Nat → Nat) (gS : Nat → Option Nat) (sz : Nat) (Xreadings : Int32) (Xtrail : Int32) (XlatestFault : Int32) (Rfrom : Int32) (Rlength : Int32) (Rat : Int32) (Tdeeds : Int32) (Tpeople : Int32) (Tcatches : Int32) (T_weightOf : Nat → Int32) (T_kindOf : Nat → Int32) (T_doneBy : Nat → Int32) (T_knownTo : Nat → Int32) (T_toldBy : Nat → Int32) (Slane : Int32) (Slength : Int32) (S_cells : Nat → Int32) (p1 : Int32) (p2 : Int32) (p3 : Int32) (p4 : Int32) {o : Int32 × Int32 × Int32 × Int32 × Int32 × Int32 × Int32 × Int32 × (Nat → Int32) × (Nat → Int32) × (Nat → Int32) × (Nat → Int32) × (Nat → Int32) × Bool × Bool} (hg_p1 : vp_in p1 4 → gS p1.toNatClampNeg = some (aS 0)) (h : f_X3_tower Xreadings XlatestFault Rfrom Rlength Rat Tdeeds Tpeople T_weightOf T_kindOf T_doneBy T_knownTo T_toldBy Slane Slength S_cells p1 p2 p3 p4 = some o) : CtI l yX3_tower wsX3_tower { frames := 5, cells := 0, slots := 0, locals := 114 } (dC, dI) [(cyI, .int), (cyO, .object RX0)] [.ref (aX 0), .int p1, .int p2, .int p3, .int p4] sz [((aX 0), .inr (3, [.ref (aX 1), .ref aR, .ref (aX 2), .ref (aX 3), .int Xreadings, .ref (aN 0), .ref (aT 0), .int Xtrail, .int XlatestFault])), ((aX 1), .inl (cyO, 4, .inr (.inr (.inr (.inr gS))))), (aR, .inr (1, [.ref cd, .int Rfrom, .int Rlength, .int Rat])), ((aT 0), .inr (2, [.int Tdeeds, .int Tpeople, .int Tcatches, .ref (aT 1), .ref (aT 2), .ref (aT 3), .ref (aT 4), .ref (aT 5)])), ((aT 1), .inl (cyI, 6, .inl T_weightOf)), ((aT 2), .inl (cyI, 4, .inl T_kindOf)), ((aT 3), .inl (cyI, 4, .inl T_doneBy)), ((aT 4), .inl (cyI, 4, .inl T_knownTo)), ((aT 5), .inl (cyI, 4, .inl T_toldBy)), ((aS 0), .inr (0, [.int Slane, .int Slength, .ref (aS 1)])), ((aS 1), .inl (cyI, 60, .inl S_cells))] (fun (_ : Unit) => [((aX 0), .inr (3, [.ref (aX 1), .ref aR, .ref (aX 2), .ref (aX 3), .int o.2.1, .ref (cond o.2.2.2.2.2.2.2.2.2.2.2.2.2.1 (aT 0) (aN 0)), .ref (cond o.2.2.2.2.2.2.2.2.2.2.2.2.2.1 (aN 0) (aT 0)), .int Xtrail, .int o.2.2.1])), ((aX 1), .inl (cyO, 4, .inr (.inr (.inr (.inr gS))))), (aR, .inr (1, [.ref (cond o.2.2.2.2.2.2.2.2.2.2.2.2.2.2 (aS 1) cd), .int o.2.2.2.1, .int o.2.2.2.2.1, .int o.2.2.2.2.2.1])), ((aT 0), .inr (2, [.int o.2.2.2.2.2.2.1, .int o.2.2.2.2.2.2.2.1, .int Tcatches, .ref (aT 1), .ref (aT 2), .ref (aT 3), .ref (aT 4), .ref (aT 5)])), ((aT 1), .inl (cyI, 6, .inl o.2.2.2.2.2.2.2.2.1)), ((aT 2), .inl (cyI, 4, .inl o.2.2.2.2.2.2.2.2.2.1)), ((aT 3), .inl (cyI, 4, .inl o.2.2.2.2.2.2.2.2.2.2.1)), ((aT 4), .inl (cyI, 4, .inl o.2.2.2.2.2.2.2.2.2.2.2.1)), ((aT 5), .inl (cyI, 4, .inl o.2.2.2.2.2.2.2.2.2.2.2.2.1)), ((aS 0), .inr (0, [.int Slane, .int Slength, .ref (aS 1)])), ((aS 1), .inl (cyI, 60, .inl S_cells))]) o.1 := by
  refine CtI.of (cc := cX3_tower) (maxL := 8) (by decide) rfl (Nat.le_of_ble_eq_true rfl) ?_
  intro p e s m args below meth c A Q H locs hx hb hml hown hts hA hK hP hD hS hret ls hl
  have hown : s.vm.findClass RX3 = some m.cls := hown
  have hl : lv_has ls 8 [(0, .ref (aX 0)), (1, .int p1), (2, .int p2), (3, .int p3), (4, .int p4)] := hl
  unfold f_X3_tower at h
  have hiX2 : ∀ w ∈ u_ws RX2 TX2 8, w ∈ wsX3_tower := by decide +kernel
  have hiX3 : ∀ w ∈ u_ws RX3 TX3 9, w ∈ wsX3_tower := by decide +kernel
  have hf13 := hts (.fieldLink RX3 13 "TowerTell" "sheets" "[LTowerTell$Sheet;") (by decide +kernel)
  have hf21 := hts (.fieldLink RX3 21 "TowerTell" "reader" "LTowerTell$TextReader;") (by decide +kernel)
  have hf35 := hts (.fieldLink RX3 35 "TowerTell" "now" "LTowerTell$Tower;") (by decide +kernel)
  have hf39 := hts (.fieldLink RX3 39 "TowerTell" "trial" "LTowerTell$Tower;") (by decide +kernel)
  have hf42 := hts (.fieldLink RX3 42 "TowerTell" "latestFault" "I") (by decide +kernel)
  have hf65 := hts (.fieldLink RX3 65 "TowerTell" "readings" "I") (by decide +kernel)
  have hf68 := hts (.fieldLink RX3 68 "TowerTell$Tower" "people" "I") (by decide +kernel)
  refine lv_aload_n hx hb dX3_tower_0 rfl (lv_at hl 0 rfl) ?_
  refine lv_iconst (v := 0) hx hb dX3_tower_1 (by decide) ?_
  refine va_put (D := (dC, dI)) (ci := 3) (v := .int 0) (ty := .int) (C := RX3) (T := TX3) (N := 9) hx hb hts hiX3 tyX3 tyX3_ok nmX3 hown hK hP hD hS 0 rfl rfl 8 (by decide) hf42 (fun _ h9 => h9) rfl (tyX3_ok 8 (by decide)) rfl rfl (Nat.le_of_ble_eq_true rfl) dX3_tower_2 (fun H locs hP hD hS => ?_)
  have hP : va_P (dC, dI) vwCl [((aX 0), .inr (3, [.ref (aX 1), .ref aR, .ref (aX 2), .ref (aX 3), .int Xreadings, .ref (aN 0), .ref (aT 0), .int Xtrail, .int 0])), ((aX 1), .inl (cyO, 4, .inr (.inr (.inr (.inr gS))))), (aR, .inr (1, [.ref cd, .int Rfrom, .int Rlength, .int Rat])), ((aT 0), .inr (2, [.int Tdeeds, .int Tpeople, .int Tcatches, .ref (aT 1), .ref (aT 2), .ref (aT 3), .ref (aT 4), .ref (aT 5)])), ((aT 1), .inl (cyI, 6, .inl T_weightOf)), ((aT 2), .inl (cyI, 4, .inl T_kindOf)), ((aT 3), .inl (cyI, 4, .inl T_doneBy)), ((aT 4), .inl (cyI, 4, .inl T_knownTo)), ((aT 5), .inl (cyI, 4, .inl T_toldBy)), ((aS 0), .inr (0, [.int Slane, .int Slength, .ref (aS 1)])), ((aS 1), .inl (cyI, 60, .inl S_cells))] H := hP
  have hD : va_D A [((aX 0), .inr (3, [.ref (aX 1), .ref aR, .ref (aX 2), .ref (aX 3), .int Xreadings, .ref (aN 0), .ref (aT 0), .int Xtrail, .int 0])), ((aX 1), .inl (cyO, 4, .inr (.inr (.inr (.inr gS))))), (aR, .inr (1, [.ref cd, .int Rfrom, .int Rlength, .int Rat])), ((aT 0), .inr (2, [.int Tdeeds, .int Tpeople, .int Tcatches, .ref (aT 1), .ref (aT 2), .ref (aT 3), .ref (aT 4), .ref (aT 5)])), ((aT 1), .inl (cyI, 6, .inl T_weightOf)), ((aT 2), .inl (cyI, 4, .inl T_kindOf)), ((aT 3), .inl (cyI, 4, .inl T_doneBy)), ((aT 4), .inl (cyI, 4, .inl T_knownTo)), ((aT 5), .inl (cyI, 4, .inl T_toldBy)), ((aS 0), .inr (0, [.int Slane, .int Slength, .ref (aS 1)])), ((aS 1), .inl (cyI, 60, .inl S_cells))] := hD
  refine lv_iload_n hx hb dX3_tower_5 rfl (lv_at hl 1 rfl) ?_
  obtain ⟨o1, hc2, h⟩ := ob h
  refine k_si (As := [.int p1]) (rest := []) ⟨hx, hb, hml, hown, hts⟩ (c_X3_isSheet l dC dI cyI cyO H.size p1 hc2) (va_cwS 1 hts gX3_tower_X3_isSheet rfl rfl rfl (by decide +kernel) ⟨Nat.le_of_ble_eq_true rfl, Nat.le_of_ble_eq_true rfl⟩) hP hD hK hS hA [] [0, 1, 2, 3, 4, 5, 6, 7, 8, 9, 10] rfl rfl (by decide) (by decide) (by decide) rfl hl.1 rfl (Nat.le_of_ble_eq_true rfl) dX3_tower_6 ⟨Nat.zero_le _, Nat.zero_le _⟩ (fun _ H locs hP hD hS => ?_)
  have hP : va_P (dC, dI) vwCl [((aX 0), .inr (3, [.ref (aX 1), .ref aR, .ref (aX 2), .ref (aX 3), .int Xreadings, .ref (aN 0), .ref (aT 0), .int Xtrail, .int 0])), ((aX 1), .inl (cyO, 4, .inr (.inr (.inr (.inr gS))))), (aR, .inr (1, [.ref cd, .int Rfrom, .int Rlength, .int Rat])), ((aT 0), .inr (2, [.int Tdeeds, .int Tpeople, .int Tcatches, .ref (aT 1), .ref (aT 2), .ref (aT 3), .ref (aT 4), .ref (aT 5)])), ((aT 1), .inl (cyI, 6, .inl T_weightOf)), ((aT 2), .inl (cyI, 4, .inl T_kindOf)), ((aT 3), .inl (cyI, 4, .inl T_doneBy)), ((aT 4), .inl (cyI, 4, .inl T_knownTo)), ((aT 5), .inl (cyI, 4, .inl T_toldBy)), ((aS 0), .inr (0, [.int Slane, .int Slength, .ref (aS 1)])), ((aS 1), .inl (cyI, 60, .inl S_cells))] H := hP
  have hD : va_D A [((aX 0), .inr (3, [.ref (aX 1), .ref aR, .ref (aX 2), .ref (aX 3), .int Xreadings, .ref (aN 0), .ref (aT 0), .int Xtrail, .int 0])), ((aX 1), .inl (cyO, 4, .inr (.inr (.inr (.inr gS))))), (aR, .inr (1, [.ref cd, .int Rfrom, .int Rlength, .int Rat])), ((aT 0), .inr (2, [.int Tdeeds, .int Tpeople, .int Tcatches, .ref (aT 1), .ref (aT 2), .ref (aT 3), .ref (aT 4), .ref (aT 5)])), ((aT 1), .inl (cyI, 6, .inl T_weightOf)), ((aT 2), .inl (cyI, 4, .inl T_kindOf)), ((aT 3), .inl (cyI, 4, .inl T_doneBy)), ((aT 4), .inl (cyI, 4, .inl T_knownTo)), ((aT 5), .inl (cyI, 4, .inl T_toldBy)), ((aS 0), .inr (0, [.int Slane, .int Slength, .ref (aS 1)])), ((aS 1), .inl (cyI, 60, .inl S_cells))] := hD
  refine lv_if_ne (tgt := 14) hx hb dX3_tower_9 (by decide) (fun c3 => ?_) (fun c3 => ?_)
  · replace h := it_f c3 h
    refine lv_iload_n hx hb dX3_tower_14 rfl (lv_at hl 2 rfl) ?_
    obtain ⟨o4, hc5, h⟩ := ob h
    refine k_si (As := [.int p2]) (rest := []) ⟨hx, hb, hml, hown, hts⟩ (c_X3_isLane l dC dI cyI cyO H.size p2 hc5) (va_cwS 1 hts gX3_tower_X3_isLane rfl rfl rfl (by decide +kernel) ⟨Nat.le_of_ble_eq_true rfl, Nat.le_of_ble_eq_true rfl⟩) hP hD hK hS hA [] [0, 1, 2, 3, 4, 5, 6, 7, 8, 9, 10] rfl rfl (by decide) (by decide) (by decide) rfl hl.1 rfl (Nat.le_of_ble_eq_true rfl) dX3_tower_15 ⟨Nat.zero_le _, Nat.zero_le _⟩ (fun _ H locs hP hD hS => ?_)
    have hP : va_P (dC, dI) vwCl [((aX 0), .inr (3, [.ref (aX 1), .ref aR, .ref (aX 2), .ref (aX 3), .int Xreadings, .ref (aN 0), .ref (aT 0), .int Xtrail, .int 0])), ((aX 1), .inl (cyO, 4, .inr (.inr (.inr (.inr gS))))), (aR, .inr (1, [.ref cd, .int Rfrom, .int Rlength, .int Rat])), ((aT 0), .inr (2, [.int Tdeeds, .int Tpeople, .int Tcatches, .ref (aT 1), .ref (aT 2), .ref (aT 3), .ref (aT 4), .ref (aT 5)])), ((aT 1), .inl (cyI, 6, .inl T_weightOf)), ((aT 2), .inl (cyI, 4, .inl T_kindOf)), ((aT 3), .inl (cyI, 4, .inl T_doneBy)), ((aT 4), .inl (cyI, 4, .inl T_knownTo)), ((aT 5), .inl (cyI, 4, .inl T_toldBy)), ((aS 0), .inr (0, [.int Slane, .int Slength, .ref (aS 1)])), ((aS 1), .inl (cyI, 60, .inl S_cells))] H := hP
    have hD : va_D A [((aX 0), .inr (3, [.ref (aX 1), .ref aR, .ref (aX 2), .ref (aX 3), .int Xreadings, .ref (aN 0), .ref (aT 0), .int Xtrail, .int 0])), ((aX 1), .inl (cyO, 4, .inr (.inr (.inr (.inr gS))))), (aR, .inr (1, [.ref cd, .int Rfrom, .int Rlength, .int Rat])), ((aT 0), .inr (2, [.int Tdeeds, .int Tpeople, .int Tcatches, .ref (aT 1), .ref (aT 2), .ref (aT 3), .ref (aT 4), .ref (aT 5)])), ((aT 1), .inl (cyI, 6, .inl T_weightOf)), ((aT 2), .inl (cyI, 4, .inl T_kindOf)), ((aT 3), .inl (cyI, 4, .inl T_doneBy)), ((aT 4), .inl (cyI, 4, .inl T_knownTo)), ((aT 5), .inl (cyI, 4, .inl T_toldBy)), ((aS 0), .inr (0, [.int Slane, .int Slength, .ref (aS 1)])), ((aS 1), .inl (cyI, 60, .inl S_cells))] := hD
    refine lv_if_ne (tgt := 24) hx hb dX3_tower_18 (by decide) (fun c6 => ?_) (fun c6 => ?_)
    · replace h := it_f c6 h
      refine lv_aload_n hx hb dX3_tower_24 rfl (lv_at hl 0 rfl) ?_
      refine va_get (D := (dC, dI)) (ci := 3) (v := .ref (aX 1)) (C := RX3) (T := TX3) (N := 9) hx hb hts hiX3 hown hK hP 0 rfl rfl 0 (by decide) hf13 (fun _ h9 => h9) rfl dX3_tower_25 ?_
      refine lv_iload_n hx hb dX3_tower_28 rfl (lv_at hl 1 rfl) ?_
      obtain ⟨e7, h⟩ := it_n h
      refine k_ald hx hb hK hP 1 1 rfl rfl (ix_in e7) (hg_p1 (ix_in e7)) dX3_tower_29 ?_
      refine lv_iload_n hx hb dX3_tower_30 rfl (lv_at hl 2 rfl) ?_
      refine lv_iload_n hx hb dX3_tower_31 rfl (lv_at hl 3 rfl) ?_
      refine lv_iload hx hb dX3_tower_32 (lv_at hl 4 rfl) ?_
      obtain ⟨o8, hc9, h⟩ := ob h
      refine k_vi (As := [.int p2, .int p3, .int p4]) (rest := []) ⟨hx, hb, hml, hown, hts⟩ (c_X0_faultOf l dC dI cyI cyO aS H.size Slane Slength p2 p3 p4 hc9) (cwV 3 hts gX3_tower_X0_faultOf rfl rfl rfl (by decide +kernel) ⟨Nat.le_of_ble_eq_true rfl, Nat.le_of_ble_eq_true rfl⟩) hP hD hK hS hA [9] [0, 1, 2, 3, 4, 5, 6, 7, 8, 10] rfl rfl (by decide) (by decide) (by decide) 0 0 rfl rfl rfl rfl hl.1 rfl (Nat.le_of_ble_eq_true rfl) dX3_tower_34 ⟨Nat.zero_le _, Nat.zero_le _⟩ (fun _ H locs hP hD hS => ?_)
      have hP : va_P (dC, dI) vwCl [((aX 0), .inr (3, [.ref (aX 1), .ref aR, .ref (aX 2), .ref (aX 3), .int Xreadings, .ref (aN 0), .ref (aT 0), .int Xtrail, .int 0])), ((aX 1), .inl (cyO, 4, .inr (.inr (.inr (.inr gS))))), (aR, .inr (1, [.ref cd, .int Rfrom, .int Rlength, .int Rat])), ((aT 0), .inr (2, [.int Tdeeds, .int Tpeople, .int Tcatches, .ref (aT 1), .ref (aT 2), .ref (aT 3), .ref (aT 4), .ref (aT 5)])), ((aT 1), .inl (cyI, 6, .inl T_weightOf)), ((aT 2), .inl (cyI, 4, .inl T_kindOf)), ((aT 3), .inl (cyI, 4, .inl T_doneBy)), ((aT 4), .inl (cyI, 4, .inl T_knownTo)), ((aT 5), .inl (cyI, 4, .inl T_toldBy)), ((aS 1), .inl (cyI, 60, .inl S_cells)), ((aS 0), .inr (0, [.int Slane, .int Slength, .ref (aS 1)]))] H := hP
      have hD : va_D A [((aX 0), .inr (3, [.ref (aX 1), .ref aR, .ref (aX 2), .ref (aX 3), .int Xreadings, .ref (aN 0), .ref (aT 0), .int Xtrail, .int 0])), ((aX 1), .inl (cyO, 4, .inr (.inr (.inr (.inr gS))))), (aR, .inr (1, [.ref cd, .int Rfrom, .int Rlength, .int Rat])), ((aT 0), .inr (2, [.int Tdeeds, .int Tpeople, .int Tcatches, .ref (aT 1), .ref (aT 2), .ref (aT 3), .ref (aT 4), .ref (aT 5)])), ((aT 1), .inl (cyI, 6, .inl T_weightOf)), ((aT 2), .inl (cyI, 4, .inl T_kindOf)), ((aT 3), .inl (cyI, 4, .inl T_doneBy)), ((aT 4), .inl (cyI, 4, .inl T_knownTo)), ((aT 5), .inl (cyI, 4, .inl T_toldBy)), ((aS 1), .inl (cyI, 60, .inl S_cells)), ((aS 0), .inr (0, [.int Slane, .int Slength, .ref (aS 1)]))] := hD
      refine lv_istore (lv' := [(5, .int o8), (0, .ref (aX 0)), (1, .int p1), (2, .int p2), (3, .int p3), (4, .int p4)]) hx hb dX3_tower_37 hl (by decide) rfl (fun ls hl => ?_)
      refine lv_iload hx hb dX3_tower_39 (lv_at hl 0 rfl) ?_
      refine lv_if_eq (tgt := 51) hx hb dX3_tower_41 (by decide) (fun c10 => ?_) (fun c10 => ?_)
      · replace h := it_t c10 h
        refine lv_aload_n hx hb dX3_tower_51 rfl (lv_at hl 1 rfl) ?_
        refine va_get (D := (dC, dI)) (ci := 3) (v := .ref aR) (C := RX3) (T := TX3) (N := 9) hx hb hts hiX3 hown hK hP 0 rfl rfl 1 (by decide) hf21 (fun _ h9 => h9) rfl dX3_tower_52 ?_
        refine lv_aload_n hx hb dX3_tower_55 rfl (lv_at hl 1 rfl) ?_
        refine va_get (D := (dC, dI)) (ci := 3) (v := .ref (aX 1)) (C := RX3) (T := TX3) (N := 9) hx hb hts hiX3 hown hK hP 0 rfl rfl 0 (by decide) hf13 (fun _ h9 => h9) rfl dX3_tower_56 ?_
        refine lv_iload_n hx hb dX3_tower_59 rfl (lv_at hl 2 rfl) ?_
        obtain ⟨e11, h⟩ := it_n h
        refine k_ald hx hb hK hP 1 1 rfl rfl (ix_in e11) (hg_p1 (ix_in e11)) dX3_tower_60 ?_
        refine lv_iload_n hx hb dX3_tower_61 rfl (lv_at hl 4 rfl) ?_
        refine lv_iload hx hb dX3_tower_62 (lv_at hl 5 rfl) ?_
        refine lv_aload_n hx hb dX3_tower_64 rfl (lv_at hl 1 rfl) ?_
        refine va_get (D := (dC, dI)) (ci := 3) (v := .ref (aT 0)) (C := RX3) (T := TX3) (N := 9) hx hb hts hiX3 hown hK hP 0 rfl rfl 6 (by decide) hf39 (fun _ h9 => h9) rfl dX3_tower_65 ?_
        obtain ⟨o12, hc13, h⟩ := ob h
        refine k_vi (As := [.ref (aS 0), .int p3, .int p4, .ref (aT 0)]) (rest := []) ⟨hx, hb, hml, hown, hts⟩ (c_X1_firstFault l dC dI cyI cyO aR aT aS cd H.size Rfrom Rlength Rat Tdeeds Tpeople Tcatches T_weightOf T_kindOf T_doneBy T_knownTo T_toldBy Slane Slength S_cells p3 p4 hc13) (cwV 4 hts gX3_tower_X1_firstFault rfl rfl rfl (by decide +kernel) ⟨Nat.le_of_ble_eq_true rfl, Nat.le_of_ble_eq_true rfl⟩) hP hD hK hS hA [2, 3, 4, 5, 6, 7, 8, 10, 9] [0, 1] rfl rfl (by decide) (by decide) (by decide) 1 0 rfl rfl rfl rfl hl.1 rfl (Nat.le_of_ble_eq_true rfl) dX3_tower_68 ⟨Nat.zero_le _, Nat.zero_le _⟩ (fun _ H locs hP hD hS => ?_)
        have hP : va_P (dC, dI) vwCl [((aX 0), .inr (3, [.ref (aX 1), .ref aR, .ref (aX 2), .ref (aX 3), .int Xreadings, .ref (aN 0), .ref (aT 0), .int Xtrail, .int 0])), ((aX 1), .inl (cyO, 4, .inr (.inr (.inr (.inr gS))))), (aR, .inr (1, [.ref (aS 1), .int o12.2.1, .int o12.2.2.1, .int o12.2.2.2.1])), ((aT 0), .inr (2, [.int o12.2.2.2.2.1, .int o12.2.2.2.2.2.1, .int Tcatches, .ref (aT 1), .ref (aT 2), .ref (aT 3), .ref (aT 4), .ref (aT 5)])), ((aT 1), .inl (cyI, 6, .inl o12.2.2.2.2.2.2.1)), ((aT 2), .inl (cyI, 4, .inl o12.2.2.2.2.2.2.2.1)), ((aT 3), .inl (cyI, 4, .inl o12.2.2.2.2.2.2.2.2.1)), ((aT 4), .inl (cyI, 4, .inl o12.2.2.2.2.2.2.2.2.2.1)), ((aT 5), .inl (cyI, 4, .inl o12.2.2.2.2.2.2.2.2.2.2)), ((aS 0), .inr (0, [.int Slane, .int Slength, .ref (aS 1)])), ((aS 1), .inl (cyI, 60, .inl S_cells))] H := hP
        have hD : va_D A [((aX 0), .inr (3, [.ref (aX 1), .ref aR, .ref (aX 2), .ref (aX 3), .int Xreadings, .ref (aN 0), .ref (aT 0), .int Xtrail, .int 0])), ((aX 1), .inl (cyO, 4, .inr (.inr (.inr (.inr gS))))), (aR, .inr (1, [.ref (aS 1), .int o12.2.1, .int o12.2.2.1, .int o12.2.2.2.1])), ((aT 0), .inr (2, [.int o12.2.2.2.2.1, .int o12.2.2.2.2.2.1, .int Tcatches, .ref (aT 1), .ref (aT 2), .ref (aT 3), .ref (aT 4), .ref (aT 5)])), ((aT 1), .inl (cyI, 6, .inl o12.2.2.2.2.2.2.1)), ((aT 2), .inl (cyI, 4, .inl o12.2.2.2.2.2.2.2.1)), ((aT 3), .inl (cyI, 4, .inl o12.2.2.2.2.2.2.2.2.1)), ((aT 4), .inl (cyI, 4, .inl o12.2.2.2.2.2.2.2.2.2.1)), ((aT 5), .inl (cyI, 4, .inl o12.2.2.2.2.2.2.2.2.2.2)), ((aS 0), .inr (0, [.int Slane, .int Slength, .ref (aS 1)])), ((aS 1), .inl (cyI, 60, .inl S_cells))] := hD
        refine lv_istore (lv' := [(6, .int o12.1), (5, .int o8), (0, .ref (aX 0)), (1, .int p1), (2, .int p2), (3, .int p3), (4, .int p4)]) hx hb dX3_tower_71 hl (by decide) rfl (fun ls hl => ?_)
        refine lv_iload hx hb dX3_tower_73 (lv_at hl 0 rfl) ?_
        refine lv_bipush (v := (-9)) hx hb dX3_tower_75 (by decide) ?_
        refine lv_icmp_eq (tgt := 86) hx hb dX3_tower_77 (by decide) (fun c14 => ?_) (fun c14 => ?_)
        · replace h := it_t c14 h
          refine lv_aload_n hx hb dX3_tower_86 rfl (lv_at hl 2 rfl) ?_
          refine va_get (D := (dC, dI)) (ci := 3) (v := .ref (aN 0)) (C := RX3) (T := TX3) (N := 9) hx hb hts hiX3 hown hK hP 0 rfl rfl 5 (by decide) hf35 (fun _ h9 => h9) rfl dX3_tower_87 ?_
          refine lv_astore (lv' := [(7, .ref (aN 0)), (6, .int o12.1), (5, .int o8), (0, .ref (aX 0)), (1, .int p1), (2, .int p2), (3, .int p3), (4, .int p4)]) hx hb dX3_tower_90 hl (by decide) rfl (fun ls hl => ?_)
          refine lv_aload_n hx hb dX3_tower_92 rfl (lv_at hl 3 rfl) ?_
          refine lv_aload_n hx hb dX3_tower_93 rfl (lv_at hl 3 rfl) ?_
          refine va_get (D := (dC, dI)) (ci := 3) (v := .ref (aT 0)) (C := RX3) (T := TX3) (N := 9) hx hb hts hiX3 hown hK hP 0 rfl rfl 6 (by decide) hf39 (fun _ h9 => h9) rfl dX3_tower_94 ?_
          refine va_put (D := (dC, dI)) (ci := 3) (v := .ref (aT 0)) (ty := .object "TowerTell$Tower") (C := RX3) (T := TX3) (N := 9) hx hb hts hiX3 tyX3 tyX3_ok nmX3 hown hK hP hD hS 0 rfl rfl 5 (by decide) hf35 (fun _ h9 => h9) rfl (tyX3_ok 5 (by decide)) rfl rfl (Nat.le_of_ble_eq_true rfl) dX3_tower_97 (fun H locs hP hD hS => ?_)
          have hP : va_P (dC, dI) vwCl [((aX 0), .inr (3, [.ref (aX 1), .ref aR, .ref (aX 2), .ref (aX 3), .int Xreadings, .ref (aT 0), .ref (aT 0), .int Xtrail, .int 0])), ((aX 1), .inl (cyO, 4, .inr (.inr (.inr (.inr gS))))), (aR, .inr (1, [.ref (aS 1), .int o12.2.1, .int o12.2.2.1, .int o12.2.2.2.1])), ((aT 0), .inr (2, [.int o12.2.2.2.2.1, .int o12.2.2.2.2.2.1, .int Tcatches, .ref (aT 1), .ref (aT 2), .ref (aT 3), .ref (aT 4), .ref (aT 5)])), ((aT 1), .inl (cyI, 6, .inl o12.2.2.2.2.2.2.1)), ((aT 2), .inl (cyI, 4, .inl o12.2.2.2.2.2.2.2.1)), ((aT 3), .inl (cyI, 4, .inl o12.2.2.2.2.2.2.2.2.1)), ((aT 4), .inl (cyI, 4, .inl o12.2.2.2.2.2.2.2.2.2.1)), ((aT 5), .inl (cyI, 4, .inl o12.2.2.2.2.2.2.2.2.2.2)), ((aS 0), .inr (0, [.int Slane, .int Slength, .ref (aS 1)])), ((aS 1), .inl (cyI, 60, .inl S_cells))] H := hP
          have hD : va_D A [((aX 0), .inr (3, [.ref (aX 1), .ref aR, .ref (aX 2), .ref (aX 3), .int Xreadings, .ref (aT 0), .ref (aT 0), .int Xtrail, .int 0])), ((aX 1), .inl (cyO, 4, .inr (.inr (.inr (.inr gS))))), (aR, .inr (1, [.ref (aS 1), .int o12.2.1, .int o12.2.2.1, .int o12.2.2.2.1])), ((aT 0), .inr (2, [.int o12.2.2.2.2.1, .int o12.2.2.2.2.2.1, .int Tcatches, .ref (aT 1), .ref (aT 2), .ref (aT 3), .ref (aT 4), .ref (aT 5)])), ((aT 1), .inl (cyI, 6, .inl o12.2.2.2.2.2.2.1)), ((aT 2), .inl (cyI, 4, .inl o12.2.2.2.2.2.2.2.1)), ((aT 3), .inl (cyI, 4, .inl o12.2.2.2.2.2.2.2.2.1)), ((aT 4), .inl (cyI, 4, .inl o12.2.2.2.2.2.2.2.2.2.1)), ((aT 5), .inl (cyI, 4, .inl o12.2.2.2.2.2.2.2.2.2.2)), ((aS 0), .inr (0, [.int Slane, .int Slength, .ref (aS 1)])), ((aS 1), .inl (cyI, 60, .inl S_cells))] := hD
          refine lv_aload_n hx hb dX3_tower_100 rfl (lv_at hl 3 rfl) ?_
          refine lv_aload hx hb dX3_tower_101 (lv_at hl 0 rfl) ?_
          refine va_put (D := (dC, dI)) (ci := 3) (v := .ref (aN 0)) (ty := .object "TowerTell$Tower") (C := RX3) (T := TX3) (N := 9) hx hb hts hiX3 tyX3 tyX3_ok nmX3 hown hK hP hD hS 0 rfl rfl 6 (by decide) hf39 (fun _ h9 => h9) rfl (tyX3_ok 6 (by decide)) rfl rfl (Nat.le_of_ble_eq_true rfl) dX3_tower_103 (fun H locs hP hD hS => ?_)
          have hP : va_P (dC, dI) vwCl [((aX 0), .inr (3, [.ref (aX 1), .ref aR, .ref (aX 2), .ref (aX 3), .int Xreadings, .ref (aT 0), .ref (aN 0), .int Xtrail, .int 0])), ((aX 1), .inl (cyO, 4, .inr (.inr (.inr (.inr gS))))), (aR, .inr (1, [.ref (aS 1), .int o12.2.1, .int o12.2.2.1, .int o12.2.2.2.1])), ((aT 0), .inr (2, [.int o12.2.2.2.2.1, .int o12.2.2.2.2.2.1, .int Tcatches, .ref (aT 1), .ref (aT 2), .ref (aT 3), .ref (aT 4), .ref (aT 5)])), ((aT 1), .inl (cyI, 6, .inl o12.2.2.2.2.2.2.1)), ((aT 2), .inl (cyI, 4, .inl o12.2.2.2.2.2.2.2.1)), ((aT 3), .inl (cyI, 4, .inl o12.2.2.2.2.2.2.2.2.1)), ((aT 4), .inl (cyI, 4, .inl o12.2.2.2.2.2.2.2.2.2.1)), ((aT 5), .inl (cyI, 4, .inl o12.2.2.2.2.2.2.2.2.2.2)), ((aS 0), .inr (0, [.int Slane, .int Slength, .ref (aS 1)])), ((aS 1), .inl (cyI, 60, .inl S_cells))] H := hP
          have hD : va_D A [((aX 0), .inr (3, [.ref (aX 1), .ref aR, .ref (aX 2), .ref (aX 3), .int Xreadings, .ref (aT 0), .ref (aN 0), .int Xtrail, .int 0])), ((aX 1), .inl (cyO, 4, .inr (.inr (.inr (.inr gS))))), (aR, .inr (1, [.ref (aS 1), .int o12.2.1, .int o12.2.2.1, .int o12.2.2.2.1])), ((aT 0), .inr (2, [.int o12.2.2.2.2.1, .int o12.2.2.2.2.2.1, .int Tcatches, .ref (aT 1), .ref (aT 2), .ref (aT 3), .ref (aT 4), .ref (aT 5)])), ((aT 1), .inl (cyI, 6, .inl o12.2.2.2.2.2.2.1)), ((aT 2), .inl (cyI, 4, .inl o12.2.2.2.2.2.2.2.1)), ((aT 3), .inl (cyI, 4, .inl o12.2.2.2.2.2.2.2.2.1)), ((aT 4), .inl (cyI, 4, .inl o12.2.2.2.2.2.2.2.2.2.1)), ((aT 5), .inl (cyI, 4, .inl o12.2.2.2.2.2.2.2.2.2.2)), ((aS 0), .inr (0, [.int Slane, .int Slength, .ref (aS 1)])), ((aS 1), .inl (cyI, 60, .inl S_cells))] := hD
          refine lv_aload_n hx hb dX3_tower_106 rfl (lv_at hl 3 rfl) ?_
          refine lv_iconst (v := 0) hx hb dX3_tower_107 (by decide) ?_
          refine va_put (D := (dC, dI)) (ci := 3) (v := .int 0) (ty := .int) (C := RX3) (T := TX3) (N := 9) hx hb hts hiX3 tyX3 tyX3_ok nmX3 hown hK hP hD hS 0 rfl rfl 4 (by decide) hf65 (fun _ h9 => h9) rfl (tyX3_ok 4 (by decide)) rfl rfl (Nat.le_of_ble_eq_true rfl) dX3_tower_108 (fun H locs hP hD hS => ?_)
          have hP : va_P (dC, dI) vwCl [((aX 0), .inr (3, [.ref (aX 1), .ref aR, .ref (aX 2), .ref (aX 3), .int 0, .ref (aT 0), .ref (aN 0), .int Xtrail, .int 0])), ((aX 1), .inl (cyO, 4, .inr (.inr (.inr (.inr gS))))), (aR, .inr (1, [.ref (aS 1), .int o12.2.1, .int o12.2.2.1, .int o12.2.2.2.1])), ((aT 0), .inr (2, [.int o12.2.2.2.2.1, .int o12.2.2.2.2.2.1, .int Tcatches, .ref (aT 1), .ref (aT 2), .ref (aT 3), .ref (aT 4), .ref (aT 5)])), ((aT 1), .inl (cyI, 6, .inl o12.2.2.2.2.2.2.1)), ((aT 2), .inl (cyI, 4, .inl o12.2.2.2.2.2.2.2.1)), ((aT 3), .inl (cyI, 4, .inl o12.2.2.2.2.2.2.2.2.1)), ((aT 4), .inl (cyI, 4, .inl o12.2.2.2.2.2.2.2.2.2.1)), ((aT 5), .inl (cyI, 4, .inl o12.2.2.2.2.2.2.2.2.2.2)), ((aS 0), .inr (0, [.int Slane, .int Slength, .ref (aS 1)])), ((aS 1), .inl (cyI, 60, .inl S_cells))] H := hP
          have hD : va_D A [((aX 0), .inr (3, [.ref (aX 1), .ref aR, .ref (aX 2), .ref (aX 3), .int 0, .ref (aT 0), .ref (aN 0), .int Xtrail, .int 0])), ((aX 1), .inl (cyO, 4, .inr (.inr (.inr (.inr gS))))), (aR, .inr (1, [.ref (aS 1), .int o12.2.1, .int o12.2.2.1, .int o12.2.2.2.1])), ((aT 0), .inr (2, [.int o12.2.2.2.2.1, .int o12.2.2.2.2.2.1, .int Tcatches, .ref (aT 1), .ref (aT 2), .ref (aT 3), .ref (aT 4), .ref (aT 5)])), ((aT 1), .inl (cyI, 6, .inl o12.2.2.2.2.2.2.1)), ((aT 2), .inl (cyI, 4, .inl o12.2.2.2.2.2.2.2.1)), ((aT 3), .inl (cyI, 4, .inl o12.2.2.2.2.2.2.2.2.1)), ((aT 4), .inl (cyI, 4, .inl o12.2.2.2.2.2.2.2.2.2.1)), ((aT 5), .inl (cyI, 4, .inl o12.2.2.2.2.2.2.2.2.2.2)), ((aS 0), .inr (0, [.int Slane, .int Slength, .ref (aS 1)])), ((aS 1), .inl (cyI, 60, .inl S_cells))] := hD
          refine lv_aload_n hx hb dX3_tower_111 rfl (lv_at hl 3 rfl) ?_
          refine va_get (D := (dC, dI)) (ci := 3) (v := .ref (aT 0)) (C := RX3) (T := TX3) (N := 9) hx hb hts hiX3 hown hK hP 0 rfl rfl 5 (by decide) hf35 (fun _ h9 => h9) rfl dX3_tower_112 ?_
          refine va_get (D := (dC, dI)) (ci := 2) (v := .int o12.2.2.2.2.2.1) (C := RX2) (T := TX2) (N := 8) hx hb hts hiX2 hown hK hP 3 rfl rfl 1 (by decide) hf68 (fun _ h9 => h9) rfl dX3_tower_115 ?_
          replace h := Option.some.inj h; subst h
          exact hret () H locs _ ls hP hD hS dX3_tower_118 rfl
        · replace h := it_f c14 h
          refine lv_bipush (v := (-100)) hx hb dX3_tower_80 (by decide) ?_
          refine lv_iload hx hb dX3_tower_82 (lv_at hl 0 rfl) ?_
          refine lv_isub hx hb dX3_tower_84 ?_
          replace h := Option.some.inj h; subst h
          exact hret () H locs _ ls hP hD hS dX3_tower_85 rfl
      · replace h := it_f c10 h
        refine lv_aload_n hx hb dX3_tower_44 rfl (lv_at hl 1 rfl) ?_
        refine lv_iload hx hb dX3_tower_45 (lv_at hl 0 rfl) ?_
        obtain ⟨o15, hc16, h⟩ := ob h
        refine k_vi (As := [.int o8]) (rest := []) ⟨hx, hb, hml, hown, hts⟩ (c_X3_faulted l dC dI cyI cyO aX aR aN aT H.size Xreadings Xtrail 0 o8 hc16) (cwV 1 hts gX3_tower_X3_faulted rfl rfl rfl (by decide +kernel) ⟨Nat.le_of_ble_eq_true rfl, Nat.le_of_ble_eq_true rfl⟩) hP hD hK hS hA [0] [1, 2, 3, 4, 5, 6, 7, 8, 9, 10] rfl rfl (by decide) (by decide) (by decide) 3 0 rfl rfl rfl rfl hl.1 rfl (Nat.le_of_ble_eq_true rfl) dX3_tower_47 ⟨Nat.zero_le _, Nat.zero_le _⟩ (fun _ H locs hP hD hS => ?_)
        have hP : va_P (dC, dI) vwCl [((aX 1), .inl (cyO, 4, .inr (.inr (.inr (.inr gS))))), (aR, .inr (1, [.ref cd, .int Rfrom, .int Rlength, .int Rat])), ((aT 0), .inr (2, [.int Tdeeds, .int Tpeople, .int Tcatches, .ref (aT 1), .ref (aT 2), .ref (aT 3), .ref (aT 4), .ref (aT 5)])), ((aT 1), .inl (cyI, 6, .inl T_weightOf)), ((aT 2), .inl (cyI, 4, .inl T_kindOf)), ((aT 3), .inl (cyI, 4, .inl T_doneBy)), ((aT 4), .inl (cyI, 4, .inl T_knownTo)), ((aT 5), .inl (cyI, 4, .inl T_toldBy)), ((aS 1), .inl (cyI, 60, .inl S_cells)), ((aS 0), .inr (0, [.int Slane, .int Slength, .ref (aS 1)])), ((aX 0), .inr (3, [.ref (aX 1), .ref aR, .ref (aX 2), .ref (aX 3), .int Xreadings, .ref (aN 0), .ref (aT 0), .int Xtrail, .int o15.2]))] H := hP
        have hD : va_D A [((aX 1), .inl (cyO, 4, .inr (.inr (.inr (.inr gS))))), (aR, .inr (1, [.ref cd, .int Rfrom, .int Rlength, .int Rat])), ((aT 0), .inr (2, [.int Tdeeds, .int Tpeople, .int Tcatches, .ref (aT 1), .ref (aT 2), .ref (aT 3), .ref (aT 4), .ref (aT 5)])), ((aT 1), .inl (cyI, 6, .inl T_weightOf)), ((aT 2), .inl (cyI, 4, .inl T_kindOf)), ((aT 3), .inl (cyI, 4, .inl T_doneBy)), ((aT 4), .inl (cyI, 4, .inl T_knownTo)), ((aT 5), .inl (cyI, 4, .inl T_toldBy)), ((aS 1), .inl (cyI, 60, .inl S_cells)), ((aS 0), .inr (0, [.int Slane, .int Slength, .ref (aS 1)])), ((aX 0), .inr (3, [.ref (aX 1), .ref aR, .ref (aX 2), .ref (aX 3), .int Xreadings, .ref (aN 0), .ref (aT 0), .int Xtrail, .int o15.2]))] := hD
        replace h := Option.some.inj h; subst h
        have hP := hP.sub (ws' := [((aX 0), .inr (3, [.ref (aX 1), .ref aR, .ref (aX 2), .ref (aX 3), .int Xreadings, .ref (aN 0), .ref (aT 0), .int Xtrail, .int o15.2])), ((aX 1), .inl (cyO, 4, .inr (.inr (.inr (.inr gS))))), (aR, .inr (1, [.ref cd, .int Rfrom, .int Rlength, .int Rat])), ((aT 0), .inr (2, [.int Tdeeds, .int Tpeople, .int Tcatches, .ref (aT 1), .ref (aT 2), .ref (aT 3), .ref (aT 4), .ref (aT 5)])), ((aT 1), .inl (cyI, 6, .inl T_weightOf)), ((aT 2), .inl (cyI, 4, .inl T_kindOf)), ((aT 3), .inl (cyI, 4, .inl T_doneBy)), ((aT 4), .inl (cyI, 4, .inl T_knownTo)), ((aT 5), .inl (cyI, 4, .inl T_toldBy)), ((aS 0), .inr (0, [.int Slane, .int Slength, .ref (aS 1)])), ((aS 1), .inl (cyI, 60, .inl S_cells))]) [10, 0, 1, 2, 3, 4, 5, 6, 7, 9, 8] rfl
        have hD := hD.sub (ws' := [((aX 0), .inr (3, [.ref (aX 1), .ref aR, .ref (aX 2), .ref (aX 3), .int Xreadings, .ref (aN 0), .ref (aT 0), .int Xtrail, .int o15.2])), ((aX 1), .inl (cyO, 4, .inr (.inr (.inr (.inr gS))))), (aR, .inr (1, [.ref cd, .int Rfrom, .int Rlength, .int Rat])), ((aT 0), .inr (2, [.int Tdeeds, .int Tpeople, .int Tcatches, .ref (aT 1), .ref (aT 2), .ref (aT 3), .ref (aT 4), .ref (aT 5)])), ((aT 1), .inl (cyI, 6, .inl T_weightOf)), ((aT 2), .inl (cyI, 4, .inl T_kindOf)), ((aT 3), .inl (cyI, 4, .inl T_doneBy)), ((aT 4), .inl (cyI, 4, .inl T_knownTo)), ((aT 5), .inl (cyI, 4, .inl T_toldBy)), ((aS 0), .inr (0, [.int Slane, .int Slength, .ref (aS 1)])), ((aS 1), .inl (cyI, 60, .inl S_cells))]) [10, 0, 1, 2, 3, 4, 5, 6, 7, 9, 8] (by decide) rfl
        exact hret () H locs _ ls hP hD hS dX3_tower_50 rfl
    · replace h := it_t c6 h
      refine lv_bipush (v := (-2)) hx hb dX3_tower_21 (by decide) ?_
      replace h := Option.some.inj h; subst h
      exact hret () H locs _ ls hP hD hS dX3_tower_23 rfl
  · replace h := it_t c3 h
    refine lv_iconst (v := (-1)) hx hb dX3_tower_12 (by decide) ?_
    replace h := Option.some.inj h; subst h
    exact hret () H locs _ ls hP hD hS dX3_tower_13 rfl
set_option maxHeartbeats 4000000 in
set_option maxRecDepth 100000 in
theorem c_X3_ofPerson (l : Launch) (dC : Nat → ClassId) (dI : Nat → Nat → Nat) (cyI cyO : ClassId) (aX : Nat → Nat) (aN : Nat → Nat) (aR : Nat) (aT : Nat → Nat) (sz : Nat) (Xreadings : Int32) (Xtrail : Int32) (XlatestFault : Int32) (Ndeeds : Int32) (Npeople : Int32) (Ncatches : Int32) (N_weightOf : Nat → Int32) (N_kindOf : Nat → Int32) (N_doneBy : Nat → Int32) (N_knownTo : Nat → Int32) (N_toldBy : Nat → Int32) (p1 : Int32) (p2 : Int32) {o : Int32}  (h : f_X3_ofPerson Ndeeds Npeople N_weightOf N_kindOf N_doneBy N_knownTo N_toldBy p1 p2 = some o) : CtI l yX3_ofPerson wsX3_ofPerson { frames := 3, cells := 0, slots := 0, locals := 67 } (dC, dI) [(cyI, .int), (cyO, .object RX0)] [.ref (aX 0), .int p1, .int p2] sz [((aX 0), .inr (3, [.ref (aX 1), .ref aR, .ref (aX 2), .ref (aX 3), .int Xreadings, .ref (aN 0), .ref (aT 0), .int Xtrail, .int XlatestFault])), ((aN 0), .inr (2, [.int Ndeeds, .int Npeople, .int Ncatches, .ref (aN 1), .ref (aN 2), .ref (aN 3), .ref (aN 4), .ref (aN 5)])), ((aN 1), .inl (cyI, 6, .inl N_weightOf)), ((aN 2), .inl (cyI, 4, .inl N_kindOf)), ((aN 3), .inl (cyI, 4, .inl N_doneBy)), ((aN 4), .inl (cyI, 4, .inl N_knownTo)), ((aN 5), .inl (cyI, 4, .inl N_toldBy))] (fun (_ : Unit) => [((aX 0), .inr (3, [.ref (aX 1), .ref aR, .ref (aX 2), .ref (aX 3), .int Xreadings, .ref (aN 0), .ref (aT 0), .int Xtrail, .int XlatestFault])), ((aN 0), .inr (2, [.int Ndeeds, .int Npeople, .int Ncatches, .ref (aN 1), .ref (aN 2), .ref (aN 3), .ref (aN 4), .ref (aN 5)])), ((aN 1), .inl (cyI, 6, .inl N_weightOf)), ((aN 2), .inl (cyI, 4, .inl N_kindOf)), ((aN 3), .inl (cyI, 4, .inl N_doneBy)), ((aN 4), .inl (cyI, 4, .inl N_knownTo)), ((aN 5), .inl (cyI, 4, .inl N_toldBy))]) o := by
  refine CtI.of (cc := cX3_ofPerson) (maxL := 3) (by decide) rfl (Nat.le_of_ble_eq_true rfl) ?_
  intro p e s m args below meth c A Q H locs hx hb hml hown hts hA hK hP hD hS hret ls hl
  have hown : s.vm.findClass RX3 = some m.cls := hown
  have hl : lv_has ls 3 [(0, .ref (aX 0)), (1, .int p1), (2, .int p2)] := hl
  unfold f_X3_ofPerson at h
  have hiX2 : ∀ w ∈ u_ws RX2 TX2 8, w ∈ wsX3_ofPerson := by decide +kernel
  have hiX3 : ∀ w ∈ u_ws RX3 TX3 9, w ∈ wsX3_ofPerson := by decide +kernel
  have hf35 := hts (.fieldLink RX3 35 "TowerTell" "now" "LTowerTell$Tower;") (by decide +kernel)
  have hf74 := hts (.fieldLink RX3 74 "TowerTell$Tower" "kindOf" "[I") (by decide +kernel)
  have hf80 := hts (.fieldLink RX3 80 "TowerTell$Tower" "knownTo" "[I") (by decide +kernel)
  have hf83 := hts (.fieldLink RX3 83 "TowerTell$Tower" "toldBy" "[I") (by decide +kernel)
  refine lv_aload_n hx hb dX3_ofPerson_0 rfl (lv_at hl 0 rfl) ?_
  refine va_get (D := (dC, dI)) (ci := 3) (v := .ref (aN 0)) (C := RX3) (T := TX3) (N := 9) hx hb hts hiX3 hown hK hP 0 rfl rfl 5 (by decide) hf35 (fun _ h9 => h9) rfl dX3_ofPerson_1 ?_
  refine lv_iload_n hx hb dX3_ofPerson_4 rfl (lv_at hl 1 rfl) ?_
  obtain ⟨o1, hc2, h⟩ := ob h
  refine k_vi (As := [.int p1]) (rest := []) ⟨hx, hb, hml, hown, hts⟩ (c_X2_isPerson l dC dI cyI cyO aN H.size Ndeeds Npeople Ncatches p1 hc2) (cwV 1 hts gX3_ofPerson_X2_isPerson rfl rfl rfl (by decide +kernel) ⟨Nat.le_of_ble_eq_true rfl, Nat.le_of_ble_eq_true rfl⟩) hP hD hK hS hA [1] [0, 2, 3, 4, 5, 6] rfl rfl (by decide) (by decide) (by decide) 2 0 rfl rfl rfl rfl hl.1 rfl (Nat.le_of_ble_eq_true rfl) dX3_ofPerson_5 ⟨Nat.zero_le _, Nat.zero_le _⟩ (fun _ H locs hP hD hS => ?_)
  have hP : va_P (dC, dI) vwCl [((aX 0), .inr (3, [.ref (aX 1), .ref aR, .ref (aX 2), .ref (aX 3), .int Xreadings, .ref (aN 0), .ref (aT 0), .int Xtrail, .int XlatestFault])), ((aN 1), .inl (cyI, 6, .inl N_weightOf)), ((aN 2), .inl (cyI, 4, .inl N_kindOf)), ((aN 3), .inl (cyI, 4, .inl N_doneBy)), ((aN 4), .inl (cyI, 4, .inl N_knownTo)), ((aN 5), .inl (cyI, 4, .inl N_toldBy)), ((aN 0), .inr (2, [.int Ndeeds, .int Npeople, .int Ncatches, .ref (aN 1), .ref (aN 2), .ref (aN 3), .ref (aN 4), .ref (aN 5)]))] H := hP
  have hD : va_D A [((aX 0), .inr (3, [.ref (aX 1), .ref aR, .ref (aX 2), .ref (aX 3), .int Xreadings, .ref (aN 0), .ref (aT 0), .int Xtrail, .int XlatestFault])), ((aN 1), .inl (cyI, 6, .inl N_weightOf)), ((aN 2), .inl (cyI, 4, .inl N_kindOf)), ((aN 3), .inl (cyI, 4, .inl N_doneBy)), ((aN 4), .inl (cyI, 4, .inl N_knownTo)), ((aN 5), .inl (cyI, 4, .inl N_toldBy)), ((aN 0), .inr (2, [.int Ndeeds, .int Npeople, .int Ncatches, .ref (aN 1), .ref (aN 2), .ref (aN 3), .ref (aN 4), .ref (aN 5)]))] := hD
  refine lv_if_ne (tgt := 13) hx hb dX3_ofPerson_8 (by decide) (fun c3 => ?_) (fun c3 => ?_)
  · replace h := it_f c3 h
    refine lv_iload_n hx hb dX3_ofPerson_13 rfl (lv_at hl 2 rfl) ?_
    by_cases c4 : p2 = 0
    · replace h := it_t c4 h
      refine lv_tableIn (tgt := 48) (off := 34) hx hb dX3_ofPerson_14 (by rw [c4]; decide) (by rw [c4]; decide) (by rw [c4]; rfl) (by decide) ?_
      refine lv_aload_n hx hb dX3_ofPerson_48 rfl (lv_at hl 0 rfl) ?_
      refine va_get (D := (dC, dI)) (ci := 3) (v := .ref (aN 0)) (C := RX3) (T := TX3) (N := 9) hx hb hts hiX3 hown hK hP 0 rfl rfl 5 (by decide) hf35 (fun _ h9 => h9) rfl dX3_ofPerson_49 ?_
      refine va_get (D := (dC, dI)) (ci := 2) (v := .ref (aN 2)) (C := RX2) (T := TX2) (N := 8) hx hb hts hiX2 hown hK hP 6 rfl rfl 4 (by decide) hf74 (fun _ h9 => h9) rfl dX3_ofPerson_52 ?_
      refine lv_iload_n hx hb dX3_ofPerson_55 rfl (lv_at hl 1 rfl) ?_
      obtain ⟨e5, h⟩ := it_n h
      refine va_iald hx hb hK hP 2 0 rfl rfl (ix_in e5) dX3_ofPerson_56 ?_
      replace h := Option.some.inj h; subst h
      have hP := hP.sub (ws' := [((aX 0), .inr (3, [.ref (aX 1), .ref aR, .ref (aX 2), .ref (aX 3), .int Xreadings, .ref (aN 0), .ref (aT 0), .int Xtrail, .int XlatestFault])), ((aN 0), .inr (2, [.int Ndeeds, .int Npeople, .int Ncatches, .ref (aN 1), .ref (aN 2), .ref (aN 3), .ref (aN 4), .ref (aN 5)])), ((aN 1), .inl (cyI, 6, .inl N_weightOf)), ((aN 2), .inl (cyI, 4, .inl N_kindOf)), ((aN 3), .inl (cyI, 4, .inl N_doneBy)), ((aN 4), .inl (cyI, 4, .inl N_knownTo)), ((aN 5), .inl (cyI, 4, .inl N_toldBy))]) [0, 6, 1, 2, 3, 4, 5] rfl
      have hD := hD.sub (ws' := [((aX 0), .inr (3, [.ref (aX 1), .ref aR, .ref (aX 2), .ref (aX 3), .int Xreadings, .ref (aN 0), .ref (aT 0), .int Xtrail, .int XlatestFault])), ((aN 0), .inr (2, [.int Ndeeds, .int Npeople, .int Ncatches, .ref (aN 1), .ref (aN 2), .ref (aN 3), .ref (aN 4), .ref (aN 5)])), ((aN 1), .inl (cyI, 6, .inl N_weightOf)), ((aN 2), .inl (cyI, 4, .inl N_kindOf)), ((aN 3), .inl (cyI, 4, .inl N_doneBy)), ((aN 4), .inl (cyI, 4, .inl N_knownTo)), ((aN 5), .inl (cyI, 4, .inl N_toldBy))]) [0, 6, 1, 2, 3, 4, 5] (by decide) rfl
      exact hret () H locs _ ls hP hD hS dX3_ofPerson_57 rfl
    · replace h := it_f c4 h
      by_cases c6 : p2 = 1
      · replace h := it_t c6 h
        refine lv_tableIn (tgt := 58) (off := 44) hx hb dX3_ofPerson_14 (by rw [c6]; decide) (by rw [c6]; decide) (by rw [c6]; rfl) (by decide) ?_
        refine lv_aload_n hx hb dX3_ofPerson_58 rfl (lv_at hl 0 rfl) ?_
        refine va_get (D := (dC, dI)) (ci := 3) (v := .ref (aN 0)) (C := RX3) (T := TX3) (N := 9) hx hb hts hiX3 hown hK hP 0 rfl rfl 5 (by decide) hf35 (fun _ h9 => h9) rfl dX3_ofPerson_59 ?_
        refine lv_iload_n hx hb dX3_ofPerson_62 rfl (lv_at hl 1 rfl) ?_
        obtain ⟨o7, hc8, h⟩ := ob h
        refine k_vi (As := [.int p1]) (rest := []) ⟨hx, hb, hml, hown, hts⟩ (c_X2_truthsOf l dC dI cyI cyO aN H.size Ndeeds Npeople Ncatches N_doneBy p1 hc8) (cwV 1 hts gX3_ofPerson_X2_truthsOf rfl rfl rfl (by decide +kernel) ⟨Nat.le_of_ble_eq_true rfl, Nat.le_of_ble_eq_true rfl⟩) hP hD hK hS hA [6, 3] [0, 1, 2, 4, 5] rfl rfl (by decide) (by decide) (by decide) 2 0 rfl rfl rfl rfl hl.1 rfl (Nat.le_of_ble_eq_true rfl) dX3_ofPerson_63 ⟨Nat.zero_le _, Nat.zero_le _⟩ (fun _ H locs hP hD hS => ?_)
        have hP : va_P (dC, dI) vwCl [((aX 0), .inr (3, [.ref (aX 1), .ref aR, .ref (aX 2), .ref (aX 3), .int Xreadings, .ref (aN 0), .ref (aT 0), .int Xtrail, .int XlatestFault])), ((aN 1), .inl (cyI, 6, .inl N_weightOf)), ((aN 2), .inl (cyI, 4, .inl N_kindOf)), ((aN 4), .inl (cyI, 4, .inl N_knownTo)), ((aN 5), .inl (cyI, 4, .inl N_toldBy)), ((aN 0), .inr (2, [.int Ndeeds, .int Npeople, .int Ncatches, .ref (aN 1), .ref (aN 2), .ref (aN 3), .ref (aN 4), .ref (aN 5)])), ((aN 3), .inl (cyI, 4, .inl N_doneBy))] H := hP
        have hD : va_D A [((aX 0), .inr (3, [.ref (aX 1), .ref aR, .ref (aX 2), .ref (aX 3), .int Xreadings, .ref (aN 0), .ref (aT 0), .int Xtrail, .int XlatestFault])), ((aN 1), .inl (cyI, 6, .inl N_weightOf)), ((aN 2), .inl (cyI, 4, .inl N_kindOf)), ((aN 4), .inl (cyI, 4, .inl N_knownTo)), ((aN 5), .inl (cyI, 4, .inl N_toldBy)), ((aN 0), .inr (2, [.int Ndeeds, .int Npeople, .int Ncatches, .ref (aN 1), .ref (aN 2), .ref (aN 3), .ref (aN 4), .ref (aN 5)])), ((aN 3), .inl (cyI, 4, .inl N_doneBy))] := hD
        replace h := Option.some.inj h; subst h
        have hP := hP.sub (ws' := [((aX 0), .inr (3, [.ref (aX 1), .ref aR, .ref (aX 2), .ref (aX 3), .int Xreadings, .ref (aN 0), .ref (aT 0), .int Xtrail, .int XlatestFault])), ((aN 0), .inr (2, [.int Ndeeds, .int Npeople, .int Ncatches, .ref (aN 1), .ref (aN 2), .ref (aN 3), .ref (aN 4), .ref (aN 5)])), ((aN 1), .inl (cyI, 6, .inl N_weightOf)), ((aN 2), .inl (cyI, 4, .inl N_kindOf)), ((aN 3), .inl (cyI, 4, .inl N_doneBy)), ((aN 4), .inl (cyI, 4, .inl N_knownTo)), ((aN 5), .inl (cyI, 4, .inl N_toldBy))]) [0, 5, 1, 2, 6, 3, 4] rfl
        have hD := hD.sub (ws' := [((aX 0), .inr (3, [.ref (aX 1), .ref aR, .ref (aX 2), .ref (aX 3), .int Xreadings, .ref (aN 0), .ref (aT 0), .int Xtrail, .int XlatestFault])), ((aN 0), .inr (2, [.int Ndeeds, .int Npeople, .int Ncatches, .ref (aN 1), .ref (aN 2), .ref (aN 3), .ref (aN 4), .ref (aN 5)])), ((aN 1), .inl (cyI, 6, .inl N_weightOf)), ((aN 2), .inl (cyI, 4, .inl N_kindOf)), ((aN 3), .inl (cyI, 4, .inl N_doneBy)), ((aN 4), .inl (cyI, 4, .inl N_knownTo)), ((aN 5), .inl (cyI, 4, .inl N_toldBy))]) [0, 5, 1, 2, 6, 3, 4] (by decide) rfl
        exact hret () H locs _ ls hP hD hS dX3_ofPerson_66 rfl
      · replace h := it_f c6 h
        by_cases c9 : p2 = 2
        · replace h := it_t c9 h
          refine lv_tableIn (tgt := 67) (off := 53) hx hb dX3_ofPerson_14 (by rw [c9]; decide) (by rw [c9]; decide) (by rw [c9]; rfl) (by decide) ?_
          refine lv_aload_n hx hb dX3_ofPerson_67 rfl (lv_at hl 0 rfl) ?_
          refine va_get (D := (dC, dI)) (ci := 3) (v := .ref (aN 0)) (C := RX3) (T := TX3) (N := 9) hx hb hts hiX3 hown hK hP 0 rfl rfl 5 (by decide) hf35 (fun _ h9 => h9) rfl dX3_ofPerson_68 ?_
          refine va_get (D := (dC, dI)) (ci := 2) (v := .ref (aN 4)) (C := RX2) (T := TX2) (N := 8) hx hb hts hiX2 hown hK hP 6 rfl rfl 6 (by decide) hf80 (fun _ h9 => h9) rfl dX3_ofPerson_71 ?_
          refine lv_iload_n hx hb dX3_ofPerson_74 rfl (lv_at hl 1 rfl) ?_
          obtain ⟨e10, h⟩ := it_n h
          refine va_iald hx hb hK hP 4 0 rfl rfl (ix_in e10) dX3_ofPerson_75 ?_
          replace h := Option.some.inj h; subst h
          have hP := hP.sub (ws' := [((aX 0), .inr (3, [.ref (aX 1), .ref aR, .ref (aX 2), .ref (aX 3), .int Xreadings, .ref (aN 0), .ref (aT 0), .int Xtrail, .int XlatestFault])), ((aN 0), .inr (2, [.int Ndeeds, .int Npeople, .int Ncatches, .ref (aN 1), .ref (aN 2), .ref (aN 3), .ref (aN 4), .ref (aN 5)])), ((aN 1), .inl (cyI, 6, .inl N_weightOf)), ((aN 2), .inl (cyI, 4, .inl N_kindOf)), ((aN 3), .inl (cyI, 4, .inl N_doneBy)), ((aN 4), .inl (cyI, 4, .inl N_knownTo)), ((aN 5), .inl (cyI, 4, .inl N_toldBy))]) [0, 6, 1, 2, 3, 4, 5] rfl
          have hD := hD.sub (ws' := [((aX 0), .inr (3, [.ref (aX 1), .ref aR, .ref (aX 2), .ref (aX 3), .int Xreadings, .ref (aN 0), .ref (aT 0), .int Xtrail, .int XlatestFault])), ((aN 0), .inr (2, [.int Ndeeds, .int Npeople, .int Ncatches, .ref (aN 1), .ref (aN 2), .ref (aN 3), .ref (aN 4), .ref (aN 5)])), ((aN 1), .inl (cyI, 6, .inl N_weightOf)), ((aN 2), .inl (cyI, 4, .inl N_kindOf)), ((aN 3), .inl (cyI, 4, .inl N_doneBy)), ((aN 4), .inl (cyI, 4, .inl N_knownTo)), ((aN 5), .inl (cyI, 4, .inl N_toldBy))]) [0, 6, 1, 2, 3, 4, 5] (by decide) rfl
          exact hret () H locs _ ls hP hD hS dX3_ofPerson_76 rfl
        · replace h := it_f c9 h
          by_cases c11 : p2 = 3
          · replace h := it_t c11 h
            refine lv_tableIn (tgt := 77) (off := 63) hx hb dX3_ofPerson_14 (by rw [c11]; decide) (by rw [c11]; decide) (by rw [c11]; rfl) (by decide) ?_
            refine lv_aload_n hx hb dX3_ofPerson_77 rfl (lv_at hl 0 rfl) ?_
            refine va_get (D := (dC, dI)) (ci := 3) (v := .ref (aN 0)) (C := RX3) (T := TX3) (N := 9) hx hb hts hiX3 hown hK hP 0 rfl rfl 5 (by decide) hf35 (fun _ h9 => h9) rfl dX3_ofPerson_78 ?_
            refine va_get (D := (dC, dI)) (ci := 2) (v := .ref (aN 5)) (C := RX2) (T := TX2) (N := 8) hx hb hts hiX2 hown hK hP 6 rfl rfl 7 (by decide) hf83 (fun _ h9 => h9) rfl dX3_ofPerson_81 ?_
            refine lv_iload_n hx hb dX3_ofPerson_84 rfl (lv_at hl 1 rfl) ?_
            obtain ⟨e12, h⟩ := it_n h
            refine va_iald hx hb hK hP 5 0 rfl rfl (ix_in e12) dX3_ofPerson_85 ?_
            replace h := Option.some.inj h; subst h
            have hP := hP.sub (ws' := [((aX 0), .inr (3, [.ref (aX 1), .ref aR, .ref (aX 2), .ref (aX 3), .int Xreadings, .ref (aN 0), .ref (aT 0), .int Xtrail, .int XlatestFault])), ((aN 0), .inr (2, [.int Ndeeds, .int Npeople, .int Ncatches, .ref (aN 1), .ref (aN 2), .ref (aN 3), .ref (aN 4), .ref (aN 5)])), ((aN 1), .inl (cyI, 6, .inl N_weightOf)), ((aN 2), .inl (cyI, 4, .inl N_kindOf)), ((aN 3), .inl (cyI, 4, .inl N_doneBy)), ((aN 4), .inl (cyI, 4, .inl N_knownTo)), ((aN 5), .inl (cyI, 4, .inl N_toldBy))]) [0, 6, 1, 2, 3, 4, 5] rfl
            have hD := hD.sub (ws' := [((aX 0), .inr (3, [.ref (aX 1), .ref aR, .ref (aX 2), .ref (aX 3), .int Xreadings, .ref (aN 0), .ref (aT 0), .int Xtrail, .int XlatestFault])), ((aN 0), .inr (2, [.int Ndeeds, .int Npeople, .int Ncatches, .ref (aN 1), .ref (aN 2), .ref (aN 3), .ref (aN 4), .ref (aN 5)])), ((aN 1), .inl (cyI, 6, .inl N_weightOf)), ((aN 2), .inl (cyI, 4, .inl N_kindOf)), ((aN 3), .inl (cyI, 4, .inl N_doneBy)), ((aN 4), .inl (cyI, 4, .inl N_knownTo)), ((aN 5), .inl (cyI, 4, .inl N_toldBy))]) [0, 6, 1, 2, 3, 4, 5] (by decide) rfl
            exact hret () H locs _ ls hP hD hS dX3_ofPerson_86 rfl
          · replace h := it_f c11 h
            by_cases c13 : p2 = 4
            · replace h := it_t c13 h
              refine lv_tableIn (tgt := 87) (off := 73) hx hb dX3_ofPerson_14 (by rw [c13]; decide) (by rw [c13]; decide) (by rw [c13]; rfl) (by decide) ?_
              refine lv_aload_n hx hb dX3_ofPerson_87 rfl (lv_at hl 0 rfl) ?_
              refine va_get (D := (dC, dI)) (ci := 3) (v := .ref (aN 0)) (C := RX3) (T := TX3) (N := 9) hx hb hts hiX3 hown hK hP 0 rfl rfl 5 (by decide) hf35 (fun _ h9 => h9) rfl dX3_ofPerson_88 ?_
              refine lv_iload_n hx hb dX3_ofPerson_91 rfl (lv_at hl 1 rfl) ?_
              obtain ⟨o14, hc15, h⟩ := ob h
              refine k_vi (As := [.int p1]) (rest := []) ⟨hx, hb, hml, hown, hts⟩ (c_X2_floorOf l dC dI cyI cyO aN H.size Ndeeds Npeople Ncatches N_weightOf N_kindOf N_toldBy p1 hc15) (cwV 1 hts gX3_ofPerson_X2_floorOf rfl rfl rfl (by decide +kernel) ⟨Nat.le_of_ble_eq_true rfl, Nat.le_of_ble_eq_true rfl⟩) hP hD hK hS hA [6, 1, 2, 5] [0, 3, 4] rfl rfl (by decide) (by decide) (by decide) 2 0 rfl rfl rfl rfl hl.1 rfl (Nat.le_of_ble_eq_true rfl) dX3_ofPerson_92 ⟨Nat.zero_le _, Nat.zero_le _⟩ (fun _ H locs hP hD hS => ?_)
              have hP : va_P (dC, dI) vwCl [((aX 0), .inr (3, [.ref (aX 1), .ref aR, .ref (aX 2), .ref (aX 3), .int Xreadings, .ref (aN 0), .ref (aT 0), .int Xtrail, .int XlatestFault])), ((aN 3), .inl (cyI, 4, .inl N_doneBy)), ((aN 4), .inl (cyI, 4, .inl N_knownTo)), ((aN 0), .inr (2, [.int Ndeeds, .int Npeople, .int Ncatches, .ref (aN 1), .ref (aN 2), .ref (aN 3), .ref (aN 4), .ref (aN 5)])), ((aN 1), .inl (cyI, 6, .inl N_weightOf)), ((aN 2), .inl (cyI, 4, .inl N_kindOf)), ((aN 5), .inl (cyI, 4, .inl N_toldBy))] H := hP
              have hD : va_D A [((aX 0), .inr (3, [.ref (aX 1), .ref aR, .ref (aX 2), .ref (aX 3), .int Xreadings, .ref (aN 0), .ref (aT 0), .int Xtrail, .int XlatestFault])), ((aN 3), .inl (cyI, 4, .inl N_doneBy)), ((aN 4), .inl (cyI, 4, .inl N_knownTo)), ((aN 0), .inr (2, [.int Ndeeds, .int Npeople, .int Ncatches, .ref (aN 1), .ref (aN 2), .ref (aN 3), .ref (aN 4), .ref (aN 5)])), ((aN 1), .inl (cyI, 6, .inl N_weightOf)), ((aN 2), .inl (cyI, 4, .inl N_kindOf)), ((aN 5), .inl (cyI, 4, .inl N_toldBy))] := hD
              replace h := Option.some.inj h; subst h
              have hP := hP.sub (ws' := [((aX 0), .inr (3, [.ref (aX 1), .ref aR, .ref (aX 2), .ref (aX 3), .int Xreadings, .ref (aN 0), .ref (aT 0), .int Xtrail, .int XlatestFault])), ((aN 0), .inr (2, [.int Ndeeds, .int Npeople, .int Ncatches, .ref (aN 1), .ref (aN 2), .ref (aN 3), .ref (aN 4), .ref (aN 5)])), ((aN 1), .inl (cyI, 6, .inl N_weightOf)), ((aN 2), .inl (cyI, 4, .inl N_kindOf)), ((aN 3), .inl (cyI, 4, .inl N_doneBy)), ((aN 4), .inl (cyI, 4, .inl N_knownTo)), ((aN 5), .inl (cyI, 4, .inl N_toldBy))]) [0, 3, 4, 5, 1, 2, 6] rfl
              have hD := hD.sub (ws' := [((aX 0), .inr (3, [.ref (aX 1), .ref aR, .ref (aX 2), .ref (aX 3), .int Xreadings, .ref (aN 0), .ref (aT 0), .int Xtrail, .int XlatestFault])), ((aN 0), .inr (2, [.int Ndeeds, .int Npeople, .int Ncatches, .ref (aN 1), .ref (aN 2), .ref (aN 3), .ref (aN 4), .ref (aN 5)])), ((aN 1), .inl (cyI, 6, .inl N_weightOf)), ((aN 2), .inl (cyI, 4, .inl N_kindOf)), ((aN 3), .inl (cyI, 4, .inl N_doneBy)), ((aN 4), .inl (cyI, 4, .inl N_knownTo)), ((aN 5), .inl (cyI, 4, .inl N_toldBy))]) [0, 3, 4, 5, 1, 2, 6] (by decide) rfl
              exact hret () H locs _ ls hP hD hS dX3_ofPerson_95 rfl
            · replace h := it_f c13 h
              refine lv_tableOut (tgt := 96) hx hb dX3_ofPerson_14 (by have z0 := lv_neT c4 (show (0 : Int32).toInt = 0 from rfl); have z1 := lv_neT c6 (show (1 : Int32).toInt = 1 from rfl); have z2 := lv_neT c9 (show (2 : Int32).toInt = 2 from rfl); have z3 := lv_neT c11 (show (3 : Int32).toInt = 3 from rfl); have z4 := lv_neT c13 (show (4 : Int32).toInt = 4 from rfl); omega) (by decide) ?_
              refine lv_bipush (v := (-2)) hx hb dX3_ofPerson_96 (by decide) ?_
              replace h := Option.some.inj h; subst h
              have hP := hP.sub (ws' := [((aX 0), .inr (3, [.ref (aX 1), .ref aR, .ref (aX 2), .ref (aX 3), .int Xreadings, .ref (aN 0), .ref (aT 0), .int Xtrail, .int XlatestFault])), ((aN 0), .inr (2, [.int Ndeeds, .int Npeople, .int Ncatches, .ref (aN 1), .ref (aN 2), .ref (aN 3), .ref (aN 4), .ref (aN 5)])), ((aN 1), .inl (cyI, 6, .inl N_weightOf)), ((aN 2), .inl (cyI, 4, .inl N_kindOf)), ((aN 3), .inl (cyI, 4, .inl N_doneBy)), ((aN 4), .inl (cyI, 4, .inl N_knownTo)), ((aN 5), .inl (cyI, 4, .inl N_toldBy))]) [0, 6, 1, 2, 3, 4, 5] rfl
              have hD := hD.sub (ws' := [((aX 0), .inr (3, [.ref (aX 1), .ref aR, .ref (aX 2), .ref (aX 3), .int Xreadings, .ref (aN 0), .ref (aT 0), .int Xtrail, .int XlatestFault])), ((aN 0), .inr (2, [.int Ndeeds, .int Npeople, .int Ncatches, .ref (aN 1), .ref (aN 2), .ref (aN 3), .ref (aN 4), .ref (aN 5)])), ((aN 1), .inl (cyI, 6, .inl N_weightOf)), ((aN 2), .inl (cyI, 4, .inl N_kindOf)), ((aN 3), .inl (cyI, 4, .inl N_doneBy)), ((aN 4), .inl (cyI, 4, .inl N_knownTo)), ((aN 5), .inl (cyI, 4, .inl N_toldBy))]) [0, 6, 1, 2, 3, 4, 5] (by decide) rfl
              exact hret () H locs _ ls hP hD hS dX3_ofPerson_98 rfl
  · replace h := it_t c3 h
    refine lv_iconst (v := (-1)) hx hb dX3_ofPerson_11 (by decide) ?_
    replace h := Option.some.inj h; subst h
    have hP := hP.sub (ws' := [((aX 0), .inr (3, [.ref (aX 1), .ref aR, .ref (aX 2), .ref (aX 3), .int Xreadings, .ref (aN 0), .ref (aT 0), .int Xtrail, .int XlatestFault])), ((aN 0), .inr (2, [.int Ndeeds, .int Npeople, .int Ncatches, .ref (aN 1), .ref (aN 2), .ref (aN 3), .ref (aN 4), .ref (aN 5)])), ((aN 1), .inl (cyI, 6, .inl N_weightOf)), ((aN 2), .inl (cyI, 4, .inl N_kindOf)), ((aN 3), .inl (cyI, 4, .inl N_doneBy)), ((aN 4), .inl (cyI, 4, .inl N_knownTo)), ((aN 5), .inl (cyI, 4, .inl N_toldBy))]) [0, 6, 1, 2, 3, 4, 5] rfl
    have hD := hD.sub (ws' := [((aX 0), .inr (3, [.ref (aX 1), .ref aR, .ref (aX 2), .ref (aX 3), .int Xreadings, .ref (aN 0), .ref (aT 0), .int Xtrail, .int XlatestFault])), ((aN 0), .inr (2, [.int Ndeeds, .int Npeople, .int Ncatches, .ref (aN 1), .ref (aN 2), .ref (aN 3), .ref (aN 4), .ref (aN 5)])), ((aN 1), .inl (cyI, 6, .inl N_weightOf)), ((aN 2), .inl (cyI, 4, .inl N_kindOf)), ((aN 3), .inl (cyI, 4, .inl N_doneBy)), ((aN 4), .inl (cyI, 4, .inl N_knownTo)), ((aN 5), .inl (cyI, 4, .inl N_toldBy))]) [0, 6, 1, 2, 3, 4, 5] (by decide) rfl
    exact hret () H locs _ ls hP hD hS dX3_ofPerson_12 rfl
set_option maxHeartbeats 4000000 in
set_option maxRecDepth 100000 in
theorem c_X3_weight (l : Launch) (dC : Nat → ClassId) (dI : Nat → Nat → Nat) (cyI cyO : ClassId) (aX : Nat → Nat) (aN : Nat → Nat) (aR : Nat) (aT : Nat → Nat) (sz : Nat) (Xreadings : Int32) (Xtrail : Int32) (XlatestFault : Int32) (Ndeeds : Int32) (Npeople : Int32) (Ncatches : Int32) (N_weightOf : Nat → Int32) (p1 : Int32) {o : Int32}  (h : f_X3_weight Ndeeds N_weightOf p1 = some o) : CtI l yX3_weight wsX3_weight { frames := 1, cells := 0, slots := 0, locals := 21 } (dC, dI) [(cyI, .int), (cyO, .object RX0)] [.ref (aX 0), .int p1] sz [((aX 0), .inr (3, [.ref (aX 1), .ref aR, .ref (aX 2), .ref (aX 3), .int Xreadings, .ref (aN 0), .ref (aT 0), .int Xtrail, .int XlatestFault])), ((aN 0), .inr (2, [.int Ndeeds, .int Npeople, .int Ncatches, .ref (aN 1), .ref (aN 2), .ref (aN 3), .ref (aN 4), .ref (aN 5)])), ((aN 1), .inl (cyI, 6, .inl N_weightOf))] (fun (_ : Unit) => [((aX 0), .inr (3, [.ref (aX 1), .ref aR, .ref (aX 2), .ref (aX 3), .int Xreadings, .ref (aN 0), .ref (aT 0), .int Xtrail, .int XlatestFault])), ((aN 0), .inr (2, [.int Ndeeds, .int Npeople, .int Ncatches, .ref (aN 1), .ref (aN 2), .ref (aN 3), .ref (aN 4), .ref (aN 5)])), ((aN 1), .inl (cyI, 6, .inl N_weightOf))]) o := by
  refine CtI.of (cc := cX3_weight) (maxL := 2) (by decide) rfl (Nat.le_of_ble_eq_true rfl) ?_
  intro p e s m args below meth c A Q H locs hx hb hml hown hts hA hK hP hD hS hret ls hl
  have hown : s.vm.findClass RX3 = some m.cls := hown
  have hl : lv_has ls 2 [(0, .ref (aX 0)), (1, .int p1)] := hl
  unfold f_X3_weight at h
  have hiX2 : ∀ w ∈ u_ws RX2 TX2 8, w ∈ wsX3_weight := by decide +kernel
  have hiX3 : ∀ w ∈ u_ws RX3 TX3 9, w ∈ wsX3_weight := by decide +kernel
  have hf35 := hts (.fieldLink RX3 35 "TowerTell" "now" "LTowerTell$Tower;") (by decide +kernel)
  have hf92 := hts (.fieldLink RX3 92 "TowerTell$Tower" "weightOf" "[I") (by decide +kernel)
  refine lv_aload_n hx hb dX3_weight_0 rfl (lv_at hl 0 rfl) ?_
  refine va_get (D := (dC, dI)) (ci := 3) (v := .ref (aN 0)) (C := RX3) (T := TX3) (N := 9) hx hb hts hiX3 hown hK hP 0 rfl rfl 5 (by decide) hf35 (fun _ h9 => h9) rfl dX3_weight_1 ?_
  refine lv_iload_n hx hb dX3_weight_4 rfl (lv_at hl 1 rfl) ?_
  obtain ⟨o1, hc2, h⟩ := ob h
  refine k_vi (As := [.int p1]) (rest := []) ⟨hx, hb, hml, hown, hts⟩ (c_X2_isDeed l dC dI cyI cyO aN H.size Ndeeds Npeople Ncatches p1 hc2) (cwV 1 hts gX3_weight_X2_isDeed rfl rfl rfl (by decide +kernel) ⟨Nat.le_of_ble_eq_true rfl, Nat.le_of_ble_eq_true rfl⟩) hP hD hK hS hA [1] [0, 2] rfl rfl (by decide) (by decide) (by decide) 2 0 rfl rfl rfl rfl hl.1 rfl (Nat.le_of_ble_eq_true rfl) dX3_weight_5 ⟨Nat.zero_le _, Nat.zero_le _⟩ (fun _ H locs hP hD hS => ?_)
  have hP : va_P (dC, dI) vwCl [((aX 0), .inr (3, [.ref (aX 1), .ref aR, .ref (aX 2), .ref (aX 3), .int Xreadings, .ref (aN 0), .ref (aT 0), .int Xtrail, .int XlatestFault])), ((aN 1), .inl (cyI, 6, .inl N_weightOf)), ((aN 0), .inr (2, [.int Ndeeds, .int Npeople, .int Ncatches, .ref (aN 1), .ref (aN 2), .ref (aN 3), .ref (aN 4), .ref (aN 5)]))] H := hP
  have hD : va_D A [((aX 0), .inr (3, [.ref (aX 1), .ref aR, .ref (aX 2), .ref (aX 3), .int Xreadings, .ref (aN 0), .ref (aT 0), .int Xtrail, .int XlatestFault])), ((aN 1), .inl (cyI, 6, .inl N_weightOf)), ((aN 0), .inr (2, [.int Ndeeds, .int Npeople, .int Ncatches, .ref (aN 1), .ref (aN 2), .ref (aN 3), .ref (aN 4), .ref (aN 5)]))] := hD
  refine lv_if_eq (tgt := 23) hx hb dX3_weight_8 (by decide) (fun c3 => ?_) (fun c3 => ?_)
  · replace h := it_t c3 h
    refine lv_iconst (v := (-1)) hx hb dX3_weight_23 (by decide) ?_
    replace h := Option.some.inj h; subst h
    have hP := hP.sub (ws' := [((aX 0), .inr (3, [.ref (aX 1), .ref aR, .ref (aX 2), .ref (aX 3), .int Xreadings, .ref (aN 0), .ref (aT 0), .int Xtrail, .int XlatestFault])), ((aN 0), .inr (2, [.int Ndeeds, .int Npeople, .int Ncatches, .ref (aN 1), .ref (aN 2), .ref (aN 3), .ref (aN 4), .ref (aN 5)])), ((aN 1), .inl (cyI, 6, .inl N_weightOf))]) [0, 2, 1] rfl
    have hD := hD.sub (ws' := [((aX 0), .inr (3, [.ref (aX 1), .ref aR, .ref (aX 2), .ref (aX 3), .int Xreadings, .ref (aN 0), .ref (aT 0), .int Xtrail, .int XlatestFault])), ((aN 0), .inr (2, [.int Ndeeds, .int Npeople, .int Ncatches, .ref (aN 1), .ref (aN 2), .ref (aN 3), .ref (aN 4), .ref (aN 5)])), ((aN 1), .inl (cyI, 6, .inl N_weightOf))]) [0, 2, 1] (by decide) rfl
    exact hret () H locs _ ls hP hD hS dX3_weight_24 rfl
  · replace h := it_f c3 h
    refine lv_aload_n hx hb dX3_weight_11 rfl (lv_at hl 0 rfl) ?_
    refine va_get (D := (dC, dI)) (ci := 3) (v := .ref (aN 0)) (C := RX3) (T := TX3) (N := 9) hx hb hts hiX3 hown hK hP 0 rfl rfl 5 (by decide) hf35 (fun _ h9 => h9) rfl dX3_weight_12 ?_
    refine va_get (D := (dC, dI)) (ci := 2) (v := .ref (aN 1)) (C := RX2) (T := TX2) (N := 8) hx hb hts hiX2 hown hK hP 2 rfl rfl 3 (by decide) hf92 (fun _ h9 => h9) rfl dX3_weight_15 ?_
    refine lv_iload_n hx hb dX3_weight_18 rfl (lv_at hl 1 rfl) ?_
    obtain ⟨e4, h⟩ := it_n h
    refine va_iald hx hb hK hP 1 0 rfl rfl (ix_in e4) dX3_weight_19 ?_
    refine lv_goto (tgt := 24) hx hb dX3_weight_20 (by decide) ?_
    replace h := Option.some.inj h; subst h
    have hP := hP.sub (ws' := [((aX 0), .inr (3, [.ref (aX 1), .ref aR, .ref (aX 2), .ref (aX 3), .int Xreadings, .ref (aN 0), .ref (aT 0), .int Xtrail, .int XlatestFault])), ((aN 0), .inr (2, [.int Ndeeds, .int Npeople, .int Ncatches, .ref (aN 1), .ref (aN 2), .ref (aN 3), .ref (aN 4), .ref (aN 5)])), ((aN 1), .inl (cyI, 6, .inl N_weightOf))]) [0, 2, 1] rfl
    have hD := hD.sub (ws' := [((aX 0), .inr (3, [.ref (aX 1), .ref aR, .ref (aX 2), .ref (aX 3), .int Xreadings, .ref (aN 0), .ref (aT 0), .int Xtrail, .int XlatestFault])), ((aN 0), .inr (2, [.int Ndeeds, .int Npeople, .int Ncatches, .ref (aN 1), .ref (aN 2), .ref (aN 3), .ref (aN 4), .ref (aN 5)])), ((aN 1), .inl (cyI, 6, .inl N_weightOf))]) [0, 2, 1] (by decide) rfl
    exact hret () H locs _ ls hP hD hS dX3_weight_24 rfl
set_option maxHeartbeats 4000000 in
set_option maxRecDepth 100000 in
theorem c_X3_weigh (l : Launch) (dC : Nat → ClassId) (dI : Nat → Nat → Nat) (cyI cyO : ClassId) (aX : Nat → Nat) (aN : Nat → Nat) (aR : Nat) (aT : Nat → Nat) (sz : Nat) (Xreadings : Int32) (Xtrail : Int32) (XlatestFault : Int32) (Ndeeds : Int32) (Npeople : Int32) (Ncatches : Int32) (N_weightOf : Nat → Int32) (p1 : Int32) (p2 : Int32) {o : Int32 × (Nat → Int32)}  (h : f_X3_weigh Ndeeds N_weightOf p1 p2 = some o) : CtI l yX3_weigh wsX3_weigh { frames := 1, cells := 0, slots := 0, locals := 21 } (dC, dI) [(cyI, .int), (cyO, .object RX0)] [.ref (aX 0), .int p1, .int p2] sz [((aX 0), .inr (3, [.ref (aX 1), .ref aR, .ref (aX 2), .ref (aX 3), .int Xreadings, .ref (aN 0), .ref (aT 0), .int Xtrail, .int XlatestFault])), ((aN 0), .inr (2, [.int Ndeeds, .int Npeople, .int Ncatches, .ref (aN 1), .ref (aN 2), .ref (aN 3), .ref (aN 4), .ref (aN 5)])), ((aN 1), .inl (cyI, 6, .inl N_weightOf))] (fun (_ : Unit) => [((aX 0), .inr (3, [.ref (aX 1), .ref aR, .ref (aX 2), .ref (aX 3), .int Xreadings, .ref (aN 0), .ref (aT 0), .int Xtrail, .int XlatestFault])), ((aN 0), .inr (2, [.int Ndeeds, .int Npeople, .int Ncatches, .ref (aN 1), .ref (aN 2), .ref (aN 3), .ref (aN 4), .ref (aN 5)])), ((aN 1), .inl (cyI, 6, .inl o.2))]) o.1 := by
  refine CtI.of (cc := cX3_weigh) (maxL := 4) (by decide) rfl (Nat.le_of_ble_eq_true rfl) ?_
  intro p e s m args below meth c A Q H locs hx hb hml hown hts hA hK hP hD hS hret ls hl
  have hown : s.vm.findClass RX3 = some m.cls := hown
  have hl : lv_has ls 4 [(0, .ref (aX 0)), (1, .int p1), (2, .int p2)] := hl
  unfold f_X3_weigh at h
  have hiX2 : ∀ w ∈ u_ws RX2 TX2 8, w ∈ wsX3_weigh := by decide +kernel
  have hiX3 : ∀ w ∈ u_ws RX3 TX3 9, w ∈ wsX3_weigh := by decide +kernel
  have hf35 := hts (.fieldLink RX3 35 "TowerTell" "now" "LTowerTell$Tower;") (by decide +kernel)
  have hf92 := hts (.fieldLink RX3 92 "TowerTell$Tower" "weightOf" "[I") (by decide +kernel)
  refine lv_aload_n hx hb dX3_weigh_0 rfl (lv_at hl 0 rfl) ?_
  refine va_get (D := (dC, dI)) (ci := 3) (v := .ref (aN 0)) (C := RX3) (T := TX3) (N := 9) hx hb hts hiX3 hown hK hP 0 rfl rfl 5 (by decide) hf35 (fun _ h9 => h9) rfl dX3_weigh_1 ?_
  refine lv_iload_n hx hb dX3_weigh_4 rfl (lv_at hl 1 rfl) ?_
  obtain ⟨o1, hc2, h⟩ := ob h
  refine k_vi (As := [.int p1]) (rest := []) ⟨hx, hb, hml, hown, hts⟩ (c_X2_isDeed l dC dI cyI cyO aN H.size Ndeeds Npeople Ncatches p1 hc2) (cwV 1 hts gX3_weigh_X2_isDeed rfl rfl rfl (by decide +kernel) ⟨Nat.le_of_ble_eq_true rfl, Nat.le_of_ble_eq_true rfl⟩) hP hD hK hS hA [1] [0, 2] rfl rfl (by decide) (by decide) (by decide) 2 0 rfl rfl rfl rfl hl.1 rfl (Nat.le_of_ble_eq_true rfl) dX3_weigh_5 ⟨Nat.zero_le _, Nat.zero_le _⟩ (fun _ H locs hP hD hS => ?_)
  have hP : va_P (dC, dI) vwCl [((aX 0), .inr (3, [.ref (aX 1), .ref aR, .ref (aX 2), .ref (aX 3), .int Xreadings, .ref (aN 0), .ref (aT 0), .int Xtrail, .int XlatestFault])), ((aN 1), .inl (cyI, 6, .inl N_weightOf)), ((aN 0), .inr (2, [.int Ndeeds, .int Npeople, .int Ncatches, .ref (aN 1), .ref (aN 2), .ref (aN 3), .ref (aN 4), .ref (aN 5)]))] H := hP
  have hD : va_D A [((aX 0), .inr (3, [.ref (aX 1), .ref aR, .ref (aX 2), .ref (aX 3), .int Xreadings, .ref (aN 0), .ref (aT 0), .int Xtrail, .int XlatestFault])), ((aN 1), .inl (cyI, 6, .inl N_weightOf)), ((aN 0), .inr (2, [.int Ndeeds, .int Npeople, .int Ncatches, .ref (aN 1), .ref (aN 2), .ref (aN 3), .ref (aN 4), .ref (aN 5)]))] := hD
  refine lv_if_ne (tgt := 13) hx hb dX3_weigh_8 (by decide) (fun c3 => ?_) (fun c3 => ?_)
  · replace h := it_f c3 h
    refine lv_iload_n hx hb dX3_weigh_13 rfl (lv_at hl 2 rfl) ?_
    refine lv_iconst (v := 1) hx hb dX3_weigh_14 (by decide) ?_
    refine lv_icmp_lt (tgt := 24) hx hb dX3_weigh_15 (by decide) (fun c4 => ?_) (fun c4 => ?_)
    · replace h := it_t c4 h
      refine lv_bipush (v := (-2)) hx hb dX3_weigh_24 (by decide) ?_
      replace h := Option.some.inj h; subst h
      have hP := hP.sub (ws' := [((aX 0), .inr (3, [.ref (aX 1), .ref aR, .ref (aX 2), .ref (aX 3), .int Xreadings, .ref (aN 0), .ref (aT 0), .int Xtrail, .int XlatestFault])), ((aN 0), .inr (2, [.int Ndeeds, .int Npeople, .int Ncatches, .ref (aN 1), .ref (aN 2), .ref (aN 3), .ref (aN 4), .ref (aN 5)])), ((aN 1), .inl (cyI, 6, .inl N_weightOf))]) [0, 2, 1] rfl
      have hD := hD.sub (ws' := [((aX 0), .inr (3, [.ref (aX 1), .ref aR, .ref (aX 2), .ref (aX 3), .int Xreadings, .ref (aN 0), .ref (aT 0), .int Xtrail, .int XlatestFault])), ((aN 0), .inr (2, [.int Ndeeds, .int Npeople, .int Ncatches, .ref (aN 1), .ref (aN 2), .ref (aN 3), .ref (aN 4), .ref (aN 5)])), ((aN 1), .inl (cyI, 6, .inl N_weightOf))]) [0, 2, 1] (by decide) rfl
      exact hret () H locs _ ls hP hD hS dX3_weigh_26 rfl
    · replace h := it_f c4 h
      refine lv_iload_n hx hb dX3_weigh_18 rfl (lv_at hl 2 rfl) ?_
      refine lv_bipush (v := 9) hx hb dX3_weigh_19 (by decide) ?_
      refine lv_icmp_le (tgt := 27) hx hb dX3_weigh_21 (by decide) (fun c5 => ?_) (fun c5 => ?_)
      · replace h := it_t c5 h
        refine lv_aload_n hx hb dX3_weigh_27 rfl (lv_at hl 0 rfl) ?_
        refine va_get (D := (dC, dI)) (ci := 3) (v := .ref (aN 0)) (C := RX3) (T := TX3) (N := 9) hx hb hts hiX3 hown hK hP 0 rfl rfl 5 (by decide) hf35 (fun _ h9 => h9) rfl dX3_weigh_28 ?_
        refine va_get (D := (dC, dI)) (ci := 2) (v := .ref (aN 1)) (C := RX2) (T := TX2) (N := 8) hx hb hts hiX2 hown hK hP 2 rfl rfl 3 (by decide) hf92 (fun _ h9 => h9) rfl dX3_weigh_31 ?_
        refine lv_iload_n hx hb dX3_weigh_34 rfl (lv_at hl 1 rfl) ?_
        obtain ⟨e6, h⟩ := it_n h
        refine va_iald hx hb hK hP 1 0 rfl rfl (ix_in e6) dX3_weigh_35 ?_
        refine lv_istore_n (lv' := [(3, .int (N_weightOf p1.toNatClampNeg)), (0, .ref (aX 0)), (1, .int p1), (2, .int p2)]) hx hb dX3_weigh_36 rfl hl (by decide) rfl (fun ls hl => ?_)
        refine lv_aload_n hx hb dX3_weigh_37 rfl (lv_at hl 1 rfl) ?_
        refine va_get (D := (dC, dI)) (ci := 3) (v := .ref (aN 0)) (C := RX3) (T := TX3) (N := 9) hx hb hts hiX3 hown hK hP 0 rfl rfl 5 (by decide) hf35 (fun _ h9 => h9) rfl dX3_weigh_38 ?_
        refine va_get (D := (dC, dI)) (ci := 2) (v := .ref (aN 1)) (C := RX2) (T := TX2) (N := 8) hx hb hts hiX2 hown hK hP 2 rfl rfl 3 (by decide) hf92 (fun _ h9 => h9) rfl dX3_weigh_41 ?_
        refine lv_iload_n hx hb dX3_weigh_44 rfl (lv_at hl 2 rfl) ?_
        refine lv_iload_n hx hb dX3_weigh_45 rfl (lv_at hl 3 rfl) ?_
        obtain ⟨e7, h⟩ := it_n h
        refine va_iast hx hb hK hP hD hS 1 0 rfl rfl (ix_in e7) dX3_weigh_46 (fun H locs hP hD hS => ?_)
        have hP : va_P (dC, dI) vwCl [((aX 0), .inr (3, [.ref (aX 1), .ref aR, .ref (aX 2), .ref (aX 3), .int Xreadings, .ref (aN 0), .ref (aT 0), .int Xtrail, .int XlatestFault])), ((aN 1), .inl (cyI, 6, .inl (upd N_weightOf p1.toNatClampNeg p2))), ((aN 0), .inr (2, [.int Ndeeds, .int Npeople, .int Ncatches, .ref (aN 1), .ref (aN 2), .ref (aN 3), .ref (aN 4), .ref (aN 5)]))] H := hP
        have hD : va_D A [((aX 0), .inr (3, [.ref (aX 1), .ref aR, .ref (aX 2), .ref (aX 3), .int Xreadings, .ref (aN 0), .ref (aT 0), .int Xtrail, .int XlatestFault])), ((aN 1), .inl (cyI, 6, .inl (upd N_weightOf p1.toNatClampNeg p2))), ((aN 0), .inr (2, [.int Ndeeds, .int Npeople, .int Ncatches, .ref (aN 1), .ref (aN 2), .ref (aN 3), .ref (aN 4), .ref (aN 5)]))] := hD
        refine lv_iload_n hx hb dX3_weigh_47 rfl (lv_at hl 0 rfl) ?_
        replace h := Option.some.inj h; subst h
        have hP := hP.sub (ws' := [((aX 0), .inr (3, [.ref (aX 1), .ref aR, .ref (aX 2), .ref (aX 3), .int Xreadings, .ref (aN 0), .ref (aT 0), .int Xtrail, .int XlatestFault])), ((aN 0), .inr (2, [.int Ndeeds, .int Npeople, .int Ncatches, .ref (aN 1), .ref (aN 2), .ref (aN 3), .ref (aN 4), .ref (aN 5)])), ((aN 1), .inl (cyI, 6, .inl (upd N_weightOf p1.toNatClampNeg p2)))]) [0, 2, 1] rfl
        have hD := hD.sub (ws' := [((aX 0), .inr (3, [.ref (aX 1), .ref aR, .ref (aX 2), .ref (aX 3), .int Xreadings, .ref (aN 0), .ref (aT 0), .int Xtrail, .int XlatestFault])), ((aN 0), .inr (2, [.int Ndeeds, .int Npeople, .int Ncatches, .ref (aN 1), .ref (aN 2), .ref (aN 3), .ref (aN 4), .ref (aN 5)])), ((aN 1), .inl (cyI, 6, .inl (upd N_weightOf p1.toNatClampNeg p2)))]) [0, 2, 1] (by decide) rfl
        exact hret () H locs _ ls hP hD hS dX3_weigh_48 rfl
      · replace h := it_f c5 h
        refine lv_bipush (v := (-2)) hx hb dX3_weigh_24 (by decide) ?_
        replace h := Option.some.inj h; subst h
        have hP := hP.sub (ws' := [((aX 0), .inr (3, [.ref (aX 1), .ref aR, .ref (aX 2), .ref (aX 3), .int Xreadings, .ref (aN 0), .ref (aT 0), .int Xtrail, .int XlatestFault])), ((aN 0), .inr (2, [.int Ndeeds, .int Npeople, .int Ncatches, .ref (aN 1), .ref (aN 2), .ref (aN 3), .ref (aN 4), .ref (aN 5)])), ((aN 1), .inl (cyI, 6, .inl N_weightOf))]) [0, 2, 1] rfl
        have hD := hD.sub (ws' := [((aX 0), .inr (3, [.ref (aX 1), .ref aR, .ref (aX 2), .ref (aX 3), .int Xreadings, .ref (aN 0), .ref (aT 0), .int Xtrail, .int XlatestFault])), ((aN 0), .inr (2, [.int Ndeeds, .int Npeople, .int Ncatches, .ref (aN 1), .ref (aN 2), .ref (aN 3), .ref (aN 4), .ref (aN 5)])), ((aN 1), .inl (cyI, 6, .inl N_weightOf))]) [0, 2, 1] (by decide) rfl
        exact hret () H locs _ ls hP hD hS dX3_weigh_26 rfl
  · replace h := it_t c3 h
    refine lv_iconst (v := (-1)) hx hb dX3_weigh_11 (by decide) ?_
    replace h := Option.some.inj h; subst h
    have hP := hP.sub (ws' := [((aX 0), .inr (3, [.ref (aX 1), .ref aR, .ref (aX 2), .ref (aX 3), .int Xreadings, .ref (aN 0), .ref (aT 0), .int Xtrail, .int XlatestFault])), ((aN 0), .inr (2, [.int Ndeeds, .int Npeople, .int Ncatches, .ref (aN 1), .ref (aN 2), .ref (aN 3), .ref (aN 4), .ref (aN 5)])), ((aN 1), .inl (cyI, 6, .inl N_weightOf))]) [0, 2, 1] rfl
    have hD := hD.sub (ws' := [((aX 0), .inr (3, [.ref (aX 1), .ref aR, .ref (aX 2), .ref (aX 3), .int Xreadings, .ref (aN 0), .ref (aT 0), .int Xtrail, .int XlatestFault])), ((aN 0), .inr (2, [.int Ndeeds, .int Npeople, .int Ncatches, .ref (aN 1), .ref (aN 2), .ref (aN 3), .ref (aN 4), .ref (aN 5)])), ((aN 1), .inl (cyI, 6, .inl N_weightOf))]) [0, 2, 1] (by decide) rfl
    exact hret () H locs _ ls hP hD hS dX3_weigh_12 rfl
set_option maxHeartbeats 4000000 in
set_option maxRecDepth 100000 in
theorem c_X3_storeys (l : Launch) (dC : Nat → ClassId) (dI : Nat → Nat → Nat) (cyI cyO : ClassId) (aX : Nat → Nat) (aN : Nat → Nat) (aR : Nat) (aT : Nat → Nat) (sz : Nat) (Xreadings : Int32) (Xtrail : Int32) (XlatestFault : Int32) (Ndeeds : Int32) (Npeople : Int32) (Ncatches : Int32) (N_weightOf : Nat → Int32) (N_kindOf : Nat → Int32) (p1 : Int32) (p2 : Int32) {o : Int32}  (h : f_X3_storeys Ndeeds Npeople N_weightOf N_kindOf p1 p2 = some o) : CtI l yX3_storeys wsX3_storeys { frames := 1, cells := 0, slots := 0, locals := 22 } (dC, dI) [(cyI, .int), (cyO, .object RX0)] [.ref (aX 0), .int p1, .int p2] sz [((aX 0), .inr (3, [.ref (aX 1), .ref aR, .ref (aX 2), .ref (aX 3), .int Xreadings, .ref (aN 0), .ref (aT 0), .int Xtrail, .int XlatestFault])), ((aN 0), .inr (2, [.int Ndeeds, .int Npeople, .int Ncatches, .ref (aN 1), .ref (aN 2), .ref (aN 3), .ref (aN 4), .ref (aN 5)])), ((aN 1), .inl (cyI, 6, .inl N_weightOf)), ((aN 2), .inl (cyI, 4, .inl N_kindOf))] (fun (_ : Unit) => [((aX 0), .inr (3, [.ref (aX 1), .ref aR, .ref (aX 2), .ref (aX 3), .int Xreadings, .ref (aN 0), .ref (aT 0), .int Xtrail, .int XlatestFault])), ((aN 0), .inr (2, [.int Ndeeds, .int Npeople, .int Ncatches, .ref (aN 1), .ref (aN 2), .ref (aN 3), .ref (aN 4), .ref (aN 5)])), ((aN 1), .inl (cyI, 6, .inl N_weightOf)), ((aN 2), .inl (cyI, 4, .inl N_kindOf))]) o := by
  refine CtI.of (cc := cX3_storeys) (maxL := 3) (by decide) rfl (Nat.le_of_ble_eq_true rfl) ?_
  intro p e s m args below meth c A Q H locs hx hb hml hown hts hA hK hP hD hS hret ls hl
  have hown : s.vm.findClass RX3 = some m.cls := hown
  have hl : lv_has ls 3 [(0, .ref (aX 0)), (1, .int p1), (2, .int p2)] := hl
  unfold f_X3_storeys at h
  have hiX3 : ∀ w ∈ u_ws RX3 TX3 9, w ∈ wsX3_storeys := by decide +kernel
  have hf35 := hts (.fieldLink RX3 35 "TowerTell" "now" "LTowerTell$Tower;") (by decide +kernel)
  refine lv_aload_n hx hb dX3_storeys_0 rfl (lv_at hl 0 rfl) ?_
  refine va_get (D := (dC, dI)) (ci := 3) (v := .ref (aN 0)) (C := RX3) (T := TX3) (N := 9) hx hb hts hiX3 hown hK hP 0 rfl rfl 5 (by decide) hf35 (fun _ h9 => h9) rfl dX3_storeys_1 ?_
  refine lv_iload_n hx hb dX3_storeys_4 rfl (lv_at hl 1 rfl) ?_
  obtain ⟨o1, hc2, h⟩ := ob h
  refine k_vi (As := [.int p1]) (rest := []) ⟨hx, hb, hml, hown, hts⟩ (c_X2_isPerson l dC dI cyI cyO aN H.size Ndeeds Npeople Ncatches p1 hc2) (cwV 1 hts gX3_storeys_X2_isPerson rfl rfl rfl (by decide +kernel) ⟨Nat.le_of_ble_eq_true rfl, Nat.le_of_ble_eq_true rfl⟩) hP hD hK hS hA [1] [0, 2, 3] rfl rfl (by decide) (by decide) (by decide) 2 0 rfl rfl rfl rfl hl.1 rfl (Nat.le_of_ble_eq_true rfl) dX3_storeys_5 ⟨Nat.zero_le _, Nat.zero_le _⟩ (fun _ H locs hP hD hS => ?_)
  have hP : va_P (dC, dI) vwCl [((aX 0), .inr (3, [.ref (aX 1), .ref aR, .ref (aX 2), .ref (aX 3), .int Xreadings, .ref (aN 0), .ref (aT 0), .int Xtrail, .int XlatestFault])), ((aN 1), .inl (cyI, 6, .inl N_weightOf)), ((aN 2), .inl (cyI, 4, .inl N_kindOf)), ((aN 0), .inr (2, [.int Ndeeds, .int Npeople, .int Ncatches, .ref (aN 1), .ref (aN 2), .ref (aN 3), .ref (aN 4), .ref (aN 5)]))] H := hP
  have hD : va_D A [((aX 0), .inr (3, [.ref (aX 1), .ref aR, .ref (aX 2), .ref (aX 3), .int Xreadings, .ref (aN 0), .ref (aT 0), .int Xtrail, .int XlatestFault])), ((aN 1), .inl (cyI, 6, .inl N_weightOf)), ((aN 2), .inl (cyI, 4, .inl N_kindOf)), ((aN 0), .inr (2, [.int Ndeeds, .int Npeople, .int Ncatches, .ref (aN 1), .ref (aN 2), .ref (aN 3), .ref (aN 4), .ref (aN 5)]))] := hD
  refine lv_if_eq (tgt := 34) hx hb dX3_storeys_8 (by decide) (fun c3 => ?_) (fun c3 => ?_)
  · replace h := it_t c3 h
    refine lv_iconst (v := (-1)) hx hb dX3_storeys_34 (by decide) ?_
    replace h := Option.some.inj h; subst h
    have hP := hP.sub (ws' := [((aX 0), .inr (3, [.ref (aX 1), .ref aR, .ref (aX 2), .ref (aX 3), .int Xreadings, .ref (aN 0), .ref (aT 0), .int Xtrail, .int XlatestFault])), ((aN 0), .inr (2, [.int Ndeeds, .int Npeople, .int Ncatches, .ref (aN 1), .ref (aN 2), .ref (aN 3), .ref (aN 4), .ref (aN 5)])), ((aN 1), .inl (cyI, 6, .inl N_weightOf)), ((aN 2), .inl (cyI, 4, .inl N_kindOf))]) [0, 3, 1, 2] rfl
    have hD := hD.sub (ws' := [((aX 0), .inr (3, [.ref (aX 1), .ref aR, .ref (aX 2), .ref (aX 3), .int Xreadings, .ref (aN 0), .ref (aT 0), .int Xtrail, .int XlatestFault])), ((aN 0), .inr (2, [.int Ndeeds, .int Npeople, .int Ncatches, .ref (aN 1), .ref (aN 2), .ref (aN 3), .ref (aN 4), .ref (aN 5)])), ((aN 1), .inl (cyI, 6, .inl N_weightOf)), ((aN 2), .inl (cyI, 4, .inl N_kindOf))]) [0, 3, 1, 2] (by decide) rfl
    exact hret () H locs _ ls hP hD hS dX3_storeys_35 rfl
  · replace h := it_f c3 h
    refine lv_aload_n hx hb dX3_storeys_11 rfl (lv_at hl 0 rfl) ?_
    refine va_get (D := (dC, dI)) (ci := 3) (v := .ref (aN 0)) (C := RX3) (T := TX3) (N := 9) hx hb hts hiX3 hown hK hP 0 rfl rfl 5 (by decide) hf35 (fun _ h9 => h9) rfl dX3_storeys_12 ?_
    refine lv_iload_n hx hb dX3_storeys_15 rfl (lv_at hl 2 rfl) ?_
    obtain ⟨o4, hc5, h⟩ := ob h
    refine k_vi (As := [.int p2]) (rest := []) ⟨hx, hb, hml, hown, hts⟩ (c_X2_isDeed l dC dI cyI cyO aN H.size Ndeeds Npeople Ncatches p2 hc5) (cwV 1 hts gX3_storeys_X2_isDeed rfl rfl rfl (by decide +kernel) ⟨Nat.le_of_ble_eq_true rfl, Nat.le_of_ble_eq_true rfl⟩) hP hD hK hS hA [3] [0, 1, 2] rfl rfl (by decide) (by decide) (by decide) 2 0 rfl rfl rfl rfl hl.1 rfl (Nat.le_of_ble_eq_true rfl) dX3_storeys_16 ⟨Nat.zero_le _, Nat.zero_le _⟩ (fun _ H locs hP hD hS => ?_)
    have hP : va_P (dC, dI) vwCl [((aX 0), .inr (3, [.ref (aX 1), .ref aR, .ref (aX 2), .ref (aX 3), .int Xreadings, .ref (aN 0), .ref (aT 0), .int Xtrail, .int XlatestFault])), ((aN 1), .inl (cyI, 6, .inl N_weightOf)), ((aN 2), .inl (cyI, 4, .inl N_kindOf)), ((aN 0), .inr (2, [.int Ndeeds, .int Npeople, .int Ncatches, .ref (aN 1), .ref (aN 2), .ref (aN 3), .ref (aN 4), .ref (aN 5)]))] H := hP
    have hD : va_D A [((aX 0), .inr (3, [.ref (aX 1), .ref aR, .ref (aX 2), .ref (aX 3), .int Xreadings, .ref (aN 0), .ref (aT 0), .int Xtrail, .int XlatestFault])), ((aN 1), .inl (cyI, 6, .inl N_weightOf)), ((aN 2), .inl (cyI, 4, .inl N_kindOf)), ((aN 0), .inr (2, [.int Ndeeds, .int Npeople, .int Ncatches, .ref (aN 1), .ref (aN 2), .ref (aN 3), .ref (aN 4), .ref (aN 5)]))] := hD
    refine lv_if_eq (tgt := 34) hx hb dX3_storeys_19 (by decide) (fun c6 => ?_) (fun c6 => ?_)
    · replace h := it_t c6 h
      refine lv_iconst (v := (-1)) hx hb dX3_storeys_34 (by decide) ?_
      replace h := Option.some.inj h; subst h
      have hP := hP.sub (ws' := [((aX 0), .inr (3, [.ref (aX 1), .ref aR, .ref (aX 2), .ref (aX 3), .int Xreadings, .ref (aN 0), .ref (aT 0), .int Xtrail, .int XlatestFault])), ((aN 0), .inr (2, [.int Ndeeds, .int Npeople, .int Ncatches, .ref (aN 1), .ref (aN 2), .ref (aN 3), .ref (aN 4), .ref (aN 5)])), ((aN 1), .inl (cyI, 6, .inl N_weightOf)), ((aN 2), .inl (cyI, 4, .inl N_kindOf))]) [0, 3, 1, 2] rfl
      have hD := hD.sub (ws' := [((aX 0), .inr (3, [.ref (aX 1), .ref aR, .ref (aX 2), .ref (aX 3), .int Xreadings, .ref (aN 0), .ref (aT 0), .int Xtrail, .int XlatestFault])), ((aN 0), .inr (2, [.int Ndeeds, .int Npeople, .int Ncatches, .ref (aN 1), .ref (aN 2), .ref (aN 3), .ref (aN 4), .ref (aN 5)])), ((aN 1), .inl (cyI, 6, .inl N_weightOf)), ((aN 2), .inl (cyI, 4, .inl N_kindOf))]) [0, 3, 1, 2] (by decide) rfl
      exact hret () H locs _ ls hP hD hS dX3_storeys_35 rfl
    · replace h := it_f c6 h
      refine lv_aload_n hx hb dX3_storeys_22 rfl (lv_at hl 0 rfl) ?_
      refine va_get (D := (dC, dI)) (ci := 3) (v := .ref (aN 0)) (C := RX3) (T := TX3) (N := 9) hx hb hts hiX3 hown hK hP 0 rfl rfl 5 (by decide) hf35 (fun _ h9 => h9) rfl dX3_storeys_23 ?_
      refine lv_iload_n hx hb dX3_storeys_26 rfl (lv_at hl 1 rfl) ?_
      refine lv_iload_n hx hb dX3_storeys_27 rfl (lv_at hl 2 rfl) ?_
      obtain ⟨o7, hc8, h⟩ := ob h
      refine k_vi (As := [.int p1, .int p2]) (rest := []) ⟨hx, hb, hml, hown, hts⟩ (c_X2_rise l dC dI cyI cyO aN H.size Ndeeds Npeople Ncatches N_weightOf N_kindOf p1 p2 hc8) (cwV 2 hts gX3_storeys_X2_rise rfl rfl rfl (by decide +kernel) ⟨Nat.le_of_ble_eq_true rfl, Nat.le_of_ble_eq_true rfl⟩) hP hD hK hS hA [3, 1, 2] [0] rfl rfl (by decide) (by decide) (by decide) 2 0 rfl rfl rfl rfl hl.1 rfl (Nat.le_of_ble_eq_true rfl) dX3_storeys_28 ⟨Nat.zero_le _, Nat.zero_le _⟩ (fun _ H locs hP hD hS => ?_)
      have hP : va_P (dC, dI) vwCl [((aX 0), .inr (3, [.ref (aX 1), .ref aR, .ref (aX 2), .ref (aX 3), .int Xreadings, .ref (aN 0), .ref (aT 0), .int Xtrail, .int XlatestFault])), ((aN 0), .inr (2, [.int Ndeeds, .int Npeople, .int Ncatches, .ref (aN 1), .ref (aN 2), .ref (aN 3), .ref (aN 4), .ref (aN 5)])), ((aN 1), .inl (cyI, 6, .inl N_weightOf)), ((aN 2), .inl (cyI, 4, .inl N_kindOf))] H := hP
      have hD : va_D A [((aX 0), .inr (3, [.ref (aX 1), .ref aR, .ref (aX 2), .ref (aX 3), .int Xreadings, .ref (aN 0), .ref (aT 0), .int Xtrail, .int XlatestFault])), ((aN 0), .inr (2, [.int Ndeeds, .int Npeople, .int Ncatches, .ref (aN 1), .ref (aN 2), .ref (aN 3), .ref (aN 4), .ref (aN 5)])), ((aN 1), .inl (cyI, 6, .inl N_weightOf)), ((aN 2), .inl (cyI, 4, .inl N_kindOf))] := hD
      refine lv_goto (tgt := 35) hx hb dX3_storeys_31 (by decide) ?_
      replace h := Option.some.inj h; subst h
      exact hret () H locs _ ls hP hD hS dX3_storeys_35 rfl
set_option maxHeartbeats 4000000 in
set_option maxRecDepth 100000 in
theorem c_X3_say (l : Launch) (dC : Nat → ClassId) (dI : Nat → Nat → Nat) (cyI cyO : ClassId) (aX : Nat → Nat) (aN : Nat → Nat) (aR : Nat) (aT : Nat → Nat) (sz : Nat) (Xreadings : Int32) (Xtrail : Int32) (XlatestFault : Int32) (Ndeeds : Int32) (Npeople : Int32) (Ncatches : Int32) (N_weightOf : Nat → Int32) (N_kindOf : Nat → Int32) (N_doneBy : Nat → Int32) (N_knownTo : Nat → Int32) (N_toldBy : Nat → Int32) (p1 : Int32) (p2 : Int32) {o : Int32 × Int32 × (Nat → Int32)}  (h : f_X3_say Ndeeds Npeople Ncatches N_weightOf N_kindOf N_doneBy N_knownTo N_toldBy p1 p2 = some o) : CtI l yX3_say wsX3_say { frames := 5, cells := 0, slots := 0, locals := 112 } (dC, dI) [(cyI, .int), (cyO, .object RX0)] [.ref (aX 0), .int p1, .int p2] sz [((aX 0), .inr (3, [.ref (aX 1), .ref aR, .ref (aX 2), .ref (aX 3), .int Xreadings, .ref (aN 0), .ref (aT 0), .int Xtrail, .int XlatestFault])), ((aN 0), .inr (2, [.int Ndeeds, .int Npeople, .int Ncatches, .ref (aN 1), .ref (aN 2), .ref (aN 3), .ref (aN 4), .ref (aN 5)])), ((aN 1), .inl (cyI, 6, .inl N_weightOf)), ((aN 2), .inl (cyI, 4, .inl N_kindOf)), ((aN 3), .inl (cyI, 4, .inl N_doneBy)), ((aN 4), .inl (cyI, 4, .inl N_knownTo)), ((aN 5), .inl (cyI, 4, .inl N_toldBy))] (fun (_ : Unit) => [((aX 0), .inr (3, [.ref (aX 1), .ref aR, .ref (aX 2), .ref (aX 3), .int Xreadings, .ref (aN 0), .ref (aT 0), .int Xtrail, .int XlatestFault])), ((aN 0), .inr (2, [.int Ndeeds, .int Npeople, .int o.2.1, .ref (aN 1), .ref (aN 2), .ref (aN 3), .ref (aN 4), .ref (aN 5)])), ((aN 1), .inl (cyI, 6, .inl N_weightOf)), ((aN 2), .inl (cyI, 4, .inl N_kindOf)), ((aN 3), .inl (cyI, 4, .inl N_doneBy)), ((aN 4), .inl (cyI, 4, .inl N_knownTo)), ((aN 5), .inl (cyI, 4, .inl o.2.2))]) o.1 := by
  refine CtI.of (cc := cX3_say) (maxL := 3) (by decide) rfl (Nat.le_of_ble_eq_true rfl) ?_
  intro p e s m args below meth c A Q H locs hx hb hml hown hts hA hK hP hD hS hret ls hl
  have hown : s.vm.findClass RX3 = some m.cls := hown
  have hl : lv_has ls 3 [(0, .ref (aX 0)), (1, .int p1), (2, .int p2)] := hl
  unfold f_X3_say at h
  have hiX3 : ∀ w ∈ u_ws RX3 TX3 9, w ∈ wsX3_say := by decide +kernel
  have hf35 := hts (.fieldLink RX3 35 "TowerTell" "now" "LTowerTell$Tower;") (by decide +kernel)
  refine lv_aload_n hx hb dX3_say_0 rfl (lv_at hl 0 rfl) ?_
  refine va_get (D := (dC, dI)) (ci := 3) (v := .ref (aN 0)) (C := RX3) (T := TX3) (N := 9) hx hb hts hiX3 hown hK hP 0 rfl rfl 5 (by decide) hf35 (fun _ h9 => h9) rfl dX3_say_1 ?_
  refine lv_iload_n hx hb dX3_say_4 rfl (lv_at hl 1 rfl) ?_
  obtain ⟨o1, hc2, h⟩ := ob h
  refine k_vi (As := [.int p1]) (rest := []) ⟨hx, hb, hml, hown, hts⟩ (c_X2_isPerson l dC dI cyI cyO aN H.size Ndeeds Npeople Ncatches p1 hc2) (cwV 1 hts gX3_say_X2_isPerson rfl rfl rfl (by decide +kernel) ⟨Nat.le_of_ble_eq_true rfl, Nat.le_of_ble_eq_true rfl⟩) hP hD hK hS hA [1] [0, 2, 3, 4, 5, 6] rfl rfl (by decide) (by decide) (by decide) 2 0 rfl rfl rfl rfl hl.1 rfl (Nat.le_of_ble_eq_true rfl) dX3_say_5 ⟨Nat.zero_le _, Nat.zero_le _⟩ (fun _ H locs hP hD hS => ?_)
  have hP : va_P (dC, dI) vwCl [((aX 0), .inr (3, [.ref (aX 1), .ref aR, .ref (aX 2), .ref (aX 3), .int Xreadings, .ref (aN 0), .ref (aT 0), .int Xtrail, .int XlatestFault])), ((aN 1), .inl (cyI, 6, .inl N_weightOf)), ((aN 2), .inl (cyI, 4, .inl N_kindOf)), ((aN 3), .inl (cyI, 4, .inl N_doneBy)), ((aN 4), .inl (cyI, 4, .inl N_knownTo)), ((aN 5), .inl (cyI, 4, .inl N_toldBy)), ((aN 0), .inr (2, [.int Ndeeds, .int Npeople, .int Ncatches, .ref (aN 1), .ref (aN 2), .ref (aN 3), .ref (aN 4), .ref (aN 5)]))] H := hP
  have hD : va_D A [((aX 0), .inr (3, [.ref (aX 1), .ref aR, .ref (aX 2), .ref (aX 3), .int Xreadings, .ref (aN 0), .ref (aT 0), .int Xtrail, .int XlatestFault])), ((aN 1), .inl (cyI, 6, .inl N_weightOf)), ((aN 2), .inl (cyI, 4, .inl N_kindOf)), ((aN 3), .inl (cyI, 4, .inl N_doneBy)), ((aN 4), .inl (cyI, 4, .inl N_knownTo)), ((aN 5), .inl (cyI, 4, .inl N_toldBy)), ((aN 0), .inr (2, [.int Ndeeds, .int Npeople, .int Ncatches, .ref (aN 1), .ref (aN 2), .ref (aN 3), .ref (aN 4), .ref (aN 5)]))] := hD
  refine lv_if_eq (tgt := 22) hx hb dX3_say_8 (by decide) (fun c3 => ?_) (fun c3 => ?_)
  · replace h := it_t c3 h
    refine lv_iconst (v := (-1)) hx hb dX3_say_22 (by decide) ?_
    replace h := Option.some.inj h; subst h
    have hP := hP.sub (ws' := [((aX 0), .inr (3, [.ref (aX 1), .ref aR, .ref (aX 2), .ref (aX 3), .int Xreadings, .ref (aN 0), .ref (aT 0), .int Xtrail, .int XlatestFault])), ((aN 0), .inr (2, [.int Ndeeds, .int Npeople, .int Ncatches, .ref (aN 1), .ref (aN 2), .ref (aN 3), .ref (aN 4), .ref (aN 5)])), ((aN 1), .inl (cyI, 6, .inl N_weightOf)), ((aN 2), .inl (cyI, 4, .inl N_kindOf)), ((aN 3), .inl (cyI, 4, .inl N_doneBy)), ((aN 4), .inl (cyI, 4, .inl N_knownTo)), ((aN 5), .inl (cyI, 4, .inl N_toldBy))]) [0, 6, 1, 2, 3, 4, 5] rfl
    have hD := hD.sub (ws' := [((aX 0), .inr (3, [.ref (aX 1), .ref aR, .ref (aX 2), .ref (aX 3), .int Xreadings, .ref (aN 0), .ref (aT 0), .int Xtrail, .int XlatestFault])), ((aN 0), .inr (2, [.int Ndeeds, .int Npeople, .int Ncatches, .ref (aN 1), .ref (aN 2), .ref (aN 3), .ref (aN 4), .ref (aN 5)])), ((aN 1), .inl (cyI, 6, .inl N_weightOf)), ((aN 2), .inl (cyI, 4, .inl N_kindOf)), ((aN 3), .inl (cyI, 4, .inl N_doneBy)), ((aN 4), .inl (cyI, 4, .inl N_knownTo)), ((aN 5), .inl (cyI, 4, .inl N_toldBy))]) [0, 6, 1, 2, 3, 4, 5] (by decide) rfl
    exact hret () H locs _ ls hP hD hS dX3_say_23 rfl
  · replace h := it_f c3 h
    refine lv_aload_n hx hb dX3_say_11 rfl (lv_at hl 0 rfl) ?_
    refine va_get (D := (dC, dI)) (ci := 3) (v := .ref (aN 0)) (C := RX3) (T := TX3) (N := 9) hx hb hts hiX3 hown hK hP 0 rfl rfl 5 (by decide) hf35 (fun _ h9 => h9) rfl dX3_say_12 ?_
    refine lv_iload_n hx hb dX3_say_15 rfl (lv_at hl 2 rfl) ?_
    obtain ⟨o4, hc5, h⟩ := ob h
    refine k_vi (As := [.int p2]) (rest := []) ⟨hx, hb, hml, hown, hts⟩ (c_X2_isDeed l dC dI cyI cyO aN H.size Ndeeds Npeople Ncatches p2 hc5) (cwV 1 hts gX3_say_X2_isDeed rfl rfl rfl (by decide +kernel) ⟨Nat.le_of_ble_eq_true rfl, Nat.le_of_ble_eq_true rfl⟩) hP hD hK hS hA [6] [0, 1, 2, 3, 4, 5] rfl rfl (by decide) (by decide) (by decide) 2 0 rfl rfl rfl rfl hl.1 rfl (Nat.le_of_ble_eq_true rfl) dX3_say_16 ⟨Nat.zero_le _, Nat.zero_le _⟩ (fun _ H locs hP hD hS => ?_)
    have hP : va_P (dC, dI) vwCl [((aX 0), .inr (3, [.ref (aX 1), .ref aR, .ref (aX 2), .ref (aX 3), .int Xreadings, .ref (aN 0), .ref (aT 0), .int Xtrail, .int XlatestFault])), ((aN 1), .inl (cyI, 6, .inl N_weightOf)), ((aN 2), .inl (cyI, 4, .inl N_kindOf)), ((aN 3), .inl (cyI, 4, .inl N_doneBy)), ((aN 4), .inl (cyI, 4, .inl N_knownTo)), ((aN 5), .inl (cyI, 4, .inl N_toldBy)), ((aN 0), .inr (2, [.int Ndeeds, .int Npeople, .int Ncatches, .ref (aN 1), .ref (aN 2), .ref (aN 3), .ref (aN 4), .ref (aN 5)]))] H := hP
    have hD : va_D A [((aX 0), .inr (3, [.ref (aX 1), .ref aR, .ref (aX 2), .ref (aX 3), .int Xreadings, .ref (aN 0), .ref (aT 0), .int Xtrail, .int XlatestFault])), ((aN 1), .inl (cyI, 6, .inl N_weightOf)), ((aN 2), .inl (cyI, 4, .inl N_kindOf)), ((aN 3), .inl (cyI, 4, .inl N_doneBy)), ((aN 4), .inl (cyI, 4, .inl N_knownTo)), ((aN 5), .inl (cyI, 4, .inl N_toldBy)), ((aN 0), .inr (2, [.int Ndeeds, .int Npeople, .int Ncatches, .ref (aN 1), .ref (aN 2), .ref (aN 3), .ref (aN 4), .ref (aN 5)]))] := hD
    refine lv_if_ne (tgt := 24) hx hb dX3_say_19 (by decide) (fun c6 => ?_) (fun c6 => ?_)
    · replace h := it_f c6 h
      refine lv_aload_n hx hb dX3_say_24 rfl (lv_at hl 0 rfl) ?_
      refine va_get (D := (dC, dI)) (ci := 3) (v := .ref (aN 0)) (C := RX3) (T := TX3) (N := 9) hx hb hts hiX3 hown hK hP 0 rfl rfl 5 (by decide) hf35 (fun _ h9 => h9) rfl dX3_say_25 ?_
      refine lv_iload_n hx hb dX3_say_28 rfl (lv_at hl 1 rfl) ?_
      refine lv_iload_n hx hb dX3_say_29 rfl (lv_at hl 2 rfl) ?_
      obtain ⟨o7, hc8, h⟩ := ob h
      refine k_vi (As := [.int p1, .int p2]) (rest := []) ⟨hx, hb, hml, hown, hts⟩ (c_X2_hasTold l dC dI cyI cyO aN H.size Ndeeds Npeople Ncatches N_toldBy p1 p2 hc8) (cwV 2 hts gX3_say_X2_hasTold rfl rfl rfl (by decide +kernel) ⟨Nat.le_of_ble_eq_true rfl, Nat.le_of_ble_eq_true rfl⟩) hP hD hK hS hA [6, 5] [0, 1, 2, 3, 4] rfl rfl (by decide) (by decide) (by decide) 2 0 rfl rfl rfl rfl hl.1 rfl (Nat.le_of_ble_eq_true rfl) dX3_say_30 ⟨Nat.zero_le _, Nat.zero_le _⟩ (fun _ H locs hP hD hS => ?_)
      have hP : va_P (dC, dI) vwCl [((aX 0), .inr (3, [.ref (aX 1), .ref aR, .ref (aX 2), .ref (aX 3), .int Xreadings, .ref (aN 0), .ref (aT 0), .int Xtrail, .int XlatestFault])), ((aN 1), .inl (cyI, 6, .inl N_weightOf)), ((aN 2), .inl (cyI, 4, .inl N_kindOf)), ((aN 3), .inl (cyI, 4, .inl N_doneBy)), ((aN 4), .inl (cyI, 4, .inl N_knownTo)), ((aN 0), .inr (2, [.int Ndeeds, .int Npeople, .int Ncatches, .ref (aN 1), .ref (aN 2), .ref (aN 3), .ref (aN 4), .ref (aN 5)])), ((aN 5), .inl (cyI, 4, .inl N_toldBy))] H := hP
      have hD : va_D A [((aX 0), .inr (3, [.ref (aX 1), .ref aR, .ref (aX 2), .ref (aX 3), .int Xreadings, .ref (aN 0), .ref (aT 0), .int Xtrail, .int XlatestFault])), ((aN 1), .inl (cyI, 6, .inl N_weightOf)), ((aN 2), .inl (cyI, 4, .inl N_kindOf)), ((aN 3), .inl (cyI, 4, .inl N_doneBy)), ((aN 4), .inl (cyI, 4, .inl N_knownTo)), ((aN 0), .inr (2, [.int Ndeeds, .int Npeople, .int Ncatches, .ref (aN 1), .ref (aN 2), .ref (aN 3), .ref (aN 4), .ref (aN 5)])), ((aN 5), .inl (cyI, 4, .inl N_toldBy))] := hD
      refine lv_if_eq (tgt := 39) hx hb dX3_say_33 (by decide) (fun c9 => ?_) (fun c9 => ?_)
      · replace h := it_t c9 h
        refine lv_aload_n hx hb dX3_say_39 rfl (lv_at hl 0 rfl) ?_
        refine va_get (D := (dC, dI)) (ci := 3) (v := .ref (aN 0)) (C := RX3) (T := TX3) (N := 9) hx hb hts hiX3 hown hK hP 0 rfl rfl 5 (by decide) hf35 (fun _ h9 => h9) rfl dX3_say_40 ?_
        refine lv_iload_n hx hb dX3_say_43 rfl (lv_at hl 1 rfl) ?_
        refine lv_iload_n hx hb dX3_say_44 rfl (lv_at hl 2 rfl) ?_
        obtain ⟨o10, hc11, h⟩ := ob h
        refine k_vv (As := [.int p1, .int p2]) (rest := []) ⟨hx, hb, hml, hown, hts⟩ (c_X2_hear l dC dI cyI cyO aN H.size Ndeeds Npeople Ncatches N_weightOf N_kindOf N_doneBy N_knownTo N_toldBy p1 p2 hc11) (cwV 2 hts gX3_say_X2_hear rfl rfl rfl (by decide +kernel) ⟨Nat.le_of_ble_eq_true rfl, Nat.le_of_ble_eq_true rfl⟩) hP hD hK hS hA [5, 1, 2, 3, 4, 6] [0] rfl rfl (by decide) (by decide) (by decide) 2 0 rfl rfl rfl rfl hl.1 rfl (Nat.le_of_ble_eq_true rfl) dX3_say_45 ⟨Nat.zero_le _, Nat.zero_le _⟩ (fun _ H locs hP hD hS => ?_)
        have hP : va_P (dC, dI) vwCl [((aX 0), .inr (3, [.ref (aX 1), .ref aR, .ref (aX 2), .ref (aX 3), .int Xreadings, .ref (aN 0), .ref (aT 0), .int Xtrail, .int XlatestFault])), ((aN 0), .inr (2, [.int Ndeeds, .int Npeople, .int o10.1, .ref (aN 1), .ref (aN 2), .ref (aN 3), .ref (aN 4), .ref (aN 5)])), ((aN 1), .inl (cyI, 6, .inl N_weightOf)), ((aN 2), .inl (cyI, 4, .inl N_kindOf)), ((aN 3), .inl (cyI, 4, .inl N_doneBy)), ((aN 4), .inl (cyI, 4, .inl N_knownTo)), ((aN 5), .inl (cyI, 4, .inl o10.2))] H := hP
        have hD : va_D A [((aX 0), .inr (3, [.ref (aX 1), .ref aR, .ref (aX 2), .ref (aX 3), .int Xreadings, .ref (aN 0), .ref (aT 0), .int Xtrail, .int XlatestFault])), ((aN 0), .inr (2, [.int Ndeeds, .int Npeople, .int o10.1, .ref (aN 1), .ref (aN 2), .ref (aN 3), .ref (aN 4), .ref (aN 5)])), ((aN 1), .inl (cyI, 6, .inl N_weightOf)), ((aN 2), .inl (cyI, 4, .inl N_kindOf)), ((aN 3), .inl (cyI, 4, .inl N_doneBy)), ((aN 4), .inl (cyI, 4, .inl N_knownTo)), ((aN 5), .inl (cyI, 4, .inl o10.2))] := hD
        refine lv_aload_n hx hb dX3_say_48 rfl (lv_at hl 0 rfl) ?_
        refine va_get (D := (dC, dI)) (ci := 3) (v := .ref (aN 0)) (C := RX3) (T := TX3) (N := 9) hx hb hts hiX3 hown hK hP 0 rfl rfl 5 (by decide) hf35 (fun _ h9 => h9) rfl dX3_say_49 ?_
        refine lv_iload_n hx hb dX3_say_52 rfl (lv_at hl 1 rfl) ?_
        obtain ⟨o12, hc13, h⟩ := ob h
        refine k_vi (As := [.int p1]) (rest := []) ⟨hx, hb, hml, hown, hts⟩ (c_X2_floorOf l dC dI cyI cyO aN H.size Ndeeds Npeople o10.1 N_weightOf N_kindOf o10.2 p1 hc13) (cwV 1 hts gX3_say_X2_floorOf rfl rfl rfl (by decide +kernel) ⟨Nat.le_of_ble_eq_true rfl, Nat.le_of_ble_eq_true rfl⟩) hP hD hK hS hA [1, 2, 3, 6] [0, 4, 5] rfl rfl (by decide) (by decide) (by decide) 2 0 rfl rfl rfl rfl hl.1 rfl (Nat.le_of_ble_eq_true rfl) dX3_say_53 ⟨Nat.zero_le _, Nat.zero_le _⟩ (fun _ H locs hP hD hS => ?_)
        have hP : va_P (dC, dI) vwCl [((aX 0), .inr (3, [.ref (aX 1), .ref aR, .ref (aX 2), .ref (aX 3), .int Xreadings, .ref (aN 0), .ref (aT 0), .int Xtrail, .int XlatestFault])), ((aN 3), .inl (cyI, 4, .inl N_doneBy)), ((aN 4), .inl (cyI, 4, .inl N_knownTo)), ((aN 0), .inr (2, [.int Ndeeds, .int Npeople, .int o10.1, .ref (aN 1), .ref (aN 2), .ref (aN 3), .ref (aN 4), .ref (aN 5)])), ((aN 1), .inl (cyI, 6, .inl N_weightOf)), ((aN 2), .inl (cyI, 4, .inl N_kindOf)), ((aN 5), .inl (cyI, 4, .inl o10.2))] H := hP
        have hD : va_D A [((aX 0), .inr (3, [.ref (aX 1), .ref aR, .ref (aX 2), .ref (aX 3), .int Xreadings, .ref (aN 0), .ref (aT 0), .int Xtrail, .int XlatestFault])), ((aN 3), .inl (cyI, 4, .inl N_doneBy)), ((aN 4), .inl (cyI, 4, .inl N_knownTo)), ((aN 0), .inr (2, [.int Ndeeds, .int Npeople, .int o10.1, .ref (aN 1), .ref (aN 2), .ref (aN 3), .ref (aN 4), .ref (aN 5)])), ((aN 1), .inl (cyI, 6, .inl N_weightOf)), ((aN 2), .inl (cyI, 4, .inl N_kindOf)), ((aN 5), .inl (cyI, 4, .inl o10.2))] := hD
        replace h := Option.some.inj h; subst h
        have hP := hP.sub (ws' := [((aX 0), .inr (3, [.ref (aX 1), .ref aR, .ref (aX 2), .ref (aX 3), .int Xreadings, .ref (aN 0), .ref (aT 0), .int Xtrail, .int XlatestFault])), ((aN 0), .inr (2, [.int Ndeeds, .int Npeople, .int o10.1, .ref (aN 1), .ref (aN 2), .ref (aN 3), .ref (aN 4), .ref (aN 5)])), ((aN 1), .inl (cyI, 6, .inl N_weightOf)), ((aN 2), .inl (cyI, 4, .inl N_kindOf)), ((aN 3), .inl (cyI, 4, .inl N_doneBy)), ((aN 4), .inl (cyI, 4, .inl N_knownTo)), ((aN 5), .inl (cyI, 4, .inl o10.2))]) [0, 3, 4, 5, 1, 2, 6] rfl
        have hD := hD.sub (ws' := [((aX 0), .inr (3, [.ref (aX 1), .ref aR, .ref (aX 2), .ref (aX 3), .int Xreadings, .ref (aN 0), .ref (aT 0), .int Xtrail, .int XlatestFault])), ((aN 0), .inr (2, [.int Ndeeds, .int Npeople, .int o10.1, .ref (aN 1), .ref (aN 2), .ref (aN 3), .ref (aN 4), .ref (aN 5)])), ((aN 1), .inl (cyI, 6, .inl N_weightOf)), ((aN 2), .inl (cyI, 4, .inl N_kindOf)), ((aN 3), .inl (cyI, 4, .inl N_doneBy)), ((aN 4), .inl (cyI, 4, .inl N_knownTo)), ((aN 5), .inl (cyI, 4, .inl o10.2))]) [0, 3, 4, 5, 1, 2, 6] (by decide) rfl
        exact hret () H locs _ ls hP hD hS dX3_say_56 rfl
      · replace h := it_f c9 h
        refine lv_bipush (v := (-3)) hx hb dX3_say_36 (by decide) ?_
        replace h := Option.some.inj h; subst h
        have hP := hP.sub (ws' := [((aX 0), .inr (3, [.ref (aX 1), .ref aR, .ref (aX 2), .ref (aX 3), .int Xreadings, .ref (aN 0), .ref (aT 0), .int Xtrail, .int XlatestFault])), ((aN 0), .inr (2, [.int Ndeeds, .int Npeople, .int Ncatches, .ref (aN 1), .ref (aN 2), .ref (aN 3), .ref (aN 4), .ref (aN 5)])), ((aN 1), .inl (cyI, 6, .inl N_weightOf)), ((aN 2), .inl (cyI, 4, .inl N_kindOf)), ((aN 3), .inl (cyI, 4, .inl N_doneBy)), ((aN 4), .inl (cyI, 4, .inl N_knownTo)), ((aN 5), .inl (cyI, 4, .inl N_toldBy))]) [0, 5, 1, 2, 3, 4, 6] rfl
        have hD := hD.sub (ws' := [((aX 0), .inr (3, [.ref (aX 1), .ref aR, .ref (aX 2), .ref (aX 3), .int Xreadings, .ref (aN 0), .ref (aT 0), .int Xtrail, .int XlatestFault])), ((aN 0), .inr (2, [.int Ndeeds, .int Npeople, .int Ncatches, .ref (aN 1), .ref (aN 2), .ref (aN 3), .ref (aN 4), .ref (aN 5)])), ((aN 1), .inl (cyI, 6, .inl N_weightOf)), ((aN 2), .inl (cyI, 4, .inl N_kindOf)), ((aN 3), .inl (cyI, 4, .inl N_doneBy)), ((aN 4), .inl (cyI, 4, .inl N_knownTo)), ((aN 5), .inl (cyI, 4, .inl N_toldBy))]) [0, 5, 1, 2, 3, 4, 6] (by decide) rfl
        exact hret () H locs _ ls hP hD hS dX3_say_38 rfl
    · replace h := it_t c6 h
      refine lv_iconst (v := (-1)) hx hb dX3_say_22 (by decide) ?_
      replace h := Option.some.inj h; subst h
      have hP := hP.sub (ws' := [((aX 0), .inr (3, [.ref (aX 1), .ref aR, .ref (aX 2), .ref (aX 3), .int Xreadings, .ref (aN 0), .ref (aT 0), .int Xtrail, .int XlatestFault])), ((aN 0), .inr (2, [.int Ndeeds, .int Npeople, .int Ncatches, .ref (aN 1), .ref (aN 2), .ref (aN 3), .ref (aN 4), .ref (aN 5)])), ((aN 1), .inl (cyI, 6, .inl N_weightOf)), ((aN 2), .inl (cyI, 4, .inl N_kindOf)), ((aN 3), .inl (cyI, 4, .inl N_doneBy)), ((aN 4), .inl (cyI, 4, .inl N_knownTo)), ((aN 5), .inl (cyI, 4, .inl N_toldBy))]) [0, 6, 1, 2, 3, 4, 5] rfl
      have hD := hD.sub (ws' := [((aX 0), .inr (3, [.ref (aX 1), .ref aR, .ref (aX 2), .ref (aX 3), .int Xreadings, .ref (aN 0), .ref (aT 0), .int Xtrail, .int XlatestFault])), ((aN 0), .inr (2, [.int Ndeeds, .int Npeople, .int Ncatches, .ref (aN 1), .ref (aN 2), .ref (aN 3), .ref (aN 4), .ref (aN 5)])), ((aN 1), .inl (cyI, 6, .inl N_weightOf)), ((aN 2), .inl (cyI, 4, .inl N_kindOf)), ((aN 3), .inl (cyI, 4, .inl N_doneBy)), ((aN 4), .inl (cyI, 4, .inl N_knownTo)), ((aN 5), .inl (cyI, 4, .inl N_toldBy))]) [0, 6, 1, 2, 3, 4, 5] (by decide) rfl
      exact hret () H locs _ ls hP hD hS dX3_say_23 rfl
set_option maxHeartbeats 4000000 in
set_option maxRecDepth 100000 in
theorem c_X3_hush (l : Launch) (dC : Nat → ClassId) (dI : Nat → Nat → Nat) (cyI cyO : ClassId) (aX : Nat → Nat) (aN : Nat → Nat) (aR : Nat) (aT : Nat → Nat) (sz : Nat) (Xreadings : Int32) (Xtrail : Int32) (XlatestFault : Int32) (Ndeeds : Int32) (Npeople : Int32) (Ncatches : Int32) (N_weightOf : Nat → Int32) (N_kindOf : Nat → Int32) (N_toldBy : Nat → Int32) (p1 : Int32) {o : Int32 × (Nat → Int32)}  (h : f_X3_hush Ndeeds Npeople N_weightOf N_kindOf N_toldBy p1 = some o) : CtI l yX3_hush wsX3_hush { frames := 3, cells := 0, slots := 0, locals := 67 } (dC, dI) [(cyI, .int), (cyO, .object RX0)] [.ref (aX 0), .int p1] sz [((aX 0), .inr (3, [.ref (aX 1), .ref aR, .ref (aX 2), .ref (aX 3), .int Xreadings, .ref (aN 0), .ref (aT 0), .int Xtrail, .int XlatestFault])), ((aN 0), .inr (2, [.int Ndeeds, .int Npeople, .int Ncatches, .ref (aN 1), .ref (aN 2), .ref (aN 3), .ref (aN 4), .ref (aN 5)])), ((aN 1), .inl (cyI, 6, .inl N_weightOf)), ((aN 2), .inl (cyI, 4, .inl N_kindOf)), ((aN 5), .inl (cyI, 4, .inl N_toldBy))] (fun (_ : Unit) => [((aX 0), .inr (3, [.ref (aX 1), .ref aR, .ref (aX 2), .ref (aX 3), .int Xreadings, .ref (aN 0), .ref (aT 0), .int Xtrail, .int XlatestFault])), ((aN 0), .inr (2, [.int Ndeeds, .int Npeople, .int Ncatches, .ref (aN 1), .ref (aN 2), .ref (aN 3), .ref (aN 4), .ref (aN 5)])), ((aN 1), .inl (cyI, 6, .inl N_weightOf)), ((aN 2), .inl (cyI, 4, .inl N_kindOf)), ((aN 5), .inl (cyI, 4, .inl o.2))]) o.1 := by
  refine CtI.of (cc := cX3_hush) (maxL := 3) (by decide) rfl (Nat.le_of_ble_eq_true rfl) ?_
  intro p e s m args below meth c A Q H locs hx hb hml hown hts hA hK hP hD hS hret ls hl
  have hown : s.vm.findClass RX3 = some m.cls := hown
  have hl : lv_has ls 3 [(0, .ref (aX 0)), (1, .int p1)] := hl
  unfold f_X3_hush at h
  have hiX2 : ∀ w ∈ u_ws RX2 TX2 8, w ∈ wsX3_hush := by decide +kernel
  have hiX3 : ∀ w ∈ u_ws RX3 TX3 9, w ∈ wsX3_hush := by decide +kernel
  have hf35 := hts (.fieldLink RX3 35 "TowerTell" "now" "LTowerTell$Tower;") (by decide +kernel)
  have hf83 := hts (.fieldLink RX3 83 "TowerTell$Tower" "toldBy" "[I") (by decide +kernel)
  refine lv_aload_n hx hb dX3_hush_0 rfl (lv_at hl 0 rfl) ?_
  refine va_get (D := (dC, dI)) (ci := 3) (v := .ref (aN 0)) (C := RX3) (T := TX3) (N := 9) hx hb hts hiX3 hown hK hP 0 rfl rfl 5 (by decide) hf35 (fun _ h9 => h9) rfl dX3_hush_1 ?_
  refine lv_iload_n hx hb dX3_hush_4 rfl (lv_at hl 1 rfl) ?_
  obtain ⟨o1, hc2, h⟩ := ob h
  refine k_vi (As := [.int p1]) (rest := []) ⟨hx, hb, hml, hown, hts⟩ (c_X2_isPerson l dC dI cyI cyO aN H.size Ndeeds Npeople Ncatches p1 hc2) (cwV 1 hts gX3_hush_X2_isPerson rfl rfl rfl (by decide +kernel) ⟨Nat.le_of_ble_eq_true rfl, Nat.le_of_ble_eq_true rfl⟩) hP hD hK hS hA [1] [0, 2, 3, 4] rfl rfl (by decide) (by decide) (by decide) 2 0 rfl rfl rfl rfl hl.1 rfl (Nat.le_of_ble_eq_true rfl) dX3_hush_5 ⟨Nat.zero_le _, Nat.zero_le _⟩ (fun _ H locs hP hD hS => ?_)
  have hP : va_P (dC, dI) vwCl [((aX 0), .inr (3, [.ref (aX 1), .ref aR, .ref (aX 2), .ref (aX 3), .int Xreadings, .ref (aN 0), .ref (aT 0), .int Xtrail, .int XlatestFault])), ((aN 1), .inl (cyI, 6, .inl N_weightOf)), ((aN 2), .inl (cyI, 4, .inl N_kindOf)), ((aN 5), .inl (cyI, 4, .inl N_toldBy)), ((aN 0), .inr (2, [.int Ndeeds, .int Npeople, .int Ncatches, .ref (aN 1), .ref (aN 2), .ref (aN 3), .ref (aN 4), .ref (aN 5)]))] H := hP
  have hD : va_D A [((aX 0), .inr (3, [.ref (aX 1), .ref aR, .ref (aX 2), .ref (aX 3), .int Xreadings, .ref (aN 0), .ref (aT 0), .int Xtrail, .int XlatestFault])), ((aN 1), .inl (cyI, 6, .inl N_weightOf)), ((aN 2), .inl (cyI, 4, .inl N_kindOf)), ((aN 5), .inl (cyI, 4, .inl N_toldBy)), ((aN 0), .inr (2, [.int Ndeeds, .int Npeople, .int Ncatches, .ref (aN 1), .ref (aN 2), .ref (aN 3), .ref (aN 4), .ref (aN 5)]))] := hD
  refine lv_if_ne (tgt := 13) hx hb dX3_hush_8 (by decide) (fun c3 => ?_) (fun c3 => ?_)
  · replace h := it_f c3 h
    refine lv_aload_n hx hb dX3_hush_13 rfl (lv_at hl 0 rfl) ?_
    refine va_get (D := (dC, dI)) (ci := 3) (v := .ref (aN 0)) (C := RX3) (T := TX3) (N := 9) hx hb hts hiX3 hown hK hP 0 rfl rfl 5 (by decide) hf35 (fun _ h9 => h9) rfl dX3_hush_14 ?_
    refine lv_iload_n hx hb dX3_hush_17 rfl (lv_at hl 1 rfl) ?_
    obtain ⟨o4, hc5, h⟩ := ob h
    refine k_vi (As := [.int p1]) (rest := []) ⟨hx, hb, hml, hown, hts⟩ (c_X2_floorOf l dC dI cyI cyO aN H.size Ndeeds Npeople Ncatches N_weightOf N_kindOf N_toldBy p1 hc5) (cwV 1 hts gX3_hush_X2_floorOf rfl rfl rfl (by decide +kernel) ⟨Nat.le_of_ble_eq_true rfl, Nat.le_of_ble_eq_true rfl⟩) hP hD hK hS hA [4, 1, 2, 3] [0] rfl rfl (by decide) (by decide) (by decide) 2 0 rfl rfl rfl rfl hl.1 rfl (Nat.le_of_ble_eq_true rfl) dX3_hush_18 ⟨Nat.zero_le _, Nat.zero_le _⟩ (fun _ H locs hP hD hS => ?_)
    have hP : va_P (dC, dI) vwCl [((aX 0), .inr (3, [.ref (aX 1), .ref aR, .ref (aX 2), .ref (aX 3), .int Xreadings, .ref (aN 0), .ref (aT 0), .int Xtrail, .int XlatestFault])), ((aN 0), .inr (2, [.int Ndeeds, .int Npeople, .int Ncatches, .ref (aN 1), .ref (aN 2), .ref (aN 3), .ref (aN 4), .ref (aN 5)])), ((aN 1), .inl (cyI, 6, .inl N_weightOf)), ((aN 2), .inl (cyI, 4, .inl N_kindOf)), ((aN 5), .inl (cyI, 4, .inl N_toldBy))] H := hP
    have hD : va_D A [((aX 0), .inr (3, [.ref (aX 1), .ref aR, .ref (aX 2), .ref (aX 3), .int Xreadings, .ref (aN 0), .ref (aT 0), .int Xtrail, .int XlatestFault])), ((aN 0), .inr (2, [.int Ndeeds, .int Npeople, .int Ncatches, .ref (aN 1), .ref (aN 2), .ref (aN 3), .ref (aN 4), .ref (aN 5)])), ((aN 1), .inl (cyI, 6, .inl N_weightOf)), ((aN 2), .inl (cyI, 4, .inl N_kindOf)), ((aN 5), .inl (cyI, 4, .inl N_toldBy))] := hD
    refine lv_istore_n (lv' := [(2, .int o4), (0, .ref (aX 0)), (1, .int p1)]) hx hb dX3_hush_21 rfl hl (by decide) rfl (fun ls hl => ?_)
    refine lv_aload_n hx hb dX3_hush_22 rfl (lv_at hl 1 rfl) ?_
    refine va_get (D := (dC, dI)) (ci := 3) (v := .ref (aN 0)) (C := RX3) (T := TX3) (N := 9) hx hb hts hiX3 hown hK hP 0 rfl rfl 5 (by decide) hf35 (fun _ h9 => h9) rfl dX3_hush_23 ?_
    refine va_get (D := (dC, dI)) (ci := 2) (v := .ref (aN 5)) (C := RX2) (T := TX2) (N := 8) hx hb hts hiX2 hown hK hP 1 rfl rfl 7 (by decide) hf83 (fun _ h9 => h9) rfl dX3_hush_26 ?_
    refine lv_iload_n hx hb dX3_hush_29 rfl (lv_at hl 2 rfl) ?_
    refine lv_iconst (v := 0) hx hb dX3_hush_30 (by decide) ?_
    obtain ⟨e6, h⟩ := it_n h
    refine va_iast hx hb hK hP hD hS 4 0 rfl rfl (ix_in e6) dX3_hush_31 (fun H locs hP hD hS => ?_)
    have hP : va_P (dC, dI) vwCl [((aX 0), .inr (3, [.ref (aX 1), .ref aR, .ref (aX 2), .ref (aX 3), .int Xreadings, .ref (aN 0), .ref (aT 0), .int Xtrail, .int XlatestFault])), ((aN 0), .inr (2, [.int Ndeeds, .int Npeople, .int Ncatches, .ref (aN 1), .ref (aN 2), .ref (aN 3), .ref (aN 4), .ref (aN 5)])), ((aN 1), .inl (cyI, 6, .inl N_weightOf)), ((aN 2), .inl (cyI, 4, .inl N_kindOf)), ((aN 5), .inl (cyI, 4, .inl (upd N_toldBy p1.toNatClampNeg 0)))] H := hP
    have hD : va_D A [((aX 0), .inr (3, [.ref (aX 1), .ref aR, .ref (aX 2), .ref (aX 3), .int Xreadings, .ref (aN 0), .ref (aT 0), .int Xtrail, .int XlatestFault])), ((aN 0), .inr (2, [.int Ndeeds, .int Npeople, .int Ncatches, .ref (aN 1), .ref (aN 2), .ref (aN 3), .ref (aN 4), .ref (aN 5)])), ((aN 1), .inl (cyI, 6, .inl N_weightOf)), ((aN 2), .inl (cyI, 4, .inl N_kindOf)), ((aN 5), .inl (cyI, 4, .inl (upd N_toldBy p1.toNatClampNeg 0)))] := hD
    refine lv_iload_n hx hb dX3_hush_32 rfl (lv_at hl 0 rfl) ?_
    replace h := Option.some.inj h; subst h
    exact hret () H locs _ ls hP hD hS dX3_hush_33 rfl
  · replace h := it_t c3 h
    refine lv_iconst (v := (-1)) hx hb dX3_hush_11 (by decide) ?_
    replace h := Option.some.inj h; subst h
    have hP := hP.sub (ws' := [((aX 0), .inr (3, [.ref (aX 1), .ref aR, .ref (aX 2), .ref (aX 3), .int Xreadings, .ref (aN 0), .ref (aT 0), .int Xtrail, .int XlatestFault])), ((aN 0), .inr (2, [.int Ndeeds, .int Npeople, .int Ncatches, .ref (aN 1), .ref (aN 2), .ref (aN 3), .ref (aN 4), .ref (aN 5)])), ((aN 1), .inl (cyI, 6, .inl N_weightOf)), ((aN 2), .inl (cyI, 4, .inl N_kindOf)), ((aN 5), .inl (cyI, 4, .inl N_toldBy))]) [0, 4, 1, 2, 3] rfl
    have hD := hD.sub (ws' := [((aX 0), .inr (3, [.ref (aX 1), .ref aR, .ref (aX 2), .ref (aX 3), .int Xreadings, .ref (aN 0), .ref (aT 0), .int Xtrail, .int XlatestFault])), ((aN 0), .inr (2, [.int Ndeeds, .int Npeople, .int Ncatches, .ref (aN 1), .ref (aN 2), .ref (aN 3), .ref (aN 4), .ref (aN 5)])), ((aN 1), .inl (cyI, 6, .inl N_weightOf)), ((aN 2), .inl (cyI, 4, .inl N_kindOf)), ((aN 5), .inl (cyI, 4, .inl N_toldBy))]) [0, 4, 1, 2, 3] (by decide) rfl
    exact hret () H locs _ ls hP hD hS dX3_hush_12 rfl
set_option maxHeartbeats 4000000 in
set_option maxRecDepth 100000 in
theorem c_X3_landing (l : Launch) (dC : Nat → ClassId) (dI : Nat → Nat → Nat) (cyI cyO : ClassId) (aX : Nat → Nat) (aN : Nat → Nat) (aR : Nat) (aT : Nat → Nat) (sz : Nat) (Xreadings : Int32) (Xtrail : Int32) (XlatestFault : Int32) (Ndeeds : Int32) (Npeople : Int32) (Ncatches : Int32) (N_weightOf : Nat → Int32) (N_kindOf : Nat → Int32) (N_toldBy : Nat → Int32) (p1 : Int32) {o : Int32}  (h : f_X3_landing Ndeeds Npeople N_weightOf N_kindOf N_toldBy p1 = some o) : CtI l yX3_landing wsX3_landing { frames := 3, cells := 0, slots := 0, locals := 67 } (dC, dI) [(cyI, .int), (cyO, .object RX0)] [.ref (aX 0), .int p1] sz [((aX 0), .inr (3, [.ref (aX 1), .ref aR, .ref (aX 2), .ref (aX 3), .int Xreadings, .ref (aN 0), .ref (aT 0), .int Xtrail, .int XlatestFault])), ((aN 0), .inr (2, [.int Ndeeds, .int Npeople, .int Ncatches, .ref (aN 1), .ref (aN 2), .ref (aN 3), .ref (aN 4), .ref (aN 5)])), ((aN 1), .inl (cyI, 6, .inl N_weightOf)), ((aN 2), .inl (cyI, 4, .inl N_kindOf)), ((aN 5), .inl (cyI, 4, .inl N_toldBy))] (fun (_ : Unit) => [((aX 0), .inr (3, [.ref (aX 1), .ref aR, .ref (aX 2), .ref (aX 3), .int Xreadings, .ref (aN 0), .ref (aT 0), .int Xtrail, .int XlatestFault])), ((aN 0), .inr (2, [.int Ndeeds, .int Npeople, .int Ncatches, .ref (aN 1), .ref (aN 2), .ref (aN 3), .ref (aN 4), .ref (aN 5)])), ((aN 1), .inl (cyI, 6, .inl N_weightOf)), ((aN 2), .inl (cyI, 4, .inl N_kindOf)), ((aN 5), .inl (cyI, 4, .inl N_toldBy))]) o := by
  refine CtI.of (cc := cX3_landing) (maxL := 4) (by decide) rfl (Nat.le_of_ble_eq_true rfl) ?_
  intro p e s m args below meth c A Q H locs hx hb hml hown hts hA hK hP hD hS hret ls hl
  have hown : s.vm.findClass RX3 = some m.cls := hown
  have hl : lv_has ls 4 [(0, .ref (aX 0)), (1, .int p1)] := hl
  unfold f_X3_landing at h
  have hiX2 : ∀ w ∈ u_ws RX2 TX2 8, w ∈ wsX3_landing := by decide +kernel
  have hiX3 : ∀ w ∈ u_ws RX3 TX3 9, w ∈ wsX3_landing := by decide +kernel
  have hf35 := hts (.fieldLink RX3 35 "TowerTell" "now" "LTowerTell$Tower;") (by decide +kernel)
  have hf68 := hts (.fieldLink RX3 68 "TowerTell$Tower" "people" "I") (by decide +kernel)
  have lp24 : ∀ (n : Nat) (x2 : Int32) (x3 : Int32) (H : Heap) (locs : List Loc) (ls : Array Slot), l_X3_landing_24 Ndeeds Npeople N_weightOf N_kindOf N_toldBy p1 n (x2, x3) = some o → va_P (dC, dI) vwCl [((aX 0), .inr (3, [.ref (aX 1), .ref aR, .ref (aX 2), .ref (aX 3), .int Xreadings, .ref (aN 0), .ref (aT 0), .int Xtrail, .int XlatestFault])), ((aN 0), .inr (2, [.int Ndeeds, .int Npeople, .int Ncatches, .ref (aN 1), .ref (aN 2), .ref (aN 3), .ref (aN 4), .ref (aN 5)])), ((aN 1), .inl (cyI, 6, .inl N_weightOf)), ((aN 2), .inl (cyI, 4, .inl N_kindOf)), ((aN 5), .inl (cyI, 4, .inl N_toldBy))] H → va_D A [((aX 0), .inr (3, [.ref (aX 1), .ref aR, .ref (aX 2), .ref (aX 3), .int Xreadings, .ref (aN 0), .ref (aT 0), .int Xtrail, .int XlatestFault])), ((aN 0), .inr (2, [.int Ndeeds, .int Npeople, .int Ncatches, .ref (aN 1), .ref (aN 2), .ref (aN 3), .ref (aN 4), .ref (aN 5)])), ((aN 1), .inl (cyI, 6, .inl N_weightOf)), ((aN 2), .inl (cyI, 4, .inl N_kindOf)), ((aN 5), .inl (cyI, 4, .inl N_toldBy))] → va_S A s.heap H locs → lv_has ls 4 [(0, .ref (aX 0)), (1, .int p1), (2, .int x2), (3, .int x3)] → W p l e { frames := 3, cells := 0, slots := 0, locals := 67 } s m args below meth c H locs 0 0 Q (F0 m 24 ls []) := by
    intro n
    induction n with
    | zero => intro _ _ H locs ls h _ _ _ _; exact (lpF_0 h).elim
    | succ n ih =>
      intro x2 x3 H locs ls h hP hD hS hl
      replace h : b_X3_landing_24 Ndeeds Npeople N_weightOf N_kindOf N_toldBy p1 (l_X3_landing_24 Ndeeds Npeople N_weightOf N_kindOf N_toldBy p1 n) x2 x3 = some o := h
      unfold b_X3_landing_24 at h
      refine lv_iload_n hx hb dX3_landing_24 rfl (lv_at hl 3 rfl) ?_
      refine lv_aload_n hx hb dX3_landing_25 rfl (lv_at hl 0 rfl) ?_
      refine va_get (D := (dC, dI)) (ci := 3) (v := .ref (aN 0)) (C := RX3) (T := TX3) (N := 9) hx hb hts hiX3 hown hK hP 0 rfl rfl 5 (by decide) hf35 (fun _ h9 => h9) rfl dX3_landing_26 ?_
      refine va_get (D := (dC, dI)) (ci := 2) (v := .int Npeople) (C := RX2) (T := TX2) (N := 8) hx hb hts hiX2 hown hK hP 1 rfl rfl 1 (by decide) hf68 (fun _ h9 => h9) rfl dX3_landing_29 ?_
      refine lv_icmp_ge (tgt := 59) hx hb dX3_landing_32 (by decide) (fun c3 => ?_) (fun c3 => ?_)
      · replace h := it_t c3 h
        refine lv_iload_n hx hb dX3_landing_59 rfl (lv_at hl 2 rfl) ?_
        replace h := Option.some.inj h; subst h
        exact hret () H locs _ ls hP hD hS dX3_landing_60 rfl
      · replace h := it_f c3 h
        refine lv_aload_n hx hb dX3_landing_35 rfl (lv_at hl 0 rfl) ?_
        refine va_get (D := (dC, dI)) (ci := 3) (v := .ref (aN 0)) (C := RX3) (T := TX3) (N := 9) hx hb hts hiX3 hown hK hP 0 rfl rfl 5 (by decide) hf35 (fun _ h9 => h9) rfl dX3_landing_36 ?_
        refine lv_iload_n hx hb dX3_landing_39 rfl (lv_at hl 3 rfl) ?_
        obtain ⟨o4, hc5, h⟩ := ob h
        refine k_vi (As := [.int x3]) (rest := []) ⟨hx, hb, hml, hown, hts⟩ (c_X2_floorOf l dC dI cyI cyO aN H.size Ndeeds Npeople Ncatches N_weightOf N_kindOf N_toldBy x3 hc5) (cwV 1 hts gX3_landing_X2_floorOf rfl rfl rfl (by decide +kernel) ⟨Nat.le_of_ble_eq_true rfl, Nat.le_of_ble_eq_true rfl⟩) hP hD hK hS hA [1, 2, 3, 4] [0] rfl rfl (by decide) (by decide) (by decide) 2 0 rfl rfl rfl rfl hl.1 rfl (Nat.le_of_ble_eq_true rfl) dX3_landing_40 ⟨Nat.zero_le _, Nat.zero_le _⟩ (fun _ H locs hP hD hS => ?_)
        have hP : va_P (dC, dI) vwCl [((aX 0), .inr (3, [.ref (aX 1), .ref aR, .ref (aX 2), .ref (aX 3), .int Xreadings, .ref (aN 0), .ref (aT 0), .int Xtrail, .int XlatestFault])), ((aN 0), .inr (2, [.int Ndeeds, .int Npeople, .int Ncatches, .ref (aN 1), .ref (aN 2), .ref (aN 3), .ref (aN 4), .ref (aN 5)])), ((aN 1), .inl (cyI, 6, .inl N_weightOf)), ((aN 2), .inl (cyI, 4, .inl N_kindOf)), ((aN 5), .inl (cyI, 4, .inl N_toldBy))] H := hP
        have hD : va_D A [((aX 0), .inr (3, [.ref (aX 1), .ref aR, .ref (aX 2), .ref (aX 3), .int Xreadings, .ref (aN 0), .ref (aT 0), .int Xtrail, .int XlatestFault])), ((aN 0), .inr (2, [.int Ndeeds, .int Npeople, .int Ncatches, .ref (aN 1), .ref (aN 2), .ref (aN 3), .ref (aN 4), .ref (aN 5)])), ((aN 1), .inl (cyI, 6, .inl N_weightOf)), ((aN 2), .inl (cyI, 4, .inl N_kindOf)), ((aN 5), .inl (cyI, 4, .inl N_toldBy))] := hD
        refine lv_iload_n hx hb dX3_landing_43 rfl (lv_at hl 1 rfl) ?_
        refine lv_icmp_ne (tgt := 53) hx hb dX3_landing_44 (by decide) (fun c6 => ?_) (fun c6 => ?_)
        · replace h := it_f c6 h
          refine lv_iinc (v := (x3 + 1)) (lv' := [(3, .int (x3 + 1)), (0, .ref (aX 0)), (1, .int p1), (2, .int x2)]) hx hb dX3_landing_53 hl (k := 3) rfl rfl (by decide) rfl (fun ls hl => ?_)
          refine lv_goto (tgt := 24) hx hb dX3_landing_56 (by decide) ?_
          exact ih x2 (x3 + 1) H locs ls h hP hD hS (lv_sub hl [1, 2, 3, 0] rfl)
        · replace h := it_t c6 h
          refine lv_iload_n hx hb dX3_landing_47 rfl (lv_at hl 2 rfl) ?_
          refine lv_iconst (v := 1) hx hb dX3_landing_48 (by decide) ?_
          refine lv_iload_n hx hb dX3_landing_49 rfl (lv_at hl 3 rfl) ?_
          refine lv_ishl hx hb dX3_landing_50 ?_
          refine lv_ior hx hb dX3_landing_51 ?_
          refine lv_istore_n (lv' := [(2, .int (x2 ||| (1 <<< (x3 &&& 31)))), (0, .ref (aX 0)), (1, .int p1), (3, .int x3)]) hx hb dX3_landing_52 rfl hl (by decide) rfl (fun ls hl => ?_)
          refine lv_iinc (v := (x3 + 1)) (lv' := [(3, .int (x3 + 1)), (2, .int (x2 ||| (1 <<< (x3 &&& 31)))), (0, .ref (aX 0)), (1, .int p1)]) hx hb dX3_landing_53 hl (k := 3) rfl rfl (by decide) rfl (fun ls hl => ?_)
          refine lv_goto (tgt := 24) hx hb dX3_landing_56 (by decide) ?_
          exact ih (x2 ||| (1 <<< (x3 &&& 31))) (x3 + 1) H locs ls h hP hD hS (lv_sub hl [2, 3, 1, 0] rfl)
  refine lv_aload_n hx hb dX3_landing_0 rfl (lv_at hl 0 rfl) ?_
  refine va_get (D := (dC, dI)) (ci := 3) (v := .ref (aN 0)) (C := RX3) (T := TX3) (N := 9) hx hb hts hiX3 hown hK hP 0 rfl rfl 5 (by decide) hf35 (fun _ h9 => h9) rfl dX3_landing_1 ?_
  refine va_get (D := (dC, dI)) (ci := 2) (v := .int Npeople) (C := RX2) (T := TX2) (N := 8) hx hb hts hiX2 hown hK hP 1 rfl rfl 1 (by decide) hf68 (fun _ h9 => h9) rfl dX3_landing_4 ?_
  refine lv_if_ne (tgt := 13) hx hb dX3_landing_7 (by decide) (fun c1 => ?_) (fun c1 => ?_)
  · replace h := it_f c1 h
    refine lv_iload_n hx hb dX3_landing_13 rfl (lv_at hl 1 rfl) ?_
    refine lv_if_ge (tgt := 20) hx hb dX3_landing_14 (by decide) (fun c2 => ?_) (fun c2 => ?_)
    · replace h := it_t c2 h
      refine lv_iconst (v := 0) hx hb dX3_landing_20 (by decide) ?_
      refine lv_istore_n (lv' := [(2, .int 0), (0, .ref (aX 0)), (1, .int p1)]) hx hb dX3_landing_21 rfl hl (by decide) rfl (fun ls hl => ?_)
      refine lv_iconst (v := 0) hx hb dX3_landing_22 (by decide) ?_
      refine lv_istore_n (lv' := [(3, .int 0), (2, .int 0), (0, .ref (aX 0)), (1, .int p1)]) hx hb dX3_landing_23 rfl hl (by decide) rfl (fun ls hl => ?_)
      exact lp24 99 0 0 H locs ls h hP hD hS (lv_sub hl [2, 3, 1, 0] rfl)
    · replace h := it_f c2 h
      refine lv_bipush (v := (-2)) hx hb dX3_landing_17 (by decide) ?_
      replace h := Option.some.inj h; subst h
      exact hret () H locs _ ls hP hD hS dX3_landing_19 rfl
  · replace h := it_t c1 h
    refine lv_bipush (v := (-3)) hx hb dX3_landing_10 (by decide) ?_
    replace h := Option.some.inj h; subst h
    exact hret () H locs _ ls hP hD hS dX3_landing_12 rfl
set_option maxHeartbeats 4000000 in
set_option maxRecDepth 100000 in
theorem c_X3_answerOfTrial (l : Launch) (dC : Nat → ClassId) (dI : Nat → Nat → Nat) (cyI cyO : ClassId) (aX : Nat → Nat) (aT : Nat → Nat) (aR : Nat) (aN : Nat → Nat) (sz : Nat) (Xreadings : Int32) (Xtrail : Int32) (XlatestFault : Int32) (Tdeeds : Int32) (Tpeople : Int32) (Tcatches : Int32) (T_weightOf : Nat → Int32) (T_kindOf : Nat → Int32) (T_toldBy : Nat → Int32) (p1 : Int32) {o : Int32}  (h : f_X3_answerOfTrial Tdeeds Tpeople Tcatches T_weightOf T_kindOf T_toldBy p1 = some o) : CtI l yX3_answerOfTrial wsX3_answerOfTrial { frames := 4, cells := 0, slots := 0, locals := 89 } (dC, dI) [(cyI, .int), (cyO, .object RX0)] [.ref (aX 0), .int p1] sz [((aX 0), .inr (3, [.ref (aX 1), .ref aR, .ref (aX 2), .ref (aX 3), .int Xreadings, .ref (aN 0), .ref (aT 0), .int Xtrail, .int XlatestFault])), ((aT 0), .inr (2, [.int Tdeeds, .int Tpeople, .int Tcatches, .ref (aT 1), .ref (aT 2), .ref (aT 3), .ref (aT 4), .ref (aT 5)])), ((aT 1), .inl (cyI, 6, .inl T_weightOf)), ((aT 2), .inl (cyI, 4, .inl T_kindOf)), ((aT 5), .inl (cyI, 4, .inl T_toldBy))] (fun (_ : Unit) => [((aX 0), .inr (3, [.ref (aX 1), .ref aR, .ref (aX 2), .ref (aX 3), .int Xreadings, .ref (aN 0), .ref (aT 0), .int Xtrail, .int XlatestFault])), ((aT 0), .inr (2, [.int Tdeeds, .int Tpeople, .int Tcatches, .ref (aT 1), .ref (aT 2), .ref (aT 3), .ref (aT 4), .ref (aT 5)])), ((aT 1), .inl (cyI, 6, .inl T_weightOf)), ((aT 2), .inl (cyI, 4, .inl T_kindOf)), ((aT 5), .inl (cyI, 4, .inl T_toldBy))]) o := by
  refine CtI.of (cc := cX3_answerOfTrial) (maxL := 3) (by decide) rfl (Nat.le_of_ble_eq_true rfl) ?_
  intro p e s m args below meth c A Q H locs hx hb hml hown hts hA hK hP hD hS hret ls hl
  have hown : s.vm.findClass RX3 = some m.cls := hown
  have hl : lv_has ls 3 [(0, .ref (aX 0)), (1, .int p1)] := hl
  unfold f_X3_answerOfTrial at h
  have hiX2 : ∀ w ∈ u_ws RX2 TX2 8, w ∈ wsX3_answerOfTrial := by decide +kernel
  have hiX3 : ∀ w ∈ u_ws RX3 TX3 9, w ∈ wsX3_answerOfTrial := by decide +kernel
  have hf39 := hts (.fieldLink RX3 39 "TowerTell" "trial" "LTowerTell$Tower;") (by decide +kernel)
  have hf83 := hts (.fieldLink RX3 83 "TowerTell$Tower" "toldBy" "[I") (by decide +kernel)
  have hf201 := hts (.fieldLink RX3 201 "TowerTell$Tower" "catches" "I") (by decide +kernel)
  refine lv_iload_n hx hb dX3_answerOfTrial_0 rfl (lv_at hl 1 rfl) ?_
  refine lv_if_ne (tgt := 12) hx hb dX3_answerOfTrial_1 (by decide) (fun c1 => ?_) (fun c1 => ?_)
  · replace h := it_f c1 h
    refine lv_iload_n hx hb dX3_answerOfTrial_12 rfl (lv_at hl 1 rfl) ?_
    refine lv_iconst (v := 2) hx hb dX3_answerOfTrial_13 (by decide) ?_
    refine lv_icmp_ne (tgt := 25) hx hb dX3_answerOfTrial_14 (by decide) (fun c2 => ?_) (fun c2 => ?_)
    · replace h := it_f c2 h
      refine lv_iload_n hx hb dX3_answerOfTrial_25 rfl (lv_at hl 1 rfl) ?_
      refine lv_bipush (v := 20) hx hb dX3_answerOfTrial_26 (by decide) ?_
      refine lv_icmp_lt (tgt := 38) hx hb dX3_answerOfTrial_28 (by decide) (fun c3 => ?_) (fun c3 => ?_)
      · replace h := it_t c3 h
        refine lv_iload_n hx hb dX3_answerOfTrial_38 rfl (lv_at hl 1 rfl) ?_
        refine lv_bipush (v := 10) hx hb dX3_answerOfTrial_39 (by decide) ?_
        refine lv_isub hx hb dX3_answerOfTrial_41 ?_
        refine lv_istore_n (lv' := [(2, .int (p1 - 10)), (0, .ref (aX 0)), (1, .int p1)]) hx hb dX3_answerOfTrial_42 rfl hl (by decide) rfl (fun ls hl => ?_)
        refine lv_aload_n hx hb dX3_answerOfTrial_43 rfl (lv_at hl 1 rfl) ?_
        refine va_get (D := (dC, dI)) (ci := 3) (v := .ref (aT 0)) (C := RX3) (T := TX3) (N := 9) hx hb hts hiX3 hown hK hP 0 rfl rfl 6 (by decide) hf39 (fun _ h9 => h9) rfl dX3_answerOfTrial_44 ?_
        refine lv_iload_n hx hb dX3_answerOfTrial_47 rfl (lv_at hl 0 rfl) ?_
        obtain ⟨o4, hc5, h⟩ := ob h
        refine k_vi (As := [.int (p1 - 10)]) (rest := []) ⟨hx, hb, hml, hown, hts⟩ (c_X2_isPerson l dC dI cyI cyO aT H.size Tdeeds Tpeople Tcatches (p1 - 10) hc5) (cwV 1 hts gX3_answerOfTrial_X2_isPerson rfl rfl rfl (by decide +kernel) ⟨Nat.le_of_ble_eq_true rfl, Nat.le_of_ble_eq_true rfl⟩) hP hD hK hS hA [1] [0, 2, 3, 4] rfl rfl (by decide) (by decide) (by decide) 2 0 rfl rfl rfl rfl hl.1 rfl (Nat.le_of_ble_eq_true rfl) dX3_answerOfTrial_48 ⟨Nat.zero_le _, Nat.zero_le _⟩ (fun _ H locs hP hD hS => ?_)
        have hP : va_P (dC, dI) vwCl [((aX 0), .inr (3, [.ref (aX 1), .ref aR, .ref (aX 2), .ref (aX 3), .int Xreadings, .ref (aN 0), .ref (aT 0), .int Xtrail, .int XlatestFault])), ((aT 1), .inl (cyI, 6, .inl T_weightOf)), ((aT 2), .inl (cyI, 4, .inl T_kindOf)), ((aT 5), .inl (cyI, 4, .inl T_toldBy)), ((aT 0), .inr (2, [.int Tdeeds, .int Tpeople, .int Tcatches, .ref (aT 1), .ref (aT 2), .ref (aT 3), .ref (aT 4), .ref (aT 5)]))] H := hP
        have hD : va_D A [((aX 0), .inr (3, [.ref (aX 1), .ref aR, .ref (aX 2), .ref (aX 3), .int Xreadings, .ref (aN 0), .ref (aT 0), .int Xtrail, .int XlatestFault])), ((aT 1), .inl (cyI, 6, .inl T_weightOf)), ((aT 2), .inl (cyI, 4, .inl T_kindOf)), ((aT 5), .inl (cyI, 4, .inl T_toldBy)), ((aT 0), .inr (2, [.int Tdeeds, .int Tpeople, .int Tcatches, .ref (aT 1), .ref (aT 2), .ref (aT 3), .ref (aT 4), .ref (aT 5)]))] := hD
        refine lv_if_ne (tgt := 57) hx hb dX3_answerOfTrial_51 (by decide) (fun c6 => ?_) (fun c6 => ?_)
        · replace h := it_f c6 h
          refine lv_iload_n hx hb dX3_answerOfTrial_57 rfl (lv_at hl 2 rfl) ?_
          refine lv_bipush (v := 20) hx hb dX3_answerOfTrial_58 (by decide) ?_
          refine lv_icmp_lt (tgt := 75) hx hb dX3_answerOfTrial_60 (by decide) (fun c7 => ?_) (fun c7 => ?_)
          · replace h := it_t c7 h
            refine lv_aload_n hx hb dX3_answerOfTrial_75 rfl (lv_at hl 1 rfl) ?_
            refine va_get (D := (dC, dI)) (ci := 3) (v := .ref (aT 0)) (C := RX3) (T := TX3) (N := 9) hx hb hts hiX3 hown hK hP 0 rfl rfl 6 (by decide) hf39 (fun _ h9 => h9) rfl dX3_answerOfTrial_76 ?_
            refine lv_iload_n hx hb dX3_answerOfTrial_79 rfl (lv_at hl 0 rfl) ?_
            obtain ⟨o8, hc9, h⟩ := ob h
            refine k_vi (As := [.int (p1 - 10)]) (rest := []) ⟨hx, hb, hml, hown, hts⟩ (c_X2_floorOf l dC dI cyI cyO aT H.size Tdeeds Tpeople Tcatches T_weightOf T_kindOf T_toldBy (p1 - 10) hc9) (cwV 1 hts gX3_answerOfTrial_X2_floorOf rfl rfl rfl (by decide +kernel) ⟨Nat.le_of_ble_eq_true rfl, Nat.le_of_ble_eq_true rfl⟩) hP hD hK hS hA [4, 1, 2, 3] [0] rfl rfl (by decide) (by decide) (by decide) 2 0 rfl rfl rfl rfl hl.1 rfl (Nat.le_of_ble_eq_true rfl) dX3_answerOfTrial_80 ⟨Nat.zero_le _, Nat.zero_le _⟩ (fun _ H locs hP hD hS => ?_)
            have hP : va_P (dC, dI) vwCl [((aX 0), .inr (3, [.ref (aX 1), .ref aR, .ref (aX 2), .ref (aX 3), .int Xreadings, .ref (aN 0), .ref (aT 0), .int Xtrail, .int XlatestFault])), ((aT 0), .inr (2, [.int Tdeeds, .int Tpeople, .int Tcatches, .ref (aT 1), .ref (aT 2), .ref (aT 3), .ref (aT 4), .ref (aT 5)])), ((aT 1), .inl (cyI, 6, .inl T_weightOf)), ((aT 2), .inl (cyI, 4, .inl T_kindOf)), ((aT 5), .inl (cyI, 4, .inl T_toldBy))] H := hP
            have hD : va_D A [((aX 0), .inr (3, [.ref (aX 1), .ref aR, .ref (aX 2), .ref (aX 3), .int Xreadings, .ref (aN 0), .ref (aT 0), .int Xtrail, .int XlatestFault])), ((aT 0), .inr (2, [.int Tdeeds, .int Tpeople, .int Tcatches, .ref (aT 1), .ref (aT 2), .ref (aT 3), .ref (aT 4), .ref (aT 5)])), ((aT 1), .inl (cyI, 6, .inl T_weightOf)), ((aT 2), .inl (cyI, 4, .inl T_kindOf)), ((aT 5), .inl (cyI, 4, .inl T_toldBy))] := hD
            replace h := Option.some.inj h; subst h
            exact hret () H locs _ ls hP hD hS dX3_answerOfTrial_83 rfl
          · replace h := it_f c7 h
            refine lv_aload_n hx hb dX3_answerOfTrial_63 rfl (lv_at hl 1 rfl) ?_
            refine va_get (D := (dC, dI)) (ci := 3) (v := .ref (aT 0)) (C := RX3) (T := TX3) (N := 9) hx hb hts hiX3 hown hK hP 0 rfl rfl 6 (by decide) hf39 (fun _ h9 => h9) rfl dX3_answerOfTrial_64 ?_
            refine va_get (D := (dC, dI)) (ci := 2) (v := .ref (aT 5)) (C := RX2) (T := TX2) (N := 8) hx hb hts hiX2 hown hK hP 4 rfl rfl 7 (by decide) hf83 (fun _ h9 => h9) rfl dX3_answerOfTrial_67 ?_
            refine lv_iload_n hx hb dX3_answerOfTrial_70 rfl (lv_at hl 0 rfl) ?_
            obtain ⟨e10, h⟩ := it_n h
            refine va_iald hx hb hK hP 3 0 rfl rfl (ix_in e10) dX3_answerOfTrial_71 ?_
            refine lv_goto (tgt := 83) hx hb dX3_answerOfTrial_72 (by decide) ?_
            replace h := Option.some.inj h; subst h
            have hP := hP.sub (ws' := [((aX 0), .inr (3, [.ref (aX 1), .ref aR, .ref (aX 2), .ref (aX 3), .int Xreadings, .ref (aN 0), .ref (aT 0), .int Xtrail, .int XlatestFault])), ((aT 0), .inr (2, [.int Tdeeds, .int Tpeople, .int Tcatches, .ref (aT 1), .ref (aT 2), .ref (aT 3), .ref (aT 4), .ref (aT 5)])), ((aT 1), .inl (cyI, 6, .inl T_weightOf)), ((aT 2), .inl (cyI, 4, .inl T_kindOf)), ((aT 5), .inl (cyI, 4, .inl T_toldBy))]) [0, 4, 1, 2, 3] rfl
            have hD := hD.sub (ws' := [((aX 0), .inr (3, [.ref (aX 1), .ref aR, .ref (aX 2), .ref (aX 3), .int Xreadings, .ref (aN 0), .ref (aT 0), .int Xtrail, .int XlatestFault])), ((aT 0), .inr (2, [.int Tdeeds, .int Tpeople, .int Tcatches, .ref (aT 1), .ref (aT 2), .ref (aT 3), .ref (aT 4), .ref (aT 5)])), ((aT 1), .inl (cyI, 6, .inl T_weightOf)), ((aT 2), .inl (cyI, 4, .inl T_kindOf)), ((aT 5), .inl (cyI, 4, .inl T_toldBy))]) [0, 4, 1, 2, 3] (by decide) rfl
            exact hret () H locs _ ls hP hD hS dX3_answerOfTrial_83 rfl
        · replace h := it_t c6 h
          refine lv_bipush (v := (-9)) hx hb dX3_answerOfTrial_54 (by decide) ?_
          replace h := Option.some.inj h; subst h
          have hP := hP.sub (ws' := [((aX 0), .inr (3, [.ref (aX 1), .ref aR, .ref (aX 2), .ref (aX 3), .int Xreadings, .ref (aN 0), .ref (aT 0), .int Xtrail, .int XlatestFault])), ((aT 0), .inr (2, [.int Tdeeds, .int Tpeople, .int Tcatches, .ref (aT 1), .ref (aT 2), .ref (aT 3), .ref (aT 4), .ref (aT 5)])), ((aT 1), .inl (cyI, 6, .inl T_weightOf)), ((aT 2), .inl (cyI, 4, .inl T_kindOf)), ((aT 5), .inl (cyI, 4, .inl T_toldBy))]) [0, 4, 1, 2, 3] rfl
          have hD := hD.sub (ws' := [((aX 0), .inr (3, [.ref (aX 1), .ref aR, .ref (aX 2), .ref (aX 3), .int Xreadings, .ref (aN 0), .ref (aT 0), .int Xtrail, .int XlatestFault])), ((aT 0), .inr (2, [.int Tdeeds, .int Tpeople, .int Tcatches, .ref (aT 1), .ref (aT 2), .ref (aT 3), .ref (aT 4), .ref (aT 5)])), ((aT 1), .inl (cyI, 6, .inl T_weightOf)), ((aT 2), .inl (cyI, 4, .inl T_kindOf)), ((aT 5), .inl (cyI, 4, .inl T_toldBy))]) [0, 4, 1, 2, 3] (by decide) rfl
          exact hret () H locs _ ls hP hD hS dX3_answerOfTrial_56 rfl
      · replace h := it_f c3 h
        refine lv_iload_n hx hb dX3_answerOfTrial_31 rfl (lv_at hl 1 rfl) ?_
        refine lv_bipush (v := 20) hx hb dX3_answerOfTrial_32 (by decide) ?_
        refine lv_isub hx hb dX3_answerOfTrial_34 ?_
        refine lv_goto (tgt := 42) hx hb dX3_answerOfTrial_35 (by decide) ?_
        refine lv_istore_n (lv' := [(2, .int (p1 - 20)), (0, .ref (aX 0)), (1, .int p1)]) hx hb dX3_answerOfTrial_42 rfl hl (by decide) rfl (fun ls hl => ?_)
        refine lv_aload_n hx hb dX3_answerOfTrial_43 rfl (lv_at hl 1 rfl) ?_
        refine va_get (D := (dC, dI)) (ci := 3) (v := .ref (aT 0)) (C := RX3) (T := TX3) (N := 9) hx hb hts hiX3 hown hK hP 0 rfl rfl 6 (by decide) hf39 (fun _ h9 => h9) rfl dX3_answerOfTrial_44 ?_
        refine lv_iload_n hx hb dX3_answerOfTrial_47 rfl (lv_at hl 0 rfl) ?_
        obtain ⟨o11, hc12, h⟩ := ob h
        refine k_vi (As := [.int (p1 - 20)]) (rest := []) ⟨hx, hb, hml, hown, hts⟩ (c_X2_isPerson l dC dI cyI cyO aT H.size Tdeeds Tpeople Tcatches (p1 - 20) hc12) (cwV 1 hts gX3_answerOfTrial_X2_isPerson rfl rfl rfl (by decide +kernel) ⟨Nat.le_of_ble_eq_true rfl, Nat.le_of_ble_eq_true rfl⟩) hP hD hK hS hA [1] [0, 2, 3, 4] rfl rfl (by decide) (by decide) (by decide) 2 0 rfl rfl rfl rfl hl.1 rfl (Nat.le_of_ble_eq_true rfl) dX3_answerOfTrial_48 ⟨Nat.zero_le _, Nat.zero_le _⟩ (fun _ H locs hP hD hS => ?_)
        have hP : va_P (dC, dI) vwCl [((aX 0), .inr (3, [.ref (aX 1), .ref aR, .ref (aX 2), .ref (aX 3), .int Xreadings, .ref (aN 0), .ref (aT 0), .int Xtrail, .int XlatestFault])), ((aT 1), .inl (cyI, 6, .inl T_weightOf)), ((aT 2), .inl (cyI, 4, .inl T_kindOf)), ((aT 5), .inl (cyI, 4, .inl T_toldBy)), ((aT 0), .inr (2, [.int Tdeeds, .int Tpeople, .int Tcatches, .ref (aT 1), .ref (aT 2), .ref (aT 3), .ref (aT 4), .ref (aT 5)]))] H := hP
        have hD : va_D A [((aX 0), .inr (3, [.ref (aX 1), .ref aR, .ref (aX 2), .ref (aX 3), .int Xreadings, .ref (aN 0), .ref (aT 0), .int Xtrail, .int XlatestFault])), ((aT 1), .inl (cyI, 6, .inl T_weightOf)), ((aT 2), .inl (cyI, 4, .inl T_kindOf)), ((aT 5), .inl (cyI, 4, .inl T_toldBy)), ((aT 0), .inr (2, [.int Tdeeds, .int Tpeople, .int Tcatches, .ref (aT 1), .ref (aT 2), .ref (aT 3), .ref (aT 4), .ref (aT 5)]))] := hD
        refine lv_if_ne (tgt := 57) hx hb dX3_answerOfTrial_51 (by decide) (fun c13 => ?_) (fun c13 => ?_)
        · replace h := it_f c13 h
          refine lv_iload_n hx hb dX3_answerOfTrial_57 rfl (lv_at hl 2 rfl) ?_
          refine lv_bipush (v := 20) hx hb dX3_answerOfTrial_58 (by decide) ?_
          refine lv_icmp_lt (tgt := 75) hx hb dX3_answerOfTrial_60 (by decide) (fun c14 => ?_) (fun c14 => ?_)
          · replace h := it_t c14 h
            refine lv_aload_n hx hb dX3_answerOfTrial_75 rfl (lv_at hl 1 rfl) ?_
            refine va_get (D := (dC, dI)) (ci := 3) (v := .ref (aT 0)) (C := RX3) (T := TX3) (N := 9) hx hb hts hiX3 hown hK hP 0 rfl rfl 6 (by decide) hf39 (fun _ h9 => h9) rfl dX3_answerOfTrial_76 ?_
            refine lv_iload_n hx hb dX3_answerOfTrial_79 rfl (lv_at hl 0 rfl) ?_
            obtain ⟨o15, hc16, h⟩ := ob h
            refine k_vi (As := [.int (p1 - 20)]) (rest := []) ⟨hx, hb, hml, hown, hts⟩ (c_X2_floorOf l dC dI cyI cyO aT H.size Tdeeds Tpeople Tcatches T_weightOf T_kindOf T_toldBy (p1 - 20) hc16) (cwV 1 hts gX3_answerOfTrial_X2_floorOf rfl rfl rfl (by decide +kernel) ⟨Nat.le_of_ble_eq_true rfl, Nat.le_of_ble_eq_true rfl⟩) hP hD hK hS hA [4, 1, 2, 3] [0] rfl rfl (by decide) (by decide) (by decide) 2 0 rfl rfl rfl rfl hl.1 rfl (Nat.le_of_ble_eq_true rfl) dX3_answerOfTrial_80 ⟨Nat.zero_le _, Nat.zero_le _⟩ (fun _ H locs hP hD hS => ?_)
            have hP : va_P (dC, dI) vwCl [((aX 0), .inr (3, [.ref (aX 1), .ref aR, .ref (aX 2), .ref (aX 3), .int Xreadings, .ref (aN 0), .ref (aT 0), .int Xtrail, .int XlatestFault])), ((aT 0), .inr (2, [.int Tdeeds, .int Tpeople, .int Tcatches, .ref (aT 1), .ref (aT 2), .ref (aT 3), .ref (aT 4), .ref (aT 5)])), ((aT 1), .inl (cyI, 6, .inl T_weightOf)), ((aT 2), .inl (cyI, 4, .inl T_kindOf)), ((aT 5), .inl (cyI, 4, .inl T_toldBy))] H := hP
            have hD : va_D A [((aX 0), .inr (3, [.ref (aX 1), .ref aR, .ref (aX 2), .ref (aX 3), .int Xreadings, .ref (aN 0), .ref (aT 0), .int Xtrail, .int XlatestFault])), ((aT 0), .inr (2, [.int Tdeeds, .int Tpeople, .int Tcatches, .ref (aT 1), .ref (aT 2), .ref (aT 3), .ref (aT 4), .ref (aT 5)])), ((aT 1), .inl (cyI, 6, .inl T_weightOf)), ((aT 2), .inl (cyI, 4, .inl T_kindOf)), ((aT 5), .inl (cyI, 4, .inl T_toldBy))] := hD
            replace h := Option.some.inj h; subst h
            exact hret () H locs _ ls hP hD hS dX3_answerOfTrial_83 rfl
          · replace h := it_f c14 h
            refine lv_aload_n hx hb dX3_answerOfTrial_63 rfl (lv_at hl 1 rfl) ?_
            refine va_get (D := (dC, dI)) (ci := 3) (v := .ref (aT 0)) (C := RX3) (T := TX3) (N := 9) hx hb hts hiX3 hown hK hP 0 rfl rfl 6 (by decide) hf39 (fun _ h9 => h9) rfl dX3_answerOfTrial_64 ?_
            refine va_get (D := (dC, dI)) (ci := 2) (v := .ref (aT 5)) (C := RX2) (T := TX2) (N := 8) hx hb hts hiX2 hown hK hP 4 rfl rfl 7 (by decide) hf83 (fun _ h9 => h9) rfl dX3_answerOfTrial_67 ?_
            refine lv_iload_n hx hb dX3_answerOfTrial_70 rfl (lv_at hl 0 rfl) ?_
            obtain ⟨e17, h⟩ := it_n h
            refine va_iald hx hb hK hP 3 0 rfl rfl (ix_in e17) dX3_answerOfTrial_71 ?_
            refine lv_goto (tgt := 83) hx hb dX3_answerOfTrial_72 (by decide) ?_
            replace h := Option.some.inj h; subst h
            have hP := hP.sub (ws' := [((aX 0), .inr (3, [.ref (aX 1), .ref aR, .ref (aX 2), .ref (aX 3), .int Xreadings, .ref (aN 0), .ref (aT 0), .int Xtrail, .int XlatestFault])), ((aT 0), .inr (2, [.int Tdeeds, .int Tpeople, .int Tcatches, .ref (aT 1), .ref (aT 2), .ref (aT 3), .ref (aT 4), .ref (aT 5)])), ((aT 1), .inl (cyI, 6, .inl T_weightOf)), ((aT 2), .inl (cyI, 4, .inl T_kindOf)), ((aT 5), .inl (cyI, 4, .inl T_toldBy))]) [0, 4, 1, 2, 3] rfl
            have hD := hD.sub (ws' := [((aX 0), .inr (3, [.ref (aX 1), .ref aR, .ref (aX 2), .ref (aX 3), .int Xreadings, .ref (aN 0), .ref (aT 0), .int Xtrail, .int XlatestFault])), ((aT 0), .inr (2, [.int Tdeeds, .int Tpeople, .int Tcatches, .ref (aT 1), .ref (aT 2), .ref (aT 3), .ref (aT 4), .ref (aT 5)])), ((aT 1), .inl (cyI, 6, .inl T_weightOf)), ((aT 2), .inl (cyI, 4, .inl T_kindOf)), ((aT 5), .inl (cyI, 4, .inl T_toldBy))]) [0, 4, 1, 2, 3] (by decide) rfl
            exact hret () H locs _ ls hP hD hS dX3_answerOfTrial_83 rfl
        · replace h := it_t c13 h
          refine lv_bipush (v := (-9)) hx hb dX3_answerOfTrial_54 (by decide) ?_
          replace h := Option.some.inj h; subst h
          have hP := hP.sub (ws' := [((aX 0), .inr (3, [.ref (aX 1), .ref aR, .ref (aX 2), .ref (aX 3), .int Xreadings, .ref (aN 0), .ref (aT 0), .int Xtrail, .int XlatestFault])), ((aT 0), .inr (2, [.int Tdeeds, .int Tpeople, .int Tcatches, .ref (aT 1), .ref (aT 2), .ref (aT 3), .ref (aT 4), .ref (aT 5)])), ((aT 1), .inl (cyI, 6, .inl T_weightOf)), ((aT 2), .inl (cyI, 4, .inl T_kindOf)), ((aT 5), .inl (cyI, 4, .inl T_toldBy))]) [0, 4, 1, 2, 3] rfl
          have hD := hD.sub (ws' := [((aX 0), .inr (3, [.ref (aX 1), .ref aR, .ref (aX 2), .ref (aX 3), .int Xreadings, .ref (aN 0), .ref (aT 0), .int Xtrail, .int XlatestFault])), ((aT 0), .inr (2, [.int Tdeeds, .int Tpeople, .int Tcatches, .ref (aT 1), .ref (aT 2), .ref (aT 3), .ref (aT 4), .ref (aT 5)])), ((aT 1), .inl (cyI, 6, .inl T_weightOf)), ((aT 2), .inl (cyI, 4, .inl T_kindOf)), ((aT 5), .inl (cyI, 4, .inl T_toldBy))]) [0, 4, 1, 2, 3] (by decide) rfl
          exact hret () H locs _ ls hP hD hS dX3_answerOfTrial_56 rfl
    · replace h := it_t c2 h
      refine lv_aload_n hx hb dX3_answerOfTrial_17 rfl (lv_at hl 0 rfl) ?_
      refine va_get (D := (dC, dI)) (ci := 3) (v := .ref (aT 0)) (C := RX3) (T := TX3) (N := 9) hx hb hts hiX3 hown hK hP 0 rfl rfl 6 (by decide) hf39 (fun _ h9 => h9) rfl dX3_answerOfTrial_18 ?_
      obtain ⟨o18, hc19, h⟩ := ob h
      refine k_vi (As := []) (rest := []) ⟨hx, hb, hml, hown, hts⟩ (c_X2_highestFloor l dC dI cyI cyO aT H.size Tdeeds Tpeople Tcatches T_weightOf T_kindOf T_toldBy hc19) (cwV 0 hts gX3_answerOfTrial_X2_highestFloor rfl rfl rfl (by decide +kernel) ⟨Nat.le_of_ble_eq_true rfl, Nat.le_of_ble_eq_true rfl⟩) hP hD hK hS hA [1, 2, 3, 4] [0] rfl rfl (by decide) (by decide) (by decide) 2 0 rfl rfl rfl rfl hl.1 rfl (Nat.le_of_ble_eq_true rfl) dX3_answerOfTrial_21 ⟨Nat.zero_le _, Nat.zero_le _⟩ (fun _ H locs hP hD hS => ?_)
      have hP : va_P (dC, dI) vwCl [((aX 0), .inr (3, [.ref (aX 1), .ref aR, .ref (aX 2), .ref (aX 3), .int Xreadings, .ref (aN 0), .ref (aT 0), .int Xtrail, .int XlatestFault])), ((aT 0), .inr (2, [.int Tdeeds, .int Tpeople, .int Tcatches, .ref (aT 1), .ref (aT 2), .ref (aT 3), .ref (aT 4), .ref (aT 5)])), ((aT 1), .inl (cyI, 6, .inl T_weightOf)), ((aT 2), .inl (cyI, 4, .inl T_kindOf)), ((aT 5), .inl (cyI, 4, .inl T_toldBy))] H := hP
      have hD : va_D A [((aX 0), .inr (3, [.ref (aX 1), .ref aR, .ref (aX 2), .ref (aX 3), .int Xreadings, .ref (aN 0), .ref (aT 0), .int Xtrail, .int XlatestFault])), ((aT 0), .inr (2, [.int Tdeeds, .int Tpeople, .int Tcatches, .ref (aT 1), .ref (aT 2), .ref (aT 3), .ref (aT 4), .ref (aT 5)])), ((aT 1), .inl (cyI, 6, .inl T_weightOf)), ((aT 2), .inl (cyI, 4, .inl T_kindOf)), ((aT 5), .inl (cyI, 4, .inl T_toldBy))] := hD
      replace h := Option.some.inj h; subst h
      exact hret () H locs _ ls hP hD hS dX3_answerOfTrial_24 rfl
  · replace h := it_t c1 h
    refine lv_aload_n hx hb dX3_answerOfTrial_4 rfl (lv_at hl 0 rfl) ?_
    refine va_get (D := (dC, dI)) (ci := 3) (v := .ref (aT 0)) (C := RX3) (T := TX3) (N := 9) hx hb hts hiX3 hown hK hP 0 rfl rfl 6 (by decide) hf39 (fun _ h9 => h9) rfl dX3_answerOfTrial_5 ?_
    refine va_get (D := (dC, dI)) (ci := 2) (v := .int Tcatches) (C := RX2) (T := TX2) (N := 8) hx hb hts hiX2 hown hK hP 1 rfl rfl 2 (by decide) hf201 (fun _ h9 => h9) rfl dX3_answerOfTrial_8 ?_
    replace h := Option.some.inj h; subst h
    exact hret () H locs _ ls hP hD hS dX3_answerOfTrial_11 rfl
set_option maxHeartbeats 4000000 in
set_option maxRecDepth 100000 in
theorem c_X3_isDaysLength (l : Launch) (dC : Nat → ClassId) (dI : Nat → Nat → Nat) (cyI cyO : ClassId)  (sz : Nat)  (p0 : Int32) {o : Int32}  (h : f_X3_isDaysLength p0 = some o) : CtI l yX3_isDaysLength wsX3_isDaysLength { frames := 0, cells := 0, slots := 0, locals := 0 } (dC, dI) [(cyI, .int), (cyO, .object RX0)] [.int p0] sz [] (fun (_ : Unit) => []) o := by
  refine CtI.of (cc := cX3_isDaysLength) (maxL := 1) (by decide) rfl (Nat.le_of_ble_eq_true rfl) ?_
  intro p e s m args below meth c A Q H locs hx hb hml hown hts hA hK hP hD hS hret ls hl
  have hown : s.vm.findClass RX3 = some m.cls := hown
  have hl : lv_has ls 1 [(0, .int p0)] := hl
  unfold f_X3_isDaysLength at h
  refine lv_iload_n hx hb dX3_isDaysLength_0 rfl (lv_at hl 0 rfl) ?_
  refine lv_if_lt (tgt := 14) hx hb dX3_isDaysLength_1 (by decide) (fun c1 => ?_) (fun c1 => ?_)
  · replace h := it_t c1 h
    refine lv_iconst (v := 0) hx hb dX3_isDaysLength_14 (by decide) ?_
    replace h := Option.some.inj h; subst h
    exact hret () H locs _ ls hP hD hS dX3_isDaysLength_15 bz_0
  · replace h := it_f c1 h
    refine lv_iload_n hx hb dX3_isDaysLength_4 rfl (lv_at hl 0 rfl) ?_
    refine lv_bipush (v := 20) hx hb dX3_isDaysLength_5 (by decide) ?_
    refine lv_icmp_gt (tgt := 14) hx hb dX3_isDaysLength_7 (by decide) (fun c2 => ?_) (fun c2 => ?_)
    · replace h := it_t c2 h
      refine lv_iconst (v := 0) hx hb dX3_isDaysLength_14 (by decide) ?_
      replace h := Option.some.inj h; subst h
      exact hret () H locs _ ls hP hD hS dX3_isDaysLength_15 bz_0
    · replace h := it_f c2 h
      refine lv_iconst (v := 1) hx hb dX3_isDaysLength_10 (by decide) ?_
      refine lv_goto (tgt := 15) hx hb dX3_isDaysLength_11 (by decide) ?_
      replace h := Option.some.inj h; subst h
      exact hret () H locs _ ls hP hD hS dX3_isDaysLength_15 bz_1
set_option maxHeartbeats 4000000 in
set_option maxRecDepth 100000 in
theorem c_X3_isQuestion (l : Launch) (dC : Nat → ClassId) (dI : Nat → Nat → Nat) (cyI cyO : ClassId)  (sz : Nat)  (p0 : Int32) {o : Int32}  (h : f_X3_isQuestion p0 = some o) : CtI l yX3_isQuestion wsX3_isQuestion { frames := 0, cells := 0, slots := 0, locals := 0 } (dC, dI) [(cyI, .int), (cyO, .object RX0)] [.int p0] sz [] (fun (_ : Unit) => []) o := by
  refine CtI.of (cc := cX3_isQuestion) (maxL := 1) (by decide) rfl (Nat.le_of_ble_eq_true rfl) ?_
  intro p e s m args below meth c A Q H locs hx hb hml hown hts hA hK hP hD hS hret ls hl
  have hown : s.vm.findClass RX3 = some m.cls := hown
  have hl : lv_has ls 1 [(0, .int p0)] := hl
  unfold f_X3_isQuestion at h
  refine lv_iload_n hx hb dX3_isQuestion_0 rfl (lv_at hl 0 rfl) ?_
  refine lv_if_lt (tgt := 9) hx hb dX3_isQuestion_1 (by decide) (fun c1 => ?_) (fun c1 => ?_)
  · replace h := it_t c1 h
    refine lv_iload_n hx hb dX3_isQuestion_9 rfl (lv_at hl 0 rfl) ?_
    refine lv_bipush (v := 10) hx hb dX3_isQuestion_10 (by decide) ?_
    refine lv_icmp_lt (tgt := 21) hx hb dX3_isQuestion_12 (by decide) (fun c2 => ?_) (fun c2 => ?_)
    · replace h := it_t c2 h
      refine lv_iload_n hx hb dX3_isQuestion_21 rfl (lv_at hl 0 rfl) ?_
      refine lv_bipush (v := 20) hx hb dX3_isQuestion_22 (by decide) ?_
      refine lv_icmp_lt (tgt := 37) hx hb dX3_isQuestion_24 (by decide) (fun c3 => ?_) (fun c3 => ?_)
      · replace h := it_t c3 h
        refine lv_iconst (v := 0) hx hb dX3_isQuestion_37 (by decide) ?_
        replace h := Option.some.inj h; subst h
        exact hret () H locs _ ls hP hD hS dX3_isQuestion_38 bz_0
      · replace h := it_f c3 h
        refine lv_iload_n hx hb dX3_isQuestion_27 rfl (lv_at hl 0 rfl) ?_
        refine lv_bipush (v := 24) hx hb dX3_isQuestion_28 (by decide) ?_
        refine lv_icmp_ge (tgt := 37) hx hb dX3_isQuestion_30 (by decide) (fun c4 => ?_) (fun c4 => ?_)
        · replace h := it_t c4 h
          refine lv_iconst (v := 0) hx hb dX3_isQuestion_37 (by decide) ?_
          replace h := Option.some.inj h; subst h
          exact hret () H locs _ ls hP hD hS dX3_isQuestion_38 bz_0
        · replace h := it_f c4 h
          refine lv_iconst (v := 1) hx hb dX3_isQuestion_33 (by decide) ?_
          refine lv_goto (tgt := 38) hx hb dX3_isQuestion_34 (by decide) ?_
          replace h := Option.some.inj h; subst h
          exact hret () H locs _ ls hP hD hS dX3_isQuestion_38 bz_1
    · replace h := it_f c2 h
      refine lv_iload_n hx hb dX3_isQuestion_15 rfl (lv_at hl 0 rfl) ?_
      refine lv_bipush (v := 14) hx hb dX3_isQuestion_16 (by decide) ?_
      refine lv_icmp_lt (tgt := 33) hx hb dX3_isQuestion_18 (by decide) (fun c5 => ?_) (fun c5 => ?_)
      · replace h := it_t c5 h
        refine lv_iconst (v := 1) hx hb dX3_isQuestion_33 (by decide) ?_
        refine lv_goto (tgt := 38) hx hb dX3_isQuestion_34 (by decide) ?_
        replace h := Option.some.inj h; subst h
        exact hret () H locs _ ls hP hD hS dX3_isQuestion_38 bz_1
      · replace h := it_f c5 h
        refine lv_iload_n hx hb dX3_isQuestion_21 rfl (lv_at hl 0 rfl) ?_
        refine lv_bipush (v := 20) hx hb dX3_isQuestion_22 (by decide) ?_
        refine lv_icmp_lt (tgt := 37) hx hb dX3_isQuestion_24 (by decide) (fun c6 => ?_) (fun c6 => ?_)
        · replace h := it_t c6 h
          refine lv_iconst (v := 0) hx hb dX3_isQuestion_37 (by decide) ?_
          replace h := Option.some.inj h; subst h
          exact hret () H locs _ ls hP hD hS dX3_isQuestion_38 bz_0
        · replace h := it_f c6 h
          refine lv_iload_n hx hb dX3_isQuestion_27 rfl (lv_at hl 0 rfl) ?_
          refine lv_bipush (v := 24) hx hb dX3_isQuestion_28 (by decide) ?_
          refine lv_icmp_ge (tgt := 37) hx hb dX3_isQuestion_30 (by decide) (fun c7 => ?_) (fun c7 => ?_)
          · replace h := it_t c7 h
            refine lv_iconst (v := 0) hx hb dX3_isQuestion_37 (by decide) ?_
            replace h := Option.some.inj h; subst h
            exact hret () H locs _ ls hP hD hS dX3_isQuestion_38 bz_0
          · replace h := it_f c7 h
            refine lv_iconst (v := 1) hx hb dX3_isQuestion_33 (by decide) ?_
            refine lv_goto (tgt := 38) hx hb dX3_isQuestion_34 (by decide) ?_
            replace h := Option.some.inj h; subst h
            exact hret () H locs _ ls hP hD hS dX3_isQuestion_38 bz_1
  · replace h := it_f c1 h
    refine lv_iload_n hx hb dX3_isQuestion_4 rfl (lv_at hl 0 rfl) ?_
    refine lv_iconst (v := 2) hx hb dX3_isQuestion_5 (by decide) ?_
    refine lv_icmp_le (tgt := 33) hx hb dX3_isQuestion_6 (by decide) (fun c8 => ?_) (fun c8 => ?_)
    · replace h := it_t c8 h
      refine lv_iconst (v := 1) hx hb dX3_isQuestion_33 (by decide) ?_
      refine lv_goto (tgt := 38) hx hb dX3_isQuestion_34 (by decide) ?_
      replace h := Option.some.inj h; subst h
      exact hret () H locs _ ls hP hD hS dX3_isQuestion_38 bz_1
    · replace h := it_f c8 h
      refine lv_iload_n hx hb dX3_isQuestion_9 rfl (lv_at hl 0 rfl) ?_
      refine lv_bipush (v := 10) hx hb dX3_isQuestion_10 (by decide) ?_
      refine lv_icmp_lt (tgt := 21) hx hb dX3_isQuestion_12 (by decide) (fun c9 => ?_) (fun c9 => ?_)
      · replace h := it_t c9 h
        refine lv_iload_n hx hb dX3_isQuestion_21 rfl (lv_at hl 0 rfl) ?_
        refine lv_bipush (v := 20) hx hb dX3_isQuestion_22 (by decide) ?_
        refine lv_icmp_lt (tgt := 37) hx hb dX3_isQuestion_24 (by decide) (fun c10 => ?_) (fun c10 => ?_)
        · replace h := it_t c10 h
          refine lv_iconst (v := 0) hx hb dX3_isQuestion_37 (by decide) ?_
          replace h := Option.some.inj h; subst h
          exact hret () H locs _ ls hP hD hS dX3_isQuestion_38 bz_0
        · replace h := it_f c10 h
          refine lv_iload_n hx hb dX3_isQuestion_27 rfl (lv_at hl 0 rfl) ?_
          refine lv_bipush (v := 24) hx hb dX3_isQuestion_28 (by decide) ?_
          refine lv_icmp_ge (tgt := 37) hx hb dX3_isQuestion_30 (by decide) (fun c11 => ?_) (fun c11 => ?_)
          · replace h := it_t c11 h
            refine lv_iconst (v := 0) hx hb dX3_isQuestion_37 (by decide) ?_
            replace h := Option.some.inj h; subst h
            exact hret () H locs _ ls hP hD hS dX3_isQuestion_38 bz_0
          · replace h := it_f c11 h
            refine lv_iconst (v := 1) hx hb dX3_isQuestion_33 (by decide) ?_
            refine lv_goto (tgt := 38) hx hb dX3_isQuestion_34 (by decide) ?_
            replace h := Option.some.inj h; subst h
            exact hret () H locs _ ls hP hD hS dX3_isQuestion_38 bz_1
      · replace h := it_f c9 h
        refine lv_iload_n hx hb dX3_isQuestion_15 rfl (lv_at hl 0 rfl) ?_
        refine lv_bipush (v := 14) hx hb dX3_isQuestion_16 (by decide) ?_
        refine lv_icmp_lt (tgt := 33) hx hb dX3_isQuestion_18 (by decide) (fun c12 => ?_) (fun c12 => ?_)
        · replace h := it_t c12 h
          refine lv_iconst (v := 1) hx hb dX3_isQuestion_33 (by decide) ?_
          refine lv_goto (tgt := 38) hx hb dX3_isQuestion_34 (by decide) ?_
          replace h := Option.some.inj h; subst h
          exact hret () H locs _ ls hP hD hS dX3_isQuestion_38 bz_1
        · replace h := it_f c12 h
          refine lv_iload_n hx hb dX3_isQuestion_21 rfl (lv_at hl 0 rfl) ?_
          refine lv_bipush (v := 20) hx hb dX3_isQuestion_22 (by decide) ?_
          refine lv_icmp_lt (tgt := 37) hx hb dX3_isQuestion_24 (by decide) (fun c13 => ?_) (fun c13 => ?_)
          · replace h := it_t c13 h
            refine lv_iconst (v := 0) hx hb dX3_isQuestion_37 (by decide) ?_
            replace h := Option.some.inj h; subst h
            exact hret () H locs _ ls hP hD hS dX3_isQuestion_38 bz_0
          · replace h := it_f c13 h
            refine lv_iload_n hx hb dX3_isQuestion_27 rfl (lv_at hl 0 rfl) ?_
            refine lv_bipush (v := 24) hx hb dX3_isQuestion_28 (by decide) ?_
            refine lv_icmp_ge (tgt := 37) hx hb dX3_isQuestion_30 (by decide) (fun c14 => ?_) (fun c14 => ?_)
            · replace h := it_t c14 h
              refine lv_iconst (v := 0) hx hb dX3_isQuestion_37 (by decide) ?_
              replace h := Option.some.inj h; subst h
              exact hret () H locs _ ls hP hD hS dX3_isQuestion_38 bz_0
            · replace h := it_f c14 h
              refine lv_iconst (v := 1) hx hb dX3_isQuestion_33 (by decide) ?_
              refine lv_goto (tgt := 38) hx hb dX3_isQuestion_34 (by decide) ?_
              replace h := Option.some.inj h; subst h
              exact hret () H locs _ ls hP hD hS dX3_isQuestion_38 bz_1
set_option maxHeartbeats 4000000 in
set_option maxRecDepth 100000 in
theorem c_X3_liveDays (l : Launch) (dC : Nat → ClassId) (dI : Nat → Nat → Nat) (cyI cyO : ClassId) (aX : Nat → Nat) (aT : Nat → Nat) (aS : Nat → Nat) (aR : Nat) (aN : Nat → Nat) (sz : Nat) (Xreadings : Int32) (Xtrail : Int32) (XlatestFault : Int32) (Tdeeds : Int32) (Tpeople : Int32) (Tcatches : Int32) (T_weightOf : Nat → Int32) (T_kindOf : Nat → Int32) (T_doneBy : Nat → Int32) (T_knownTo : Nat → Int32) (T_toldBy : Nat → Int32) (Slane : Int32) (Slength : Int32) (S_cells : Nat → Int32) (p2 : Int32) (p3 : Int32) {o : Int32 × Int32 × (Nat → Int32)}  (h : f_X3_liveDays Tdeeds Tpeople Tcatches T_weightOf T_kindOf T_doneBy T_knownTo T_toldBy S_cells p2 p3 = some o) : CtI l yX3_liveDays wsX3_liveDays { frames := 5, cells := 0, slots := 0, locals := 112 } (dC, dI) [(cyI, .int), (cyO, .object RX0)] [.ref (aX 0), .ref (aS 0), .int p2, .int p3] sz [((aX 0), .inr (3, [.ref (aX 1), .ref aR, .ref (aX 2), .ref (aX 3), .int Xreadings, .ref (aN 0), .ref (aT 0), .int Xtrail, .int XlatestFault])), ((aT 0), .inr (2, [.int Tdeeds, .int Tpeople, .int Tcatches, .ref (aT 1), .ref (aT 2), .ref (aT 3), .ref (aT 4), .ref (aT 5)])), ((aT 1), .inl (cyI, 6, .inl T_weightOf)), ((aT 2), .inl (cyI, 4, .inl T_kindOf)), ((aT 3), .inl (cyI, 4, .inl T_doneBy)), ((aT 4), .inl (cyI, 4, .inl T_knownTo)), ((aT 5), .inl (cyI, 4, .inl T_toldBy)), ((aS 0), .inr (0, [.int Slane, .int Slength, .ref (aS 1)])), ((aS 1), .inl (cyI, 60, .inl S_cells))] (fun (_ : Unit) => [((aX 0), .inr (3, [.ref (aX 1), .ref aR, .ref (aX 2), .ref (aX 3), .int Xreadings, .ref (aN 0), .ref (aT 0), .int Xtrail, .int XlatestFault])), ((aT 0), .inr (2, [.int Tdeeds, .int Tpeople, .int o.2.1, .ref (aT 1), .ref (aT 2), .ref (aT 3), .ref (aT 4), .ref (aT 5)])), ((aT 1), .inl (cyI, 6, .inl T_weightOf)), ((aT 2), .inl (cyI, 4, .inl T_kindOf)), ((aT 3), .inl (cyI, 4, .inl T_doneBy)), ((aT 4), .inl (cyI, 4, .inl T_knownTo)), ((aT 5), .inl (cyI, 4, .inl o.2.2)), ((aS 0), .inr (0, [.int Slane, .int Slength, .ref (aS 1)])), ((aS 1), .inl (cyI, 60, .inl S_cells))]) o.1 := by
  refine CtI.of (cc := cX3_liveDays) (maxL := 7) (by decide) rfl (Nat.le_of_ble_eq_true rfl) ?_
  intro p e s m args below meth c A Q H locs hx hb hml hown hts hA hK hP hD hS hret ls hl
  have hown : s.vm.findClass RX3 = some m.cls := hown
  have hl : lv_has ls 7 [(0, .ref (aX 0)), (1, .ref (aS 0)), (2, .int p2), (3, .int p3)] := hl
  unfold f_X3_liveDays at h
  have hiX0 : ∀ w ∈ u_ws RX0 TX0 3, w ∈ wsX3_liveDays := by decide +kernel
  have hiX3 : ∀ w ∈ u_ws RX3 TX3 9, w ∈ wsX3_liveDays := by decide +kernel
  have hf39 := hts (.fieldLink RX3 39 "TowerTell" "trial" "LTowerTell$Tower;") (by decide +kernel)
  have hf170 := hts (.fieldLink RX3 170 "TowerTell$Sheet" "cells" "[I") (by decide +kernel)
  have lp3 : ∀ (n : Nat) (x4 : Int32) (yTcatches : Int32) (yT_toldBy : Nat → Int32) (H : Heap) (locs : List Loc) (ls : Array Slot), l_X3_liveDays_3 Tdeeds Tpeople T_weightOf T_kindOf T_doneBy T_knownTo S_cells p2 p3 n (x4, yTcatches, yT_toldBy) = some o → va_P (dC, dI) vwCl [((aX 0), .inr (3, [.ref (aX 1), .ref aR, .ref (aX 2), .ref (aX 3), .int Xreadings, .ref (aN 0), .ref (aT 0), .int Xtrail, .int XlatestFault])), ((aT 0), .inr (2, [.int Tdeeds, .int Tpeople, .int yTcatches, .ref (aT 1), .ref (aT 2), .ref (aT 3), .ref (aT 4), .ref (aT 5)])), ((aT 1), .inl (cyI, 6, .inl T_weightOf)), ((aT 2), .inl (cyI, 4, .inl T_kindOf)), ((aT 3), .inl (cyI, 4, .inl T_doneBy)), ((aT 4), .inl (cyI, 4, .inl T_knownTo)), ((aT 5), .inl (cyI, 4, .inl yT_toldBy)), ((aS 0), .inr (0, [.int Slane, .int Slength, .ref (aS 1)])), ((aS 1), .inl (cyI, 60, .inl S_cells))] H → va_D A [((aX 0), .inr (3, [.ref (aX 1), .ref aR, .ref (aX 2), .ref (aX 3), .int Xreadings, .ref (aN 0), .ref (aT 0), .int Xtrail, .int XlatestFault])), ((aT 0), .inr (2, [.int Tdeeds, .int Tpeople, .int yTcatches, .ref (aT 1), .ref (aT 2), .ref (aT 3), .ref (aT 4), .ref (aT 5)])), ((aT 1), .inl (cyI, 6, .inl T_weightOf)), ((aT 2), .inl (cyI, 4, .inl T_kindOf)), ((aT 3), .inl (cyI, 4, .inl T_doneBy)), ((aT 4), .inl (cyI, 4, .inl T_knownTo)), ((aT 5), .inl (cyI, 4, .inl yT_toldBy)), ((aS 0), .inr (0, [.int Slane, .int Slength, .ref (aS 1)])), ((aS 1), .inl (cyI, 60, .inl S_cells))] → va_S A s.heap H locs → lv_has ls 7 [(0, .ref (aX 0)), (1, .ref (aS 0)), (2, .int p2), (3, .int p3), (4, .int x4)] → W p l e { frames := 5, cells := 0, slots := 0, locals := 112 } s m args below meth c H locs 0 0 Q (F0 m 3 ls []) := by
    intro n
    induction n with
    | zero => intro _ _ _ H locs ls h _ _ _ _; exact (lpF_0 h).elim
    | succ n ih =>
      intro x4 yTcatches yT_toldBy H locs ls h hP hD hS hl
      replace h : b_X3_liveDays_3 Tdeeds Tpeople T_weightOf T_kindOf T_doneBy T_knownTo S_cells p2 p3 (l_X3_liveDays_3 Tdeeds Tpeople T_weightOf T_kindOf T_doneBy T_knownTo S_cells p2 p3 n) x4 yTcatches yT_toldBy = some o := h
      unfold b_X3_liveDays_3 at h
      refine lv_iload hx hb dX3_liveDays_3 (lv_at hl 4 rfl) ?_
      refine lv_iload_n hx hb dX3_liveDays_5 rfl (lv_at hl 3 rfl) ?_
      refine lv_icmp_ge (tgt := 71) hx hb dX3_liveDays_6 (by decide) (fun c1 => ?_) (fun c1 => ?_)
      · replace h := it_t c1 h
        refine lv_bipush (v := (-9)) hx hb dX3_liveDays_71 (by decide) ?_
        replace h := Option.some.inj h; subst h
        exact hret () H locs _ ls hP hD hS dX3_liveDays_73 rfl
      · replace h := it_f c1 h
        refine lv_aload_n hx hb dX3_liveDays_9 rfl (lv_at hl 1 rfl) ?_
        refine va_get (D := (dC, dI)) (ci := 0) (v := .ref (aS 1)) (C := RX0) (T := TX0) (N := 3) hx hb hts hiX0 hown hK hP 7 rfl rfl 2 (by decide) hf170 (fun _ h9 => h9) rfl dX3_liveDays_10 ?_
        refine lv_iload_n hx hb dX3_liveDays_13 rfl (lv_at hl 2 rfl) ?_
        refine lv_iconst (v := 2) hx hb dX3_liveDays_14 (by decide) ?_
        refine lv_iload hx hb dX3_liveDays_15 (lv_at hl 4 rfl) ?_
        refine lv_imul hx hb dX3_liveDays_17 ?_
        refine lv_iadd hx hb dX3_liveDays_18 ?_
        obtain ⟨e2, h⟩ := it_n h
        refine va_iald hx hb hK hP 8 0 rfl rfl (ix_in e2) dX3_liveDays_19 ?_
        refine lv_istore (lv' := [(5, .int (S_cells (p2 + (2 * x4)).toNatClampNeg)), (0, .ref (aX 0)), (1, .ref (aS 0)), (2, .int p2), (3, .int p3), (4, .int x4)]) hx hb dX3_liveDays_20 hl (by decide) rfl (fun ls hl => ?_)
        refine lv_aload_n hx hb dX3_liveDays_22 rfl (lv_at hl 2 rfl) ?_
        refine va_get (D := (dC, dI)) (ci := 0) (v := .ref (aS 1)) (C := RX0) (T := TX0) (N := 3) hx hb hts hiX0 hown hK hP 7 rfl rfl 2 (by decide) hf170 (fun _ h9 => h9) rfl dX3_liveDays_23 ?_
        refine lv_iload_n hx hb dX3_liveDays_26 rfl (lv_at hl 3 rfl) ?_
        refine lv_iconst (v := 2) hx hb dX3_liveDays_27 (by decide) ?_
        refine lv_iload hx hb dX3_liveDays_28 (lv_at hl 5 rfl) ?_
        refine lv_imul hx hb dX3_liveDays_30 ?_
        refine lv_iadd hx hb dX3_liveDays_31 ?_
        refine lv_iconst (v := 1) hx hb dX3_liveDays_32 (by decide) ?_
        refine lv_iadd hx hb dX3_liveDays_33 ?_
        obtain ⟨e3, h⟩ := it_n h
        refine va_iald hx hb hK hP 8 0 rfl rfl (ix_in e3) dX3_liveDays_34 ?_
        refine lv_istore (lv' := [(6, .int (S_cells ((p2 + (2 * x4)) + 1).toNatClampNeg)), (5, .int (S_cells (p2 + (2 * x4)).toNatClampNeg)), (0, .ref (aX 0)), (1, .ref (aS 0)), (2, .int p2), (3, .int p3), (4, .int x4)]) hx hb dX3_liveDays_35 hl (by decide) rfl (fun ls hl => ?_)
        refine lv_aload_n hx hb dX3_liveDays_37 rfl (lv_at hl 2 rfl) ?_
        refine va_get (D := (dC, dI)) (ci := 3) (v := .ref (aT 0)) (C := RX3) (T := TX3) (N := 9) hx hb hts hiX3 hown hK hP 0 rfl rfl 6 (by decide) hf39 (fun _ h9 => h9) rfl dX3_liveDays_38 ?_
        refine lv_iload hx hb dX3_liveDays_41 (lv_at hl 1 rfl) ?_
        refine lv_iload hx hb dX3_liveDays_43 (lv_at hl 0 rfl) ?_
        obtain ⟨o4, hc5, h⟩ := ob h
        refine k_vi (As := [.int (S_cells (p2 + (2 * x4)).toNatClampNeg), .int (S_cells ((p2 + (2 * x4)) + 1).toNatClampNeg)]) (rest := []) ⟨hx, hb, hml, hown, hts⟩ (c_X2_hasTold l dC dI cyI cyO aT H.size Tdeeds Tpeople yTcatches yT_toldBy (S_cells (p2 + (2 * x4)).toNatClampNeg) (S_cells ((p2 + (2 * x4)) + 1).toNatClampNeg) hc5) (cwV 2 hts gX3_liveDays_X2_hasTold rfl rfl rfl (by decide +kernel) ⟨Nat.le_of_ble_eq_true rfl, Nat.le_of_ble_eq_true rfl⟩) hP hD hK hS hA [1, 6] [0, 2, 3, 4, 5, 7, 8] rfl rfl (by decide) (by decide) (by decide) 2 0 rfl rfl rfl rfl hl.1 rfl (Nat.le_of_ble_eq_true rfl) dX3_liveDays_45 ⟨Nat.zero_le _, Nat.zero_le _⟩ (fun _ H locs hP hD hS => ?_)
        have hP : va_P (dC, dI) vwCl [((aX 0), .inr (3, [.ref (aX 1), .ref aR, .ref (aX 2), .ref (aX 3), .int Xreadings, .ref (aN 0), .ref (aT 0), .int Xtrail, .int XlatestFault])), ((aT 1), .inl (cyI, 6, .inl T_weightOf)), ((aT 2), .inl (cyI, 4, .inl T_kindOf)), ((aT 3), .inl (cyI, 4, .inl T_doneBy)), ((aT 4), .inl (cyI, 4, .inl T_knownTo)), ((aS 0), .inr (0, [.int Slane, .int Slength, .ref (aS 1)])), ((aS 1), .inl (cyI, 60, .inl S_cells)), ((aT 0), .inr (2, [.int Tdeeds, .int Tpeople, .int yTcatches, .ref (aT 1), .ref (aT 2), .ref (aT 3), .ref (aT 4), .ref (aT 5)])), ((aT 5), .inl (cyI, 4, .inl yT_toldBy))] H := hP
        have hD : va_D A [((aX 0), .inr (3, [.ref (aX 1), .ref aR, .ref (aX 2), .ref (aX 3), .int Xreadings, .ref (aN 0), .ref (aT 0), .int Xtrail, .int XlatestFault])), ((aT 1), .inl (cyI, 6, .inl T_weightOf)), ((aT 2), .inl (cyI, 4, .inl T_kindOf)), ((aT 3), .inl (cyI, 4, .inl T_doneBy)), ((aT 4), .inl (cyI, 4, .inl T_knownTo)), ((aS 0), .inr (0, [.int Slane, .int Slength, .ref (aS 1)])), ((aS 1), .inl (cyI, 60, .inl S_cells)), ((aT 0), .inr (2, [.int Tdeeds, .int Tpeople, .int yTcatches, .ref (aT 1), .ref (aT 2), .ref (aT 3), .ref (aT 4), .ref (aT 5)])), ((aT 5), .inl (cyI, 4, .inl yT_toldBy))] := hD
        refine lv_if_eq (tgt := 54) hx hb dX3_liveDays_48 (by decide) (fun c6 => ?_) (fun c6 => ?_)
        · replace h := it_t c6 h
          refine lv_aload_n hx hb dX3_liveDays_54 rfl (lv_at hl 2 rfl) ?_
          refine va_get (D := (dC, dI)) (ci := 3) (v := .ref (aT 0)) (C := RX3) (T := TX3) (N := 9) hx hb hts hiX3 hown hK hP 0 rfl rfl 6 (by decide) hf39 (fun _ h9 => h9) rfl dX3_liveDays_55 ?_
          refine lv_iload hx hb dX3_liveDays_58 (lv_at hl 1 rfl) ?_
          refine lv_iload hx hb dX3_liveDays_60 (lv_at hl 0 rfl) ?_
          obtain ⟨o7, hc8, h⟩ := ob h
          refine k_vv (As := [.int (S_cells (p2 + (2 * x4)).toNatClampNeg), .int (S_cells ((p2 + (2 * x4)) + 1).toNatClampNeg)]) (rest := []) ⟨hx, hb, hml, hown, hts⟩ (c_X2_hear l dC dI cyI cyO aT H.size Tdeeds Tpeople yTcatches T_weightOf T_kindOf T_doneBy T_knownTo yT_toldBy (S_cells (p2 + (2 * x4)).toNatClampNeg) (S_cells ((p2 + (2 * x4)) + 1).toNatClampNeg) hc8) (cwV 2 hts gX3_liveDays_X2_hear rfl rfl rfl (by decide +kernel) ⟨Nat.le_of_ble_eq_true rfl, Nat.le_of_ble_eq_true rfl⟩) hP hD hK hS hA [7, 1, 2, 3, 4, 8] [0, 5, 6] rfl rfl (by decide) (by decide) (by decide) 2 0 rfl rfl rfl rfl hl.1 rfl (Nat.le_of_ble_eq_true rfl) dX3_liveDays_62 ⟨Nat.zero_le _, Nat.zero_le _⟩ (fun _ H locs hP hD hS => ?_)
          have hP : va_P (dC, dI) vwCl [((aX 0), .inr (3, [.ref (aX 1), .ref aR, .ref (aX 2), .ref (aX 3), .int Xreadings, .ref (aN 0), .ref (aT 0), .int Xtrail, .int XlatestFault])), ((aS 0), .inr (0, [.int Slane, .int Slength, .ref (aS 1)])), ((aS 1), .inl (cyI, 60, .inl S_cells)), ((aT 0), .inr (2, [.int Tdeeds, .int Tpeople, .int o7.1, .ref (aT 1), .ref (aT 2), .ref (aT 3), .ref (aT 4), .ref (aT 5)])), ((aT 1), .inl (cyI, 6, .inl T_weightOf)), ((aT 2), .inl (cyI, 4, .inl T_kindOf)), ((aT 3), .inl (cyI, 4, .inl T_doneBy)), ((aT 4), .inl (cyI, 4, .inl T_knownTo)), ((aT 5), .inl (cyI, 4, .inl o7.2))] H := hP
          have hD : va_D A [((aX 0), .inr (3, [.ref (aX 1), .ref aR, .ref (aX 2), .ref (aX 3), .int Xreadings, .ref (aN 0), .ref (aT 0), .int Xtrail, .int XlatestFault])), ((aS 0), .inr (0, [.int Slane, .int Slength, .ref (aS 1)])), ((aS 1), .inl (cyI, 60, .inl S_cells)), ((aT 0), .inr (2, [.int Tdeeds, .int Tpeople, .int o7.1, .ref (aT 1), .ref (aT 2), .ref (aT 3), .ref (aT 4), .ref (aT 5)])), ((aT 1), .inl (cyI, 6, .inl T_weightOf)), ((aT 2), .inl (cyI, 4, .inl T_kindOf)), ((aT 3), .inl (cyI, 4, .inl T_doneBy)), ((aT 4), .inl (cyI, 4, .inl T_knownTo)), ((aT 5), .inl (cyI, 4, .inl o7.2))] := hD
          refine lv_iinc (v := (x4 + 1)) (lv' := [(4, .int (x4 + 1)), (6, .int (S_cells ((p2 + (2 * x4)) + 1).toNatClampNeg)), (5, .int (S_cells (p2 + (2 * x4)).toNatClampNeg)), (0, .ref (aX 0)), (1, .ref (aS 0)), (2, .int p2), (3, .int p3)]) hx hb dX3_liveDays_65 hl (k := 6) rfl rfl (by decide) rfl (fun ls hl => ?_)
          refine lv_goto (tgt := 3) hx hb dX3_liveDays_68 (by decide) ?_
          have hP := hP.sub (ws' := [((aX 0), .inr (3, [.ref (aX 1), .ref aR, .ref (aX 2), .ref (aX 3), .int Xreadings, .ref (aN 0), .ref (aT 0), .int Xtrail, .int XlatestFault])), ((aT 0), .inr (2, [.int Tdeeds, .int Tpeople, .int o7.1, .ref (aT 1), .ref (aT 2), .ref (aT 3), .ref (aT 4), .ref (aT 5)])), ((aT 1), .inl (cyI, 6, .inl T_weightOf)), ((aT 2), .inl (cyI, 4, .inl T_kindOf)), ((aT 3), .inl (cyI, 4, .inl T_doneBy)), ((aT 4), .inl (cyI, 4, .inl T_knownTo)), ((aT 5), .inl (cyI, 4, .inl o7.2)), ((aS 0), .inr (0, [.int Slane, .int Slength, .ref (aS 1)])), ((aS 1), .inl (cyI, 60, .inl S_cells))]) [0, 3, 4, 5, 6, 7, 8, 1, 2] rfl
          have hD := hD.sub (ws' := [((aX 0), .inr (3, [.ref (aX 1), .ref aR, .ref (aX 2), .ref (aX 3), .int Xreadings, .ref (aN 0), .ref (aT 0), .int Xtrail, .int XlatestFault])), ((aT 0), .inr (2, [.int Tdeeds, .int Tpeople, .int o7.1, .ref (aT 1), .ref (aT 2), .ref (aT 3), .ref (aT 4), .ref (aT 5)])), ((aT 1), .inl (cyI, 6, .inl T_weightOf)), ((aT 2), .inl (cyI, 4, .inl T_kindOf)), ((aT 3), .inl (cyI, 4, .inl T_doneBy)), ((aT 4), .inl (cyI, 4, .inl T_knownTo)), ((aT 5), .inl (cyI, 4, .inl o7.2)), ((aS 0), .inr (0, [.int Slane, .int Slength, .ref (aS 1)])), ((aS 1), .inl (cyI, 60, .inl S_cells))]) [0, 3, 4, 5, 6, 7, 8, 1, 2] (by decide) rfl
          exact ih (x4 + 1) o7.1 o7.2 H locs ls h hP hD hS (lv_sub hl [3, 4, 5, 6, 0] rfl)
        · replace h := it_f c6 h
          refine lv_iload hx hb dX3_liveDays_51 (lv_at hl 6 rfl) ?_
          replace h := Option.some.inj h; subst h
          have hP := hP.sub (ws' := [((aX 0), .inr (3, [.ref (aX 1), .ref aR, .ref (aX 2), .ref (aX 3), .int Xreadings, .ref (aN 0), .ref (aT 0), .int Xtrail, .int XlatestFault])), ((aT 0), .inr (2, [.int Tdeeds, .int Tpeople, .int yTcatches, .ref (aT 1), .ref (aT 2), .ref (aT 3), .ref (aT 4), .ref (aT 5)])), ((aT 1), .inl (cyI, 6, .inl T_weightOf)), ((aT 2), .inl (cyI, 4, .inl T_kindOf)), ((aT 3), .inl (cyI, 4, .inl T_doneBy)), ((aT 4), .inl (cyI, 4, .inl T_knownTo)), ((aT 5), .inl (cyI, 4, .inl yT_toldBy)), ((aS 0), .inr (0, [.int Slane, .int Slength, .ref (aS 1)])), ((aS 1), .inl (cyI, 60, .inl S_cells))]) [0, 7, 1, 2, 3, 4, 8, 5, 6] rfl
          have hD := hD.sub (ws' := [((aX 0), .inr (3, [.ref (aX 1), .ref aR, .ref (aX 2), .ref (aX 3), .int Xreadings, .ref (aN 0), .ref (aT 0), .int Xtrail, .int XlatestFault])), ((aT 0), .inr (2, [.int Tdeeds, .int Tpeople, .int yTcatches, .ref (aT 1), .ref (aT 2), .ref (aT 3), .ref (aT 4), .ref (aT 5)])), ((aT 1), .inl (cyI, 6, .inl T_weightOf)), ((aT 2), .inl (cyI, 4, .inl T_kindOf)), ((aT 3), .inl (cyI, 4, .inl T_doneBy)), ((aT 4), .inl (cyI, 4, .inl T_knownTo)), ((aT 5), .inl (cyI, 4, .inl yT_toldBy)), ((aS 0), .inr (0, [.int Slane, .int Slength, .ref (aS 1)])), ((aS 1), .inl (cyI, 60, .inl S_cells))]) [0, 7, 1, 2, 3, 4, 8, 5, 6] (by decide) rfl
          exact hret () H locs _ ls hP hD hS dX3_liveDays_53 rfl
  refine lv_iconst (v := 0) hx hb dX3_liveDays_0 (by decide) ?_
  refine lv_istore (lv' := [(4, .int 0), (0, .ref (aX 0)), (1, .ref (aS 0)), (2, .int p2), (3, .int p3)]) hx hb dX3_liveDays_1 hl (by decide) rfl (fun ls hl => ?_)
  exact lp3 99 0 Tcatches T_toldBy H locs ls h hP hD hS (lv_sub hl [1, 2, 3, 4, 0] rfl)
set_option maxHeartbeats 4000000 in
set_option maxRecDepth 100000 in
theorem c_X3_stopOfDays (l : Launch) (dC : Nat → ClassId) (dI : Nat → Nat → Nat) (cyI cyO : ClassId) (aX : Nat → Nat) (aN : Nat → Nat) (aS : Nat → Nat) (aR : Nat) (aT : Nat → Nat) (sz : Nat) (Xreadings : Int32) (Xtrail : Int32) (XlatestFault : Int32) (Ndeeds : Int32) (Npeople : Int32) (Ncatches : Int32) (Slane : Int32) (Slength : Int32) (S_cells : Nat → Int32) (p2 : Int32) (p3 : Int32) (p4 : Int32) {o : Int32 × Int32}  (h : f_X3_stopOfDays XlatestFault Ndeeds Npeople Slane Slength S_cells p2 p3 p4 = some o) : CtI l yX3_stopOfDays wsX3_stopOfDays { frames := 2, cells := 0, slots := 0, locals := 45 } (dC, dI) [(cyI, .int), (cyO, .object RX0)] [.ref (aX 0), .ref (aS 0), .int p2, .int p3, .int p4] sz [((aX 0), .inr (3, [.ref (aX 1), .ref aR, .ref (aX 2), .ref (aX 3), .int Xreadings, .ref (aN 0), .ref (aT 0), .int Xtrail, .int XlatestFault])), ((aN 0), .inr (2, [.int Ndeeds, .int Npeople, .int Ncatches, .ref (aN 1), .ref (aN 2), .ref (aN 3), .ref (aN 4), .ref (aN 5)])), ((aS 0), .inr (0, [.int Slane, .int Slength, .ref (aS 1)])), ((aS 1), .inl (cyI, 60, .inl S_cells))] (fun (_ : Unit) => [((aX 0), .inr (3, [.ref (aX 1), .ref aR, .ref (aX 2), .ref (aX 3), .int Xreadings, .ref (aN 0), .ref (aT 0), .int Xtrail, .int o.2])), ((aN 0), .inr (2, [.int Ndeeds, .int Npeople, .int Ncatches, .ref (aN 1), .ref (aN 2), .ref (aN 3), .ref (aN 4), .ref (aN 5)])), ((aS 0), .inr (0, [.int Slane, .int Slength, .ref (aS 1)])), ((aS 1), .inl (cyI, 60, .inl S_cells))]) o.1 := by
  refine CtI.of (cc := cX3_stopOfDays) (maxL := 7) (by decide) rfl (Nat.le_of_ble_eq_true rfl) ?_
  intro p e s m args below meth c A Q H locs hx hb hml hown hts hA hK hP hD hS hret ls hl
  have hown : s.vm.findClass RX3 = some m.cls := hown
  have hl : lv_has ls 7 [(0, .ref (aX 0)), (1, .ref (aS 0)), (2, .int p2), (3, .int p3), (4, .int p4)] := hl
  unfold f_X3_stopOfDays at h
  have hiX0 : ∀ w ∈ u_ws RX0 TX0 3, w ∈ wsX3_stopOfDays := by decide +kernel
  have hiX2 : ∀ w ∈ u_ws RX2 TX2 8, w ∈ wsX3_stopOfDays := by decide +kernel
  have hiX3 : ∀ w ∈ u_ws RX3 TX3 9, w ∈ wsX3_stopOfDays := by decide +kernel
  have hf35 := hts (.fieldLink RX3 35 "TowerTell" "now" "LTowerTell$Tower;") (by decide +kernel)
  have hf68 := hts (.fieldLink RX3 68 "TowerTell$Tower" "people" "I") (by decide +kernel)
  have hf170 := hts (.fieldLink RX3 170 "TowerTell$Sheet" "cells" "[I") (by decide +kernel)
  have lp40 : ∀ (n : Nat) (x6 : Int32) (yXlatestFault : Int32) (H : Heap) (locs : List Loc) (ls : Array Slot), l_X3_stopOfDays_40 Ndeeds Npeople Slane Slength S_cells p2 p3 p4 n (x6, yXlatestFault) = some o → va_P (dC, dI) vwCl [((aX 0), .inr (3, [.ref (aX 1), .ref aR, .ref (aX 2), .ref (aX 3), .int Xreadings, .ref (aN 0), .ref (aT 0), .int Xtrail, .int yXlatestFault])), ((aN 0), .inr (2, [.int Ndeeds, .int Npeople, .int Ncatches, .ref (aN 1), .ref (aN 2), .ref (aN 3), .ref (aN 4), .ref (aN 5)])), ((aS 0), .inr (0, [.int Slane, .int Slength, .ref (aS 1)])), ((aS 1), .inl (cyI, 60, .inl S_cells))] H → va_D A [((aX 0), .inr (3, [.ref (aX 1), .ref aR, .ref (aX 2), .ref (aX 3), .int Xreadings, .ref (aN 0), .ref (aT 0), .int Xtrail, .int yXlatestFault])), ((aN 0), .inr (2, [.int Ndeeds, .int Npeople, .int Ncatches, .ref (aN 1), .ref (aN 2), .ref (aN 3), .ref (aN 4), .ref (aN 5)])), ((aS 0), .inr (0, [.int Slane, .int Slength, .ref (aS 1)])), ((aS 1), .inl (cyI, 60, .inl S_cells))] → va_S A s.heap H locs → lv_has ls 7 [(0, .ref (aX 0)), (1, .ref (aS 0)), (3, .int p3), (4, .int p4), (6, .int x6)] → W p l e { frames := 2, cells := 0, slots := 0, locals := 45 } s m args below meth c H locs 0 0 Q (F0 m 40 ls []) := by
    intro n
    induction n with
    | zero => intro _ _ H locs ls h _ _ _ _; exact (lpF_0 h).elim
    | succ n ih =>
      intro x6 yXlatestFault H locs ls h hP hD hS hl
      replace h : b_X3_stopOfDays_40 Ndeeds Npeople Slane Slength S_cells p2 p3 p4 (l_X3_stopOfDays_40 Ndeeds Npeople Slane Slength S_cells p2 p3 p4 n) x6 yXlatestFault = some o := h
      unfold b_X3_stopOfDays_40 at h
      refine lv_iload hx hb dX3_stopOfDays_40 (lv_at hl 4 rfl) ?_
      refine lv_iload_n hx hb dX3_stopOfDays_42 rfl (lv_at hl 2 rfl) ?_
      refine lv_iconst (v := 2) hx hb dX3_stopOfDays_43 (by decide) ?_
      refine lv_iload hx hb dX3_stopOfDays_44 (lv_at hl 3 rfl) ?_
      refine lv_imul hx hb dX3_stopOfDays_46 ?_
      refine lv_iadd hx hb dX3_stopOfDays_47 ?_
      refine lv_icmp_ge (tgt := 95) hx hb dX3_stopOfDays_48 (by decide) (fun c5 => ?_) (fun c5 => ?_)
      · replace h := it_t c5 h
        refine lv_iconst (v := 0) hx hb dX3_stopOfDays_95 (by decide) ?_
        replace h := Option.some.inj h; subst h
        exact hret () H locs _ ls hP hD hS dX3_stopOfDays_96 rfl
      · replace h := it_f c5 h
        refine lv_aload_n hx hb dX3_stopOfDays_51 rfl (lv_at hl 0 rfl) ?_
        refine va_get (D := (dC, dI)) (ci := 3) (v := .ref (aN 0)) (C := RX3) (T := TX3) (N := 9) hx hb hts hiX3 hown hK hP 0 rfl rfl 5 (by decide) hf35 (fun _ h9 => h9) rfl dX3_stopOfDays_52 ?_
        refine lv_aload_n hx hb dX3_stopOfDays_55 rfl (lv_at hl 1 rfl) ?_
        refine va_get (D := (dC, dI)) (ci := 0) (v := .ref (aS 1)) (C := RX0) (T := TX0) (N := 3) hx hb hts hiX0 hown hK hP 2 rfl rfl 2 (by decide) hf170 (fun _ h9 => h9) rfl dX3_stopOfDays_56 ?_
        refine lv_iload hx hb dX3_stopOfDays_59 (lv_at hl 4 rfl) ?_
        obtain ⟨e6, h⟩ := it_n h
        refine va_iald hx hb hK hP 3 0 rfl rfl (ix_in e6) dX3_stopOfDays_61 ?_
        obtain ⟨o7, hc8, h⟩ := ob h
        refine k_vi (As := [.int (S_cells x6.toNatClampNeg)]) (rest := []) ⟨hx, hb, hml, hown, hts⟩ (c_X2_isPerson l dC dI cyI cyO aN H.size Ndeeds Npeople Ncatches (S_cells x6.toNatClampNeg) hc8) (cwV 1 hts gX3_stopOfDays_X2_isPerson rfl rfl rfl (by decide +kernel) ⟨Nat.le_of_ble_eq_true rfl, Nat.le_of_ble_eq_true rfl⟩) hP hD hK hS hA [1] [0, 2, 3] rfl rfl (by decide) (by decide) (by decide) 2 0 rfl rfl rfl rfl hl.1 rfl (Nat.le_of_ble_eq_true rfl) dX3_stopOfDays_62 ⟨Nat.zero_le _, Nat.zero_le _⟩ (fun _ H locs hP hD hS => ?_)
        have hP : va_P (dC, dI) vwCl [((aX 0), .inr (3, [.ref (aX 1), .ref aR, .ref (aX 2), .ref (aX 3), .int Xreadings, .ref (aN 0), .ref (aT 0), .int Xtrail, .int yXlatestFault])), ((aS 0), .inr (0, [.int Slane, .int Slength, .ref (aS 1)])), ((aS 1), .inl (cyI, 60, .inl S_cells)), ((aN 0), .inr (2, [.int Ndeeds, .int Npeople, .int Ncatches, .ref (aN 1), .ref (aN 2), .ref (aN 3), .ref (aN 4), .ref (aN 5)]))] H := hP
        have hD : va_D A [((aX 0), .inr (3, [.ref (aX 1), .ref aR, .ref (aX 2), .ref (aX 3), .int Xreadings, .ref (aN 0), .ref (aT 0), .int Xtrail, .int yXlatestFault])), ((aS 0), .inr (0, [.int Slane, .int Slength, .ref (aS 1)])), ((aS 1), .inl (cyI, 60, .inl S_cells)), ((aN 0), .inr (2, [.int Ndeeds, .int Npeople, .int Ncatches, .ref (aN 1), .ref (aN 2), .ref (aN 3), .ref (aN 4), .ref (aN 5)]))] := hD
        refine lv_if_eq (tgt := 87) hx hb dX3_stopOfDays_65 (by decide) (fun c9 => ?_) (fun c9 => ?_)
        · replace h := it_t c9 h
          refine lv_iconst (v := (-1)) hx hb dX3_stopOfDays_87 (by decide) ?_
          replace h := Option.some.inj h; subst h
          have hP := hP.sub (ws' := [((aX 0), .inr (3, [.ref (aX 1), .ref aR, .ref (aX 2), .ref (aX 3), .int Xreadings, .ref (aN 0), .ref (aT 0), .int Xtrail, .int yXlatestFault])), ((aN 0), .inr (2, [.int Ndeeds, .int Npeople, .int Ncatches, .ref (aN 1), .ref (aN 2), .ref (aN 3), .ref (aN 4), .ref (aN 5)])), ((aS 0), .inr (0, [.int Slane, .int Slength, .ref (aS 1)])), ((aS 1), .inl (cyI, 60, .inl S_cells))]) [0, 3, 1, 2] rfl
          have hD := hD.sub (ws' := [((aX 0), .inr (3, [.ref (aX 1), .ref aR, .ref (aX 2), .ref (aX 3), .int Xreadings, .ref (aN 0), .ref (aT 0), .int Xtrail, .int yXlatestFault])), ((aN 0), .inr (2, [.int Ndeeds, .int Npeople, .int Ncatches, .ref (aN 1), .ref (aN 2), .ref (aN 3), .ref (aN 4), .ref (aN 5)])), ((aS 0), .inr (0, [.int Slane, .int Slength, .ref (aS 1)])), ((aS 1), .inl (cyI, 60, .inl S_cells))]) [0, 3, 1, 2] (by decide) rfl
          exact hret () H locs _ ls hP hD hS dX3_stopOfDays_88 rfl
        · replace h := it_f c9 h
          refine lv_aload_n hx hb dX3_stopOfDays_68 rfl (lv_at hl 0 rfl) ?_
          refine va_get (D := (dC, dI)) (ci := 3) (v := .ref (aN 0)) (C := RX3) (T := TX3) (N := 9) hx hb hts hiX3 hown hK hP 0 rfl rfl 5 (by decide) hf35 (fun _ h9 => h9) rfl dX3_stopOfDays_69 ?_
          refine lv_aload_n hx hb dX3_stopOfDays_72 rfl (lv_at hl 1 rfl) ?_
          refine va_get (D := (dC, dI)) (ci := 0) (v := .ref (aS 1)) (C := RX0) (T := TX0) (N := 3) hx hb hts hiX0 hown hK hP 1 rfl rfl 2 (by decide) hf170 (fun _ h9 => h9) rfl dX3_stopOfDays_73 ?_
          refine lv_iload hx hb dX3_stopOfDays_76 (lv_at hl 4 rfl) ?_
          refine lv_iconst (v := 1) hx hb dX3_stopOfDays_78 (by decide) ?_
          refine lv_iadd hx hb dX3_stopOfDays_79 ?_
          obtain ⟨e10, h⟩ := it_n h
          refine va_iald hx hb hK hP 2 0 rfl rfl (ix_in e10) dX3_stopOfDays_80 ?_
          obtain ⟨o11, hc12, h⟩ := ob h
          refine k_vi (As := [.int (S_cells (x6 + 1).toNatClampNeg)]) (rest := []) ⟨hx, hb, hml, hown, hts⟩ (c_X2_isDeed l dC dI cyI cyO aN H.size Ndeeds Npeople Ncatches (S_cells (x6 + 1).toNatClampNeg) hc12) (cwV 1 hts gX3_stopOfDays_X2_isDeed rfl rfl rfl (by decide +kernel) ⟨Nat.le_of_ble_eq_true rfl, Nat.le_of_ble_eq_true rfl⟩) hP hD hK hS hA [3] [0, 1, 2] rfl rfl (by decide) (by decide) (by decide) 2 0 rfl rfl rfl rfl hl.1 rfl (Nat.le_of_ble_eq_true rfl) dX3_stopOfDays_81 ⟨Nat.zero_le _, Nat.zero_le _⟩ (fun _ H locs hP hD hS => ?_)
          have hP : va_P (dC, dI) vwCl [((aX 0), .inr (3, [.ref (aX 1), .ref aR, .ref (aX 2), .ref (aX 3), .int Xreadings, .ref (aN 0), .ref (aT 0), .int Xtrail, .int yXlatestFault])), ((aS 0), .inr (0, [.int Slane, .int Slength, .ref (aS 1)])), ((aS 1), .inl (cyI, 60, .inl S_cells)), ((aN 0), .inr (2, [.int Ndeeds, .int Npeople, .int Ncatches, .ref (aN 1), .ref (aN 2), .ref (aN 3), .ref (aN 4), .ref (aN 5)]))] H := hP
          have hD : va_D A [((aX 0), .inr (3, [.ref (aX 1), .ref aR, .ref (aX 2), .ref (aX 3), .int Xreadings, .ref (aN 0), .ref (aT 0), .int Xtrail, .int yXlatestFault])), ((aS 0), .inr (0, [.int Slane, .int Slength, .ref (aS 1)])), ((aS 1), .inl (cyI, 60, .inl S_cells)), ((aN 0), .inr (2, [.int Ndeeds, .int Npeople, .int Ncatches, .ref (aN 1), .ref (aN 2), .ref (aN 3), .ref (aN 4), .ref (aN 5)]))] := hD
          refine lv_if_ne (tgt := 89) hx hb dX3_stopOfDays_84 (by decide) (fun c13 => ?_) (fun c13 => ?_)
          · replace h := it_f c13 h
            refine lv_iinc (v := (x6 + 2)) (lv' := [(6, .int (x6 + 2)), (0, .ref (aX 0)), (1, .ref (aS 0)), (3, .int p3), (4, .int p4)]) hx hb dX3_stopOfDays_89 hl (k := 4) rfl rfl (by decide) rfl (fun ls hl => ?_)
            refine lv_goto (tgt := 40) hx hb dX3_stopOfDays_92 (by decide) ?_
            have hP := hP.sub (ws' := [((aX 0), .inr (3, [.ref (aX 1), .ref aR, .ref (aX 2), .ref (aX 3), .int Xreadings, .ref (aN 0), .ref (aT 0), .int Xtrail, .int yXlatestFault])), ((aN 0), .inr (2, [.int Ndeeds, .int Npeople, .int Ncatches, .ref (aN 1), .ref (aN 2), .ref (aN 3), .ref (aN 4), .ref (aN 5)])), ((aS 0), .inr (0, [.int Slane, .int Slength, .ref (aS 1)])), ((aS 1), .inl (cyI, 60, .inl S_cells))]) [0, 3, 1, 2] rfl
            have hD := hD.sub (ws' := [((aX 0), .inr (3, [.ref (aX 1), .ref aR, .ref (aX 2), .ref (aX 3), .int Xreadings, .ref (aN 0), .ref (aT 0), .int Xtrail, .int yXlatestFault])), ((aN 0), .inr (2, [.int Ndeeds, .int Npeople, .int Ncatches, .ref (aN 1), .ref (aN 2), .ref (aN 3), .ref (aN 4), .ref (aN 5)])), ((aS 0), .inr (0, [.int Slane, .int Slength, .ref (aS 1)])), ((aS 1), .inl (cyI, 60, .inl S_cells))]) [0, 3, 1, 2] (by decide) rfl
            exact ih (x6 + 2) yXlatestFault H locs ls h hP hD hS (lv_sub hl [1, 2, 3, 4, 0] rfl)
          · replace h := it_t c13 h
            refine lv_iconst (v := (-1)) hx hb dX3_stopOfDays_87 (by decide) ?_
            replace h := Option.some.inj h; subst h
            have hP := hP.sub (ws' := [((aX 0), .inr (3, [.ref (aX 1), .ref aR, .ref (aX 2), .ref (aX 3), .int Xreadings, .ref (aN 0), .ref (aT 0), .int Xtrail, .int yXlatestFault])), ((aN 0), .inr (2, [.int Ndeeds, .int Npeople, .int Ncatches, .ref (aN 1), .ref (aN 2), .ref (aN 3), .ref (aN 4), .ref (aN 5)])), ((aS 0), .inr (0, [.int Slane, .int Slength, .ref (aS 1)])), ((aS 1), .inl (cyI, 60, .inl S_cells))]) [0, 3, 1, 2] rfl
            have hD := hD.sub (ws' := [((aX 0), .inr (3, [.ref (aX 1), .ref aR, .ref (aX 2), .ref (aX 3), .int Xreadings, .ref (aN 0), .ref (aT 0), .int Xtrail, .int yXlatestFault])), ((aN 0), .inr (2, [.int Ndeeds, .int Npeople, .int Ncatches, .ref (aN 1), .ref (aN 2), .ref (aN 3), .ref (aN 4), .ref (aN 5)])), ((aS 0), .inr (0, [.int Slane, .int Slength, .ref (aS 1)])), ((aS 1), .inl (cyI, 60, .inl S_cells))]) [0, 3, 1, 2] (by decide) rfl
            exact hret () H locs _ ls hP hD hS dX3_stopOfDays_88 rfl
  refine lv_aload_n hx hb dX3_stopOfDays_0 rfl (lv_at hl 1 rfl) ?_
  refine lv_iload_n hx hb dX3_stopOfDays_1 rfl (lv_at hl 2 rfl) ?_
  refine lv_iload_n hx hb dX3_stopOfDays_2 rfl (lv_at hl 3 rfl) ?_
  refine lv_iconst (v := 2) hx hb dX3_stopOfDays_3 (by decide) ?_
  refine lv_iload hx hb dX3_stopOfDays_4 (lv_at hl 4 rfl) ?_
  refine lv_imul hx hb dX3_stopOfDays_6 ?_
  obtain ⟨o1, hc2, h⟩ := ob h
  refine k_vi (As := [.int p2, .int p3, .int (2 * p4)]) (rest := []) ⟨hx, hb, hml, hown, hts⟩ (c_X0_faultOf l dC dI cyI cyO aS H.size Slane Slength p2 p3 (2 * p4) hc2) (cwV 3 hts gX3_stopOfDays_X0_faultOf rfl rfl rfl (by decide +kernel) ⟨Nat.le_of_ble_eq_true rfl, Nat.le_of_ble_eq_true rfl⟩) hP hD hK hS hA [2] [0, 1, 3] rfl rfl (by decide) (by decide) (by decide) 0 0 rfl rfl rfl rfl hl.1 rfl (Nat.le_of_ble_eq_true rfl) dX3_stopOfDays_7 ⟨Nat.zero_le _, Nat.zero_le _⟩ (fun _ H locs hP hD hS => ?_)
  have hP : va_P (dC, dI) vwCl [((aX 0), .inr (3, [.ref (aX 1), .ref aR, .ref (aX 2), .ref (aX 3), .int Xreadings, .ref (aN 0), .ref (aT 0), .int Xtrail, .int XlatestFault])), ((aN 0), .inr (2, [.int Ndeeds, .int Npeople, .int Ncatches, .ref (aN 1), .ref (aN 2), .ref (aN 3), .ref (aN 4), .ref (aN 5)])), ((aS 1), .inl (cyI, 60, .inl S_cells)), ((aS 0), .inr (0, [.int Slane, .int Slength, .ref (aS 1)]))] H := hP
  have hD : va_D A [((aX 0), .inr (3, [.ref (aX 1), .ref aR, .ref (aX 2), .ref (aX 3), .int Xreadings, .ref (aN 0), .ref (aT 0), .int Xtrail, .int XlatestFault])), ((aN 0), .inr (2, [.int Ndeeds, .int Npeople, .int Ncatches, .ref (aN 1), .ref (aN 2), .ref (aN 3), .ref (aN 4), .ref (aN 5)])), ((aS 1), .inl (cyI, 60, .inl S_cells)), ((aS 0), .inr (0, [.int Slane, .int Slength, .ref (aS 1)]))] := hD
  refine lv_istore (lv' := [(5, .int o1), (0, .ref (aX 0)), (1, .ref (aS 0)), (2, .int p2), (3, .int p3), (4, .int p4)]) hx hb dX3_stopOfDays_10 hl (by decide) rfl (fun ls hl => ?_)
  refine lv_iload hx hb dX3_stopOfDays_12 (lv_at hl 0 rfl) ?_
  refine lv_if_eq (tgt := 24) hx hb dX3_stopOfDays_14 (by decide) (fun c3 => ?_) (fun c3 => ?_)
  · replace h := it_t c3 h
    refine lv_aload_n hx hb dX3_stopOfDays_24 rfl (lv_at hl 1 rfl) ?_
    refine va_get (D := (dC, dI)) (ci := 3) (v := .ref (aN 0)) (C := RX3) (T := TX3) (N := 9) hx hb hts hiX3 hown hK hP 0 rfl rfl 5 (by decide) hf35 (fun _ h9 => h9) rfl dX3_stopOfDays_25 ?_
    refine va_get (D := (dC, dI)) (ci := 2) (v := .int Npeople) (C := RX2) (T := TX2) (N := 8) hx hb hts hiX2 hown hK hP 1 rfl rfl 1 (by decide) hf68 (fun _ h9 => h9) rfl dX3_stopOfDays_28 ?_
    refine lv_if_ne (tgt := 37) hx hb dX3_stopOfDays_31 (by decide) (fun c4 => ?_) (fun c4 => ?_)
    · replace h := it_f c4 h
      refine lv_iload_n hx hb dX3_stopOfDays_37 rfl (lv_at hl 4 rfl) ?_
      refine lv_istore (lv' := [(6, .int p3), (5, .int o1), (0, .ref (aX 0)), (1, .ref (aS 0)), (2, .int p2), (3, .int p3), (4, .int p4)]) hx hb dX3_stopOfDays_38 hl (by decide) rfl (fun ls hl => ?_)
      have hP := hP.sub (ws' := [((aX 0), .inr (3, [.ref (aX 1), .ref aR, .ref (aX 2), .ref (aX 3), .int Xreadings, .ref (aN 0), .ref (aT 0), .int Xtrail, .int XlatestFault])), ((aN 0), .inr (2, [.int Ndeeds, .int Npeople, .int Ncatches, .ref (aN 1), .ref (aN 2), .ref (aN 3), .ref (aN 4), .ref (aN 5)])), ((aS 0), .inr (0, [.int Slane, .int Slength, .ref (aS 1)])), ((aS 1), .inl (cyI, 60, .inl S_cells))]) [0, 1, 3, 2] rfl
      have hD := hD.sub (ws' := [((aX 0), .inr (3, [.ref (aX 1), .ref aR, .ref (aX 2), .ref (aX 3), .int Xreadings, .ref (aN 0), .ref (aT 0), .int Xtrail, .int XlatestFault])), ((aN 0), .inr (2, [.int Ndeeds, .int Npeople, .int Ncatches, .ref (aN 1), .ref (aN 2), .ref (aN 3), .ref (aN 4), .ref (aN 5)])), ((aS 0), .inr (0, [.int Slane, .int Slength, .ref (aS 1)])), ((aS 1), .inl (cyI, 60, .inl S_cells))]) [0, 1, 3, 2] (by decide) rfl
      exact lp40 99 p3 XlatestFault H locs ls h hP hD hS (lv_sub hl [2, 3, 5, 6, 0] rfl)
    · replace h := it_t c4 h
      refine lv_bipush (v := (-3)) hx hb dX3_stopOfDays_34 (by decide) ?_
      replace h := Option.some.inj h; subst h
      have hP := hP.sub (ws' := [((aX 0), .inr (3, [.ref (aX 1), .ref aR, .ref (aX 2), .ref (aX 3), .int Xreadings, .ref (aN 0), .ref (aT 0), .int Xtrail, .int XlatestFault])), ((aN 0), .inr (2, [.int Ndeeds, .int Npeople, .int Ncatches, .ref (aN 1), .ref (aN 2), .ref (aN 3), .ref (aN 4), .ref (aN 5)])), ((aS 0), .inr (0, [.int Slane, .int Slength, .ref (aS 1)])), ((aS 1), .inl (cyI, 60, .inl S_cells))]) [0, 1, 3, 2] rfl
      have hD := hD.sub (ws' := [((aX 0), .inr (3, [.ref (aX 1), .ref aR, .ref (aX 2), .ref (aX 3), .int Xreadings, .ref (aN 0), .ref (aT 0), .int Xtrail, .int XlatestFault])), ((aN 0), .inr (2, [.int Ndeeds, .int Npeople, .int Ncatches, .ref (aN 1), .ref (aN 2), .ref (aN 3), .ref (aN 4), .ref (aN 5)])), ((aS 0), .inr (0, [.int Slane, .int Slength, .ref (aS 1)])), ((aS 1), .inl (cyI, 60, .inl S_cells))]) [0, 1, 3, 2] (by decide) rfl
      exact hret () H locs _ ls hP hD hS dX3_stopOfDays_36 rfl
  · replace h := it_f c3 h
    refine lv_aload_n hx hb dX3_stopOfDays_17 rfl (lv_at hl 1 rfl) ?_
    refine lv_iload hx hb dX3_stopOfDays_18 (lv_at hl 0 rfl) ?_
    obtain ⟨o14, hc15, h⟩ := ob h
    refine k_vi (As := [.int o1]) (rest := []) ⟨hx, hb, hml, hown, hts⟩ (c_X3_faulted l dC dI cyI cyO aX aR aN aT H.size Xreadings Xtrail XlatestFault o1 hc15) (cwV 1 hts gX3_stopOfDays_X3_faulted rfl rfl rfl (by decide +kernel) ⟨Nat.le_of_ble_eq_true rfl, Nat.le_of_ble_eq_true rfl⟩) hP hD hK hS hA [0] [1, 2, 3] rfl rfl (by decide) (by decide) (by decide) 3 0 rfl rfl rfl rfl hl.1 rfl (Nat.le_of_ble_eq_true rfl) dX3_stopOfDays_20 ⟨Nat.zero_le _, Nat.zero_le _⟩ (fun _ H locs hP hD hS => ?_)
    have hP : va_P (dC, dI) vwCl [((aN 0), .inr (2, [.int Ndeeds, .int Npeople, .int Ncatches, .ref (aN 1), .ref (aN 2), .ref (aN 3), .ref (aN 4), .ref (aN 5)])), ((aS 1), .inl (cyI, 60, .inl S_cells)), ((aS 0), .inr (0, [.int Slane, .int Slength, .ref (aS 1)])), ((aX 0), .inr (3, [.ref (aX 1), .ref aR, .ref (aX 2), .ref (aX 3), .int Xreadings, .ref (aN 0), .ref (aT 0), .int Xtrail, .int o14.2]))] H := hP
    have hD : va_D A [((aN 0), .inr (2, [.int Ndeeds, .int Npeople, .int Ncatches, .ref (aN 1), .ref (aN 2), .ref (aN 3), .ref (aN 4), .ref (aN 5)])), ((aS 1), .inl (cyI, 60, .inl S_cells)), ((aS 0), .inr (0, [.int Slane, .int Slength, .ref (aS 1)])), ((aX 0), .inr (3, [.ref (aX 1), .ref aR, .ref (aX 2), .ref (aX 3), .int Xreadings, .ref (aN 0), .ref (aT 0), .int Xtrail, .int o14.2]))] := hD
    replace h := Option.some.inj h; subst h
    have hP := hP.sub (ws' := [((aX 0), .inr (3, [.ref (aX 1), .ref aR, .ref (aX 2), .ref (aX 3), .int Xreadings, .ref (aN 0), .ref (aT 0), .int Xtrail, .int o14.2])), ((aN 0), .inr (2, [.int Ndeeds, .int Npeople, .int Ncatches, .ref (aN 1), .ref (aN 2), .ref (aN 3), .ref (aN 4), .ref (aN 5)])), ((aS 0), .inr (0, [.int Slane, .int Slength, .ref (aS 1)])), ((aS 1), .inl (cyI, 60, .inl S_cells))]) [3, 0, 2, 1] rfl
    have hD := hD.sub (ws' := [((aX 0), .inr (3, [.ref (aX 1), .ref aR, .ref (aX 2), .ref (aX 3), .int Xreadings, .ref (aN 0), .ref (aT 0), .int Xtrail, .int o14.2])), ((aN 0), .inr (2, [.int Ndeeds, .int Npeople, .int Ncatches, .ref (aN 1), .ref (aN 2), .ref (aN 3), .ref (aN 4), .ref (aN 5)])), ((aS 0), .inr (0, [.int Slane, .int Slength, .ref (aS 1)])), ((aS 1), .inl (cyI, 60, .inl S_cells))]) [3, 0, 2, 1] (by decide) rfl
    exact hret () H locs _ ls hP hD hS dX3_stopOfDays_23 rfl
set_option maxHeartbeats 4000000 in
set_option maxRecDepth 100000 in
theorem c_X3_days (l : Launch) (dC : Nat → ClassId) (dI : Nat → Nat → Nat) (cyI cyO : ClassId) (aX : Nat → Nat) (aN : Nat → Nat) (aT : Nat → Nat) (aS : Nat → Nat) (aR : Nat) (gS : Nat → Option Nat) (sz : Nat) (Xreadings : Int32) (Xtrail : Int32) (XlatestFault : Int32) (Ndeeds : Int32) (Npeople : Int32) (Ncatches : Int32) (N_weightOf : Nat → Int32) (N_kindOf : Nat → Int32) (N_doneBy : Nat → Int32) (N_knownTo : Nat → Int32) (N_toldBy : Nat → Int32) (Tdeeds : Int32) (Tpeople : Int32) (Tcatches : Int32) (T_weightOf : Nat → Int32) (T_kindOf : Nat → Int32) (T_doneBy : Nat → Int32) (T_knownTo : Nat → Int32) (T_toldBy : Nat → Int32) (Slane : Int32) (Slength : Int32) (S_cells : Nat → Int32) (p1 : Int32) (p2 : Int32) (p3 : Int32) (p4 : Int32) (p5 : Int32) {o : Int32 × Int32 × Int32 × Int32 × Int32 × (Nat → Int32) × (Nat → Int32) × (Nat → Int32) × (Nat → Int32) × (Nat → Int32)} (hg_p1 : vp_in p1 4 → gS p1.toNatClampNeg = some (aS 0)) (h : f_X3_days XlatestFault Ndeeds Npeople N_weightOf N_kindOf N_doneBy N_knownTo N_toldBy Tdeeds Tpeople Tcatches T_weightOf T_kindOf T_doneBy T_knownTo T_toldBy Slane Slength S_cells p1 p2 p3 p4 p5 = some o) : CtI l yX3_days wsX3_days { frames := 6, cells := 0, slots := 0, locals := 138 } (dC, dI) [(cyI, .int), (cyO, .object RX0)] [.ref (aX 0), .int p1, .int p2, .int p3, .int p4, .int p5] sz [((aX 0), .inr (3, [.ref (aX 1), .ref aR, .ref (aX 2), .ref (aX 3), .int Xreadings, .ref (aN 0), .ref (aT 0), .int Xtrail, .int XlatestFault])), ((aX 1), .inl (cyO, 4, .inr (.inr (.inr (.inr gS))))), ((aN 0), .inr (2, [.int Ndeeds, .int Npeople, .int Ncatches, .ref (aN 1), .ref (aN 2), .ref (aN 3), .ref (aN 4), .ref (aN 5)])), ((aN 1), .inl (cyI, 6, .inl N_weightOf)), ((aN 2), .inl (cyI, 4, .inl N_kindOf)), ((aN 3), .inl (cyI, 4, .inl N_doneBy)), ((aN 4), .inl (cyI, 4, .inl N_knownTo)), ((aN 5), .inl (cyI, 4, .inl N_toldBy)), ((aT 0), .inr (2, [.int Tdeeds, .int Tpeople, .int Tcatches, .ref (aT 1), .ref (aT 2), .ref (aT 3), .ref (aT 4), .ref (aT 5)])), ((aT 1), .inl (cyI, 6, .inl T_weightOf)), ((aT 2), .inl (cyI, 4, .inl T_kindOf)), ((aT 3), .inl (cyI, 4, .inl T_doneBy)), ((aT 4), .inl (cyI, 4, .inl T_knownTo)), ((aT 5), .inl (cyI, 4, .inl T_toldBy)), ((aS 0), .inr (0, [.int Slane, .int Slength, .ref (aS 1)])), ((aS 1), .inl (cyI, 60, .inl S_cells))] (fun (_ : Unit) => [((aX 0), .inr (3, [.ref (aX 1), .ref aR, .ref (aX 2), .ref (aX 3), .int Xreadings, .ref (aN 0), .ref (aT 0), .int Xtrail, .int o.2.1])), ((aX 1), .inl (cyO, 4, .inr (.inr (.inr (.inr gS))))), ((aN 0), .inr (2, [.int Ndeeds, .int Npeople, .int Ncatches, .ref (aN 1), .ref (aN 2), .ref (aN 3), .ref (aN 4), .ref (aN 5)])), ((aN 1), .inl (cyI, 6, .inl N_weightOf)), ((aN 2), .inl (cyI, 4, .inl N_kindOf)), ((aN 3), .inl (cyI, 4, .inl N_doneBy)), ((aN 4), .inl (cyI, 4, .inl N_knownTo)), ((aN 5), .inl (cyI, 4, .inl N_toldBy)), ((aT 0), .inr (2, [.int o.2.2.1, .int o.2.2.2.1, .int o.2.2.2.2.1, .ref (aT 1), .ref (aT 2), .ref (aT 3), .ref (aT 4), .ref (aT 5)])), ((aT 1), .inl (cyI, 6, .inl o.2.2.2.2.2.1)), ((aT 2), .inl (cyI, 4, .inl o.2.2.2.2.2.2.1)), ((aT 3), .inl (cyI, 4, .inl o.2.2.2.2.2.2.2.1)), ((aT 4), .inl (cyI, 4, .inl o.2.2.2.2.2.2.2.2.1)), ((aT 5), .inl (cyI, 4, .inl o.2.2.2.2.2.2.2.2.2)), ((aS 0), .inr (0, [.int Slane, .int Slength, .ref (aS 1)])), ((aS 1), .inl (cyI, 60, .inl S_cells))]) o.1 := by
  refine CtI.of (cc := cX3_days) (maxL := 8) (by decide) rfl (Nat.le_of_ble_eq_true rfl) ?_
  intro p e s m args below meth c A Q H locs hx hb hml hown hts hA hK hP hD hS hret ls hl
  have hown : s.vm.findClass RX3 = some m.cls := hown
  have hl : lv_has ls 8 [(0, .ref (aX 0)), (1, .int p1), (2, .int p2), (3, .int p3), (4, .int p4), (5, .int p5)] := hl
  unfold f_X3_days at h
  have hiX3 : ∀ w ∈ u_ws RX3 TX3 9, w ∈ wsX3_days := by decide +kernel
  have hf13 := hts (.fieldLink RX3 13 "TowerTell" "sheets" "[LTowerTell$Sheet;") (by decide +kernel)
  have hf35 := hts (.fieldLink RX3 35 "TowerTell" "now" "LTowerTell$Tower;") (by decide +kernel)
  have hf39 := hts (.fieldLink RX3 39 "TowerTell" "trial" "LTowerTell$Tower;") (by decide +kernel)
  have hf42 := hts (.fieldLink RX3 42 "TowerTell" "latestFault" "I") (by decide +kernel)
  refine lv_aload_n hx hb dX3_days_0 rfl (lv_at hl 0 rfl) ?_
  refine lv_iconst (v := 0) hx hb dX3_days_1 (by decide) ?_
  refine va_put (D := (dC, dI)) (ci := 3) (v := .int 0) (ty := .int) (C := RX3) (T := TX3) (N := 9) hx hb hts hiX3 tyX3 tyX3_ok nmX3 hown hK hP hD hS 0 rfl rfl 8 (by decide) hf42 (fun _ h9 => h9) rfl (tyX3_ok 8 (by decide)) rfl rfl (Nat.le_of_ble_eq_true rfl) dX3_days_2 (fun H locs hP hD hS => ?_)
  have hP : va_P (dC, dI) vwCl [((aX 0), .inr (3, [.ref (aX 1), .ref aR, .ref (aX 2), .ref (aX 3), .int Xreadings, .ref (aN 0), .ref (aT 0), .int Xtrail, .int 0])), ((aX 1), .inl (cyO, 4, .inr (.inr (.inr (.inr gS))))), ((aN 0), .inr (2, [.int Ndeeds, .int Npeople, .int Ncatches, .ref (aN 1), .ref (aN 2), .ref (aN 3), .ref (aN 4), .ref (aN 5)])), ((aN 1), .inl (cyI, 6, .inl N_weightOf)), ((aN 2), .inl (cyI, 4, .inl N_kindOf)), ((aN 3), .inl (cyI, 4, .inl N_doneBy)), ((aN 4), .inl (cyI, 4, .inl N_knownTo)), ((aN 5), .inl (cyI, 4, .inl N_toldBy)), ((aT 0), .inr (2, [.int Tdeeds, .int Tpeople, .int Tcatches, .ref (aT 1), .ref (aT 2), .ref (aT 3), .ref (aT 4), .ref (aT 5)])), ((aT 1), .inl (cyI, 6, .inl T_weightOf)), ((aT 2), .inl (cyI, 4, .inl T_kindOf)), ((aT 3), .inl (cyI, 4, .inl T_doneBy)), ((aT 4), .inl (cyI, 4, .inl T_knownTo)), ((aT 5), .inl (cyI, 4, .inl T_toldBy)), ((aS 0), .inr (0, [.int Slane, .int Slength, .ref (aS 1)])), ((aS 1), .inl (cyI, 60, .inl S_cells))] H := hP
  have hD : va_D A [((aX 0), .inr (3, [.ref (aX 1), .ref aR, .ref (aX 2), .ref (aX 3), .int Xreadings, .ref (aN 0), .ref (aT 0), .int Xtrail, .int 0])), ((aX 1), .inl (cyO, 4, .inr (.inr (.inr (.inr gS))))), ((aN 0), .inr (2, [.int Ndeeds, .int Npeople, .int Ncatches, .ref (aN 1), .ref (aN 2), .ref (aN 3), .ref (aN 4), .ref (aN 5)])), ((aN 1), .inl (cyI, 6, .inl N_weightOf)), ((aN 2), .inl (cyI, 4, .inl N_kindOf)), ((aN 3), .inl (cyI, 4, .inl N_doneBy)), ((aN 4), .inl (cyI, 4, .inl N_knownTo)), ((aN 5), .inl (cyI, 4, .inl N_toldBy)), ((aT 0), .inr (2, [.int Tdeeds, .int Tpeople, .int Tcatches, .ref (aT 1), .ref (aT 2), .ref (aT 3), .ref (aT 4), .ref (aT 5)])), ((aT 1), .inl (cyI, 6, .inl T_weightOf)), ((aT 2), .inl (cyI, 4, .inl T_kindOf)), ((aT 3), .inl (cyI, 4, .inl T_doneBy)), ((aT 4), .inl (cyI, 4, .inl T_knownTo)), ((aT 5), .inl (cyI, 4, .inl T_toldBy)), ((aS 0), .inr (0, [.int Slane, .int Slength, .ref (aS 1)])), ((aS 1), .inl (cyI, 60, .inl S_cells))] := hD
  refine lv_iload_n hx hb dX3_days_5 rfl (lv_at hl 1 rfl) ?_
  obtain ⟨o1, hc2, h⟩ := ob h
  refine k_si (As := [.int p1]) (rest := []) ⟨hx, hb, hml, hown, hts⟩ (c_X3_isSheet l dC dI cyI cyO H.size p1 hc2) (va_cwS 1 hts gX3_days_X3_isSheet rfl rfl rfl (by decide +kernel) ⟨Nat.le_of_ble_eq_true rfl, Nat.le_of_ble_eq_true rfl⟩) hP hD hK hS hA [] [0, 1, 2, 3, 4, 5, 6, 7, 8, 9, 10, 11, 12, 13, 14, 15] rfl rfl (by decide) (by decide) (by decide) rfl hl.1 rfl (Nat.le_of_ble_eq_true rfl) dX3_days_6 ⟨Nat.zero_le _, Nat.zero_le _⟩ (fun _ H locs hP hD hS => ?_)
  have hP : va_P (dC, dI) vwCl [((aX 0), .inr (3, [.ref (aX 1), .ref aR, .ref (aX 2), .ref (aX 3), .int Xreadings, .ref (aN 0), .ref (aT 0), .int Xtrail, .int 0])), ((aX 1), .inl (cyO, 4, .inr (.inr (.inr (.inr gS))))), ((aN 0), .inr (2, [.int Ndeeds, .int Npeople, .int Ncatches, .ref (aN 1), .ref (aN 2), .ref (aN 3), .ref (aN 4), .ref (aN 5)])), ((aN 1), .inl (cyI, 6, .inl N_weightOf)), ((aN 2), .inl (cyI, 4, .inl N_kindOf)), ((aN 3), .inl (cyI, 4, .inl N_doneBy)), ((aN 4), .inl (cyI, 4, .inl N_knownTo)), ((aN 5), .inl (cyI, 4, .inl N_toldBy)), ((aT 0), .inr (2, [.int Tdeeds, .int Tpeople, .int Tcatches, .ref (aT 1), .ref (aT 2), .ref (aT 3), .ref (aT 4), .ref (aT 5)])), ((aT 1), .inl (cyI, 6, .inl T_weightOf)), ((aT 2), .inl (cyI, 4, .inl T_kindOf)), ((aT 3), .inl (cyI, 4, .inl T_doneBy)), ((aT 4), .inl (cyI, 4, .inl T_knownTo)), ((aT 5), .inl (cyI, 4, .inl T_toldBy)), ((aS 0), .inr (0, [.int Slane, .int Slength, .ref (aS 1)])), ((aS 1), .inl (cyI, 60, .inl S_cells))] H := hP
  have hD : va_D A [((aX 0), .inr (3, [.ref (aX 1), .ref aR, .ref (aX 2), .ref (aX 3), .int Xreadings, .ref (aN 0), .ref (aT 0), .int Xtrail, .int 0])), ((aX 1), .inl (cyO, 4, .inr (.inr (.inr (.inr gS))))), ((aN 0), .inr (2, [.int Ndeeds, .int Npeople, .int Ncatches, .ref (aN 1), .ref (aN 2), .ref (aN 3), .ref (aN 4), .ref (aN 5)])), ((aN 1), .inl (cyI, 6, .inl N_weightOf)), ((aN 2), .inl (cyI, 4, .inl N_kindOf)), ((aN 3), .inl (cyI, 4, .inl N_doneBy)), ((aN 4), .inl (cyI, 4, .inl N_knownTo)), ((aN 5), .inl (cyI, 4, .inl N_toldBy)), ((aT 0), .inr (2, [.int Tdeeds, .int Tpeople, .int Tcatches, .ref (aT 1), .ref (aT 2), .ref (aT 3), .ref (aT 4), .ref (aT 5)])), ((aT 1), .inl (cyI, 6, .inl T_weightOf)), ((aT 2), .inl (cyI, 4, .inl T_kindOf)), ((aT 3), .inl (cyI, 4, .inl T_doneBy)), ((aT 4), .inl (cyI, 4, .inl T_knownTo)), ((aT 5), .inl (cyI, 4, .inl T_toldBy)), ((aS 0), .inr (0, [.int Slane, .int Slength, .ref (aS 1)])), ((aS 1), .inl (cyI, 60, .inl S_cells))] := hD
  refine lv_if_ne (tgt := 14) hx hb dX3_days_9 (by decide) (fun c3 => ?_) (fun c3 => ?_)
  · replace h := it_f c3 h
    refine lv_iload_n hx hb dX3_days_14 rfl (lv_at hl 2 rfl) ?_
    obtain ⟨o4, hc5, h⟩ := ob h
    refine k_si (As := [.int p2]) (rest := []) ⟨hx, hb, hml, hown, hts⟩ (c_X3_isLane l dC dI cyI cyO H.size p2 hc5) (va_cwS 1 hts gX3_days_X3_isLane rfl rfl rfl (by decide +kernel) ⟨Nat.le_of_ble_eq_true rfl, Nat.le_of_ble_eq_true rfl⟩) hP hD hK hS hA [] [0, 1, 2, 3, 4, 5, 6, 7, 8, 9, 10, 11, 12, 13, 14, 15] rfl rfl (by decide) (by decide) (by decide) rfl hl.1 rfl (Nat.le_of_ble_eq_true rfl) dX3_days_15 ⟨Nat.zero_le _, Nat.zero_le _⟩ (fun _ H locs hP hD hS => ?_)
    have hP : va_P (dC, dI) vwCl [((aX 0), .inr (3, [.ref (aX 1), .ref aR, .ref (aX 2), .ref (aX 3), .int Xreadings, .ref (aN 0), .ref (aT 0), .int Xtrail, .int 0])), ((aX 1), .inl (cyO, 4, .inr (.inr (.inr (.inr gS))))), ((aN 0), .inr (2, [.int Ndeeds, .int Npeople, .int Ncatches, .ref (aN 1), .ref (aN 2), .ref (aN 3), .ref (aN 4), .ref (aN 5)])), ((aN 1), .inl (cyI, 6, .inl N_weightOf)), ((aN 2), .inl (cyI, 4, .inl N_kindOf)), ((aN 3), .inl (cyI, 4, .inl N_doneBy)), ((aN 4), .inl (cyI, 4, .inl N_knownTo)), ((aN 5), .inl (cyI, 4, .inl N_toldBy)), ((aT 0), .inr (2, [.int Tdeeds, .int Tpeople, .int Tcatches, .ref (aT 1), .ref (aT 2), .ref (aT 3), .ref (aT 4), .ref (aT 5)])), ((aT 1), .inl (cyI, 6, .inl T_weightOf)), ((aT 2), .inl (cyI, 4, .inl T_kindOf)), ((aT 3), .inl (cyI, 4, .inl T_doneBy)), ((aT 4), .inl (cyI, 4, .inl T_knownTo)), ((aT 5), .inl (cyI, 4, .inl T_toldBy)), ((aS 0), .inr (0, [.int Slane, .int Slength, .ref (aS 1)])), ((aS 1), .inl (cyI, 60, .inl S_cells))] H := hP
    have hD : va_D A [((aX 0), .inr (3, [.ref (aX 1), .ref aR, .ref (aX 2), .ref (aX 3), .int Xreadings, .ref (aN 0), .ref (aT 0), .int Xtrail, .int 0])), ((aX 1), .inl (cyO, 4, .inr (.inr (.inr (.inr gS))))), ((aN 0), .inr (2, [.int Ndeeds, .int Npeople, .int Ncatches, .ref (aN 1), .ref (aN 2), .ref (aN 3), .ref (aN 4), .ref (aN 5)])), ((aN 1), .inl (cyI, 6, .inl N_weightOf)), ((aN 2), .inl (cyI, 4, .inl N_kindOf)), ((aN 3), .inl (cyI, 4, .inl N_doneBy)), ((aN 4), .inl (cyI, 4, .inl N_knownTo)), ((aN 5), .inl (cyI, 4, .inl N_toldBy)), ((aT 0), .inr (2, [.int Tdeeds, .int Tpeople, .int Tcatches, .ref (aT 1), .ref (aT 2), .ref (aT 3), .ref (aT 4), .ref (aT 5)])), ((aT 1), .inl (cyI, 6, .inl T_weightOf)), ((aT 2), .inl (cyI, 4, .inl T_kindOf)), ((aT 3), .inl (cyI, 4, .inl T_doneBy)), ((aT 4), .inl (cyI, 4, .inl T_knownTo)), ((aT 5), .inl (cyI, 4, .inl T_toldBy)), ((aS 0), .inr (0, [.int Slane, .int Slength, .ref (aS 1)])), ((aS 1), .inl (cyI, 60, .inl S_cells))] := hD
    refine lv_if_eq (tgt := 37) hx hb dX3_days_18 (by decide) (fun c6 => ?_) (fun c6 => ?_)
    · replace h := it_t c6 h
      refine lv_bipush (v := (-2)) hx hb dX3_days_37 (by decide) ?_
      replace h := Option.some.inj h; subst h
      exact hret () H locs _ ls hP hD hS dX3_days_39 rfl
    · replace h := it_f c6 h
      refine lv_iload hx hb dX3_days_21 (lv_at hl 4 rfl) ?_
      obtain ⟨o7, hc8, h⟩ := ob h
      refine k_si (As := [.int p4]) (rest := []) ⟨hx, hb, hml, hown, hts⟩ (c_X3_isDaysLength l dC dI cyI cyO H.size p4 hc8) (va_cwS 1 hts gX3_days_X3_isDaysLength rfl rfl rfl (by decide +kernel) ⟨Nat.le_of_ble_eq_true rfl, Nat.le_of_ble_eq_true rfl⟩) hP hD hK hS hA [] [0, 1, 2, 3, 4, 5, 6, 7, 8, 9, 10, 11, 12, 13, 14, 15] rfl rfl (by decide) (by decide) (by decide) rfl hl.1 rfl (Nat.le_of_ble_eq_true rfl) dX3_days_23 ⟨Nat.zero_le _, Nat.zero_le _⟩ (fun _ H locs hP hD hS => ?_)
      have hP : va_P (dC, dI) vwCl [((aX 0), .inr (3, [.ref (aX 1), .ref aR, .ref (aX 2), .ref (aX 3), .int Xreadings, .ref (aN 0), .ref (aT 0), .int Xtrail, .int 0])), ((aX 1), .inl (cyO, 4, .inr (.inr (.inr (.inr gS))))), ((aN 0), .inr (2, [.int Ndeeds, .int Npeople, .int Ncatches, .ref (aN 1), .ref (aN 2), .ref (aN 3), .ref (aN 4), .ref (aN 5)])), ((aN 1), .inl (cyI, 6, .inl N_weightOf)), ((aN 2), .inl (cyI, 4, .inl N_kindOf)), ((aN 3), .inl (cyI, 4, .inl N_doneBy)), ((aN 4), .inl (cyI, 4, .inl N_knownTo)), ((aN 5), .inl (cyI, 4, .inl N_toldBy)), ((aT 0), .inr (2, [.int Tdeeds, .int Tpeople, .int Tcatches, .ref (aT 1), .ref (aT 2), .ref (aT 3), .ref (aT 4), .ref (aT 5)])), ((aT 1), .inl (cyI, 6, .inl T_weightOf)), ((aT 2), .inl (cyI, 4, .inl T_kindOf)), ((aT 3), .inl (cyI, 4, .inl T_doneBy)), ((aT 4), .inl (cyI, 4, .inl T_knownTo)), ((aT 5), .inl (cyI, 4, .inl T_toldBy)), ((aS 0), .inr (0, [.int Slane, .int Slength, .ref (aS 1)])), ((aS 1), .inl (cyI, 60, .inl S_cells))] H := hP
      have hD : va_D A [((aX 0), .inr (3, [.ref (aX 1), .ref aR, .ref (aX 2), .ref (aX 3), .int Xreadings, .ref (aN 0), .ref (aT 0), .int Xtrail, .int 0])), ((aX 1), .inl (cyO, 4, .inr (.inr (.inr (.inr gS))))), ((aN 0), .inr (2, [.int Ndeeds, .int Npeople, .int Ncatches, .ref (aN 1), .ref (aN 2), .ref (aN 3), .ref (aN 4), .ref (aN 5)])), ((aN 1), .inl (cyI, 6, .inl N_weightOf)), ((aN 2), .inl (cyI, 4, .inl N_kindOf)), ((aN 3), .inl (cyI, 4, .inl N_doneBy)), ((aN 4), .inl (cyI, 4, .inl N_knownTo)), ((aN 5), .inl (cyI, 4, .inl N_toldBy)), ((aT 0), .inr (2, [.int Tdeeds, .int Tpeople, .int Tcatches, .ref (aT 1), .ref (aT 2), .ref (aT 3), .ref (aT 4), .ref (aT 5)])), ((aT 1), .inl (cyI, 6, .inl T_weightOf)), ((aT 2), .inl (cyI, 4, .inl T_kindOf)), ((aT 3), .inl (cyI, 4, .inl T_doneBy)), ((aT 4), .inl (cyI, 4, .inl T_knownTo)), ((aT 5), .inl (cyI, 4, .inl T_toldBy)), ((aS 0), .inr (0, [.int Slane, .int Slength, .ref (aS 1)])), ((aS 1), .inl (cyI, 60, .inl S_cells))] := hD
      refine lv_if_eq (tgt := 37) hx hb dX3_days_26 (by decide) (fun c9 => ?_) (fun c9 => ?_)
      · replace h := it_t c9 h
        refine lv_bipush (v := (-2)) hx hb dX3_days_37 (by decide) ?_
        replace h := Option.some.inj h; subst h
        exact hret () H locs _ ls hP hD hS dX3_days_39 rfl
      · replace h := it_f c9 h
        refine lv_iload hx hb dX3_days_29 (lv_at hl 5 rfl) ?_
        obtain ⟨o10, hc11, h⟩ := ob h
        refine k_si (As := [.int p5]) (rest := []) ⟨hx, hb, hml, hown, hts⟩ (c_X3_isQuestion l dC dI cyI cyO H.size p5 hc11) (va_cwS 1 hts gX3_days_X3_isQuestion rfl rfl rfl (by decide +kernel) ⟨Nat.le_of_ble_eq_true rfl, Nat.le_of_ble_eq_true rfl⟩) hP hD hK hS hA [] [0, 1, 2, 3, 4, 5, 6, 7, 8, 9, 10, 11, 12, 13, 14, 15] rfl rfl (by decide) (by decide) (by decide) rfl hl.1 rfl (Nat.le_of_ble_eq_true rfl) dX3_days_31 ⟨Nat.zero_le _, Nat.zero_le _⟩ (fun _ H locs hP hD hS => ?_)
        have hP : va_P (dC, dI) vwCl [((aX 0), .inr (3, [.ref (aX 1), .ref aR, .ref (aX 2), .ref (aX 3), .int Xreadings, .ref (aN 0), .ref (aT 0), .int Xtrail, .int 0])), ((aX 1), .inl (cyO, 4, .inr (.inr (.inr (.inr gS))))), ((aN 0), .inr (2, [.int Ndeeds, .int Npeople, .int Ncatches, .ref (aN 1), .ref (aN 2), .ref (aN 3), .ref (aN 4), .ref (aN 5)])), ((aN 1), .inl (cyI, 6, .inl N_weightOf)), ((aN 2), .inl (cyI, 4, .inl N_kindOf)), ((aN 3), .inl (cyI, 4, .inl N_doneBy)), ((aN 4), .inl (cyI, 4, .inl N_knownTo)), ((aN 5), .inl (cyI, 4, .inl N_toldBy)), ((aT 0), .inr (2, [.int Tdeeds, .int Tpeople, .int Tcatches, .ref (aT 1), .ref (aT 2), .ref (aT 3), .ref (aT 4), .ref (aT 5)])), ((aT 1), .inl (cyI, 6, .inl T_weightOf)), ((aT 2), .inl (cyI, 4, .inl T_kindOf)), ((aT 3), .inl (cyI, 4, .inl T_doneBy)), ((aT 4), .inl (cyI, 4, .inl T_knownTo)), ((aT 5), .inl (cyI, 4, .inl T_toldBy)), ((aS 0), .inr (0, [.int Slane, .int Slength, .ref (aS 1)])), ((aS 1), .inl (cyI, 60, .inl S_cells))] H := hP
        have hD : va_D A [((aX 0), .inr (3, [.ref (aX 1), .ref aR, .ref (aX 2), .ref (aX 3), .int Xreadings, .ref (aN 0), .ref (aT 0), .int Xtrail, .int 0])), ((aX 1), .inl (cyO, 4, .inr (.inr (.inr (.inr gS))))), ((aN 0), .inr (2, [.int Ndeeds, .int Npeople, .int Ncatches, .ref (aN 1), .ref (aN 2), .ref (aN 3), .ref (aN 4), .ref (aN 5)])), ((aN 1), .inl (cyI, 6, .inl N_weightOf)), ((aN 2), .inl (cyI, 4, .inl N_kindOf)), ((aN 3), .inl (cyI, 4, .inl N_doneBy)), ((aN 4), .inl (cyI, 4, .inl N_knownTo)), ((aN 5), .inl (cyI, 4, .inl N_toldBy)), ((aT 0), .inr (2, [.int Tdeeds, .int Tpeople, .int Tcatches, .ref (aT 1), .ref (aT 2), .ref (aT 3), .ref (aT 4), .ref (aT 5)])), ((aT 1), .inl (cyI, 6, .inl T_weightOf)), ((aT 2), .inl (cyI, 4, .inl T_kindOf)), ((aT 3), .inl (cyI, 4, .inl T_doneBy)), ((aT 4), .inl (cyI, 4, .inl T_knownTo)), ((aT 5), .inl (cyI, 4, .inl T_toldBy)), ((aS 0), .inr (0, [.int Slane, .int Slength, .ref (aS 1)])), ((aS 1), .inl (cyI, 60, .inl S_cells))] := hD
        refine lv_if_ne (tgt := 40) hx hb dX3_days_34 (by decide) (fun c12 => ?_) (fun c12 => ?_)
        · replace h := it_f c12 h
          refine lv_aload_n hx hb dX3_days_40 rfl (lv_at hl 0 rfl) ?_
          refine lv_aload_n hx hb dX3_days_41 rfl (lv_at hl 0 rfl) ?_
          refine va_get (D := (dC, dI)) (ci := 3) (v := .ref (aX 1)) (C := RX3) (T := TX3) (N := 9) hx hb hts hiX3 hown hK hP 0 rfl rfl 0 (by decide) hf13 (fun _ h9 => h9) rfl dX3_days_42 ?_
          refine lv_iload_n hx hb dX3_days_45 rfl (lv_at hl 1 rfl) ?_
          obtain ⟨e13, h⟩ := it_n h
          refine k_ald hx hb hK hP 1 1 rfl rfl (ix_in e13) (hg_p1 (ix_in e13)) dX3_days_46 ?_
          refine lv_iload_n hx hb dX3_days_47 rfl (lv_at hl 2 rfl) ?_
          refine lv_iload_n hx hb dX3_days_48 rfl (lv_at hl 3 rfl) ?_
          refine lv_iload hx hb dX3_days_49 (lv_at hl 4 rfl) ?_
          obtain ⟨o14, hc15, h⟩ := ob h
          refine k_vi (As := [.ref (aS 0), .int p2, .int p3, .int p4]) (rest := []) ⟨hx, hb, hml, hown, hts⟩ (c_X3_stopOfDays l dC dI cyI cyO aX aN aS aR aT H.size Xreadings Xtrail 0 Ndeeds Npeople Ncatches Slane Slength S_cells p2 p3 p4 hc15) (cwV 4 hts gX3_days_X3_stopOfDays rfl rfl rfl (by decide +kernel) ⟨Nat.le_of_ble_eq_true rfl, Nat.le_of_ble_eq_true rfl⟩) hP hD hK hS hA [0, 2, 14, 15] [1, 3, 4, 5, 6, 7, 8, 9, 10, 11, 12, 13] rfl rfl (by decide) (by decide) (by decide) 3 0 rfl rfl rfl rfl hl.1 rfl (Nat.le_of_ble_eq_true rfl) dX3_days_51 ⟨Nat.zero_le _, Nat.zero_le _⟩ (fun _ H locs hP hD hS => ?_)
          have hP : va_P (dC, dI) vwCl [((aX 1), .inl (cyO, 4, .inr (.inr (.inr (.inr gS))))), ((aN 1), .inl (cyI, 6, .inl N_weightOf)), ((aN 2), .inl (cyI, 4, .inl N_kindOf)), ((aN 3), .inl (cyI, 4, .inl N_doneBy)), ((aN 4), .inl (cyI, 4, .inl N_knownTo)), ((aN 5), .inl (cyI, 4, .inl N_toldBy)), ((aT 0), .inr (2, [.int Tdeeds, .int Tpeople, .int Tcatches, .ref (aT 1), .ref (aT 2), .ref (aT 3), .ref (aT 4), .ref (aT 5)])), ((aT 1), .inl (cyI, 6, .inl T_weightOf)), ((aT 2), .inl (cyI, 4, .inl T_kindOf)), ((aT 3), .inl (cyI, 4, .inl T_doneBy)), ((aT 4), .inl (cyI, 4, .inl T_knownTo)), ((aT 5), .inl (cyI, 4, .inl T_toldBy)), ((aX 0), .inr (3, [.ref (aX 1), .ref aR, .ref (aX 2), .ref (aX 3), .int Xreadings, .ref (aN 0), .ref (aT 0), .int Xtrail, .int o14.2])), ((aN 0), .inr (2, [.int Ndeeds, .int Npeople, .int Ncatches, .ref (aN 1), .ref (aN 2), .ref (aN 3), .ref (aN 4), .ref (aN 5)])), ((aS 0), .inr (0, [.int Slane, .int Slength, .ref (aS 1)])), ((aS 1), .inl (cyI, 60, .inl S_cells))] H := hP
          have hD : va_D A [((aX 1), .inl (cyO, 4, .inr (.inr (.inr (.inr gS))))), ((aN 1), .inl (cyI, 6, .inl N_weightOf)), ((aN 2), .inl (cyI, 4, .inl N_kindOf)), ((aN 3), .inl (cyI, 4, .inl N_doneBy)), ((aN 4), .inl (cyI, 4, .inl N_knownTo)), ((aN 5), .inl (cyI, 4, .inl N_toldBy)), ((aT 0), .inr (2, [.int Tdeeds, .int Tpeople, .int Tcatches, .ref (aT 1), .ref (aT 2), .ref (aT 3), .ref (aT 4), .ref (aT 5)])), ((aT 1), .inl (cyI, 6, .inl T_weightOf)), ((aT 2), .inl (cyI, 4, .inl T_kindOf)), ((aT 3), .inl (cyI, 4, .inl T_doneBy)), ((aT 4), .inl (cyI, 4, .inl T_knownTo)), ((aT 5), .inl (cyI, 4, .inl T_toldBy)), ((aX 0), .inr (3, [.ref (aX 1), .ref aR, .ref (aX 2), .ref (aX 3), .int Xreadings, .ref (aN 0), .ref (aT 0), .int Xtrail, .int o14.2])), ((aN 0), .inr (2, [.int Ndeeds, .int Npeople, .int Ncatches, .ref (aN 1), .ref (aN 2), .ref (aN 3), .ref (aN 4), .ref (aN 5)])), ((aS 0), .inr (0, [.int Slane, .int Slength, .ref (aS 1)])), ((aS 1), .inl (cyI, 60, .inl S_cells))] := hD
          refine lv_istore (lv' := [(6, .int o14.1), (0, .ref (aX 0)), (1, .int p1), (2, .int p2), (3, .int p3), (4, .int p4), (5, .int p5)]) hx hb dX3_days_54 hl (by decide) rfl (fun ls hl => ?_)
          refine lv_iload hx hb dX3_days_56 (lv_at hl 0 rfl) ?_
          refine lv_if_eq (tgt := 64) hx hb dX3_days_58 (by decide) (fun c16 => ?_) (fun c16 => ?_)
          · replace h := it_t c16 h
            refine lv_aload_n hx hb dX3_days_64 rfl (lv_at hl 1 rfl) ?_
            refine va_get (D := (dC, dI)) (ci := 3) (v := .ref (aT 0)) (C := RX3) (T := TX3) (N := 9) hx hb hts hiX3 hown hK hP 12 rfl rfl 6 (by decide) hf39 (fun _ h9 => h9) rfl dX3_days_65 ?_
            refine lv_aload_n hx hb dX3_days_68 rfl (lv_at hl 1 rfl) ?_
            refine va_get (D := (dC, dI)) (ci := 3) (v := .ref (aN 0)) (C := RX3) (T := TX3) (N := 9) hx hb hts hiX3 hown hK hP 12 rfl rfl 5 (by decide) hf35 (fun _ h9 => h9) rfl dX3_days_69 ?_
            obtain ⟨o17, hc18, h⟩ := ob h
            refine k_vv (As := [.ref (aN 0)]) (rest := []) ⟨hx, hb, hml, hown, hts⟩ (c_X2_become l dC dI cyI cyO aT aN H.size Tdeeds Tpeople Tcatches T_weightOf T_kindOf T_doneBy T_knownTo T_toldBy Ndeeds Npeople Ncatches N_weightOf N_kindOf N_doneBy N_knownTo N_toldBy hc18) (cwV 1 hts gX3_days_X2_become rfl rfl rfl (by decide +kernel) ⟨Nat.le_of_ble_eq_true rfl, Nat.le_of_ble_eq_true rfl⟩) hP hD hK hS hA [6, 7, 8, 9, 10, 11, 13, 1, 2, 3, 4, 5] [0, 12, 14, 15] rfl rfl (by decide) (by decide) (by decide) 2 0 rfl rfl rfl rfl hl.1 rfl (Nat.le_of_ble_eq_true rfl) dX3_days_72 ⟨Nat.zero_le _, Nat.zero_le _⟩ (fun _ H locs hP hD hS => ?_)
            have hP : va_P (dC, dI) vwCl [((aX 1), .inl (cyO, 4, .inr (.inr (.inr (.inr gS))))), ((aX 0), .inr (3, [.ref (aX 1), .ref aR, .ref (aX 2), .ref (aX 3), .int Xreadings, .ref (aN 0), .ref (aT 0), .int Xtrail, .int o14.2])), ((aS 0), .inr (0, [.int Slane, .int Slength, .ref (aS 1)])), ((aS 1), .inl (cyI, 60, .inl S_cells)), ((aT 0), .inr (2, [.int o17.1, .int o17.2.1, .int o17.2.2.1, .ref (aT 1), .ref (aT 2), .ref (aT 3), .ref (aT 4), .ref (aT 5)])), ((aT 1), .inl (cyI, 6, .inl o17.2.2.2.1)), ((aT 2), .inl (cyI, 4, .inl o17.2.2.2.2.1)), ((aT 3), .inl (cyI, 4, .inl o17.2.2.2.2.2.1)), ((aT 4), .inl (cyI, 4, .inl o17.2.2.2.2.2.2.1)), ((aT 5), .inl (cyI, 4, .inl o17.2.2.2.2.2.2.2)), ((aN 0), .inr (2, [.int Ndeeds, .int Npeople, .int Ncatches, .ref (aN 1), .ref (aN 2), .ref (aN 3), .ref (aN 4), .ref (aN 5)])), ((aN 1), .inl (cyI, 6, .inl N_weightOf)), ((aN 2), .inl (cyI, 4, .inl N_kindOf)), ((aN 3), .inl (cyI, 4, .inl N_doneBy)), ((aN 4), .inl (cyI, 4, .inl N_knownTo)), ((aN 5), .inl (cyI, 4, .inl N_toldBy))] H := hP
            have hD : va_D A [((aX 1), .inl (cyO, 4, .inr (.inr (.inr (.inr gS))))), ((aX 0), .inr (3, [.ref (aX 1), .ref aR, .ref (aX 2), .ref (aX 3), .int Xreadings, .ref (aN 0), .ref (aT 0), .int Xtrail, .int o14.2])), ((aS 0), .inr (0, [.int Slane, .int Slength, .ref (aS 1)])), ((aS 1), .inl (cyI, 60, .inl S_cells)), ((aT 0), .inr (2, [.int o17.1, .int o17.2.1, .int o17.2.2.1, .ref (aT 1), .ref (aT 2), .ref (aT 3), .ref (aT 4), .ref (aT 5)])), ((aT 1), .inl (cyI, 6, .inl o17.2.2.2.1)), ((aT 2), .inl (cyI, 4, .inl o17.2.2.2.2.1)), ((aT 3), .inl (cyI, 4, .inl o17.2.2.2.2.2.1)), ((aT 4), .inl (cyI, 4, .inl o17.2.2.2.2.2.2.1)), ((aT 5), .inl (cyI, 4, .inl o17.2.2.2.2.2.2.2)), ((aN 0), .inr (2, [.int Ndeeds, .int Npeople, .int Ncatches, .ref (aN 1), .ref (aN 2), .ref (aN 3), .ref (aN 4), .ref (aN 5)])), ((aN 1), .inl (cyI, 6, .inl N_weightOf)), ((aN 2), .inl (cyI, 4, .inl N_kindOf)), ((aN 3), .inl (cyI, 4, .inl N_doneBy)), ((aN 4), .inl (cyI, 4, .inl N_knownTo)), ((aN 5), .inl (cyI, 4, .inl N_toldBy))] := hD
            refine lv_aload_n hx hb dX3_days_75 rfl (lv_at hl 1 rfl) ?_
            refine lv_aload_n hx hb dX3_days_76 rfl (lv_at hl 1 rfl) ?_
            refine va_get (D := (dC, dI)) (ci := 3) (v := .ref (aX 1)) (C := RX3) (T := TX3) (N := 9) hx hb hts hiX3 hown hK hP 1 rfl rfl 0 (by decide) hf13 (fun _ h9 => h9) rfl dX3_days_77 ?_
            refine lv_iload_n hx hb dX3_days_80 rfl (lv_at hl 2 rfl) ?_
            obtain ⟨e19, h⟩ := it_n h
            refine k_ald hx hb hK hP 0 1 rfl rfl (ix_in e19) (hg_p1 (ix_in e19)) dX3_days_81 ?_
            refine lv_iload_n hx hb dX3_days_82 rfl (lv_at hl 4 rfl) ?_
            refine lv_iload hx hb dX3_days_83 (lv_at hl 5 rfl) ?_
            obtain ⟨o20, hc21, h⟩ := ob h
            refine k_vi (As := [.ref (aS 0), .int p3, .int p4]) (rest := []) ⟨hx, hb, hml, hown, hts⟩ (c_X3_liveDays l dC dI cyI cyO aX aT aS aR aN H.size Xreadings Xtrail o14.2 o17.1 o17.2.1 o17.2.2.1 o17.2.2.2.1 o17.2.2.2.2.1 o17.2.2.2.2.2.1 o17.2.2.2.2.2.2.1 o17.2.2.2.2.2.2.2 Slane Slength S_cells p3 p4 hc21) (cwV 3 hts gX3_days_X3_liveDays rfl rfl rfl (by decide +kernel) ⟨Nat.le_of_ble_eq_true rfl, Nat.le_of_ble_eq_true rfl⟩) hP hD hK hS hA [1, 4, 5, 6, 7, 8, 9, 2, 3] [0, 10, 11, 12, 13, 14, 15] rfl rfl (by decide) (by decide) (by decide) 3 0 rfl rfl rfl rfl hl.1 rfl (Nat.le_of_ble_eq_true rfl) dX3_days_85 ⟨Nat.zero_le _, Nat.zero_le _⟩ (fun _ H locs hP hD hS => ?_)
            have hP : va_P (dC, dI) vwCl [((aX 1), .inl (cyO, 4, .inr (.inr (.inr (.inr gS))))), ((aN 0), .inr (2, [.int Ndeeds, .int Npeople, .int Ncatches, .ref (aN 1), .ref (aN 2), .ref (aN 3), .ref (aN 4), .ref (aN 5)])), ((aN 1), .inl (cyI, 6, .inl N_weightOf)), ((aN 2), .inl (cyI, 4, .inl N_kindOf)), ((aN 3), .inl (cyI, 4, .inl N_doneBy)), ((aN 4), .inl (cyI, 4, .inl N_knownTo)), ((aN 5), .inl (cyI, 4, .inl N_toldBy)), ((aX 0), .inr (3, [.ref (aX 1), .ref aR, .ref (aX 2), .ref (aX 3), .int Xreadings, .ref (aN 0), .ref (aT 0), .int Xtrail, .int o14.2])), ((aT 0), .inr (2, [.int o17.1, .int o17.2.1, .int o20.2.1, .ref (aT 1), .ref (aT 2), .ref (aT 3), .ref (aT 4), .ref (aT 5)])), ((aT 1), .inl (cyI, 6, .inl o17.2.2.2.1)), ((aT 2), .inl (cyI, 4, .inl o17.2.2.2.2.1)), ((aT 3), .inl (cyI, 4, .inl o17.2.2.2.2.2.1)), ((aT 4), .inl (cyI, 4, .inl o17.2.2.2.2.2.2.1)), ((aT 5), .inl (cyI, 4, .inl o20.2.2)), ((aS 0), .inr (0, [.int Slane, .int Slength, .ref (aS 1)])), ((aS 1), .inl (cyI, 60, .inl S_cells))] H := hP
            have hD : va_D A [((aX 1), .inl (cyO, 4, .inr (.inr (.inr (.inr gS))))), ((aN 0), .inr (2, [.int Ndeeds, .int Npeople, .int Ncatches, .ref (aN 1), .ref (aN 2), .ref (aN 3), .ref (aN 4), .ref (aN 5)])), ((aN 1), .inl (cyI, 6, .inl N_weightOf)), ((aN 2), .inl (cyI, 4, .inl N_kindOf)), ((aN 3), .inl (cyI, 4, .inl N_doneBy)), ((aN 4), .inl (cyI, 4, .inl N_knownTo)), ((aN 5), .inl (cyI, 4, .inl N_toldBy)), ((aX 0), .inr (3, [.ref (aX 1), .ref aR, .ref (aX 2), .ref (aX 3), .int Xreadings, .ref (aN 0), .ref (aT 0), .int Xtrail, .int o14.2])), ((aT 0), .inr (2, [.int o17.1, .int o17.2.1, .int o20.2.1, .ref (aT 1), .ref (aT 2), .ref (aT 3), .ref (aT 4), .ref (aT 5)])), ((aT 1), .inl (cyI, 6, .inl o17.2.2.2.1)), ((aT 2), .inl (cyI, 4, .inl o17.2.2.2.2.1)), ((aT 3), .inl (cyI, 4, .inl o17.2.2.2.2.2.1)), ((aT 4), .inl (cyI, 4, .inl o17.2.2.2.2.2.2.1)), ((aT 5), .inl (cyI, 4, .inl o20.2.2)), ((aS 0), .inr (0, [.int Slane, .int Slength, .ref (aS 1)])), ((aS 1), .inl (cyI, 60, .inl S_cells))] := hD
            refine lv_istore (lv' := [(7, .int o20.1), (6, .int o14.1), (0, .ref (aX 0)), (1, .int p1), (2, .int p2), (3, .int p3), (4, .int p4), (5, .int p5)]) hx hb dX3_days_88 hl (by decide) rfl (fun ls hl => ?_)
            refine lv_iload hx hb dX3_days_90 (lv_at hl 7 rfl) ?_
            refine lv_iconst (v := 1) hx hb dX3_days_92 (by decide) ?_
            refine lv_icmp_ne (tgt := 99) hx hb dX3_days_93 (by decide) (fun c22 => ?_) (fun c22 => ?_)
            · replace h := it_f c22 h
              refine lv_iload hx hb dX3_days_99 (lv_at hl 0 rfl) ?_
              refine lv_bipush (v := (-9)) hx hb dX3_days_101 (by decide) ?_
              refine lv_icmp_ne (tgt := 115) hx hb dX3_days_103 (by decide) (fun c23 => ?_) (fun c23 => ?_)
              · replace h := it_f c23 h
                refine lv_bipush (v := (-100)) hx hb dX3_days_115 (by decide) ?_
                refine lv_iload hx hb dX3_days_117 (lv_at hl 0 rfl) ?_
                refine lv_isub hx hb dX3_days_119 ?_
                replace h := Option.some.inj h; subst h
                have hP := hP.sub (ws' := [((aX 0), .inr (3, [.ref (aX 1), .ref aR, .ref (aX 2), .ref (aX 3), .int Xreadings, .ref (aN 0), .ref (aT 0), .int Xtrail, .int o14.2])), ((aX 1), .inl (cyO, 4, .inr (.inr (.inr (.inr gS))))), ((aN 0), .inr (2, [.int Ndeeds, .int Npeople, .int Ncatches, .ref (aN 1), .ref (aN 2), .ref (aN 3), .ref (aN 4), .ref (aN 5)])), ((aN 1), .inl (cyI, 6, .inl N_weightOf)), ((aN 2), .inl (cyI, 4, .inl N_kindOf)), ((aN 3), .inl (cyI, 4, .inl N_doneBy)), ((aN 4), .inl (cyI, 4, .inl N_knownTo)), ((aN 5), .inl (cyI, 4, .inl N_toldBy)), ((aT 0), .inr (2, [.int o17.1, .int o17.2.1, .int o20.2.1, .ref (aT 1), .ref (aT 2), .ref (aT 3), .ref (aT 4), .ref (aT 5)])), ((aT 1), .inl (cyI, 6, .inl o17.2.2.2.1)), ((aT 2), .inl (cyI, 4, .inl o17.2.2.2.2.1)), ((aT 3), .inl (cyI, 4, .inl o17.2.2.2.2.2.1)), ((aT 4), .inl (cyI, 4, .inl o17.2.2.2.2.2.2.1)), ((aT 5), .inl (cyI, 4, .inl o20.2.2)), ((aS 0), .inr (0, [.int Slane, .int Slength, .ref (aS 1)])), ((aS 1), .inl (cyI, 60, .inl S_cells))]) [7, 0, 1, 2, 3, 4, 5, 6, 8, 9, 10, 11, 12, 13, 14, 15] rfl
                have hD := hD.sub (ws' := [((aX 0), .inr (3, [.ref (aX 1), .ref aR, .ref (aX 2), .ref (aX 3), .int Xreadings, .ref (aN 0), .ref (aT 0), .int Xtrail, .int o14.2])), ((aX 1), .inl (cyO, 4, .inr (.inr (.inr (.inr gS))))), ((aN 0), .inr (2, [.int Ndeeds, .int Npeople, .int Ncatches, .ref (aN 1), .ref (aN 2), .ref (aN 3), .ref (aN 4), .ref (aN 5)])), ((aN 1), .inl (cyI, 6, .inl N_weightOf)), ((aN 2), .inl (cyI, 4, .inl N_kindOf)), ((aN 3), .inl (cyI, 4, .inl N_doneBy)), ((aN 4), .inl (cyI, 4, .inl N_knownTo)), ((aN 5), .inl (cyI, 4, .inl N_toldBy)), ((aT 0), .inr (2, [.int o17.1, .int o17.2.1, .int o20.2.1, .ref (aT 1), .ref (aT 2), .ref (aT 3), .ref (aT 4), .ref (aT 5)])), ((aT 1), .inl (cyI, 6, .inl o17.2.2.2.1)), ((aT 2), .inl (cyI, 4, .inl o17.2.2.2.2.1)), ((aT 3), .inl (cyI, 4, .inl o17.2.2.2.2.2.1)), ((aT 4), .inl (cyI, 4, .inl o17.2.2.2.2.2.2.1)), ((aT 5), .inl (cyI, 4, .inl o20.2.2)), ((aS 0), .inr (0, [.int Slane, .int Slength, .ref (aS 1)])), ((aS 1), .inl (cyI, 60, .inl S_cells))]) [7, 0, 1, 2, 3, 4, 5, 6, 8, 9, 10, 11, 12, 13, 14, 15] (by decide) rfl
                exact hret () H locs _ ls hP hD hS dX3_days_120 rfl
              · replace h := it_t c23 h
                refine lv_aload_n hx hb dX3_days_106 rfl (lv_at hl 2 rfl) ?_
                refine lv_iload hx hb dX3_days_107 (lv_at hl 7 rfl) ?_
                obtain ⟨o24, hc25, h⟩ := ob h
                refine k_vi (As := [.int p5]) (rest := []) ⟨hx, hb, hml, hown, hts⟩ (c_X3_answerOfTrial l dC dI cyI cyO aX aT aR aN H.size Xreadings Xtrail o14.2 o17.1 o17.2.1 o20.2.1 o17.2.2.2.1 o17.2.2.2.2.1 o20.2.2 p5 hc25) (cwV 1 hts gX3_days_X3_answerOfTrial rfl rfl rfl (by decide +kernel) ⟨Nat.le_of_ble_eq_true rfl, Nat.le_of_ble_eq_true rfl⟩) hP hD hK hS hA [7, 8, 9, 10, 13] [0, 1, 2, 3, 4, 5, 6, 11, 12, 14, 15] rfl rfl (by decide) (by decide) (by decide) 3 0 rfl rfl rfl rfl hl.1 rfl (Nat.le_of_ble_eq_true rfl) dX3_days_109 ⟨Nat.zero_le _, Nat.zero_le _⟩ (fun _ H locs hP hD hS => ?_)
                have hP : va_P (dC, dI) vwCl [((aX 1), .inl (cyO, 4, .inr (.inr (.inr (.inr gS))))), ((aN 0), .inr (2, [.int Ndeeds, .int Npeople, .int Ncatches, .ref (aN 1), .ref (aN 2), .ref (aN 3), .ref (aN 4), .ref (aN 5)])), ((aN 1), .inl (cyI, 6, .inl N_weightOf)), ((aN 2), .inl (cyI, 4, .inl N_kindOf)), ((aN 3), .inl (cyI, 4, .inl N_doneBy)), ((aN 4), .inl (cyI, 4, .inl N_knownTo)), ((aN 5), .inl (cyI, 4, .inl N_toldBy)), ((aT 3), .inl (cyI, 4, .inl o17.2.2.2.2.2.1)), ((aT 4), .inl (cyI, 4, .inl o17.2.2.2.2.2.2.1)), ((aS 0), .inr (0, [.int Slane, .int Slength, .ref (aS 1)])), ((aS 1), .inl (cyI, 60, .inl S_cells)), ((aX 0), .inr (3, [.ref (aX 1), .ref aR, .ref (aX 2), .ref (aX 3), .int Xreadings, .ref (aN 0), .ref (aT 0), .int Xtrail, .int o14.2])), ((aT 0), .inr (2, [.int o17.1, .int o17.2.1, .int o20.2.1, .ref (aT 1), .ref (aT 2), .ref (aT 3), .ref (aT 4), .ref (aT 5)])), ((aT 1), .inl (cyI, 6, .inl o17.2.2.2.1)), ((aT 2), .inl (cyI, 4, .inl o17.2.2.2.2.1)), ((aT 5), .inl (cyI, 4, .inl o20.2.2))] H := hP
                have hD : va_D A [((aX 1), .inl (cyO, 4, .inr (.inr (.inr (.inr gS))))), ((aN 0), .inr (2, [.int Ndeeds, .int Npeople, .int Ncatches, .ref (aN 1), .ref (aN 2), .ref (aN 3), .ref (aN 4), .ref (aN 5)])), ((aN 1), .inl (cyI, 6, .inl N_weightOf)), ((aN 2), .inl (cyI, 4, .inl N_kindOf)), ((aN 3), .inl (cyI, 4, .inl N_doneBy)), ((aN 4), .inl (cyI, 4, .inl N_knownTo)), ((aN 5), .inl (cyI, 4, .inl N_toldBy)), ((aT 3), .inl (cyI, 4, .inl o17.2.2.2.2.2.1)), ((aT 4), .inl (cyI, 4, .inl o17.2.2.2.2.2.2.1)), ((aS 0), .inr (0, [.int Slane, .int Slength, .ref (aS 1)])), ((aS 1), .inl (cyI, 60, .inl S_cells)), ((aX 0), .inr (3, [.ref (aX 1), .ref aR, .ref (aX 2), .ref (aX 3), .int Xreadings, .ref (aN 0), .ref (aT 0), .int Xtrail, .int o14.2])), ((aT 0), .inr (2, [.int o17.1, .int o17.2.1, .int o20.2.1, .ref (aT 1), .ref (aT 2), .ref (aT 3), .ref (aT 4), .ref (aT 5)])), ((aT 1), .inl (cyI, 6, .inl o17.2.2.2.1)), ((aT 2), .inl (cyI, 4, .inl o17.2.2.2.2.1)), ((aT 5), .inl (cyI, 4, .inl o20.2.2))] := hD
                refine lv_goto (tgt := 120) hx hb dX3_days_112 (by decide) ?_
                replace h := Option.some.inj h; subst h
                have hP := hP.sub (ws' := [((aX 0), .inr (3, [.ref (aX 1), .ref aR, .ref (aX 2), .ref (aX 3), .int Xreadings, .ref (aN 0), .ref (aT 0), .int Xtrail, .int o14.2])), ((aX 1), .inl (cyO, 4, .inr (.inr (.inr (.inr gS))))), ((aN 0), .inr (2, [.int Ndeeds, .int Npeople, .int Ncatches, .ref (aN 1), .ref (aN 2), .ref (aN 3), .ref (aN 4), .ref (aN 5)])), ((aN 1), .inl (cyI, 6, .inl N_weightOf)), ((aN 2), .inl (cyI, 4, .inl N_kindOf)), ((aN 3), .inl (cyI, 4, .inl N_doneBy)), ((aN 4), .inl (cyI, 4, .inl N_knownTo)), ((aN 5), .inl (cyI, 4, .inl N_toldBy)), ((aT 0), .inr (2, [.int o17.1, .int o17.2.1, .int o20.2.1, .ref (aT 1), .ref (aT 2), .ref (aT 3), .ref (aT 4), .ref (aT 5)])), ((aT 1), .inl (cyI, 6, .inl o17.2.2.2.1)), ((aT 2), .inl (cyI, 4, .inl o17.2.2.2.2.1)), ((aT 3), .inl (cyI, 4, .inl o17.2.2.2.2.2.1)), ((aT 4), .inl (cyI, 4, .inl o17.2.2.2.2.2.2.1)), ((aT 5), .inl (cyI, 4, .inl o20.2.2)), ((aS 0), .inr (0, [.int Slane, .int Slength, .ref (aS 1)])), ((aS 1), .inl (cyI, 60, .inl S_cells))]) [11, 0, 1, 2, 3, 4, 5, 6, 12, 13, 14, 7, 8, 15, 9, 10] rfl
                have hD := hD.sub (ws' := [((aX 0), .inr (3, [.ref (aX 1), .ref aR, .ref (aX 2), .ref (aX 3), .int Xreadings, .ref (aN 0), .ref (aT 0), .int Xtrail, .int o14.2])), ((aX 1), .inl (cyO, 4, .inr (.inr (.inr (.inr gS))))), ((aN 0), .inr (2, [.int Ndeeds, .int Npeople, .int Ncatches, .ref (aN 1), .ref (aN 2), .ref (aN 3), .ref (aN 4), .ref (aN 5)])), ((aN 1), .inl (cyI, 6, .inl N_weightOf)), ((aN 2), .inl (cyI, 4, .inl N_kindOf)), ((aN 3), .inl (cyI, 4, .inl N_doneBy)), ((aN 4), .inl (cyI, 4, .inl N_knownTo)), ((aN 5), .inl (cyI, 4, .inl N_toldBy)), ((aT 0), .inr (2, [.int o17.1, .int o17.2.1, .int o20.2.1, .ref (aT 1), .ref (aT 2), .ref (aT 3), .ref (aT 4), .ref (aT 5)])), ((aT 1), .inl (cyI, 6, .inl o17.2.2.2.1)), ((aT 2), .inl (cyI, 4, .inl o17.2.2.2.2.1)), ((aT 3), .inl (cyI, 4, .inl o17.2.2.2.2.2.1)), ((aT 4), .inl (cyI, 4, .inl o17.2.2.2.2.2.2.1)), ((aT 5), .inl (cyI, 4, .inl o20.2.2)), ((aS 0), .inr (0, [.int Slane, .int Slength, .ref (aS 1)])), ((aS 1), .inl (cyI, 60, .inl S_cells))]) [11, 0, 1, 2, 3, 4, 5, 6, 12, 13, 14, 7, 8, 15, 9, 10] (by decide) rfl
                exact hret () H locs _ ls hP hD hS dX3_days_120 rfl
            · replace h := it_t c22 h
              refine lv_iload hx hb dX3_days_96 (lv_at hl 0 rfl) ?_
              replace h := Option.some.inj h; subst h
              have hP := hP.sub (ws' := [((aX 0), .inr (3, [.ref (aX 1), .ref aR, .ref (aX 2), .ref (aX 3), .int Xreadings, .ref (aN 0), .ref (aT 0), .int Xtrail, .int o14.2])), ((aX 1), .inl (cyO, 4, .inr (.inr (.inr (.inr gS))))), ((aN 0), .inr (2, [.int Ndeeds, .int Npeople, .int Ncatches, .ref (aN 1), .ref (aN 2), .ref (aN 3), .ref (aN 4), .ref (aN 5)])), ((aN 1), .inl (cyI, 6, .inl N_weightOf)), ((aN 2), .inl (cyI, 4, .inl N_kindOf)), ((aN 3), .inl (cyI, 4, .inl N_doneBy)), ((aN 4), .inl (cyI, 4, .inl N_knownTo)), ((aN 5), .inl (cyI, 4, .inl N_toldBy)), ((aT 0), .inr (2, [.int o17.1, .int o17.2.1, .int o20.2.1, .ref (aT 1), .ref (aT 2), .ref (aT 3), .ref (aT 4), .ref (aT 5)])), ((aT 1), .inl (cyI, 6, .inl o17.2.2.2.1)), ((aT 2), .inl (cyI, 4, .inl o17.2.2.2.2.1)), ((aT 3), .inl (cyI, 4, .inl o17.2.2.2.2.2.1)), ((aT 4), .inl (cyI, 4, .inl o17.2.2.2.2.2.2.1)), ((aT 5), .inl (cyI, 4, .inl o20.2.2)), ((aS 0), .inr (0, [.int Slane, .int Slength, .ref (aS 1)])), ((aS 1), .inl (cyI, 60, .inl S_cells))]) [7, 0, 1, 2, 3, 4, 5, 6, 8, 9, 10, 11, 12, 13, 14, 15] rfl
              have hD := hD.sub (ws' := [((aX 0), .inr (3, [.ref (aX 1), .ref aR, .ref (aX 2), .ref (aX 3), .int Xreadings, .ref (aN 0), .ref (aT 0), .int Xtrail, .int o14.2])), ((aX 1), .inl (cyO, 4, .inr (.inr (.inr (.inr gS))))), ((aN 0), .inr (2, [.int Ndeeds, .int Npeople, .int Ncatches, .ref (aN 1), .ref (aN 2), .ref (aN 3), .ref (aN 4), .ref (aN 5)])), ((aN 1), .inl (cyI, 6, .inl N_weightOf)), ((aN 2), .inl (cyI, 4, .inl N_kindOf)), ((aN 3), .inl (cyI, 4, .inl N_doneBy)), ((aN 4), .inl (cyI, 4, .inl N_knownTo)), ((aN 5), .inl (cyI, 4, .inl N_toldBy)), ((aT 0), .inr (2, [.int o17.1, .int o17.2.1, .int o20.2.1, .ref (aT 1), .ref (aT 2), .ref (aT 3), .ref (aT 4), .ref (aT 5)])), ((aT 1), .inl (cyI, 6, .inl o17.2.2.2.1)), ((aT 2), .inl (cyI, 4, .inl o17.2.2.2.2.1)), ((aT 3), .inl (cyI, 4, .inl o17.2.2.2.2.2.1)), ((aT 4), .inl (cyI, 4, .inl o17.2.2.2.2.2.2.1)), ((aT 5), .inl (cyI, 4, .inl o20.2.2)), ((aS 0), .inr (0, [.int Slane, .int Slength, .ref (aS 1)])), ((aS 1), .inl (cyI, 60, .inl S_cells))]) [7, 0, 1, 2, 3, 4, 5, 6, 8, 9, 10, 11, 12, 13, 14, 15] (by decide) rfl
              exact hret () H locs _ ls hP hD hS dX3_days_98 rfl
          · replace h := it_f c16 h
            refine lv_iload hx hb dX3_days_61 (lv_at hl 0 rfl) ?_
            replace h := Option.some.inj h; subst h
            have hP := hP.sub (ws' := [((aX 0), .inr (3, [.ref (aX 1), .ref aR, .ref (aX 2), .ref (aX 3), .int Xreadings, .ref (aN 0), .ref (aT 0), .int Xtrail, .int o14.2])), ((aX 1), .inl (cyO, 4, .inr (.inr (.inr (.inr gS))))), ((aN 0), .inr (2, [.int Ndeeds, .int Npeople, .int Ncatches, .ref (aN 1), .ref (aN 2), .ref (aN 3), .ref (aN 4), .ref (aN 5)])), ((aN 1), .inl (cyI, 6, .inl N_weightOf)), ((aN 2), .inl (cyI, 4, .inl N_kindOf)), ((aN 3), .inl (cyI, 4, .inl N_doneBy)), ((aN 4), .inl (cyI, 4, .inl N_knownTo)), ((aN 5), .inl (cyI, 4, .inl N_toldBy)), ((aT 0), .inr (2, [.int Tdeeds, .int Tpeople, .int Tcatches, .ref (aT 1), .ref (aT 2), .ref (aT 3), .ref (aT 4), .ref (aT 5)])), ((aT 1), .inl (cyI, 6, .inl T_weightOf)), ((aT 2), .inl (cyI, 4, .inl T_kindOf)), ((aT 3), .inl (cyI, 4, .inl T_doneBy)), ((aT 4), .inl (cyI, 4, .inl T_knownTo)), ((aT 5), .inl (cyI, 4, .inl T_toldBy)), ((aS 0), .inr (0, [.int Slane, .int Slength, .ref (aS 1)])), ((aS 1), .inl (cyI, 60, .inl S_cells))]) [12, 0, 13, 1, 2, 3, 4, 5, 6, 7, 8, 9, 10, 11, 14, 15] rfl
            have hD := hD.sub (ws' := [((aX 0), .inr (3, [.ref (aX 1), .ref aR, .ref (aX 2), .ref (aX 3), .int Xreadings, .ref (aN 0), .ref (aT 0), .int Xtrail, .int o14.2])), ((aX 1), .inl (cyO, 4, .inr (.inr (.inr (.inr gS))))), ((aN 0), .inr (2, [.int Ndeeds, .int Npeople, .int Ncatches, .ref (aN 1), .ref (aN 2), .ref (aN 3), .ref (aN 4), .ref (aN 5)])), ((aN 1), .inl (cyI, 6, .inl N_weightOf)), ((aN 2), .inl (cyI, 4, .inl N_kindOf)), ((aN 3), .inl (cyI, 4, .inl N_doneBy)), ((aN 4), .inl (cyI, 4, .inl N_knownTo)), ((aN 5), .inl (cyI, 4, .inl N_toldBy)), ((aT 0), .inr (2, [.int Tdeeds, .int Tpeople, .int Tcatches, .ref (aT 1), .ref (aT 2), .ref (aT 3), .ref (aT 4), .ref (aT 5)])), ((aT 1), .inl (cyI, 6, .inl T_weightOf)), ((aT 2), .inl (cyI, 4, .inl T_kindOf)), ((aT 3), .inl (cyI, 4, .inl T_doneBy)), ((aT 4), .inl (cyI, 4, .inl T_knownTo)), ((aT 5), .inl (cyI, 4, .inl T_toldBy)), ((aS 0), .inr (0, [.int Slane, .int Slength, .ref (aS 1)])), ((aS 1), .inl (cyI, 60, .inl S_cells))]) [12, 0, 13, 1, 2, 3, 4, 5, 6, 7, 8, 9, 10, 11, 14, 15] (by decide) rfl
            exact hret () H locs _ ls hP hD hS dX3_days_63 rfl
        · replace h := it_t c12 h
          refine lv_bipush (v := (-2)) hx hb dX3_days_37 (by decide) ?_
          replace h := Option.some.inj h; subst h
          exact hret () H locs _ ls hP hD hS dX3_days_39 rfl
  · replace h := it_t c3 h
    refine lv_iconst (v := (-1)) hx hb dX3_days_12 (by decide) ?_
    replace h := Option.some.inj h; subst h
    exact hret () H locs _ ls hP hD hS dX3_days_13 rfl
