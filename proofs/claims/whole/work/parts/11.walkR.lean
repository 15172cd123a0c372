/-! WALKS, by wip/whole/gen.py: X1_nextIs X1_taken X1_readsDeed X1_takenKind X1_readsPerson X1_readsText X1_firstFault -/
set_option maxHeartbeats 4000000 in
set_option maxRecDepth 100000 in
theorem c_X1_nextIs (l : Launch) (dC : Nat → ClassId) (dI : Nat → Nat → Nat) (cyI cyO : ClassId) (aR : Nat) (aS : Nat → Nat) (sz : Nat) (Rfrom : Int32) (Rlength : Int32) (Rat : Int32) (S_cells : Nat → Int32) (p1 : Int32) {o : Int32}  (h : f_X1_nextIs Rfrom Rlength Rat S_cells p1 = some o) : CtI l yX1_nextIs wsX1_nextIs { frames := 0, cells := 0, slots := 0, locals := 0 } (dC, dI) [(cyI, .int), (cyO, .object RX0)] [.ref aR, .int p1] sz [(aR, .inr (1, [.ref (aS 1), .int Rfrom, .int Rlength, .int Rat])), ((aS 1), .inl (cyI, 60, .inl S_cells))] (fun (_ : Unit) => [(aR, .inr (1, [.ref (aS 1), .int Rfrom, .int Rlength, .int Rat])), ((aS 1), .inl (cyI, 60, .inl S_cells))]) o := by
  refine CtI.of (cc := cX1_nextIs) (maxL := 2) (by decide) rfl (Nat.le_of_ble_eq_true rfl) ?_
  intro p e s m args below meth c A Q H locs hx hb hml hown hts hA hK hP hD hS hret ls hl
  have hown : s.vm.findClass RX1 = some m.cls := hown
  have hl : lv_has ls 2 [(0, .ref aR), (1, .int p1)] := hl
  unfold f_X1_nextIs at h
  have hiX1 : ∀ w ∈ u_ws RX1 TX1 4, w ∈ wsX1_nextIs := by decide +kernel
  have hf9 := hts (.fieldLink RX1 9 "TowerTell$TextReader" "codes" "[I") (by decide +kernel)
  have hf20 := hts (.fieldLink RX1 20 "TowerTell$TextReader" "from" "I") (by decide +kernel)
  have hf24 := hts (.fieldLink RX1 24 "TowerTell$TextReader" "length" "I") (by decide +kernel)
  have hf27 := hts (.fieldLink RX1 27 "TowerTell$TextReader" "at" "I") (by decide +kernel)
  refine lv_aload_n hx hb dX1_nextIs_0 rfl (lv_at hl 0 rfl) ?_
  refine va_get (D := (dC, dI)) (ci := 1) (v := .int Rat) (C := RX1) (T := TX1) (N := 4) hx hb hts hiX1 hown hK hP 0 rfl rfl 3 (by decide) hf27 (fun _ h9 => h9) rfl dX1_nextIs_1 ?_
  refine lv_aload_n hx hb dX1_nextIs_4 rfl (lv_at hl 0 rfl) ?_
  refine va_get (D := (dC, dI)) (ci := 1) (v := .int Rlength) (C := RX1) (T := TX1) (N := 4) hx hb hts hiX1 hown hK hP 0 rfl rfl 2 (by decide) hf24 (fun _ h9 => h9) rfl dX1_nextIs_5 ?_
  refine lv_icmp_ge (tgt := 33) hx hb dX1_nextIs_8 (by decide) (fun c1 => ?_) (fun c1 => ?_)
  · replace h := it_t c1 h
    refine lv_iconst (v := 0) hx hb dX1_nextIs_33 (by decide) ?_
    replace h := Option.some.inj h; subst h
    exact hret () H locs _ ls hP hD hS dX1_nextIs_34 bz_0
  · replace h := it_f c1 h
    refine lv_aload_n hx hb dX1_nextIs_11 rfl (lv_at hl 0 rfl) ?_
    refine va_get (D := (dC, dI)) (ci := 1) (v := .ref (aS 1)) (C := RX1) (T := TX1) (N := 4) hx hb hts hiX1 hown hK hP 0 rfl rfl 0 (by decide) hf9 (fun _ h9 => h9) rfl dX1_nextIs_12 ?_
    refine lv_aload_n hx hb dX1_nextIs_15 rfl (lv_at hl 0 rfl) ?_
    refine va_get (D := (dC, dI)) (ci := 1) (v := .int Rfrom) (C := RX1) (T := TX1) (N := 4) hx hb hts hiX1 hown hK hP 0 rfl rfl 1 (by decide) hf20 (fun _ h9 => h9) rfl dX1_nextIs_16 ?_
    refine lv_aload_n hx hb dX1_nextIs_19 rfl (lv_at hl 0 rfl) ?_
    refine va_get (D := (dC, dI)) (ci := 1) (v := .int Rat) (C := RX1) (T := TX1) (N := 4) hx hb hts hiX1 hown hK hP 0 rfl rfl 3 (by decide) hf27 (fun _ h9 => h9) rfl dX1_nextIs_20 ?_
    refine lv_iadd hx hb dX1_nextIs_23 ?_
    obtain ⟨e2, h⟩ := it_n h
    refine va_iald hx hb hK hP 1 0 rfl rfl (ix_in e2) dX1_nextIs_24 ?_
    refine lv_iload_n hx hb dX1_nextIs_25 rfl (lv_at hl 1 rfl) ?_
    refine lv_icmp_ne (tgt := 33) hx hb dX1_nextIs_26 (by decide) (fun c3 => ?_) (fun c3 => ?_)
    · replace h := it_f c3 h
      refine lv_iconst (v := 0) hx hb dX1_nextIs_33 (by decide) ?_
      replace h := Option.some.inj h; subst h
      exact hret () H locs _ ls hP hD hS dX1_nextIs_34 bz_0
    · replace h := it_t c3 h
      refine lv_iconst (v := 1) hx hb dX1_nextIs_29 (by decide) ?_
      refine lv_goto (tgt := 34) hx hb dX1_nextIs_30 (by decide) ?_
      replace h := Option.some.inj h; subst h
      exact hret () H locs _ ls hP hD hS dX1_nextIs_34 bz_1
set_option maxHeartbeats 4000000 in
set_option maxRecDepth 100000 in
theorem c_X1_taken (l : Launch) (dC : Nat → ClassId) (dI : Nat → Nat → Nat) (cyI cyO : ClassId) (aR : Nat) (aS : Nat → Nat) (sz : Nat) (Rfrom : Int32) (Rlength : Int32) (Rat : Int32) (S_cells : Nat → Int32) (p1 : Int32) (p2 : Int32) {o : Int32 × Int32}  (h : f_X1_taken Rfrom Rlength Rat S_cells p1 p2 = some o) : CtI l yX1_taken wsX1_taken { frames := 0, cells := 0, slots := 0, locals := 0 } (dC, dI) [(cyI, .int), (cyO, .object RX0)] [.ref aR, .int p1, .int p2] sz [(aR, .inr (1, [.ref (aS 1), .int Rfrom, .int Rlength, .int Rat])), ((aS 1), .inl (cyI, 60, .inl S_cells))] (fun (_ : Unit) => [(aR, .inr (1, [.ref (aS 1), .int Rfrom, .int Rlength, .int o.2])), ((aS 1), .inl (cyI, 60, .inl S_cells))]) o.1 := by
  refine CtI.of (cc := cX1_taken) (maxL := 4) (by decide) rfl (Nat.le_of_ble_eq_true rfl) ?_
  intro p e s m args below meth c A Q H locs hx hb hml hown hts hA hK hP hD hS hret ls hl
  have hown : s.vm.findClass RX1 = some m.cls := hown
  have hl : lv_has ls 4 [(0, .ref aR), (1, .int p1), (2, .int p2)] := hl
  unfold f_X1_taken at h
  have hiX1 : ∀ w ∈ u_ws RX1 TX1 4, w ∈ wsX1_taken := by decide +kernel
  have hf9 := hts (.fieldLink RX1 9 "TowerTell$TextReader" "codes" "[I") (by decide +kernel)
  have hf20 := hts (.fieldLink RX1 20 "TowerTell$TextReader" "from" "I") (by decide +kernel)
  have hf24 := hts (.fieldLink RX1 24 "TowerTell$TextReader" "length" "I") (by decide +kernel)
  have hf27 := hts (.fieldLink RX1 27 "TowerTell$TextReader" "at" "I") (by decide +kernel)
  refine lv_aload_n hx hb dX1_taken_0 rfl (lv_at hl 0 rfl) ?_
  refine va_get (D := (dC, dI)) (ci := 1) (v := .int Rat) (C := RX1) (T := TX1) (N := 4) hx hb hts hiX1 hown hK hP 0 rfl rfl 3 (by decide) hf27 (fun _ h9 => h9) rfl dX1_taken_1 ?_
  refine lv_aload_n hx hb dX1_taken_4 rfl (lv_at hl 0 rfl) ?_
  refine va_get (D := (dC, dI)) (ci := 1) (v := .int Rlength) (C := RX1) (T := TX1) (N := 4) hx hb hts hiX1 hown hK hP 0 rfl rfl 2 (by decide) hf24 (fun _ h9 => h9) rfl dX1_taken_5 ?_
  refine lv_icmp_ge (tgt := 47) hx hb dX1_taken_8 (by decide) (fun c1 => ?_) (fun c1 => ?_)
  · replace h := it_t c1 h
    refine lv_iconst (v := (-1)) hx hb dX1_taken_47 (by decide) ?_
    replace h := Option.some.inj h; subst h
    exact hret () H locs _ ls hP hD hS dX1_taken_48 rfl
  · replace h := it_f c1 h
    refine lv_aload_n hx hb dX1_taken_11 rfl (lv_at hl 0 rfl) ?_
    refine va_get (D := (dC, dI)) (ci := 1) (v := .ref (aS 1)) (C := RX1) (T := TX1) (N := 4) hx hb hts hiX1 hown hK hP 0 rfl rfl 0 (by decide) hf9 (fun _ h9 => h9) rfl dX1_taken_12 ?_
    refine lv_aload_n hx hb dX1_taken_15 rfl (lv_at hl 0 rfl) ?_
    refine va_get (D := (dC, dI)) (ci := 1) (v := .int Rfrom) (C := RX1) (T := TX1) (N := 4) hx hb hts hiX1 hown hK hP 0 rfl rfl 1 (by decide) hf20 (fun _ h9 => h9) rfl dX1_taken_16 ?_
    refine lv_aload_n hx hb dX1_taken_19 rfl (lv_at hl 0 rfl) ?_
    refine va_get (D := (dC, dI)) (ci := 1) (v := .int Rat) (C := RX1) (T := TX1) (N := 4) hx hb hts hiX1 hown hK hP 0 rfl rfl 3 (by decide) hf27 (fun _ h9 => h9) rfl dX1_taken_20 ?_
    refine lv_iadd hx hb dX1_taken_23 ?_
    obtain ⟨e2, h⟩ := it_n h
    refine va_iald hx hb hK hP 1 0 rfl rfl (ix_in e2) dX1_taken_24 ?_
    refine lv_iload_n hx hb dX1_taken_25 rfl (lv_at hl 1 rfl) ?_
    refine lv_icmp_lt (tgt := 47) hx hb dX1_taken_26 (by decide) (fun c3 => ?_) (fun c3 => ?_)
    · replace h := it_t c3 h
      refine lv_iconst (v := (-1)) hx hb dX1_taken_47 (by decide) ?_
      replace h := Option.some.inj h; subst h
      exact hret () H locs _ ls hP hD hS dX1_taken_48 rfl
    · replace h := it_f c3 h
      refine lv_aload_n hx hb dX1_taken_29 rfl (lv_at hl 0 rfl) ?_
      refine va_get (D := (dC, dI)) (ci := 1) (v := .ref (aS 1)) (C := RX1) (T := TX1) (N := 4) hx hb hts hiX1 hown hK hP 0 rfl rfl 0 (by decide) hf9 (fun _ h9 => h9) rfl dX1_taken_30 ?_
      refine lv_aload_n hx hb dX1_taken_33 rfl (lv_at hl 0 rfl) ?_
      refine va_get (D := (dC, dI)) (ci := 1) (v := .int Rfrom) (C := RX1) (T := TX1) (N := 4) hx hb hts hiX1 hown hK hP 0 rfl rfl 1 (by decide) hf20 (fun _ h9 => h9) rfl dX1_taken_34 ?_
      refine lv_aload_n hx hb dX1_taken_37 rfl (lv_at hl 0 rfl) ?_
      refine va_get (D := (dC, dI)) (ci := 1) (v := .int Rat) (C := RX1) (T := TX1) (N := 4) hx hb hts hiX1 hown hK hP 0 rfl rfl 3 (by decide) hf27 (fun _ h9 => h9) rfl dX1_taken_38 ?_
      refine lv_iadd hx hb dX1_taken_41 ?_
      obtain ⟨e4, h⟩ := it_n h
      refine va_iald hx hb hK hP 1 0 rfl rfl (ix_in e4) dX1_taken_42 ?_
      refine lv_iload_n hx hb dX1_taken_43 rfl (lv_at hl 2 rfl) ?_
      refine lv_icmp_le (tgt := 49) hx hb dX1_taken_44 (by decide) (fun c5 => ?_) (fun c5 => ?_)
      · replace h := it_t c5 h
        refine lv_aload_n hx hb dX1_taken_49 rfl (lv_at hl 0 rfl) ?_
        refine va_get (D := (dC, dI)) (ci := 1) (v := .ref (aS 1)) (C := RX1) (T := TX1) (N := 4) hx hb hts hiX1 hown hK hP 0 rfl rfl 0 (by decide) hf9 (fun _ h9 => h9) rfl dX1_taken_50 ?_
        refine lv_aload_n hx hb dX1_taken_53 rfl (lv_at hl 0 rfl) ?_
        refine va_get (D := (dC, dI)) (ci := 1) (v := .int Rfrom) (C := RX1) (T := TX1) (N := 4) hx hb hts hiX1 hown hK hP 0 rfl rfl 1 (by decide) hf20 (fun _ h9 => h9) rfl dX1_taken_54 ?_
        refine lv_aload_n hx hb dX1_taken_57 rfl (lv_at hl 0 rfl) ?_
        refine va_get (D := (dC, dI)) (ci := 1) (v := .int Rat) (C := RX1) (T := TX1) (N := 4) hx hb hts hiX1 hown hK hP 0 rfl rfl 3 (by decide) hf27 (fun _ h9 => h9) rfl dX1_taken_58 ?_
        refine lv_iadd hx hb dX1_taken_61 ?_
        obtain ⟨e6, h⟩ := it_n h
        refine va_iald hx hb hK hP 1 0 rfl rfl (ix_in e6) dX1_taken_62 ?_
        refine lv_iload_n hx hb dX1_taken_63 rfl (lv_at hl 1 rfl) ?_
        refine lv_isub hx hb dX1_taken_64 ?_
        refine lv_istore_n (lv' := [(3, .int ((S_cells (Rfrom + Rat).toNatClampNeg) - p1)), (0, .ref aR), (1, .int p1), (2, .int p2)]) hx hb dX1_taken_65 rfl hl (by decide) rfl (fun ls hl => ?_)
        refine lv_aload_n hx hb dX1_taken_66 rfl (lv_at hl 1 rfl) ?_
        refine lv_dup hx hb dX1_taken_67 rfl ?_
        refine va_get (D := (dC, dI)) (ci := 1) (v := .int Rat) (C := RX1) (T := TX1) (N := 4) hx hb hts hiX1 hown hK hP 0 rfl rfl 3 (by decide) hf27 (fun _ h9 => h9) rfl dX1_taken_68 ?_
        refine lv_iconst (v := 1) hx hb dX1_taken_71 (by decide) ?_
        refine lv_iadd hx hb dX1_taken_72 ?_
        refine va_put (D := (dC, dI)) (ci := 1) (v := .int (Rat + 1)) (ty := .int) (C := RX1) (T := TX1) (N := 4) hx hb hts hiX1 tyX1 tyX1_ok nmX1 hown hK hP hD hS 0 rfl rfl 3 (by decide) hf27 (fun _ h9 => h9) rfl (tyX1_ok 3 (by decide)) rfl rfl (Nat.le_of_ble_eq_true rfl) dX1_taken_73 (fun H locs hP hD hS => ?_)
        have hP : va_P (dC, dI) vwCl [(aR, .inr (1, [.ref (aS 1), .int Rfrom, .int Rlength, .int (Rat + 1)])), ((aS 1), .inl (cyI, 60, .inl S_cells))] H := hP
        have hD : va_D A [(aR, .inr (1, [.ref (aS 1), .int Rfrom, .int Rlength, .int (Rat + 1)])), ((aS 1), .inl (cyI, 60, .inl S_cells))] := hD
        refine lv_iload_n hx hb dX1_taken_76 rfl (lv_at hl 0 rfl) ?_
        replace h := Option.some.inj h; subst h
        exact hret () H locs _ ls hP hD hS dX1_taken_77 rfl
      · replace h := it_f c5 h
        refine lv_iconst (v := (-1)) hx hb dX1_taken_47 (by decide) ?_
        replace h := Option.some.inj h; subst h
        exact hret () H locs _ ls hP hD hS dX1_taken_48 rfl
set_option maxHeartbeats 4000000 in
set_option maxRecDepth 100000 in
theorem c_X1_readsDeed (l : Launch) (dC : Nat → ClassId) (dI : Nat → Nat → Nat) (cyI cyO : ClassId) (aR : Nat) (aT : Nat → Nat) (aS : Nat → Nat) (sz : Nat) (Rfrom : Int32) (Rlength : Int32) (Rat : Int32) (Tdeeds : Int32) (Tpeople : Int32) (Tcatches : Int32) (T_weightOf : Nat → Int32) (S_cells : Nat → Int32)  {o : Int32 × Int32 × Int32 × (Nat → Int32)}  (h : f_X1_readsDeed Rfrom Rlength Rat Tdeeds T_weightOf S_cells = some o) : CtI l yX1_readsDeed wsX1_readsDeed { frames := 1, cells := 0, slots := 0, locals := 23 } (dC, dI) [(cyI, .int), (cyO, .object RX0)] [.ref aR, .ref (aT 0)] sz [(aR, .inr (1, [.ref (aS 1), .int Rfrom, .int Rlength, .int Rat])), ((aT 0), .inr (2, [.int Tdeeds, .int Tpeople, .int Tcatches, .ref (aT 1), .ref (aT 2), .ref (aT 3), .ref (aT 4), .ref (aT 5)])), ((aT 1), .inl (cyI, 6, .inl T_weightOf)), ((aS 1), .inl (cyI, 60, .inl S_cells))] (fun (_ : Unit) => [(aR, .inr (1, [.ref (aS 1), .int Rfrom, .int Rlength, .int o.2.1])), ((aT 0), .inr (2, [.int o.2.2.1, .int Tpeople, .int Tcatches, .ref (aT 1), .ref (aT 2), .ref (aT 3), .ref (aT 4), .ref (aT 5)])), ((aT 1), .inl (cyI, 6, .inl o.2.2.2)), ((aS 1), .inl (cyI, 60, .inl S_cells))]) o.1 := by
  refine CtI.of (cc := cX1_readsDeed) (maxL := 3) (by decide) rfl (Nat.le_of_ble_eq_true rfl) ?_
  intro p e s m args below meth c A Q H locs hx hb hml hown hts hA hK hP hD hS hret ls hl
  have hown : s.vm.findClass RX1 = some m.cls := hown
  have hl : lv_has ls 3 [(0, .ref aR), (1, .ref (aT 0))] := hl
  unfold f_X1_readsDeed at h
  refine lv_aload_n hx hb dX1_readsDeed_0 rfl (lv_at hl 0 rfl) ?_
  refine lv_bipush (v := 45) hx hb dX1_readsDeed_1 (by decide) ?_
  refine lv_bipush (v := 45) hx hb dX1_readsDeed_3 (by decide) ?_
  obtain ⟨o1, hc2, h⟩ := ob h
  refine k_vi (As := [.int 45, .int 45]) (rest := []) ⟨hx, hb, hml, hown, hts⟩ (c_X1_taken l dC dI cyI cyO aR aS H.size Rfrom Rlength Rat S_cells 45 45 hc2) (cwV 2 hts gX1_readsDeed_X1_taken rfl rfl rfl (by decide +kernel) ⟨Nat.le_of_ble_eq_true rfl, Nat.le_of_ble_eq_true rfl⟩) hP hD hK hS hA [0, 3] [1, 2] rfl rfl (by decide) (by decide) (by decide) 1 0 rfl rfl rfl rfl hl.1 rfl (Nat.le_of_ble_eq_true rfl) dX1_readsDeed_5 ⟨Nat.zero_le _, Nat.zero_le _⟩ (fun _ H locs hP hD hS => ?_)
  have hP : va_P (dC, dI) vwCl [((aT 0), .inr (2, [.int Tdeeds, .int Tpeople, .int Tcatches, .ref (aT 1), .ref (aT 2), .ref (aT 3), .ref (aT 4), .ref (aT 5)])), ((aT 1), .inl (cyI, 6, .inl T_weightOf)), (aR, .inr (1, [.ref (aS 1), .int Rfrom, .int Rlength, .int o1.2])), ((aS 1), .inl (cyI, 60, .inl S_cells))] H := hP
  have hD : va_D A [((aT 0), .inr (2, [.int Tdeeds, .int Tpeople, .int Tcatches, .ref (aT 1), .ref (aT 2), .ref (aT 3), .ref (aT 4), .ref (aT 5)])), ((aT 1), .inl (cyI, 6, .inl T_weightOf)), (aR, .inr (1, [.ref (aS 1), .int Rfrom, .int Rlength, .int o1.2])), ((aS 1), .inl (cyI, 60, .inl S_cells))] := hD
  refine lv_if_ge (tgt := 13) hx hb dX1_readsDeed_8 (by decide) (fun c3 => ?_) (fun c3 => ?_)
  · replace h := it_t c3 h
    refine lv_aload_n hx hb dX1_readsDeed_13 rfl (lv_at hl 0 rfl) ?_
    refine lv_bipush (v := 49) hx hb dX1_readsDeed_14 (by decide) ?_
    refine lv_bipush (v := 57) hx hb dX1_readsDeed_16 (by decide) ?_
    obtain ⟨o4, hc5, h⟩ := ob h
    refine k_vi (As := [.int 49, .int 57]) (rest := []) ⟨hx, hb, hml, hown, hts⟩ (c_X1_taken l dC dI cyI cyO aR aS H.size Rfrom Rlength o1.2 S_cells 49 57 hc5) (cwV 2 hts gX1_readsDeed_X1_taken rfl rfl rfl (by decide +kernel) ⟨Nat.le_of_ble_eq_true rfl, Nat.le_of_ble_eq_true rfl⟩) hP hD hK hS hA [2, 3] [0, 1] rfl rfl (by decide) (by decide) (by decide) 1 0 rfl rfl rfl rfl hl.1 rfl (Nat.le_of_ble_eq_true rfl) dX1_readsDeed_18 ⟨Nat.zero_le _, Nat.zero_le _⟩ (fun _ H locs hP hD hS => ?_)
    have hP : va_P (dC, dI) vwCl [((aT 0), .inr (2, [.int Tdeeds, .int Tpeople, .int Tcatches, .ref (aT 1), .ref (aT 2), .ref (aT 3), .ref (aT 4), .ref (aT 5)])), ((aT 1), .inl (cyI, 6, .inl T_weightOf)), (aR, .inr (1, [.ref (aS 1), .int Rfrom, .int Rlength, .int o4.2])), ((aS 1), .inl (cyI, 60, .inl S_cells))] H := hP
    have hD : va_D A [((aT 0), .inr (2, [.int Tdeeds, .int Tpeople, .int Tcatches, .ref (aT 1), .ref (aT 2), .ref (aT 3), .ref (aT 4), .ref (aT 5)])), ((aT 1), .inl (cyI, 6, .inl T_weightOf)), (aR, .inr (1, [.ref (aS 1), .int Rfrom, .int Rlength, .int o4.2])), ((aS 1), .inl (cyI, 60, .inl S_cells))] := hD
    refine lv_istore_n (lv' := [(2, .int o4.1), (0, .ref aR), (1, .ref (aT 0))]) hx hb dX1_readsDeed_21 rfl hl (by decide) rfl (fun ls hl => ?_)
    refine lv_iload_n hx hb dX1_readsDeed_22 rfl (lv_at hl 0 rfl) ?_
    refine lv_if_ge (tgt := 28) hx hb dX1_readsDeed_23 (by decide) (fun c6 => ?_) (fun c6 => ?_)
    · replace h := it_t c6 h
      refine lv_aload_n hx hb dX1_readsDeed_28 rfl (lv_at hl 2 rfl) ?_
      refine lv_iload_n hx hb dX1_readsDeed_29 rfl (lv_at hl 0 rfl) ?_
      refine lv_iconst (v := 1) hx hb dX1_readsDeed_30 (by decide) ?_
      refine lv_iadd hx hb dX1_readsDeed_31 ?_
      obtain ⟨o7, hc8, h⟩ := ob h
      refine k_vv (As := [.int (o4.1 + 1)]) (rest := []) ⟨hx, hb, hml, hown, hts⟩ (c_X2_addDeed l dC dI cyI cyO aT H.size Tdeeds Tpeople Tcatches T_weightOf (o4.1 + 1) hc8) (cwV 1 hts gX1_readsDeed_X2_addDeed rfl rfl rfl (by decide +kernel) ⟨Nat.le_of_ble_eq_true rfl, Nat.le_of_ble_eq_true rfl⟩) hP hD hK hS hA [0, 1] [2, 3] rfl rfl (by decide) (by decide) (by decide) 2 0 rfl rfl rfl rfl hl.1 rfl (Nat.le_of_ble_eq_true rfl) dX1_readsDeed_32 ⟨Nat.zero_le _, Nat.zero_le _⟩ (fun _ H locs hP hD hS => ?_)
      have hP : va_P (dC, dI) vwCl [(aR, .inr (1, [.ref (aS 1), .int Rfrom, .int Rlength, .int o4.2])), ((aS 1), .inl (cyI, 60, .inl S_cells)), ((aT 0), .inr (2, [.int o7.1, .int Tpeople, .int Tcatches, .ref (aT 1), .ref (aT 2), .ref (aT 3), .ref (aT 4), .ref (aT 5)])), ((aT 1), .inl (cyI, 6, .inl o7.2))] H := hP
      have hD : va_D A [(aR, .inr (1, [.ref (aS 1), .int Rfrom, .int Rlength, .int o4.2])), ((aS 1), .inl (cyI, 60, .inl S_cells)), ((aT 0), .inr (2, [.int o7.1, .int Tpeople, .int Tcatches, .ref (aT 1), .ref (aT 2), .ref (aT 3), .ref (aT 4), .ref (aT 5)])), ((aT 1), .inl (cyI, 6, .inl o7.2))] := hD
      refine lv_iconst (v := 1) hx hb dX1_readsDeed_35 (by decide) ?_
      replace h := Option.some.inj h; subst h
      have hP := hP.sub (ws' := [(aR, .inr (1, [.ref (aS 1), .int Rfrom, .int Rlength, .int o4.2])), ((aT 0), .inr (2, [.int o7.1, .int Tpeople, .int Tcatches, .ref (aT 1), .ref (aT 2), .ref (aT 3), .ref (aT 4), .ref (aT 5)])), ((aT 1), .inl (cyI, 6, .inl o7.2)), ((aS 1), .inl (cyI, 60, .inl S_cells))]) [0, 2, 3, 1] rfl
      have hD := hD.sub (ws' := [(aR, .inr (1, [.ref (aS 1), .int Rfrom, .int Rlength, .int o4.2])), ((aT 0), .inr (2, [.int o7.1, .int Tpeople, .int Tcatches, .ref (aT 1), .ref (aT 2), .ref (aT 3), .ref (aT 4), .ref (aT 5)])), ((aT 1), .inl (cyI, 6, .inl o7.2)), ((aS 1), .inl (cyI, 60, .inl S_cells))]) [0, 2, 3, 1] (by decide) rfl
      exact hret () H locs _ ls hP hD hS dX1_readsDeed_36 bz_1
    · replace h := it_f c6 h
      refine lv_iconst (v := 0) hx hb dX1_readsDeed_26 (by decide) ?_
      replace h := Option.some.inj h; subst h
      have hP := hP.sub (ws' := [(aR, .inr (1, [.ref (aS 1), .int Rfrom, .int Rlength, .int o4.2])), ((aT 0), .inr (2, [.int Tdeeds, .int Tpeople, .int Tcatches, .ref (aT 1), .ref (aT 2), .ref (aT 3), .ref (aT 4), .ref (aT 5)])), ((aT 1), .inl (cyI, 6, .inl T_weightOf)), ((aS 1), .inl (cyI, 60, .inl S_cells))]) [2, 0, 1, 3] rfl
      have hD := hD.sub (ws' := [(aR, .inr (1, [.ref (aS 1), .int Rfrom, .int Rlength, .int o4.2])), ((aT 0), .inr (2, [.int Tdeeds, .int Tpeople, .int Tcatches, .ref (aT 1), .ref (aT 2), .ref (aT 3), .ref (aT 4), .ref (aT 5)])), ((aT 1), .inl (cyI, 6, .inl T_weightOf)), ((aS 1), .inl (cyI, 60, .inl S_cells))]) [2, 0, 1, 3] (by decide) rfl
      exact hret () H locs _ ls hP hD hS dX1_readsDeed_27 bz_0
  · replace h := it_f c3 h
    refine lv_iconst (v := 0) hx hb dX1_readsDeed_11 (by decide) ?_
    replace h := Option.some.inj h; subst h
    have hP := hP.sub (ws' := [(aR, .inr (1, [.ref (aS 1), .int Rfrom, .int Rlength, .int o1.2])), ((aT 0), .inr (2, [.int Tdeeds, .int Tpeople, .int Tcatches, .ref (aT 1), .ref (aT 2), .ref (aT 3), .ref (aT 4), .ref (aT 5)])), ((aT 1), .inl (cyI, 6, .inl T_weightOf)), ((aS 1), .inl (cyI, 60, .inl S_cells))]) [2, 0, 1, 3] rfl
    have hD := hD.sub (ws' := [(aR, .inr (1, [.ref (aS 1), .int Rfrom, .int Rlength, .int o1.2])), ((aT 0), .inr (2, [.int Tdeeds, .int Tpeople, .int Tcatches, .ref (aT 1), .ref (aT 2), .ref (aT 3), .ref (aT 4), .ref (aT 5)])), ((aT 1), .inl (cyI, 6, .inl T_weightOf)), ((aS 1), .inl (cyI, 60, .inl S_cells))]) [2, 0, 1, 3] (by decide) rfl
    exact hret () H locs _ ls hP hD hS dX1_readsDeed_12 bz_0
set_option maxHeartbeats 4000000 in
set_option maxRecDepth 100000 in
theorem c_X1_takenKind (l : Launch) (dC : Nat → ClassId) (dI : Nat → Nat → Nat) (cyI cyO : ClassId) (aR : Nat) (aS : Nat → Nat) (sz : Nat) (Rfrom : Int32) (Rlength : Int32) (Rat : Int32) (S_cells : Nat → Int32)  {o : Int32 × Int32}  (h : f_X1_takenKind Rfrom Rlength Rat S_cells = some o) : CtI l yX1_takenKind wsX1_takenKind { frames := 1, cells := 0, slots := 0, locals := 23 } (dC, dI) [(cyI, .int), (cyO, .object RX0)] [.ref aR] sz [(aR, .inr (1, [.ref (aS 1), .int Rfrom, .int Rlength, .int Rat])), ((aS 1), .inl (cyI, 60, .inl S_cells))] (fun (_ : Unit) => [(aR, .inr (1, [.ref (aS 1), .int Rfrom, .int Rlength, .int o.2])), ((aS 1), .inl (cyI, 60, .inl S_cells))]) o.1 := by
  refine CtI.of (cc := cX1_takenKind) (maxL := 1) (by decide) rfl (Nat.le_of_ble_eq_true rfl) ?_
  intro p e s m args below meth c A Q H locs hx hb hml hown hts hA hK hP hD hS hret ls hl
  have hown : s.vm.findClass RX1 = some m.cls := hown
  have hl : lv_has ls 1 [(0, .ref aR)] := hl
  unfold f_X1_takenKind at h
  refine lv_aload_n hx hb dX1_takenKind_0 rfl (lv_at hl 0 rfl) ?_
  refine lv_bipush (v := 112) hx hb dX1_takenKind_1 (by decide) ?_
  refine lv_bipush (v := 112) hx hb dX1_takenKind_3 (by decide) ?_
  obtain ⟨o1, hc2, h⟩ := ob h
  refine k_vi (As := [.int 112, .int 112]) (rest := []) ⟨hx, hb, hml, hown, hts⟩ (c_X1_taken l dC dI cyI cyO aR aS H.size Rfrom Rlength Rat S_cells 112 112 hc2) (cwV 2 hts gX1_takenKind_X1_taken rfl rfl rfl (by decide +kernel) ⟨Nat.le_of_ble_eq_true rfl, Nat.le_of_ble_eq_true rfl⟩) hP hD hK hS hA [0, 1] [] rfl rfl (by decide) (by decide) (by decide) 1 0 rfl rfl rfl rfl hl.1 rfl (Nat.le_of_ble_eq_true rfl) dX1_takenKind_5 ⟨Nat.zero_le _, Nat.zero_le _⟩ (fun _ H locs hP hD hS => ?_)
  have hP : va_P (dC, dI) vwCl [(aR, .inr (1, [.ref (aS 1), .int Rfrom, .int Rlength, .int o1.2])), ((aS 1), .inl (cyI, 60, .inl S_cells))] H := hP
  have hD : va_D A [(aR, .inr (1, [.ref (aS 1), .int Rfrom, .int Rlength, .int o1.2])), ((aS 1), .inl (cyI, 60, .inl S_cells))] := hD
  refine lv_if_ne (tgt := 13) hx hb dX1_takenKind_8 (by decide) (fun c3 => ?_) (fun c3 => ?_)
  · replace h := it_f c3 h
    refine lv_aload_n hx hb dX1_takenKind_13 rfl (lv_at hl 0 rfl) ?_
    refine lv_bipush (v := 114) hx hb dX1_takenKind_14 (by decide) ?_
    refine lv_bipush (v := 114) hx hb dX1_takenKind_16 (by decide) ?_
    obtain ⟨o4, hc5, h⟩ := ob h
    refine k_vi (As := [.int 114, .int 114]) (rest := []) ⟨hx, hb, hml, hown, hts⟩ (c_X1_taken l dC dI cyI cyO aR aS H.size Rfrom Rlength o1.2 S_cells 114 114 hc5) (cwV 2 hts gX1_takenKind_X1_taken rfl rfl rfl (by decide +kernel) ⟨Nat.le_of_ble_eq_true rfl, Nat.le_of_ble_eq_true rfl⟩) hP hD hK hS hA [0, 1] [] rfl rfl (by decide) (by decide) (by decide) 1 0 rfl rfl rfl rfl hl.1 rfl (Nat.le_of_ble_eq_true rfl) dX1_takenKind_18 ⟨Nat.zero_le _, Nat.zero_le _⟩ (fun _ H locs hP hD hS => ?_)
    have hP : va_P (dC, dI) vwCl [(aR, .inr (1, [.ref (aS 1), .int Rfrom, .int Rlength, .int o4.2])), ((aS 1), .inl (cyI, 60, .inl S_cells))] H := hP
    have hD : va_D A [(aR, .inr (1, [.ref (aS 1), .int Rfrom, .int Rlength, .int o4.2])), ((aS 1), .inl (cyI, 60, .inl S_cells))] := hD
    refine lv_if_ne (tgt := 26) hx hb dX1_takenKind_21 (by decide) (fun c6 => ?_) (fun c6 => ?_)
    · replace h := it_f c6 h
      refine lv_aload_n hx hb dX1_takenKind_26 rfl (lv_at hl 0 rfl) ?_
      refine lv_bipush (v := 97) hx hb dX1_takenKind_27 (by decide) ?_
      refine lv_bipush (v := 97) hx hb dX1_takenKind_29 (by decide) ?_
      obtain ⟨o7, hc8, h⟩ := ob h
      refine k_vi (As := [.int 97, .int 97]) (rest := []) ⟨hx, hb, hml, hown, hts⟩ (c_X1_taken l dC dI cyI cyO aR aS H.size Rfrom Rlength o4.2 S_cells 97 97 hc8) (cwV 2 hts gX1_takenKind_X1_taken rfl rfl rfl (by decide +kernel) ⟨Nat.le_of_ble_eq_true rfl, Nat.le_of_ble_eq_true rfl⟩) hP hD hK hS hA [0, 1] [] rfl rfl (by decide) (by decide) (by decide) 1 0 rfl rfl rfl rfl hl.1 rfl (Nat.le_of_ble_eq_true rfl) dX1_takenKind_31 ⟨Nat.zero_le _, Nat.zero_le _⟩ (fun _ H locs hP hD hS => ?_)
      have hP : va_P (dC, dI) vwCl [(aR, .inr (1, [.ref (aS 1), .int Rfrom, .int Rlength, .int o7.2])), ((aS 1), .inl (cyI, 60, .inl S_cells))] H := hP
      have hD : va_D A [(aR, .inr (1, [.ref (aS 1), .int Rfrom, .int Rlength, .int o7.2])), ((aS 1), .inl (cyI, 60, .inl S_cells))] := hD
      refine lv_if_ne (tgt := 41) hx hb dX1_takenKind_34 (by decide) (fun c9 => ?_) (fun c9 => ?_)
      · replace h := it_f c9 h
        refine lv_iconst (v := (-1)) hx hb dX1_takenKind_41 (by decide) ?_
        replace h := Option.some.inj h; subst h
        exact hret () H locs _ ls hP hD hS dX1_takenKind_42 rfl
      · replace h := it_t c9 h
        refine lv_iconst (v := 2) hx hb dX1_takenKind_37 (by decide) ?_
        refine lv_goto (tgt := 42) hx hb dX1_takenKind_38 (by decide) ?_
        replace h := Option.some.inj h; subst h
        exact hret () H locs _ ls hP hD hS dX1_takenKind_42 rfl
    · replace h := it_t c6 h
      refine lv_iconst (v := 1) hx hb dX1_takenKind_24 (by decide) ?_
      replace h := Option.some.inj h; subst h
      exact hret () H locs _ ls hP hD hS dX1_takenKind_25 rfl
  · replace h := it_t c3 h
    refine lv_iconst (v := 0) hx hb dX1_takenKind_11 (by decide) ?_
    replace h := Option.some.inj h; subst h
    exact hret () H locs _ ls hP hD hS dX1_takenKind_12 rfl
set_option maxHeartbeats 4000000 in
set_option maxRecDepth 100000 in
theorem c_X1_readsPerson (l : Launch) (dC : Nat → ClassId) (dI : Nat → Nat → Nat) (cyI cyO : ClassId) (aR : Nat) (aT : Nat → Nat) (aS : Nat → Nat) (sz : Nat) (Rfrom : Int32) (Rlength : Int32) (Rat : Int32) (Tdeeds : Int32) (Tpeople : Int32) (Tcatches : Int32) (T_kindOf : Nat → Int32) (T_doneBy : Nat → Int32) (T_knownTo : Nat → Int32) (T_toldBy : Nat → Int32) (S_cells : Nat → Int32)  {o : Int32 × Int32 × Int32 × (Nat → Int32) × (Nat → Int32) × (Nat → Int32) × (Nat → Int32)}  (h : f_X1_readsPerson Rfrom Rlength Rat Tpeople T_kindOf T_doneBy T_knownTo T_toldBy S_cells = some o) : CtI l yX1_readsPerson wsX1_readsPerson { frames := 2, cells := 0, slots := 0, locals := 43 } (dC, dI) [(cyI, .int), (cyO, .object RX0)] [.ref aR, .ref (aT 0)] sz [(aR, .inr (1, [.ref (aS 1), .int Rfrom, .int Rlength, .int Rat])), ((aT 0), .inr (2, [.int Tdeeds, .int Tpeople, .int Tcatches, .ref (aT 1), .ref (aT 2), .ref (aT 3), .ref (aT 4), .ref (aT 5)])), ((aT 2), .inl (cyI, 4, .inl T_kindOf)), ((aT 3), .inl (cyI, 4, .inl T_doneBy)), ((aT 4), .inl (cyI, 4, .inl T_knownTo)), ((aT 5), .inl (cyI, 4, .inl T_toldBy)), ((aS 1), .inl (cyI, 60, .inl S_cells))] (fun (_ : Unit) => [(aR, .inr (1, [.ref (aS 1), .int Rfrom, .int Rlength, .int o.2.1])), ((aT 0), .inr (2, [.int Tdeeds, .int o.2.2.1, .int Tcatches, .ref (aT 1), .ref (aT 2), .ref (aT 3), .ref (aT 4), .ref (aT 5)])), ((aT 2), .inl (cyI, 4, .inl o.2.2.2.1)), ((aT 3), .inl (cyI, 4, .inl o.2.2.2.2.1)), ((aT 4), .inl (cyI, 4, .inl o.2.2.2.2.2.1)), ((aT 5), .inl (cyI, 4, .inl o.2.2.2.2.2.2)), ((aS 1), .inl (cyI, 60, .inl S_cells))]) o.1 := by
  refine CtI.of (cc := cX1_readsPerson) (maxL := 6) (by decide) rfl (Nat.le_of_ble_eq_true rfl) ?_
  intro p e s m args below meth c A Q H locs hx hb hml hown hts hA hK hP hD hS hret ls hl
  have hown : s.vm.findClass RX1 = some m.cls := hown
  have hl : lv_has ls 6 [(0, .ref aR), (1, .ref (aT 0))] := hl
  unfold f_X1_readsPerson at h
  refine lv_aload_n hx hb dX1_readsPerson_0 rfl (lv_at hl 0 rfl) ?_
  refine lv_bipush (v := 44) hx hb dX1_readsPerson_1 (by decide) ?_
  refine lv_bipush (v := 44) hx hb dX1_readsPerson_3 (by decide) ?_
  obtain ⟨o1, hc2, h⟩ := ob h
  refine k_vi (As := [.int 44, .int 44]) (rest := []) ⟨hx, hb, hml, hown, hts⟩ (c_X1_taken l dC dI cyI cyO aR aS H.size Rfrom Rlength Rat S_cells 44 44 hc2) (cwV 2 hts gX1_readsPerson_X1_taken rfl rfl rfl (by decide +kernel) ⟨Nat.le_of_ble_eq_true rfl, Nat.le_of_ble_eq_true rfl⟩) hP hD hK hS hA [0, 6] [1, 2, 3, 4, 5] rfl rfl (by decide) (by decide) (by decide) 1 0 rfl rfl rfl rfl hl.1 rfl (Nat.le_of_ble_eq_true rfl) dX1_readsPerson_5 ⟨Nat.zero_le _, Nat.zero_le _⟩ (fun _ H locs hP hD hS => ?_)
  have hP : va_P (dC, dI) vwCl [((aT 0), .inr (2, [.int Tdeeds, .int Tpeople, .int Tcatches, .ref (aT 1), .ref (aT 2), .ref (aT 3), .ref (aT 4), .ref (aT 5)])), ((aT 2), .inl (cyI, 4, .inl T_kindOf)), ((aT 3), .inl (cyI, 4, .inl T_doneBy)), ((aT 4), .inl (cyI, 4, .inl T_knownTo)), ((aT 5), .inl (cyI, 4, .inl T_toldBy)), (aR, .inr (1, [.ref (aS 1), .int Rfrom, .int Rlength, .int o1.2])), ((aS 1), .inl (cyI, 60, .inl S_cells))] H := hP
  have hD : va_D A [((aT 0), .inr (2, [.int Tdeeds, .int Tpeople, .int Tcatches, .ref (aT 1), .ref (aT 2), .ref (aT 3), .ref (aT 4), .ref (aT 5)])), ((aT 2), .inl (cyI, 4, .inl T_kindOf)), ((aT 3), .inl (cyI, 4, .inl T_doneBy)), ((aT 4), .inl (cyI, 4, .inl T_knownTo)), ((aT 5), .inl (cyI, 4, .inl T_toldBy)), (aR, .inr (1, [.ref (aS 1), .int Rfrom, .int Rlength, .int o1.2])), ((aS 1), .inl (cyI, 60, .inl S_cells))] := hD
  refine lv_if_ge (tgt := 13) hx hb dX1_readsPerson_8 (by decide) (fun c3 => ?_) (fun c3 => ?_)
  · replace h := it_t c3 h
    refine lv_aload_n hx hb dX1_readsPerson_13 rfl (lv_at hl 0 rfl) ?_
    obtain ⟨o4, hc5, h⟩ := ob h
    refine k_vi (As := []) (rest := []) ⟨hx, hb, hml, hown, hts⟩ (c_X1_takenKind l dC dI cyI cyO aR aS H.size Rfrom Rlength o1.2 S_cells hc5) (cwV 0 hts gX1_readsPerson_X1_takenKind rfl rfl rfl (by decide +kernel) ⟨Nat.le_of_ble_eq_true rfl, Nat.le_of_ble_eq_true rfl⟩) hP hD hK hS hA [5, 6] [0, 1, 2, 3, 4] rfl rfl (by decide) (by decide) (by decide) 1 0 rfl rfl rfl rfl hl.1 rfl (Nat.le_of_ble_eq_true rfl) dX1_readsPerson_14 ⟨Nat.zero_le _, Nat.zero_le _⟩ (fun _ H locs hP hD hS => ?_)
    have hP : va_P (dC, dI) vwCl [((aT 0), .inr (2, [.int Tdeeds, .int Tpeople, .int Tcatches, .ref (aT 1), .ref (aT 2), .ref (aT 3), .ref (aT 4), .ref (aT 5)])), ((aT 2), .inl (cyI, 4, .inl T_kindOf)), ((aT 3), .inl (cyI, 4, .inl T_doneBy)), ((aT 4), .inl (cyI, 4, .inl T_knownTo)), ((aT 5), .inl (cyI, 4, .inl T_toldBy)), (aR, .inr (1, [.ref (aS 1), .int Rfrom, .int Rlength, .int o4.2])), ((aS 1), .inl (cyI, 60, .inl S_cells))] H := hP
    have hD : va_D A [((aT 0), .inr (2, [.int Tdeeds, .int Tpeople, .int Tcatches, .ref (aT 1), .ref (aT 2), .ref (aT 3), .ref (aT 4), .ref (aT 5)])), ((aT 2), .inl (cyI, 4, .inl T_kindOf)), ((aT 3), .inl (cyI, 4, .inl T_doneBy)), ((aT 4), .inl (cyI, 4, .inl T_knownTo)), ((aT 5), .inl (cyI, 4, .inl T_toldBy)), (aR, .inr (1, [.ref (aS 1), .int Rfrom, .int Rlength, .int o4.2])), ((aS 1), .inl (cyI, 60, .inl S_cells))] := hD
    refine lv_istore_n (lv' := [(2, .int o4.1), (0, .ref aR), (1, .ref (aT 0))]) hx hb dX1_readsPerson_17 rfl hl (by decide) rfl (fun ls hl => ?_)
    refine lv_iload_n hx hb dX1_readsPerson_18 rfl (lv_at hl 0 rfl) ?_
    refine lv_if_ge (tgt := 24) hx hb dX1_readsPerson_19 (by decide) (fun c6 => ?_) (fun c6 => ?_)
    · replace h := it_t c6 h
      refine lv_aload_n hx hb dX1_readsPerson_24 rfl (lv_at hl 1 rfl) ?_
      refine lv_bipush (v := 48) hx hb dX1_readsPerson_25 (by decide) ?_
      refine lv_bipush (v := 54) hx hb dX1_readsPerson_27 (by decide) ?_
      obtain ⟨o7, hc8, h⟩ := ob h
      refine k_vi (As := [.int 48, .int 54]) (rest := []) ⟨hx, hb, hml, hown, hts⟩ (c_X1_taken l dC dI cyI cyO aR aS H.size Rfrom Rlength o4.2 S_cells 48 54 hc8) (cwV 2 hts gX1_readsPerson_X1_taken rfl rfl rfl (by decide +kernel) ⟨Nat.le_of_ble_eq_true rfl, Nat.le_of_ble_eq_true rfl⟩) hP hD hK hS hA [5, 6] [0, 1, 2, 3, 4] rfl rfl (by decide) (by decide) (by decide) 1 0 rfl rfl rfl rfl hl.1 rfl (Nat.le_of_ble_eq_true rfl) dX1_readsPerson_29 ⟨Nat.zero_le _, Nat.zero_le _⟩ (fun _ H locs hP hD hS => ?_)
      have hP : va_P (dC, dI) vwCl [((aT 0), .inr (2, [.int Tdeeds, .int Tpeople, .int Tcatches, .ref (aT 1), .ref (aT 2), .ref (aT 3), .ref (aT 4), .ref (aT 5)])), ((aT 2), .inl (cyI, 4, .inl T_kindOf)), ((aT 3), .inl (cyI, 4, .inl T_doneBy)), ((aT 4), .inl (cyI, 4, .inl T_knownTo)), ((aT 5), .inl (cyI, 4, .inl T_toldBy)), (aR, .inr (1, [.ref (aS 1), .int Rfrom, .int Rlength, .int o7.2])), ((aS 1), .inl (cyI, 60, .inl S_cells))] H := hP
      have hD : va_D A [((aT 0), .inr (2, [.int Tdeeds, .int Tpeople, .int Tcatches, .ref (aT 1), .ref (aT 2), .ref (aT 3), .ref (aT 4), .ref (aT 5)])), ((aT 2), .inl (cyI, 4, .inl T_kindOf)), ((aT 3), .inl (cyI, 4, .inl T_doneBy)), ((aT 4), .inl (cyI, 4, .inl T_knownTo)), ((aT 5), .inl (cyI, 4, .inl T_toldBy)), (aR, .inr (1, [.ref (aS 1), .int Rfrom, .int Rlength, .int o7.2])), ((aS 1), .inl (cyI, 60, .inl S_cells))] := hD
      refine lv_istore_n (lv' := [(3, .int o7.1), (2, .int o4.1), (0, .ref aR), (1, .ref (aT 0))]) hx hb dX1_readsPerson_32 rfl hl (by decide) rfl (fun ls hl => ?_)
      refine lv_iload_n hx hb dX1_readsPerson_33 rfl (lv_at hl 0 rfl) ?_
      refine lv_if_ge (tgt := 39) hx hb dX1_readsPerson_34 (by decide) (fun c9 => ?_) (fun c9 => ?_)
      · replace h := it_t c9 h
        refine lv_aload_n hx hb dX1_readsPerson_39 rfl (lv_at hl 2 rfl) ?_
        refine lv_bipush (v := 48) hx hb dX1_readsPerson_40 (by decide) ?_
        refine lv_iload_n hx hb dX1_readsPerson_42 rfl (lv_at hl 0 rfl) ?_
        refine lv_bipush (v := 6) hx hb dX1_readsPerson_43 (by decide) ?_
        refine lv_icmp_ne (tgt := 53) hx hb dX1_readsPerson_45 (by decide) (fun c10 => ?_) (fun c10 => ?_)
        · replace h := it_f c10 h
          refine lv_bipush (v := 57) hx hb dX1_readsPerson_53 (by decide) ?_
          obtain ⟨o11, hc12, h⟩ := ob h
          refine k_vi (As := [.int 48, .int 57]) (rest := []) ⟨hx, hb, hml, hown, hts⟩ (c_X1_taken l dC dI cyI cyO aR aS H.size Rfrom Rlength o7.2 S_cells 48 57 hc12) (cwV 2 hts gX1_readsPerson_X1_taken rfl rfl rfl (by decide +kernel) ⟨Nat.le_of_ble_eq_true rfl, Nat.le_of_ble_eq_true rfl⟩) hP hD hK hS hA [5, 6] [0, 1, 2, 3, 4] rfl rfl (by decide) (by decide) (by decide) 1 0 rfl rfl rfl rfl hl.1 rfl (Nat.le_of_ble_eq_true rfl) dX1_readsPerson_55 ⟨Nat.zero_le _, Nat.zero_le _⟩ (fun _ H locs hP hD hS => ?_)
          have hP : va_P (dC, dI) vwCl [((aT 0), .inr (2, [.int Tdeeds, .int Tpeople, .int Tcatches, .ref (aT 1), .ref (aT 2), .ref (aT 3), .ref (aT 4), .ref (aT 5)])), ((aT 2), .inl (cyI, 4, .inl T_kindOf)), ((aT 3), .inl (cyI, 4, .inl T_doneBy)), ((aT 4), .inl (cyI, 4, .inl T_knownTo)), ((aT 5), .inl (cyI, 4, .inl T_toldBy)), (aR, .inr (1, [.ref (aS 1), .int Rfrom, .int Rlength, .int o11.2])), ((aS 1), .inl (cyI, 60, .inl S_cells))] H := hP
          have hD : va_D A [((aT 0), .inr (2, [.int Tdeeds, .int Tpeople, .int Tcatches, .ref (aT 1), .ref (aT 2), .ref (aT 3), .ref (aT 4), .ref (aT 5)])), ((aT 2), .inl (cyI, 4, .inl T_kindOf)), ((aT 3), .inl (cyI, 4, .inl T_doneBy)), ((aT 4), .inl (cyI, 4, .inl T_knownTo)), ((aT 5), .inl (cyI, 4, .inl T_toldBy)), (aR, .inr (1, [.ref (aS 1), .int Rfrom, .int Rlength, .int o11.2])), ((aS 1), .inl (cyI, 60, .inl S_cells))] := hD
          refine lv_istore (lv' := [(4, .int o11.1), (3, .int o7.1), (2, .int o4.1), (0, .ref aR), (1, .ref (aT 0))]) hx hb dX1_readsPerson_58 hl (by decide) rfl (fun ls hl => ?_)
          refine lv_iload hx hb dX1_readsPerson_60 (lv_at hl 0 rfl) ?_
          refine lv_if_ge (tgt := 67) hx hb dX1_readsPerson_62 (by decide) (fun c13 => ?_) (fun c13 => ?_)
          · replace h := it_t c13 h
            refine lv_aload_n hx hb dX1_readsPerson_67 rfl (lv_at hl 3 rfl) ?_
            refine lv_bipush (v := 48) hx hb dX1_readsPerson_68 (by decide) ?_
            refine lv_bipush (v := 52) hx hb dX1_readsPerson_70 (by decide) ?_
            obtain ⟨o14, hc15, h⟩ := ob h
            refine k_vi (As := [.int 48, .int 52]) (rest := []) ⟨hx, hb, hml, hown, hts⟩ (c_X1_taken l dC dI cyI cyO aR aS H.size Rfrom Rlength o11.2 S_cells 48 52 hc15) (cwV 2 hts gX1_readsPerson_X1_taken rfl rfl rfl (by decide +kernel) ⟨Nat.le_of_ble_eq_true rfl, Nat.le_of_ble_eq_true rfl⟩) hP hD hK hS hA [5, 6] [0, 1, 2, 3, 4] rfl rfl (by decide) (by decide) (by decide) 1 0 rfl rfl rfl rfl hl.1 rfl (Nat.le_of_ble_eq_true rfl) dX1_readsPerson_72 ⟨Nat.zero_le _, Nat.zero_le _⟩ (fun _ H locs hP hD hS => ?_)
            have hP : va_P (dC, dI) vwCl [((aT 0), .inr (2, [.int Tdeeds, .int Tpeople, .int Tcatches, .ref (aT 1), .ref (aT 2), .ref (aT 3), .ref (aT 4), .ref (aT 5)])), ((aT 2), .inl (cyI, 4, .inl T_kindOf)), ((aT 3), .inl (cyI, 4, .inl T_doneBy)), ((aT 4), .inl (cyI, 4, .inl T_knownTo)), ((aT 5), .inl (cyI, 4, .inl T_toldBy)), (aR, .inr (1, [.ref (aS 1), .int Rfrom, .int Rlength, .int o14.2])), ((aS 1), .inl (cyI, 60, .inl S_cells))] H := hP
            have hD : va_D A [((aT 0), .inr (2, [.int Tdeeds, .int Tpeople, .int Tcatches, .ref (aT 1), .ref (aT 2), .ref (aT 3), .ref (aT 4), .ref (aT 5)])), ((aT 2), .inl (cyI, 4, .inl T_kindOf)), ((aT 3), .inl (cyI, 4, .inl T_doneBy)), ((aT 4), .inl (cyI, 4, .inl T_knownTo)), ((aT 5), .inl (cyI, 4, .inl T_toldBy)), (aR, .inr (1, [.ref (aS 1), .int Rfrom, .int Rlength, .int o14.2])), ((aS 1), .inl (cyI, 60, .inl S_cells))] := hD
            refine lv_istore (lv' := [(5, .int o14.1), (4, .int o11.1), (3, .int o7.1), (2, .int o4.1), (0, .ref aR), (1, .ref (aT 0))]) hx hb dX1_readsPerson_75 hl (by decide) rfl (fun ls hl => ?_)
            refine lv_iload hx hb dX1_readsPerson_77 (lv_at hl 0 rfl) ?_
            refine lv_if_ge (tgt := 84) hx hb dX1_readsPerson_79 (by decide) (fun c16 => ?_) (fun c16 => ?_)
            · replace h := it_t c16 h
              refine lv_aload_n hx hb dX1_readsPerson_84 rfl (lv_at hl 5 rfl) ?_
              refine lv_iload_n hx hb dX1_readsPerson_85 rfl (lv_at hl 3 rfl) ?_
              refine lv_bipush (v := 10) hx hb dX1_readsPerson_86 (by decide) ?_
              refine lv_iload_n hx hb dX1_readsPerson_88 rfl (lv_at hl 2 rfl) ?_
              refine lv_imul hx hb dX1_readsPerson_89 ?_
              refine lv_iload hx hb dX1_readsPerson_90 (lv_at hl 1 rfl) ?_
              refine lv_iadd hx hb dX1_readsPerson_92 ?_
              refine lv_iload hx hb dX1_readsPerson_93 (lv_at hl 0 rfl) ?_
              obtain ⟨o17, hc18, h⟩ := ob h
              refine k_vv (As := [.int o4.1, .int ((10 * o7.1) + o11.1), .int o14.1]) (rest := []) ⟨hx, hb, hml, hown, hts⟩ (c_X2_addPerson l dC dI cyI cyO aT H.size Tdeeds Tpeople Tcatches T_kindOf T_doneBy T_knownTo T_toldBy o4.1 ((10 * o7.1) + o11.1) o14.1 hc18) (cwV 3 hts gX1_readsPerson_X2_addPerson rfl rfl rfl (by decide +kernel) ⟨Nat.le_of_ble_eq_true rfl, Nat.le_of_ble_eq_true rfl⟩) hP hD hK hS hA [0, 1, 2, 3, 4] [5, 6] rfl rfl (by decide) (by decide) (by decide) 2 0 rfl rfl rfl rfl hl.1 rfl (Nat.le_of_ble_eq_true rfl) dX1_readsPerson_95 ⟨Nat.zero_le _, Nat.zero_le _⟩ (fun _ H locs hP hD hS => ?_)
              have hP : va_P (dC, dI) vwCl [(aR, .inr (1, [.ref (aS 1), .int Rfrom, .int Rlength, .int o14.2])), ((aS 1), .inl (cyI, 60, .inl S_cells)), ((aT 0), .inr (2, [.int Tdeeds, .int o17.1, .int Tcatches, .ref (aT 1), .ref (aT 2), .ref (aT 3), .ref (aT 4), .ref (aT 5)])), ((aT 2), .inl (cyI, 4, .inl o17.2.1)), ((aT 3), .inl (cyI, 4, .inl o17.2.2.1)), ((aT 4), .inl (cyI, 4, .inl o17.2.2.2.1)), ((aT 5), .inl (cyI, 4, .inl o17.2.2.2.2))] H := hP
              have hD : va_D A [(aR, .inr (1, [.ref (aS 1), .int Rfrom, .int Rlength, .int o14.2])), ((aS 1), .inl (cyI, 60, .inl S_cells)), ((aT 0), .inr (2, [.int Tdeeds, .int o17.1, .int Tcatches, .ref (aT 1), .ref (aT 2), .ref (aT 3), .ref (aT 4), .ref (aT 5)])), ((aT 2), .inl (cyI, 4, .inl o17.2.1)), ((aT 3), .inl (cyI, 4, .inl o17.2.2.1)), ((aT 4), .inl (cyI, 4, .inl o17.2.2.2.1)), ((aT 5), .inl (cyI, 4, .inl o17.2.2.2.2))] := hD
              refine lv_iconst (v := 1) hx hb dX1_readsPerson_98 (by decide) ?_
              replace h := Option.some.inj h; subst h
              have hP := hP.sub (ws' := [(aR, .inr (1, [.ref (aS 1), .int Rfrom, .int Rlength, .int o14.2])), ((aT 0), .inr (2, [.int Tdeeds, .int o17.1, .int Tcatches, .ref (aT 1), .ref (aT 2), .ref (aT 3), .ref (aT 4), .ref (aT 5)])), ((aT 2), .inl (cyI, 4, .inl o17.2.1)), ((aT 3), .inl (cyI, 4, .inl o17.2.2.1)), ((aT 4), .inl (cyI, 4, .inl o17.2.2.2.1)), ((aT 5), .inl (cyI, 4, .inl o17.2.2.2.2)), ((aS 1), .inl (cyI, 60, .inl S_cells))]) [0, 2, 3, 4, 5, 6, 1] rfl
              have hD := hD.sub (ws' := [(aR, .inr (1, [.ref (aS 1), .int Rfrom, .int Rlength, .int o14.2])), ((aT 0), .inr (2, [.int Tdeeds, .int o17.1, .int Tcatches, .ref (aT 1), .ref (aT 2), .ref (aT 3), .ref (aT 4), .ref (aT 5)])), ((aT 2), .inl (cyI, 4, .inl o17.2.1)), ((aT 3), .inl (cyI, 4, .inl o17.2.2.1)), ((aT 4), .inl (cyI, 4, .inl o17.2.2.2.1)), ((aT 5), .inl (cyI, 4, .inl o17.2.2.2.2)), ((aS 1), .inl (cyI, 60, .inl S_cells))]) [0, 2, 3, 4, 5, 6, 1] (by decide) rfl
              exact hret () H locs _ ls hP hD hS dX1_readsPerson_99 bz_1
            · replace h := it_f c16 h
              refine lv_iconst (v := 0) hx hb dX1_readsPerson_82 (by decide) ?_
              replace h := Option.some.inj h; subst h
              have hP := hP.sub (ws' := [(aR, .inr (1, [.ref (aS 1), .int Rfrom, .int Rlength, .int o14.2])), ((aT 0), .inr (2, [.int Tdeeds, .int Tpeople, .int Tcatches, .ref (aT 1), .ref (aT 2), .ref (aT 3), .ref (aT 4), .ref (aT 5)])), ((aT 2), .inl (cyI, 4, .inl T_kindOf)), ((aT 3), .inl (cyI, 4, .inl T_doneBy)), ((aT 4), .inl (cyI, 4, .inl T_knownTo)), ((aT 5), .inl (cyI, 4, .inl T_toldBy)), ((aS 1), .inl (cyI, 60, .inl S_cells))]) [5, 0, 1, 2, 3, 4, 6] rfl
              have hD := hD.sub (ws' := [(aR, .inr (1, [.ref (aS 1), .int Rfrom, .int Rlength, .int o14.2])), ((aT 0), .inr (2, [.int Tdeeds, .int Tpeople, .int Tcatches, .ref (aT 1), .ref (aT 2), .ref (aT 3), .ref (aT 4), .ref (aT 5)])), ((aT 2), .inl (cyI, 4, .inl T_kindOf)), ((aT 3), .inl (cyI, 4, .inl T_doneBy)), ((aT 4), .inl (cyI, 4, .inl T_knownTo)), ((aT 5), .inl (cyI, 4, .inl T_toldBy)), ((aS 1), .inl (cyI, 60, .inl S_cells))]) [5, 0, 1, 2, 3, 4, 6] (by decide) rfl
              exact hret () H locs _ ls hP hD hS dX1_readsPerson_83 bz_0
          · replace h := it_f c13 h
            refine lv_iconst (v := 0) hx hb dX1_readsPerson_65 (by decide) ?_
            replace h := Option.some.inj h; subst h
            have hP := hP.sub (ws' := [(aR, .inr (1, [.ref (aS 1), .int Rfrom, .int Rlength, .int o11.2])), ((aT 0), .inr (2, [.int Tdeeds, .int Tpeople, .int Tcatches, .ref (aT 1), .ref (aT 2), .ref (aT 3), .ref (aT 4), .ref (aT 5)])), ((aT 2), .inl (cyI, 4, .inl T_kindOf)), ((aT 3), .inl (cyI, 4, .inl T_doneBy)), ((aT 4), .inl (cyI, 4, .inl T_knownTo)), ((aT 5), .inl (cyI, 4, .inl T_toldBy)), ((aS 1), .inl (cyI, 60, .inl S_cells))]) [5, 0, 1, 2, 3, 4, 6] rfl
            have hD := hD.sub (ws' := [(aR, .inr (1, [.ref (aS 1), .int Rfrom, .int Rlength, .int o11.2])), ((aT 0), .inr (2, [.int Tdeeds, .int Tpeople, .int Tcatches, .ref (aT 1), .ref (aT 2), .ref (aT 3), .ref (aT 4), .ref (aT 5)])), ((aT 2), .inl (cyI, 4, .inl T_kindOf)), ((aT 3), .inl (cyI, 4, .inl T_doneBy)), ((aT 4), .inl (cyI, 4, .inl T_knownTo)), ((aT 5), .inl (cyI, 4, .inl T_toldBy)), ((aS 1), .inl (cyI, 60, .inl S_cells))]) [5, 0, 1, 2, 3, 4, 6] (by decide) rfl
            exact hret () H locs _ ls hP hD hS dX1_readsPerson_66 bz_0
        · replace h := it_t c10 h
          refine lv_bipush (v := 51) hx hb dX1_readsPerson_48 (by decide) ?_
          refine lv_goto (tgt := 55) hx hb dX1_readsPerson_50 (by decide) ?_
          obtain ⟨o19, hc20, h⟩ := ob h
          refine k_vi (As := [.int 48, .int 51]) (rest := []) ⟨hx, hb, hml, hown, hts⟩ (c_X1_taken l dC dI cyI cyO aR aS H.size Rfrom Rlength o7.2 S_cells 48 51 hc20) (cwV 2 hts gX1_readsPerson_X1_taken rfl rfl rfl (by decide +kernel) ⟨Nat.le_of_ble_eq_true rfl, Nat.le_of_ble_eq_true rfl⟩) hP hD hK hS hA [5, 6] [0, 1, 2, 3, 4] rfl rfl (by decide) (by decide) (by decide) 1 0 rfl rfl rfl rfl hl.1 rfl (Nat.le_of_ble_eq_true rfl) dX1_readsPerson_55 ⟨Nat.zero_le _, Nat.zero_le _⟩ (fun _ H locs hP hD hS => ?_)
          have hP : va_P (dC, dI) vwCl [((aT 0), .inr (2, [.int Tdeeds, .int Tpeople, .int Tcatches, .ref (aT 1), .ref (aT 2), .ref (aT 3), .ref (aT 4), .ref (aT 5)])), ((aT 2), .inl (cyI, 4, .inl T_kindOf)), ((aT 3), .inl (cyI, 4, .inl T_doneBy)), ((aT 4), .inl (cyI, 4, .inl T_knownTo)), ((aT 5), .inl (cyI, 4, .inl T_toldBy)), (aR, .inr (1, [.ref (aS 1), .int Rfrom, .int Rlength, .int o19.2])), ((aS 1), .inl (cyI, 60, .inl S_cells))] H := hP
          have hD : va_D A [((aT 0), .inr (2, [.int Tdeeds, .int Tpeople, .int Tcatches, .ref (aT 1), .ref (aT 2), .ref (aT 3), .ref (aT 4), .ref (aT 5)])), ((aT 2), .inl (cyI, 4, .inl T_kindOf)), ((aT 3), .inl (cyI, 4, .inl T_doneBy)), ((aT 4), .inl (cyI, 4, .inl T_knownTo)), ((aT 5), .inl (cyI, 4, .inl T_toldBy)), (aR, .inr (1, [.ref (aS 1), .int Rfrom, .int Rlength, .int o19.2])), ((aS 1), .inl (cyI, 60, .inl S_cells))] := hD
          refine lv_istore (lv' := [(4, .int o19.1), (3, .int o7.1), (2, .int o4.1), (0, .ref aR), (1, .ref (aT 0))]) hx hb dX1_readsPerson_58 hl (by decide) rfl (fun ls hl => ?_)
          refine lv_iload hx hb dX1_readsPerson_60 (lv_at hl 0 rfl) ?_
          refine lv_if_ge (tgt := 67) hx hb dX1_readsPerson_62 (by decide) (fun c21 => ?_) (fun c21 => ?_)
          · replace h := it_t c21 h
            refine lv_aload_n hx hb dX1_readsPerson_67 rfl (lv_at hl 3 rfl) ?_
            refine lv_bipush (v := 48) hx hb dX1_readsPerson_68 (by decide) ?_
            refine lv_bipush (v := 52) hx hb dX1_readsPerson_70 (by decide) ?_
            obtain ⟨o22, hc23, h⟩ := ob h
            refine k_vi (As := [.int 48, .int 52]) (rest := []) ⟨hx, hb, hml, hown, hts⟩ (c_X1_taken l dC dI cyI cyO aR aS H.size Rfrom Rlength o19.2 S_cells 48 52 hc23) (cwV 2 hts gX1_readsPerson_X1_taken rfl rfl rfl (by decide +kernel) ⟨Nat.le_of_ble_eq_true rfl, Nat.le_of_ble_eq_true rfl⟩) hP hD hK hS hA [5, 6] [0, 1, 2, 3, 4] rfl rfl (by decide) (by decide) (by decide) 1 0 rfl rfl rfl rfl hl.1 rfl (Nat.le_of_ble_eq_true rfl) dX1_readsPerson_72 ⟨Nat.zero_le _, Nat.zero_le _⟩ (fun _ H locs hP hD hS => ?_)
            have hP : va_P (dC, dI) vwCl [((aT 0), .inr (2, [.int Tdeeds, .int Tpeople, .int Tcatches, .ref (aT 1), .ref (aT 2), .ref (aT 3), .ref (aT 4), .ref (aT 5)])), ((aT 2), .inl (cyI, 4, .inl T_kindOf)), ((aT 3), .inl (cyI, 4, .inl T_doneBy)), ((aT 4), .inl (cyI, 4, .inl T_knownTo)), ((aT 5), .inl (cyI, 4, .inl T_toldBy)), (aR, .inr (1, [.ref (aS 1), .int Rfrom, .int Rlength, .int o22.2])), ((aS 1), .inl (cyI, 60, .inl S_cells))] H := hP
            have hD : va_D A [((aT 0), .inr (2, [.int Tdeeds, .int Tpeople, .int Tcatches, .ref (aT 1), .ref (aT 2), .ref (aT 3), .ref (aT 4), .ref (aT 5)])), ((aT 2), .inl (cyI, 4, .inl T_kindOf)), ((aT 3), .inl (cyI, 4, .inl T_doneBy)), ((aT 4), .inl (cyI, 4, .inl T_knownTo)), ((aT 5), .inl (cyI, 4, .inl T_toldBy)), (aR, .inr (1, [.ref (aS 1), .int Rfrom, .int Rlength, .int o22.2])), ((aS 1), .inl (cyI, 60, .inl S_cells))] := hD
            refine lv_istore (lv' := [(5, .int o22.1), (4, .int o19.1), (3, .int o7.1), (2, .int o4.1), (0, .ref aR), (1, .ref (aT 0))]) hx hb dX1_readsPerson_75 hl (by decide) rfl (fun ls hl => ?_)
            refine lv_iload hx hb dX1_readsPerson_77 (lv_at hl 0 rfl) ?_
            refine lv_if_ge (tgt := 84) hx hb dX1_readsPerson_79 (by decide) (fun c24 => ?_) (fun c24 => ?_)
            · replace h := it_t c24 h
              refine lv_aload_n hx hb dX1_readsPerson_84 rfl (lv_at hl 5 rfl) ?_
              refine lv_iload_n hx hb dX1_readsPerson_85 rfl (lv_at hl 3 rfl) ?_
              refine lv_bipush (v := 10) hx hb dX1_readsPerson_86 (by decide) ?_
              refine lv_iload_n hx hb dX1_readsPerson_88 rfl (lv_at hl 2 rfl) ?_
              refine lv_imul hx hb dX1_readsPerson_89 ?_
              refine lv_iload hx hb dX1_readsPerson_90 (lv_at hl 1 rfl) ?_
              refine lv_iadd hx hb dX1_readsPerson_92 ?_
              refine lv_iload hx hb dX1_readsPerson_93 (lv_at hl 0 rfl) ?_
              obtain ⟨o25, hc26, h⟩ := ob h
              refine k_vv (As := [.int o4.1, .int ((10 * o7.1) + o19.1), .int o22.1]) (rest := []) ⟨hx, hb, hml, hown, hts⟩ (c_X2_addPerson l dC dI cyI cyO aT H.size Tdeeds Tpeople Tcatches T_kindOf T_doneBy T_knownTo T_toldBy o4.1 ((10 * o7.1) + o19.1) o22.1 hc26) (cwV 3 hts gX1_readsPerson_X2_addPerson rfl rfl rfl (by decide +kernel) ⟨Nat.le_of_ble_eq_true rfl, Nat.le_of_ble_eq_true rfl⟩) hP hD hK hS hA [0, 1, 2, 3, 4] [5, 6] rfl rfl (by decide) (by decide) (by decide) 2 0 rfl rfl rfl rfl hl.1 rfl (Nat.le_of_ble_eq_true rfl) dX1_readsPerson_95 ⟨Nat.zero_le _, Nat.zero_le _⟩ (fun _ H locs hP hD hS => ?_)
              have hP : va_P (dC, dI) vwCl [(aR, .inr (1, [.ref (aS 1), .int Rfrom, .int Rlength, .int o22.2])), ((aS 1), .inl (cyI, 60, .inl S_cells)), ((aT 0), .inr (2, [.int Tdeeds, .int o25.1, .int Tcatches, .ref (aT 1), .ref (aT 2), .ref (aT 3), .ref (aT 4), .ref (aT 5)])), ((aT 2), .inl (cyI, 4, .inl o25.2.1)), ((aT 3), .inl (cyI, 4, .inl o25.2.2.1)), ((aT 4), .inl (cyI, 4, .inl o25.2.2.2.1)), ((aT 5), .inl (cyI, 4, .inl o25.2.2.2.2))] H := hP
              have hD : va_D A [(aR, .inr (1, [.ref (aS 1), .int Rfrom, .int Rlength, .int o22.2])), ((aS 1), .inl (cyI, 60, .inl S_cells)), ((aT 0), .inr (2, [.int Tdeeds, .int o25.1, .int Tcatches, .ref (aT 1), .ref (aT 2), .ref (aT 3), .ref (aT 4), .ref (aT 5)])), ((aT 2), .inl (cyI, 4, .inl o25.2.1)), ((aT 3), .inl (cyI, 4, .inl o25.2.2.1)), ((aT 4), .inl (cyI, 4, .inl o25.2.2.2.1)), ((aT 5), .inl (cyI, 4, .inl o25.2.2.2.2))] := hD
              refine lv_iconst (v := 1) hx hb dX1_readsPerson_98 (by decide) ?_
              replace h := Option.some.inj h; subst h
              have hP := hP.sub (ws' := [(aR, .inr (1, [.ref (aS 1), .int Rfrom, .int Rlength, .int o22.2])), ((aT 0), .inr (2, [.int Tdeeds, .int o25.1, .int Tcatches, .ref (aT 1), .ref (aT 2), .ref (aT 3), .ref (aT 4), .ref (aT 5)])), ((aT 2), .inl (cyI, 4, .inl o25.2.1)), ((aT 3), .inl (cyI, 4, .inl o25.2.2.1)), ((aT 4), .inl (cyI, 4, .inl o25.2.2.2.1)), ((aT 5), .inl (cyI, 4, .inl o25.2.2.2.2)), ((aS 1), .inl (cyI, 60, .inl S_cells))]) [0, 2, 3, 4, 5, 6, 1] rfl
              have hD := hD.sub (ws' := [(aR, .inr (1, [.ref (aS 1), .int Rfrom, .int Rlength, .int o22.2])), ((aT 0), .inr (2, [.int Tdeeds, .int o25.1, .int Tcatches, .ref (aT 1), .ref (aT 2), .ref (aT 3), .ref (aT 4), .ref (aT 5)])), ((aT 2), .inl (cyI, 4, .inl o25.2.1)), ((aT 3), .inl (cyI, 4, .inl o25.2.2.1)), ((aT 4), .inl (cyI, 4, .inl o25.2.2.2.1)), ((aT 5), .inl (cyI, 4, .inl o25.2.2.2.2)), ((aS 1), .inl (cyI, 60, .inl S_cells))]) [0, 2, 3, 4, 5, 6, 1] (by decide) rfl
              exact hret () H locs _ ls hP hD hS dX1_readsPerson_99 bz_1
            · replace h := it_f c24 h
              refine lv_iconst (v := 0) hx hb dX1_readsPerson_82 (by decide) ?_
              replace h := Option.some.inj h; subst h
              have hP := hP.sub (ws' := [(aR, .inr (1, [.ref (aS 1), .int Rfrom, .int Rlength, .int o22.2])), ((aT 0), .inr (2, [.int Tdeeds, .int Tpeople, .int Tcatches, .ref (aT 1), .ref (aT 2), .ref (aT 3), .ref (aT 4), .ref (aT 5)])), ((aT 2), .inl (cyI, 4, .inl T_kindOf)), ((aT 3), .inl (cyI, 4, .inl T_doneBy)), ((aT 4), .inl (cyI, 4, .inl T_knownTo)), ((aT 5), .inl (cyI, 4, .inl T_toldBy)), ((aS 1), .inl (cyI, 60, .inl S_cells))]) [5, 0, 1, 2, 3, 4, 6] rfl
              have hD := hD.sub (ws' := [(aR, .inr (1, [.ref (aS 1), .int Rfrom, .int Rlength, .int o22.2])), ((aT 0), .inr (2, [.int Tdeeds, .int Tpeople, .int Tcatches, .ref (aT 1), .ref (aT 2), .ref (aT 3), .ref (aT 4), .ref (aT 5)])), ((aT 2), .inl (cyI, 4, .inl T_kindOf)), ((aT 3), .inl (cyI, 4, .inl T_doneBy)), ((aT 4), .inl (cyI, 4, .inl T_knownTo)), ((aT 5), .inl (cyI, 4, .inl T_toldBy)), ((aS 1), .inl (cyI, 60, .inl S_cells))]) [5, 0, 1, 2, 3, 4, 6] (by decide) rfl
              exact hret () H locs _ ls hP hD hS dX1_readsPerson_83 bz_0
          · replace h := it_f c21 h
            refine lv_iconst (v := 0) hx hb dX1_readsPerson_65 (by decide) ?_
            replace h := Option.some.inj h; subst h
            have hP := hP.sub (ws' := [(aR, .inr (1, [.ref (aS 1), .int Rfrom, .int Rlength, .int o19.2])), ((aT 0), .inr (2, [.int Tdeeds, .int Tpeople, .int Tcatches, .ref (aT 1), .ref (aT 2), .ref (aT 3), .ref (aT 4), .ref (aT 5)])), ((aT 2), .inl (cyI, 4, .inl T_kindOf)), ((aT 3), .inl (cyI, 4, .inl T_doneBy)), ((aT 4), .inl (cyI, 4, .inl T_knownTo)), ((aT 5), .inl (cyI, 4, .inl T_toldBy)), ((aS 1), .inl (cyI, 60, .inl S_cells))]) [5, 0, 1, 2, 3, 4, 6] rfl
            have hD := hD.sub (ws' := [(aR, .inr (1, [.ref (aS 1), .int Rfrom, .int Rlength, .int o19.2])), ((aT 0), .inr (2, [.int Tdeeds, .int Tpeople, .int Tcatches, .ref (aT 1), .ref (aT 2), .ref (aT 3), .ref (aT 4), .ref (aT 5)])), ((aT 2), .inl (cyI, 4, .inl T_kindOf)), ((aT 3), .inl (cyI, 4, .inl T_doneBy)), ((aT 4), .inl (cyI, 4, .inl T_knownTo)), ((aT 5), .inl (cyI, 4, .inl T_toldBy)), ((aS 1), .inl (cyI, 60, .inl S_cells))]) [5, 0, 1, 2, 3, 4, 6] (by decide) rfl
            exact hret () H locs _ ls hP hD hS dX1_readsPerson_66 bz_0
      · replace h := it_f c9 h
        refine lv_iconst (v := 0) hx hb dX1_readsPerson_37 (by decide) ?_
        replace h := Option.some.inj h; subst h
        have hP := hP.sub (ws' := [(aR, .inr (1, [.ref (aS 1), .int Rfrom, .int Rlength, .int o7.2])), ((aT 0), .inr (2, [.int Tdeeds, .int Tpeople, .int Tcatches, .ref (aT 1), .ref (aT 2), .ref (aT 3), .ref (aT 4), .ref (aT 5)])), ((aT 2), .inl (cyI, 4, .inl T_kindOf)), ((aT 3), .inl (cyI, 4, .inl T_doneBy)), ((aT 4), .inl (cyI, 4, .inl T_knownTo)), ((aT 5), .inl (cyI, 4, .inl T_toldBy)), ((aS 1), .inl (cyI, 60, .inl S_cells))]) [5, 0, 1, 2, 3, 4, 6] rfl
        have hD := hD.sub (ws' := [(aR, .inr (1, [.ref (aS 1), .int Rfrom, .int Rlength, .int o7.2])), ((aT 0), .inr (2, [.int Tdeeds, .int Tpeople, .int Tcatches, .ref (aT 1), .ref (aT 2), .ref (aT 3), .ref (aT 4), .ref (aT 5)])), ((aT 2), .inl (cyI, 4, .inl T_kindOf)), ((aT 3), .inl (cyI, 4, .inl T_doneBy)), ((aT 4), .inl (cyI, 4, .inl T_knownTo)), ((aT 5), .inl (cyI, 4, .inl T_toldBy)), ((aS 1), .inl (cyI, 60, .inl S_cells))]) [5, 0, 1, 2, 3, 4, 6] (by decide) rfl
        exact hret () H locs _ ls hP hD hS dX1_readsPerson_38 bz_0
    · replace h := it_f c6 h
      refine lv_iconst (v := 0) hx hb dX1_readsPerson_22 (by decide) ?_
      replace h := Option.some.inj h; subst h
      have hP := hP.sub (ws' := [(aR, .inr (1, [.ref (aS 1), .int Rfrom, .int Rlength, .int o4.2])), ((aT 0), .inr (2, [.int Tdeeds, .int Tpeople, .int Tcatches, .ref (aT 1), .ref (aT 2), .ref (aT 3), .ref (aT 4), .ref (aT 5)])), ((aT 2), .inl (cyI, 4, .inl T_kindOf)), ((aT 3), .inl (cyI, 4, .inl T_doneBy)), ((aT 4), .inl (cyI, 4, .inl T_knownTo)), ((aT 5), .inl (cyI, 4, .inl T_toldBy)), ((aS 1), .inl (cyI, 60, .inl S_cells))]) [5, 0, 1, 2, 3, 4, 6] rfl
      have hD := hD.sub (ws' := [(aR, .inr (1, [.ref (aS 1), .int Rfrom, .int Rlength, .int o4.2])), ((aT 0), .inr (2, [.int Tdeeds, .int Tpeople, .int Tcatches, .ref (aT 1), .ref (aT 2), .ref (aT 3), .ref (aT 4), .ref (aT 5)])), ((aT 2), .inl (cyI, 4, .inl T_kindOf)), ((aT 3), .inl (cyI, 4, .inl T_doneBy)), ((aT 4), .inl (cyI, 4, .inl T_knownTo)), ((aT 5), .inl (cyI, 4, .inl T_toldBy)), ((aS 1), .inl (cyI, 60, .inl S_cells))]) [5, 0, 1, 2, 3, 4, 6] (by decide) rfl
      exact hret () H locs _ ls hP hD hS dX1_readsPerson_23 bz_0
  · replace h := it_f c3 h
    refine lv_iconst (v := 0) hx hb dX1_readsPerson_11 (by decide) ?_
    replace h := Option.some.inj h; subst h
    have hP := hP.sub (ws' := [(aR, .inr (1, [.ref (aS 1), .int Rfrom, .int Rlength, .int o1.2])), ((aT 0), .inr (2, [.int Tdeeds, .int Tpeople, .int Tcatches, .ref (aT 1), .ref (aT 2), .ref (aT 3), .ref (aT 4), .ref (aT 5)])), ((aT 2), .inl (cyI, 4, .inl T_kindOf)), ((aT 3), .inl (cyI, 4, .inl T_doneBy)), ((aT 4), .inl (cyI, 4, .inl T_knownTo)), ((aT 5), .inl (cyI, 4, .inl T_toldBy)), ((aS 1), .inl (cyI, 60, .inl S_cells))]) [5, 0, 1, 2, 3, 4, 6] rfl
    have hD := hD.sub (ws' := [(aR, .inr (1, [.ref (aS 1), .int Rfrom, .int Rlength, .int o1.2])), ((aT 0), .inr (2, [.int Tdeeds, .int Tpeople, .int Tcatches, .ref (aT 1), .ref (aT 2), .ref (aT 3), .ref (aT 4), .ref (aT 5)])), ((aT 2), .inl (cyI, 4, .inl T_kindOf)), ((aT 3), .inl (cyI, 4, .inl T_doneBy)), ((aT 4), .inl (cyI, 4, .inl T_knownTo)), ((aT 5), .inl (cyI, 4, .inl T_toldBy)), ((aS 1), .inl (cyI, 60, .inl S_cells))]) [5, 0, 1, 2, 3, 4, 6] (by decide) rfl
    exact hret () H locs _ ls hP hD hS dX1_readsPerson_12 bz_0
set_option maxHeartbeats 4000000 in
set_option maxRecDepth 100000 in
theorem c_X1_readsText (l : Launch) (dC : Nat → ClassId) (dI : Nat → Nat → Nat) (cyI cyO : ClassId) (aR : Nat) (aT : Nat → Nat) (aS : Nat → Nat) (sz : Nat) (Rfrom : Int32) (Rlength : Int32) (Rat : Int32) (Tdeeds : Int32) (Tpeople : Int32) (Tcatches : Int32) (T_weightOf : Nat → Int32) (T_kindOf : Nat → Int32) (T_doneBy : Nat → Int32) (T_knownTo : Nat → Int32) (T_toldBy : Nat → Int32) (S_cells : Nat → Int32)  {o : Int32 × Int32 × Int32 × Int32 × (Nat → Int32) × (Nat → Int32) × (Nat → Int32) × (Nat → Int32) × (Nat → Int32)}  (h : f_X1_readsText Rfrom Rlength Rat Tdeeds Tpeople T_weightOf T_kindOf T_doneBy T_knownTo T_toldBy S_cells = some o) : CtI l yX1_readsText wsX1_readsText { frames := 3, cells := 0, slots := 0, locals := 68 } (dC, dI) [(cyI, .int), (cyO, .object RX0)] [.ref aR, .ref (aT 0)] sz [(aR, .inr (1, [.ref (aS 1), .int Rfrom, .int Rlength, .int Rat])), ((aT 0), .inr (2, [.int Tdeeds, .int Tpeople, .int Tcatches, .ref (aT 1), .ref (aT 2), .ref (aT 3), .ref (aT 4), .ref (aT 5)])), ((aT 1), .inl (cyI, 6, .inl T_weightOf)), ((aT 2), .inl (cyI, 4, .inl T_kindOf)), ((aT 3), .inl (cyI, 4, .inl T_doneBy)), ((aT 4), .inl (cyI, 4, .inl T_knownTo)), ((aT 5), .inl (cyI, 4, .inl T_toldBy)), ((aS 1), .inl (cyI, 60, .inl S_cells))] (fun (_ : Unit) => [(aR, .inr (1, [.ref (aS 1), .int Rfrom, .int Rlength, .int o.2.1])), ((aT 0), .inr (2, [.int o.2.2.1, .int o.2.2.2.1, .int Tcatches, .ref (aT 1), .ref (aT 2), .ref (aT 3), .ref (aT 4), .ref (aT 5)])), ((aT 1), .inl (cyI, 6, .inl o.2.2.2.2.1)), ((aT 2), .inl (cyI, 4, .inl o.2.2.2.2.2.1)), ((aT 3), .inl (cyI, 4, .inl o.2.2.2.2.2.2.1)), ((aT 4), .inl (cyI, 4, .inl o.2.2.2.2.2.2.2.1)), ((aT 5), .inl (cyI, 4, .inl o.2.2.2.2.2.2.2.2)), ((aS 1), .inl (cyI, 60, .inl S_cells))]) o.1 := by
  refine CtI.of (cc := cX1_readsText) (maxL := 3) (by decide) rfl (Nat.le_of_ble_eq_true rfl) ?_
  intro p e s m args below meth c A Q H locs hx hb hml hown hts hA hK hP hD hS hret ls hl
  have hown : s.vm.findClass RX1 = some m.cls := hown
  have hl : lv_has ls 3 [(0, .ref aR), (1, .ref (aT 0))] := hl
  unfold f_X1_readsText at h
  have hiX1 : ∀ w ∈ u_ws RX1 TX1 4, w ∈ wsX1_readsText := by decide +kernel
  have hf24 := hts (.fieldLink RX1 24 "TowerTell$TextReader" "length" "I") (by decide +kernel)
  have hf27 := hts (.fieldLink RX1 27 "TowerTell$TextReader" "at" "I") (by decide +kernel)
  have lp66 : ∀ (n : Nat) (x2 : Int32) (yRat : Int32) (yTdeeds : Int32) (yTpeople : Int32) (yT_weightOf : Nat → Int32) (yT_kindOf : Nat → Int32) (yT_doneBy : Nat → Int32) (yT_knownTo : Nat → Int32) (yT_toldBy : Nat → Int32) (H : Heap) (locs : List Loc) (ls : Array Slot), l_X1_readsText_66 Rfrom Rlength S_cells n (x2, yRat, yTdeeds, yTpeople, yT_weightOf, yT_kindOf, yT_doneBy, yT_knownTo, yT_toldBy) = some o → va_P (dC, dI) vwCl [(aR, .inr (1, [.ref (aS 1), .int Rfrom, .int Rlength, .int yRat])), ((aT 0), .inr (2, [.int yTdeeds, .int yTpeople, .int Tcatches, .ref (aT 1), .ref (aT 2), .ref (aT 3), .ref (aT 4), .ref (aT 5)])), ((aT 1), .inl (cyI, 6, .inl yT_weightOf)), ((aT 2), .inl (cyI, 4, .inl yT_kindOf)), ((aT 3), .inl (cyI, 4, .inl yT_doneBy)), ((aT 4), .inl (cyI, 4, .inl yT_knownTo)), ((aT 5), .inl (cyI, 4, .inl yT_toldBy)), ((aS 1), .inl (cyI, 60, .inl S_cells))] H → va_D A [(aR, .inr (1, [.ref (aS 1), .int Rfrom, .int Rlength, .int yRat])), ((aT 0), .inr (2, [.int yTdeeds, .int yTpeople, .int Tcatches, .ref (aT 1), .ref (aT 2), .ref (aT 3), .ref (aT 4), .ref (aT 5)])), ((aT 1), .inl (cyI, 6, .inl yT_weightOf)), ((aT 2), .inl (cyI, 4, .inl yT_kindOf)), ((aT 3), .inl (cyI, 4, .inl yT_doneBy)), ((aT 4), .inl (cyI, 4, .inl yT_knownTo)), ((aT 5), .inl (cyI, 4, .inl yT_toldBy)), ((aS 1), .inl (cyI, 60, .inl S_cells))] → va_S A s.heap H locs → lv_has ls 3 [(0, .ref aR), (1, .ref (aT 0)), (2, .int x2)] → W p l e { frames := 3, cells := 0, slots := 0, locals := 68 } s m args below meth c H locs 0 0 Q (F0 m 66 ls []) := by
    intro n
    induction n with
    | zero => intro _ _ _ _ _ _ _ _ _ H locs ls h _ _ _ _; exact (lpF_0 h).elim
    | succ n ih =>
      intro x2 yRat yTdeeds yTpeople yT_weightOf yT_kindOf yT_doneBy yT_knownTo yT_toldBy H locs ls h hP hD hS hl
      replace h : b_X1_readsText_66 Rfrom Rlength S_cells (l_X1_readsText_66 Rfrom Rlength S_cells n) x2 yRat yTdeeds yTpeople yT_weightOf yT_kindOf yT_doneBy yT_knownTo yT_toldBy = some o := h
      unfold b_X1_readsText_66 at h
      refine lv_iload_n hx hb dX1_readsText_66 rfl (lv_at hl 2 rfl) ?_
      refine lv_iconst (v := 4) hx hb dX1_readsText_67 (by decide) ?_
      refine lv_icmp_ge (tgt := 98) hx hb dX1_readsText_68 (by decide) (fun c11 => ?_) (fun c11 => ?_)
      · replace h := it_t c11 h
        refine lv_aload_n hx hb dX1_readsText_98 rfl (lv_at hl 0 rfl) ?_
        refine va_get (D := (dC, dI)) (ci := 1) (v := .int yRat) (C := RX1) (T := TX1) (N := 4) hx hb hts hiX1 hown hK hP 0 rfl rfl 3 (by decide) hf27 (fun _ h9 => h9) rfl dX1_readsText_99 ?_
        refine lv_aload_n hx hb dX1_readsText_102 rfl (lv_at hl 0 rfl) ?_
        refine va_get (D := (dC, dI)) (ci := 1) (v := .int Rlength) (C := RX1) (T := TX1) (N := 4) hx hb hts hiX1 hown hK hP 0 rfl rfl 2 (by decide) hf24 (fun _ h9 => h9) rfl dX1_readsText_103 ?_
        refine lv_icmp_ne (tgt := 113) hx hb dX1_readsText_106 (by decide) (fun c12 => ?_) (fun c12 => ?_)
        · replace h := it_f c12 h
          refine lv_iconst (v := 0) hx hb dX1_readsText_113 (by decide) ?_
          replace h := Option.some.inj h; subst h
          exact hret () H locs _ ls hP hD hS dX1_readsText_114 bz_0
        · replace h := it_t c12 h
          refine lv_iconst (v := 1) hx hb dX1_readsText_109 (by decide) ?_
          refine lv_goto (tgt := 114) hx hb dX1_readsText_110 (by decide) ?_
          replace h := Option.some.inj h; subst h
          exact hret () H locs _ ls hP hD hS dX1_readsText_114 bz_1
      · replace h := it_f c11 h
        refine lv_aload_n hx hb dX1_readsText_71 rfl (lv_at hl 0 rfl) ?_
        refine va_get (D := (dC, dI)) (ci := 1) (v := .int yRat) (C := RX1) (T := TX1) (N := 4) hx hb hts hiX1 hown hK hP 0 rfl rfl 3 (by decide) hf27 (fun _ h9 => h9) rfl dX1_readsText_72 ?_
        refine lv_aload_n hx hb dX1_readsText_75 rfl (lv_at hl 0 rfl) ?_
        refine va_get (D := (dC, dI)) (ci := 1) (v := .int Rlength) (C := RX1) (T := TX1) (N := 4) hx hb hts hiX1 hown hK hP 0 rfl rfl 2 (by decide) hf24 (fun _ h9 => h9) rfl dX1_readsText_76 ?_
        refine lv_icmp_ge (tgt := 98) hx hb dX1_readsText_79 (by decide) (fun c13 => ?_) (fun c13 => ?_)
        · replace h := it_t c13 h
          refine lv_aload_n hx hb dX1_readsText_98 rfl (lv_at hl 0 rfl) ?_
          refine va_get (D := (dC, dI)) (ci := 1) (v := .int yRat) (C := RX1) (T := TX1) (N := 4) hx hb hts hiX1 hown hK hP 0 rfl rfl 3 (by decide) hf27 (fun _ h9 => h9) rfl dX1_readsText_99 ?_
          refine lv_aload_n hx hb dX1_readsText_102 rfl (lv_at hl 0 rfl) ?_
          refine va_get (D := (dC, dI)) (ci := 1) (v := .int Rlength) (C := RX1) (T := TX1) (N := 4) hx hb hts hiX1 hown hK hP 0 rfl rfl 2 (by decide) hf24 (fun _ h9 => h9) rfl dX1_readsText_103 ?_
          refine lv_icmp_ne (tgt := 113) hx hb dX1_readsText_106 (by decide) (fun c14 => ?_) (fun c14 => ?_)
          · replace h := it_f c14 h
            refine lv_iconst (v := 0) hx hb dX1_readsText_113 (by decide) ?_
            replace h := Option.some.inj h; subst h
            exact hret () H locs _ ls hP hD hS dX1_readsText_114 bz_0
          · replace h := it_t c14 h
            refine lv_iconst (v := 1) hx hb dX1_readsText_109 (by decide) ?_
            refine lv_goto (tgt := 114) hx hb dX1_readsText_110 (by decide) ?_
            replace h := Option.some.inj h; subst h
            exact hret () H locs _ ls hP hD hS dX1_readsText_114 bz_1
        · replace h := it_f c13 h
          refine lv_aload_n hx hb dX1_readsText_82 rfl (lv_at hl 0 rfl) ?_
          refine lv_aload_n hx hb dX1_readsText_83 rfl (lv_at hl 1 rfl) ?_
          obtain ⟨o15, hc16, h⟩ := ob h
          refine k_vi (As := [.ref (aT 0)]) (rest := []) ⟨hx, hb, hml, hown, hts⟩ (c_X1_readsPerson l dC dI cyI cyO aR aT aS H.size Rfrom Rlength yRat yTdeeds yTpeople Tcatches yT_kindOf yT_doneBy yT_knownTo yT_toldBy S_cells hc16) (cwV 1 hts gX1_readsText_X1_readsPerson rfl rfl rfl (by decide +kernel) ⟨Nat.le_of_ble_eq_true rfl, Nat.le_of_ble_eq_true rfl⟩) hP hD hK hS hA [0, 1, 3, 4, 5, 6, 7] [2] rfl rfl (by decide) (by decide) (by decide) 1 0 rfl rfl rfl rfl hl.1 rfl (Nat.le_of_ble_eq_true rfl) dX1_readsText_84 ⟨Nat.zero_le _, Nat.zero_le _⟩ (fun _ H locs hP hD hS => ?_)
          have hP : va_P (dC, dI) vwCl [((aT 1), .inl (cyI, 6, .inl yT_weightOf)), (aR, .inr (1, [.ref (aS 1), .int Rfrom, .int Rlength, .int o15.2.1])), ((aT 0), .inr (2, [.int yTdeeds, .int o15.2.2.1, .int Tcatches, .ref (aT 1), .ref (aT 2), .ref (aT 3), .ref (aT 4), .ref (aT 5)])), ((aT 2), .inl (cyI, 4, .inl o15.2.2.2.1)), ((aT 3), .inl (cyI, 4, .inl o15.2.2.2.2.1)), ((aT 4), .inl (cyI, 4, .inl o15.2.2.2.2.2.1)), ((aT 5), .inl (cyI, 4, .inl o15.2.2.2.2.2.2)), ((aS 1), .inl (cyI, 60, .inl S_cells))] H := hP
          have hD : va_D A [((aT 1), .inl (cyI, 6, .inl yT_weightOf)), (aR, .inr (1, [.ref (aS 1), .int Rfrom, .int Rlength, .int o15.2.1])), ((aT 0), .inr (2, [.int yTdeeds, .int o15.2.2.1, .int Tcatches, .ref (aT 1), .ref (aT 2), .ref (aT 3), .ref (aT 4), .ref (aT 5)])), ((aT 2), .inl (cyI, 4, .inl o15.2.2.2.1)), ((aT 3), .inl (cyI, 4, .inl o15.2.2.2.2.1)), ((aT 4), .inl (cyI, 4, .inl o15.2.2.2.2.2.1)), ((aT 5), .inl (cyI, 4, .inl o15.2.2.2.2.2.2)), ((aS 1), .inl (cyI, 60, .inl S_cells))] := hD
          refine lv_if_ne (tgt := 92) hx hb dX1_readsText_87 (by decide) (fun c17 => ?_) (fun c17 => ?_)
          · replace h := it_f c17 h
            refine lv_iinc (v := (x2 + 1)) (lv' := [(2, .int (x2 + 1)), (0, .ref aR), (1, .ref (aT 0))]) hx hb dX1_readsText_92 hl (k := 2) rfl rfl (by decide) rfl (fun ls hl => ?_)
            refine lv_goto (tgt := 66) hx hb dX1_readsText_95 (by decide) ?_
            have hP := hP.sub (ws' := [(aR, .inr (1, [.ref (aS 1), .int Rfrom, .int Rlength, .int o15.2.1])), ((aT 0), .inr (2, [.int yTdeeds, .int o15.2.2.1, .int Tcatches, .ref (aT 1), .ref (aT 2), .ref (aT 3), .ref (aT 4), .ref (aT 5)])), ((aT 1), .inl (cyI, 6, .inl yT_weightOf)), ((aT 2), .inl (cyI, 4, .inl o15.2.2.2.1)), ((aT 3), .inl (cyI, 4, .inl o15.2.2.2.2.1)), ((aT 4), .inl (cyI, 4, .inl o15.2.2.2.2.2.1)), ((aT 5), .inl (cyI, 4, .inl o15.2.2.2.2.2.2)), ((aS 1), .inl (cyI, 60, .inl S_cells))]) [1, 2, 0, 3, 4, 5, 6, 7] rfl
            have hD := hD.sub (ws' := [(aR, .inr (1, [.ref (aS 1), .int Rfrom, .int Rlength, .int o15.2.1])), ((aT 0), .inr (2, [.int yTdeeds, .int o15.2.2.1, .int Tcatches, .ref (aT 1), .ref (aT 2), .ref (aT 3), .ref (aT 4), .ref (aT 5)])), ((aT 1), .inl (cyI, 6, .inl yT_weightOf)), ((aT 2), .inl (cyI, 4, .inl o15.2.2.2.1)), ((aT 3), .inl (cyI, 4, .inl o15.2.2.2.2.1)), ((aT 4), .inl (cyI, 4, .inl o15.2.2.2.2.2.1)), ((aT 5), .inl (cyI, 4, .inl o15.2.2.2.2.2.2)), ((aS 1), .inl (cyI, 60, .inl S_cells))]) [1, 2, 0, 3, 4, 5, 6, 7] (by decide) rfl
            exact ih (x2 + 1) o15.2.1 yTdeeds o15.2.2.1 yT_weightOf o15.2.2.2.1 o15.2.2.2.2.1 o15.2.2.2.2.2.1 o15.2.2.2.2.2.2 H locs ls h hP hD hS (lv_sub hl [1, 2, 0] rfl)
          · replace h := it_t c17 h
            refine lv_iconst (v := 0) hx hb dX1_readsText_90 (by decide) ?_
            replace h := Option.some.inj h; subst h
            have hP := hP.sub (ws' := [(aR, .inr (1, [.ref (aS 1), .int Rfrom, .int Rlength, .int o15.2.1])), ((aT 0), .inr (2, [.int yTdeeds, .int o15.2.2.1, .int Tcatches, .ref (aT 1), .ref (aT 2), .ref (aT 3), .ref (aT 4), .ref (aT 5)])), ((aT 1), .inl (cyI, 6, .inl yT_weightOf)), ((aT 2), .inl (cyI, 4, .inl o15.2.2.2.1)), ((aT 3), .inl (cyI, 4, .inl o15.2.2.2.2.1)), ((aT 4), .inl (cyI, 4, .inl o15.2.2.2.2.2.1)), ((aT 5), .inl (cyI, 4, .inl o15.2.2.2.2.2.2)), ((aS 1), .inl (cyI, 60, .inl S_cells))]) [1, 2, 0, 3, 4, 5, 6, 7] rfl
            have hD := hD.sub (ws' := [(aR, .inr (1, [.ref (aS 1), .int Rfrom, .int Rlength, .int o15.2.1])), ((aT 0), .inr (2, [.int yTdeeds, .int o15.2.2.1, .int Tcatches, .ref (aT 1), .ref (aT 2), .ref (aT 3), .ref (aT 4), .ref (aT 5)])), ((aT 1), .inl (cyI, 6, .inl yT_weightOf)), ((aT 2), .inl (cyI, 4, .inl o15.2.2.2.1)), ((aT 3), .inl (cyI, 4, .inl o15.2.2.2.2.1)), ((aT 4), .inl (cyI, 4, .inl o15.2.2.2.2.2.1)), ((aT 5), .inl (cyI, 4, .inl o15.2.2.2.2.2.2)), ((aS 1), .inl (cyI, 60, .inl S_cells))]) [1, 2, 0, 3, 4, 5, 6, 7] (by decide) rfl
            exact hret () H locs _ ls hP hD hS dX1_readsText_91 bz_0
  have lp23 : ∀ (n : Nat) (x2 : Int32) (yRat : Int32) (yTdeeds : Int32) (yTpeople : Int32) (yT_weightOf : Nat → Int32) (yT_kindOf : Nat → Int32) (yT_doneBy : Nat → Int32) (yT_knownTo : Nat → Int32) (yT_toldBy : Nat → Int32) (H : Heap) (locs : List Loc) (ls : Array Slot), l_X1_readsText_23 Rfrom Rlength S_cells n (x2, yRat, yTdeeds, yTpeople, yT_weightOf, yT_kindOf, yT_doneBy, yT_knownTo, yT_toldBy) = some o → va_P (dC, dI) vwCl [(aR, .inr (1, [.ref (aS 1), .int Rfrom, .int Rlength, .int yRat])), ((aT 0), .inr (2, [.int yTdeeds, .int yTpeople, .int Tcatches, .ref (aT 1), .ref (aT 2), .ref (aT 3), .ref (aT 4), .ref (aT 5)])), ((aT 1), .inl (cyI, 6, .inl yT_weightOf)), ((aT 2), .inl (cyI, 4, .inl yT_kindOf)), ((aT 3), .inl (cyI, 4, .inl yT_doneBy)), ((aT 4), .inl (cyI, 4, .inl yT_knownTo)), ((aT 5), .inl (cyI, 4, .inl yT_toldBy)), ((aS 1), .inl (cyI, 60, .inl S_cells))] H → va_D A [(aR, .inr (1, [.ref (aS 1), .int Rfrom, .int Rlength, .int yRat])), ((aT 0), .inr (2, [.int yTdeeds, .int yTpeople, .int Tcatches, .ref (aT 1), .ref (aT 2), .ref (aT 3), .ref (aT 4), .ref (aT 5)])), ((aT 1), .inl (cyI, 6, .inl yT_weightOf)), ((aT 2), .inl (cyI, 4, .inl yT_kindOf)), ((aT 3), .inl (cyI, 4, .inl yT_doneBy)), ((aT 4), .inl (cyI, 4, .inl yT_knownTo)), ((aT 5), .inl (cyI, 4, .inl yT_toldBy)), ((aS 1), .inl (cyI, 60, .inl S_cells))] → va_S A s.heap H locs → lv_has ls 3 [(0, .ref aR), (1, .ref (aT 0)), (2, .int x2)] → W p l e { frames := 3, cells := 0, slots := 0, locals := 68 } s m args below meth c H locs 0 0 Q (F0 m 23 ls []) := by
    intro n
    induction n with
    | zero => intro _ _ _ _ _ _ _ _ _ H locs ls h _ _ _ _; exact (lpF_0 h).elim
    | succ n ih =>
      intro x2 yRat yTdeeds yTpeople yT_weightOf yT_kindOf yT_doneBy yT_knownTo yT_toldBy H locs ls h hP hD hS hl
      replace h : b_X1_readsText_23 Rfrom Rlength S_cells (l_X1_readsText_23 Rfrom Rlength S_cells n) x2 yRat yTdeeds yTpeople yT_weightOf yT_kindOf yT_doneBy yT_knownTo yT_toldBy = some o := h
      unfold b_X1_readsText_23 at h
      refine lv_iload_n hx hb dX1_readsText_23 rfl (lv_at hl 2 rfl) ?_
      refine lv_bipush (v := 6) hx hb dX1_readsText_24 (by decide) ?_
      refine lv_icmp_ge (tgt := 54) hx hb dX1_readsText_26 (by decide) (fun c7 => ?_) (fun c7 => ?_)
      · replace h := it_t c7 h
        refine lv_aload_n hx hb dX1_readsText_54 rfl (lv_at hl 0 rfl) ?_
        refine lv_aload_n hx hb dX1_readsText_55 rfl (lv_at hl 1 rfl) ?_
        obtain ⟨o8, hc9, h⟩ := ob h
        refine k_vi (As := [.ref (aT 0)]) (rest := []) ⟨hx, hb, hml, hown, hts⟩ (c_X1_readsPerson l dC dI cyI cyO aR aT aS H.size Rfrom Rlength yRat yTdeeds yTpeople Tcatches yT_kindOf yT_doneBy yT_knownTo yT_toldBy S_cells hc9) (cwV 1 hts gX1_readsText_X1_readsPerson rfl rfl rfl (by decide +kernel) ⟨Nat.le_of_ble_eq_true rfl, Nat.le_of_ble_eq_true rfl⟩) hP hD hK hS hA [0, 1, 3, 4, 5, 6, 7] [2] rfl rfl (by decide) (by decide) (by decide) 1 0 rfl rfl rfl rfl hl.1 rfl (Nat.le_of_ble_eq_true rfl) dX1_readsText_56 ⟨Nat.zero_le _, Nat.zero_le _⟩ (fun _ H locs hP hD hS => ?_)
        have hP : va_P (dC, dI) vwCl [((aT 1), .inl (cyI, 6, .inl yT_weightOf)), (aR, .inr (1, [.ref (aS 1), .int Rfrom, .int Rlength, .int o8.2.1])), ((aT 0), .inr (2, [.int yTdeeds, .int o8.2.2.1, .int Tcatches, .ref (aT 1), .ref (aT 2), .ref (aT 3), .ref (aT 4), .ref (aT 5)])), ((aT 2), .inl (cyI, 4, .inl o8.2.2.2.1)), ((aT 3), .inl (cyI, 4, .inl o8.2.2.2.2.1)), ((aT 4), .inl (cyI, 4, .inl o8.2.2.2.2.2.1)), ((aT 5), .inl (cyI, 4, .inl o8.2.2.2.2.2.2)), ((aS 1), .inl (cyI, 60, .inl S_cells))] H := hP
        have hD : va_D A [((aT 1), .inl (cyI, 6, .inl yT_weightOf)), (aR, .inr (1, [.ref (aS 1), .int Rfrom, .int Rlength, .int o8.2.1])), ((aT 0), .inr (2, [.int yTdeeds, .int o8.2.2.1, .int Tcatches, .ref (aT 1), .ref (aT 2), .ref (aT 3), .ref (aT 4), .ref (aT 5)])), ((aT 2), .inl (cyI, 4, .inl o8.2.2.2.1)), ((aT 3), .inl (cyI, 4, .inl o8.2.2.2.2.1)), ((aT 4), .inl (cyI, 4, .inl o8.2.2.2.2.2.1)), ((aT 5), .inl (cyI, 4, .inl o8.2.2.2.2.2.2)), ((aS 1), .inl (cyI, 60, .inl S_cells))] := hD
        refine lv_if_ne (tgt := 64) hx hb dX1_readsText_59 (by decide) (fun c10 => ?_) (fun c10 => ?_)
        · replace h := it_f c10 h
          refine lv_iconst (v := 1) hx hb dX1_readsText_64 (by decide) ?_
          refine lv_istore_n (lv' := [(2, .int 1), (0, .ref aR), (1, .ref (aT 0))]) hx hb dX1_readsText_65 rfl hl (by decide) rfl (fun ls hl => ?_)
          have hP := hP.sub (ws' := [(aR, .inr (1, [.ref (aS 1), .int Rfrom, .int Rlength, .int o8.2.1])), ((aT 0), .inr (2, [.int yTdeeds, .int o8.2.2.1, .int Tcatches, .ref (aT 1), .ref (aT 2), .ref (aT 3), .ref (aT 4), .ref (aT 5)])), ((aT 1), .inl (cyI, 6, .inl yT_weightOf)), ((aT 2), .inl (cyI, 4, .inl o8.2.2.2.1)), ((aT 3), .inl (cyI, 4, .inl o8.2.2.2.2.1)), ((aT 4), .inl (cyI, 4, .inl o8.2.2.2.2.2.1)), ((aT 5), .inl (cyI, 4, .inl o8.2.2.2.2.2.2)), ((aS 1), .inl (cyI, 60, .inl S_cells))]) [1, 2, 0, 3, 4, 5, 6, 7] rfl
          have hD := hD.sub (ws' := [(aR, .inr (1, [.ref (aS 1), .int Rfrom, .int Rlength, .int o8.2.1])), ((aT 0), .inr (2, [.int yTdeeds, .int o8.2.2.1, .int Tcatches, .ref (aT 1), .ref (aT 2), .ref (aT 3), .ref (aT 4), .ref (aT 5)])), ((aT 1), .inl (cyI, 6, .inl yT_weightOf)), ((aT 2), .inl (cyI, 4, .inl o8.2.2.2.1)), ((aT 3), .inl (cyI, 4, .inl o8.2.2.2.2.1)), ((aT 4), .inl (cyI, 4, .inl o8.2.2.2.2.2.1)), ((aT 5), .inl (cyI, 4, .inl o8.2.2.2.2.2.2)), ((aS 1), .inl (cyI, 60, .inl S_cells))]) [1, 2, 0, 3, 4, 5, 6, 7] (by decide) rfl
          exact lp66 99 1 o8.2.1 yTdeeds o8.2.2.1 yT_weightOf o8.2.2.2.1 o8.2.2.2.2.1 o8.2.2.2.2.2.1 o8.2.2.2.2.2.2 H locs ls h hP hD hS (lv_sub hl [1, 2, 0] rfl)
        · replace h := it_t c10 h
          refine lv_iconst (v := 0) hx hb dX1_readsText_62 (by decide) ?_
          replace h := Option.some.inj h; subst h
          have hP := hP.sub (ws' := [(aR, .inr (1, [.ref (aS 1), .int Rfrom, .int Rlength, .int o8.2.1])), ((aT 0), .inr (2, [.int yTdeeds, .int o8.2.2.1, .int Tcatches, .ref (aT 1), .ref (aT 2), .ref (aT 3), .ref (aT 4), .ref (aT 5)])), ((aT 1), .inl (cyI, 6, .inl yT_weightOf)), ((aT 2), .inl (cyI, 4, .inl o8.2.2.2.1)), ((aT 3), .inl (cyI, 4, .inl o8.2.2.2.2.1)), ((aT 4), .inl (cyI, 4, .inl o8.2.2.2.2.2.1)), ((aT 5), .inl (cyI, 4, .inl o8.2.2.2.2.2.2)), ((aS 1), .inl (cyI, 60, .inl S_cells))]) [1, 2, 0, 3, 4, 5, 6, 7] rfl
          have hD := hD.sub (ws' := [(aR, .inr (1, [.ref (aS 1), .int Rfrom, .int Rlength, .int o8.2.1])), ((aT 0), .inr (2, [.int yTdeeds, .int o8.2.2.1, .int Tcatches, .ref (aT 1), .ref (aT 2), .ref (aT 3), .ref (aT 4), .ref (aT 5)])), ((aT 1), .inl (cyI, 6, .inl yT_weightOf)), ((aT 2), .inl (cyI, 4, .inl o8.2.2.2.1)), ((aT 3), .inl (cyI, 4, .inl o8.2.2.2.2.1)), ((aT 4), .inl (cyI, 4, .inl o8.2.2.2.2.2.1)), ((aT 5), .inl (cyI, 4, .inl o8.2.2.2.2.2.2)), ((aS 1), .inl (cyI, 60, .inl S_cells))]) [1, 2, 0, 3, 4, 5, 6, 7] (by decide) rfl
          exact hret () H locs _ ls hP hD hS dX1_readsText_63 bz_0
      · replace h := it_f c7 h
        refine lv_aload_n hx hb dX1_readsText_29 rfl (lv_at hl 0 rfl) ?_
        refine lv_bipush (v := 45) hx hb dX1_readsText_30 (by decide) ?_
        obtain ⟨o18, hc19, h⟩ := ob h
        refine k_vi (As := [.int 45]) (rest := []) ⟨hx, hb, hml, hown, hts⟩ (c_X1_nextIs l dC dI cyI cyO aR aS H.size Rfrom Rlength yRat S_cells 45 hc19) (cwV 1 hts gX1_readsText_X1_nextIs rfl rfl rfl (by decide +kernel) ⟨Nat.le_of_ble_eq_true rfl, Nat.le_of_ble_eq_true rfl⟩) hP hD hK hS hA [0, 7] [1, 2, 3, 4, 5, 6] rfl rfl (by decide) (by decide) (by decide) 1 0 rfl rfl rfl rfl hl.1 rfl (Nat.le_of_ble_eq_true rfl) dX1_readsText_32 ⟨Nat.zero_le _, Nat.zero_le _⟩ (fun _ H locs hP hD hS => ?_)
        have hP : va_P (dC, dI) vwCl [((aT 0), .inr (2, [.int yTdeeds, .int yTpeople, .int Tcatches, .ref (aT 1), .ref (aT 2), .ref (aT 3), .ref (aT 4), .ref (aT 5)])), ((aT 1), .inl (cyI, 6, .inl yT_weightOf)), ((aT 2), .inl (cyI, 4, .inl yT_kindOf)), ((aT 3), .inl (cyI, 4, .inl yT_doneBy)), ((aT 4), .inl (cyI, 4, .inl yT_knownTo)), ((aT 5), .inl (cyI, 4, .inl yT_toldBy)), (aR, .inr (1, [.ref (aS 1), .int Rfrom, .int Rlength, .int yRat])), ((aS 1), .inl (cyI, 60, .inl S_cells))] H := hP
        have hD : va_D A [((aT 0), .inr (2, [.int yTdeeds, .int yTpeople, .int Tcatches, .ref (aT 1), .ref (aT 2), .ref (aT 3), .ref (aT 4), .ref (aT 5)])), ((aT 1), .inl (cyI, 6, .inl yT_weightOf)), ((aT 2), .inl (cyI, 4, .inl yT_kindOf)), ((aT 3), .inl (cyI, 4, .inl yT_doneBy)), ((aT 4), .inl (cyI, 4, .inl yT_knownTo)), ((aT 5), .inl (cyI, 4, .inl yT_toldBy)), (aR, .inr (1, [.ref (aS 1), .int Rfrom, .int Rlength, .int yRat])), ((aS 1), .inl (cyI, 60, .inl S_cells))] := hD
        refine lv_if_eq (tgt := 54) hx hb dX1_readsText_35 (by decide) (fun c20 => ?_) (fun c20 => ?_)
        · replace h := it_t c20 h
          refine lv_aload_n hx hb dX1_readsText_54 rfl (lv_at hl 0 rfl) ?_
          refine lv_aload_n hx hb dX1_readsText_55 rfl (lv_at hl 1 rfl) ?_
          obtain ⟨o21, hc22, h⟩ := ob h
          refine k_vi (As := [.ref (aT 0)]) (rest := []) ⟨hx, hb, hml, hown, hts⟩ (c_X1_readsPerson l dC dI cyI cyO aR aT aS H.size Rfrom Rlength yRat yTdeeds yTpeople Tcatches yT_kindOf yT_doneBy yT_knownTo yT_toldBy S_cells hc22) (cwV 1 hts gX1_readsText_X1_readsPerson rfl rfl rfl (by decide +kernel) ⟨Nat.le_of_ble_eq_true rfl, Nat.le_of_ble_eq_true rfl⟩) hP hD hK hS hA [6, 0, 2, 3, 4, 5, 7] [1] rfl rfl (by decide) (by decide) (by decide) 1 0 rfl rfl rfl rfl hl.1 rfl (Nat.le_of_ble_eq_true rfl) dX1_readsText_56 ⟨Nat.zero_le _, Nat.zero_le _⟩ (fun _ H locs hP hD hS => ?_)
          have hP : va_P (dC, dI) vwCl [((aT 1), .inl (cyI, 6, .inl yT_weightOf)), (aR, .inr (1, [.ref (aS 1), .int Rfrom, .int Rlength, .int o21.2.1])), ((aT 0), .inr (2, [.int yTdeeds, .int o21.2.2.1, .int Tcatches, .ref (aT 1), .ref (aT 2), .ref (aT 3), .ref (aT 4), .ref (aT 5)])), ((aT 2), .inl (cyI, 4, .inl o21.2.2.2.1)), ((aT 3), .inl (cyI, 4, .inl o21.2.2.2.2.1)), ((aT 4), .inl (cyI, 4, .inl o21.2.2.2.2.2.1)), ((aT 5), .inl (cyI, 4, .inl o21.2.2.2.2.2.2)), ((aS 1), .inl (cyI, 60, .inl S_cells))] H := hP
          have hD : va_D A [((aT 1), .inl (cyI, 6, .inl yT_weightOf)), (aR, .inr (1, [.ref (aS 1), .int Rfrom, .int Rlength, .int o21.2.1])), ((aT 0), .inr (2, [.int yTdeeds, .int o21.2.2.1, .int Tcatches, .ref (aT 1), .ref (aT 2), .ref (aT 3), .ref (aT 4), .ref (aT 5)])), ((aT 2), .inl (cyI, 4, .inl o21.2.2.2.1)), ((aT 3), .inl (cyI, 4, .inl o21.2.2.2.2.1)), ((aT 4), .inl (cyI, 4, .inl o21.2.2.2.2.2.1)), ((aT 5), .inl (cyI, 4, .inl o21.2.2.2.2.2.2)), ((aS 1), .inl (cyI, 60, .inl S_cells))] := hD
          refine lv_if_ne (tgt := 64) hx hb dX1_readsText_59 (by decide) (fun c23 => ?_) (fun c23 => ?_)
          · replace h := it_f c23 h
            refine lv_iconst (v := 1) hx hb dX1_readsText_64 (by decide) ?_
            refine lv_istore_n (lv' := [(2, .int 1), (0, .ref aR), (1, .ref (aT 0))]) hx hb dX1_readsText_65 rfl hl (by decide) rfl (fun ls hl => ?_)
            have hP := hP.sub (ws' := [(aR, .inr (1, [.ref (aS 1), .int Rfrom, .int Rlength, .int o21.2.1])), ((aT 0), .inr (2, [.int yTdeeds, .int o21.2.2.1, .int Tcatches, .ref (aT 1), .ref (aT 2), .ref (aT 3), .ref (aT 4), .ref (aT 5)])), ((aT 1), .inl (cyI, 6, .inl yT_weightOf)), ((aT 2), .inl (cyI, 4, .inl o21.2.2.2.1)), ((aT 3), .inl (cyI, 4, .inl o21.2.2.2.2.1)), ((aT 4), .inl (cyI, 4, .inl o21.2.2.2.2.2.1)), ((aT 5), .inl (cyI, 4, .inl o21.2.2.2.2.2.2)), ((aS 1), .inl (cyI, 60, .inl S_cells))]) [1, 2, 0, 3, 4, 5, 6, 7] rfl
            have hD := hD.sub (ws' := [(aR, .inr (1, [.ref (aS 1), .int Rfrom, .int Rlength, .int o21.2.1])), ((aT 0), .inr (2, [.int yTdeeds, .int o21.2.2.1, .int Tcatches, .ref (aT 1), .ref (aT 2), .ref (aT 3), .ref (aT 4), .ref (aT 5)])), ((aT 1), .inl (cyI, 6, .inl yT_weightOf)), ((aT 2), .inl (cyI, 4, .inl o21.2.2.2.1)), ((aT 3), .inl (cyI, 4, .inl o21.2.2.2.2.1)), ((aT 4), .inl (cyI, 4, .inl o21.2.2.2.2.2.1)), ((aT 5), .inl (cyI, 4, .inl o21.2.2.2.2.2.2)), ((aS 1), .inl (cyI, 60, .inl S_cells))]) [1, 2, 0, 3, 4, 5, 6, 7] (by decide) rfl
            exact lp66 99 1 o21.2.1 yTdeeds o21.2.2.1 yT_weightOf o21.2.2.2.1 o21.2.2.2.2.1 o21.2.2.2.2.2.1 o21.2.2.2.2.2.2 H locs ls h hP hD hS (lv_sub hl [1, 2, 0] rfl)
          · replace h := it_t c23 h
            refine lv_iconst (v := 0) hx hb dX1_readsText_62 (by decide) ?_
            replace h := Option.some.inj h; subst h
            have hP := hP.sub (ws' := [(aR, .inr (1, [.ref (aS 1), .int Rfrom, .int Rlength, .int o21.2.1])), ((aT 0), .inr (2, [.int yTdeeds, .int o21.2.2.1, .int Tcatches, .ref (aT 1), .ref (aT 2), .ref (aT 3), .ref (aT 4), .ref (aT 5)])), ((aT 1), .inl (cyI, 6, .inl yT_weightOf)), ((aT 2), .inl (cyI, 4, .inl o21.2.2.2.1)), ((aT 3), .inl (cyI, 4, .inl o21.2.2.2.2.1)), ((aT 4), .inl (cyI, 4, .inl o21.2.2.2.2.2.1)), ((aT 5), .inl (cyI, 4, .inl o21.2.2.2.2.2.2)), ((aS 1), .inl (cyI, 60, .inl S_cells))]) [1, 2, 0, 3, 4, 5, 6, 7] rfl
            have hD := hD.sub (ws' := [(aR, .inr (1, [.ref (aS 1), .int Rfrom, .int Rlength, .int o21.2.1])), ((aT 0), .inr (2, [.int yTdeeds, .int o21.2.2.1, .int Tcatches, .ref (aT 1), .ref (aT 2), .ref (aT 3), .ref (aT 4), .ref (aT 5)])), ((aT 1), .inl (cyI, 6, .inl yT_weightOf)), ((aT 2), .inl (cyI, 4, .inl o21.2.2.2.1)), ((aT 3), .inl (cyI, 4, .inl o21.2.2.2.2.1)), ((aT 4), .inl (cyI, 4, .inl o21.2.2.2.2.2.1)), ((aT 5), .inl (cyI, 4, .inl o21.2.2.2.2.2.2)), ((aS 1), .inl (cyI, 60, .inl S_cells))]) [1, 2, 0, 3, 4, 5, 6, 7] (by decide) rfl
            exact hret () H locs _ ls hP hD hS dX1_readsText_63 bz_0
        · replace h := it_f c20 h
          refine lv_aload_n hx hb dX1_readsText_38 rfl (lv_at hl 0 rfl) ?_
          refine lv_aload_n hx hb dX1_readsText_39 rfl (lv_at hl 1 rfl) ?_
          obtain ⟨o24, hc25, h⟩ := ob h
          refine k_vi (As := [.ref (aT 0)]) (rest := []) ⟨hx, hb, hml, hown, hts⟩ (c_X1_readsDeed l dC dI cyI cyO aR aT aS H.size Rfrom Rlength yRat yTdeeds yTpeople Tcatches yT_weightOf S_cells hc25) (cwV 1 hts gX1_readsText_X1_readsDeed rfl rfl rfl (by decide +kernel) ⟨Nat.le_of_ble_eq_true rfl, Nat.le_of_ble_eq_true rfl⟩) hP hD hK hS hA [6, 0, 1, 7] [2, 3, 4, 5] rfl rfl (by decide) (by decide) (by decide) 1 0 rfl rfl rfl rfl hl.1 rfl (Nat.le_of_ble_eq_true rfl) dX1_readsText_40 ⟨Nat.zero_le _, Nat.zero_le _⟩ (fun _ H locs hP hD hS => ?_)
          have hP : va_P (dC, dI) vwCl [((aT 2), .inl (cyI, 4, .inl yT_kindOf)), ((aT 3), .inl (cyI, 4, .inl yT_doneBy)), ((aT 4), .inl (cyI, 4, .inl yT_knownTo)), ((aT 5), .inl (cyI, 4, .inl yT_toldBy)), (aR, .inr (1, [.ref (aS 1), .int Rfrom, .int Rlength, .int o24.2.1])), ((aT 0), .inr (2, [.int o24.2.2.1, .int yTpeople, .int Tcatches, .ref (aT 1), .ref (aT 2), .ref (aT 3), .ref (aT 4), .ref (aT 5)])), ((aT 1), .inl (cyI, 6, .inl o24.2.2.2)), ((aS 1), .inl (cyI, 60, .inl S_cells))] H := hP
          have hD : va_D A [((aT 2), .inl (cyI, 4, .inl yT_kindOf)), ((aT 3), .inl (cyI, 4, .inl yT_doneBy)), ((aT 4), .inl (cyI, 4, .inl yT_knownTo)), ((aT 5), .inl (cyI, 4, .inl yT_toldBy)), (aR, .inr (1, [.ref (aS 1), .int Rfrom, .int Rlength, .int o24.2.1])), ((aT 0), .inr (2, [.int o24.2.2.1, .int yTpeople, .int Tcatches, .ref (aT 1), .ref (aT 2), .ref (aT 3), .ref (aT 4), .ref (aT 5)])), ((aT 1), .inl (cyI, 6, .inl o24.2.2.2)), ((aS 1), .inl (cyI, 60, .inl S_cells))] := hD
          refine lv_if_ne (tgt := 48) hx hb dX1_readsText_43 (by decide) (fun c26 => ?_) (fun c26 => ?_)
          · replace h := it_f c26 h
            refine lv_iinc (v := (x2 + 1)) (lv' := [(2, .int (x2 + 1)), (0, .ref aR), (1, .ref (aT 0))]) hx hb dX1_readsText_48 hl (k := 2) rfl rfl (by decide) rfl (fun ls hl => ?_)
            refine lv_goto (tgt := 23) hx hb dX1_readsText_51 (by decide) ?_
            have hP := hP.sub (ws' := [(aR, .inr (1, [.ref (aS 1), .int Rfrom, .int Rlength, .int o24.2.1])), ((aT 0), .inr (2, [.int o24.2.2.1, .int yTpeople, .int Tcatches, .ref (aT 1), .ref (aT 2), .ref (aT 3), .ref (aT 4), .ref (aT 5)])), ((aT 1), .inl (cyI, 6, .inl o24.2.2.2)), ((aT 2), .inl (cyI, 4, .inl yT_kindOf)), ((aT 3), .inl (cyI, 4, .inl yT_doneBy)), ((aT 4), .inl (cyI, 4, .inl yT_knownTo)), ((aT 5), .inl (cyI, 4, .inl yT_toldBy)), ((aS 1), .inl (cyI, 60, .inl S_cells))]) [4, 5, 6, 0, 1, 2, 3, 7] rfl
            have hD := hD.sub (ws' := [(aR, .inr (1, [.ref (aS 1), .int Rfrom, .int Rlength, .int o24.2.1])), ((aT 0), .inr (2, [.int o24.2.2.1, .int yTpeople, .int Tcatches, .ref (aT 1), .ref (aT 2), .ref (aT 3), .ref (aT 4), .ref (aT 5)])), ((aT 1), .inl (cyI, 6, .inl o24.2.2.2)), ((aT 2), .inl (cyI, 4, .inl yT_kindOf)), ((aT 3), .inl (cyI, 4, .inl yT_doneBy)), ((aT 4), .inl (cyI, 4, .inl yT_knownTo)), ((aT 5), .inl (cyI, 4, .inl yT_toldBy)), ((aS 1), .inl (cyI, 60, .inl S_cells))]) [4, 5, 6, 0, 1, 2, 3, 7] (by decide) rfl
            exact ih (x2 + 1) o24.2.1 o24.2.2.1 yTpeople o24.2.2.2 yT_kindOf yT_doneBy yT_knownTo yT_toldBy H locs ls h hP hD hS (lv_sub hl [1, 2, 0] rfl)
          · replace h := it_t c26 h
            refine lv_iconst (v := 0) hx hb dX1_readsText_46 (by decide) ?_
            replace h := Option.some.inj h; subst h
            have hP := hP.sub (ws' := [(aR, .inr (1, [.ref (aS 1), .int Rfrom, .int Rlength, .int o24.2.1])), ((aT 0), .inr (2, [.int o24.2.2.1, .int yTpeople, .int Tcatches, .ref (aT 1), .ref (aT 2), .ref (aT 3), .ref (aT 4), .ref (aT 5)])), ((aT 1), .inl (cyI, 6, .inl o24.2.2.2)), ((aT 2), .inl (cyI, 4, .inl yT_kindOf)), ((aT 3), .inl (cyI, 4, .inl yT_doneBy)), ((aT 4), .inl (cyI, 4, .inl yT_knownTo)), ((aT 5), .inl (cyI, 4, .inl yT_toldBy)), ((aS 1), .inl (cyI, 60, .inl S_cells))]) [4, 5, 6, 0, 1, 2, 3, 7] rfl
            have hD := hD.sub (ws' := [(aR, .inr (1, [.ref (aS 1), .int Rfrom, .int Rlength, .int o24.2.1])), ((aT 0), .inr (2, [.int o24.2.2.1, .int yTpeople, .int Tcatches, .ref (aT 1), .ref (aT 2), .ref (aT 3), .ref (aT 4), .ref (aT 5)])), ((aT 1), .inl (cyI, 6, .inl o24.2.2.2)), ((aT 2), .inl (cyI, 4, .inl yT_kindOf)), ((aT 3), .inl (cyI, 4, .inl yT_doneBy)), ((aT 4), .inl (cyI, 4, .inl yT_knownTo)), ((aT 5), .inl (cyI, 4, .inl yT_toldBy)), ((aS 1), .inl (cyI, 60, .inl S_cells))]) [4, 5, 6, 0, 1, 2, 3, 7] (by decide) rfl
            exact hret () H locs _ ls hP hD hS dX1_readsText_47 bz_0
  refine lv_aload_n hx hb dX1_readsText_0 rfl (lv_at hl 0 rfl) ?_
  refine lv_bipush (v := 117) hx hb dX1_readsText_1 (by decide) ?_
  refine lv_bipush (v := 117) hx hb dX1_readsText_3 (by decide) ?_
  obtain ⟨o1, hc2, h⟩ := ob h
  refine k_vi (As := [.int 117, .int 117]) (rest := []) ⟨hx, hb, hml, hown, hts⟩ (c_X1_taken l dC dI cyI cyO aR aS H.size Rfrom Rlength Rat S_cells 117 117 hc2) (cwV 2 hts gX1_readsText_X1_taken rfl rfl rfl (by decide +kernel) ⟨Nat.le_of_ble_eq_true rfl, Nat.le_of_ble_eq_true rfl⟩) hP hD hK hS hA [0, 7] [1, 2, 3, 4, 5, 6] rfl rfl (by decide) (by decide) (by decide) 1 0 rfl rfl rfl rfl hl.1 rfl (Nat.le_of_ble_eq_true rfl) dX1_readsText_5 ⟨Nat.zero_le _, Nat.zero_le _⟩ (fun _ H locs hP hD hS => ?_)
  have hP : va_P (dC, dI) vwCl [((aT 0), .inr (2, [.int Tdeeds, .int Tpeople, .int Tcatches, .ref (aT 1), .ref (aT 2), .ref (aT 3), .ref (aT 4), .ref (aT 5)])), ((aT 1), .inl (cyI, 6, .inl T_weightOf)), ((aT 2), .inl (cyI, 4, .inl T_kindOf)), ((aT 3), .inl (cyI, 4, .inl T_doneBy)), ((aT 4), .inl (cyI, 4, .inl T_knownTo)), ((aT 5), .inl (cyI, 4, .inl T_toldBy)), (aR, .inr (1, [.ref (aS 1), .int Rfrom, .int Rlength, .int o1.2])), ((aS 1), .inl (cyI, 60, .inl S_cells))] H := hP
  have hD : va_D A [((aT 0), .inr (2, [.int Tdeeds, .int Tpeople, .int Tcatches, .ref (aT 1), .ref (aT 2), .ref (aT 3), .ref (aT 4), .ref (aT 5)])), ((aT 1), .inl (cyI, 6, .inl T_weightOf)), ((aT 2), .inl (cyI, 4, .inl T_kindOf)), ((aT 3), .inl (cyI, 4, .inl T_doneBy)), ((aT 4), .inl (cyI, 4, .inl T_knownTo)), ((aT 5), .inl (cyI, 4, .inl T_toldBy)), (aR, .inr (1, [.ref (aS 1), .int Rfrom, .int Rlength, .int o1.2])), ((aS 1), .inl (cyI, 60, .inl S_cells))] := hD
  refine lv_if_lt (tgt := 19) hx hb dX1_readsText_8 (by decide) (fun c3 => ?_) (fun c3 => ?_)
  · replace h := it_t c3 h
    refine lv_iconst (v := 0) hx hb dX1_readsText_19 (by decide) ?_
    replace h := Option.some.inj h; subst h
    have hP := hP.sub (ws' := [(aR, .inr (1, [.ref (aS 1), .int Rfrom, .int Rlength, .int o1.2])), ((aT 0), .inr (2, [.int Tdeeds, .int Tpeople, .int Tcatches, .ref (aT 1), .ref (aT 2), .ref (aT 3), .ref (aT 4), .ref (aT 5)])), ((aT 1), .inl (cyI, 6, .inl T_weightOf)), ((aT 2), .inl (cyI, 4, .inl T_kindOf)), ((aT 3), .inl (cyI, 4, .inl T_doneBy)), ((aT 4), .inl (cyI, 4, .inl T_knownTo)), ((aT 5), .inl (cyI, 4, .inl T_toldBy)), ((aS 1), .inl (cyI, 60, .inl S_cells))]) [6, 0, 1, 2, 3, 4, 5, 7] rfl
    have hD := hD.sub (ws' := [(aR, .inr (1, [.ref (aS 1), .int Rfrom, .int Rlength, .int o1.2])), ((aT 0), .inr (2, [.int Tdeeds, .int Tpeople, .int Tcatches, .ref (aT 1), .ref (aT 2), .ref (aT 3), .ref (aT 4), .ref (aT 5)])), ((aT 1), .inl (cyI, 6, .inl T_weightOf)), ((aT 2), .inl (cyI, 4, .inl T_kindOf)), ((aT 3), .inl (cyI, 4, .inl T_doneBy)), ((aT 4), .inl (cyI, 4, .inl T_knownTo)), ((aT 5), .inl (cyI, 4, .inl T_toldBy)), ((aS 1), .inl (cyI, 60, .inl S_cells))]) [6, 0, 1, 2, 3, 4, 5, 7] (by decide) rfl
    exact hret () H locs _ ls hP hD hS dX1_readsText_20 bz_0
  · replace h := it_f c3 h
    refine lv_aload_n hx hb dX1_readsText_11 rfl (lv_at hl 0 rfl) ?_
    refine lv_aload_n hx hb dX1_readsText_12 rfl (lv_at hl 1 rfl) ?_
    obtain ⟨o4, hc5, h⟩ := ob h
    refine k_vi (As := [.ref (aT 0)]) (rest := []) ⟨hx, hb, hml, hown, hts⟩ (c_X1_readsDeed l dC dI cyI cyO aR aT aS H.size Rfrom Rlength o1.2 Tdeeds Tpeople Tcatches T_weightOf S_cells hc5) (cwV 1 hts gX1_readsText_X1_readsDeed rfl rfl rfl (by decide +kernel) ⟨Nat.le_of_ble_eq_true rfl, Nat.le_of_ble_eq_true rfl⟩) hP hD hK hS hA [6, 0, 1, 7] [2, 3, 4, 5] rfl rfl (by decide) (by decide) (by decide) 1 0 rfl rfl rfl rfl hl.1 rfl (Nat.le_of_ble_eq_true rfl) dX1_readsText_13 ⟨Nat.zero_le _, Nat.zero_le _⟩ (fun _ H locs hP hD hS => ?_)
    have hP : va_P (dC, dI) vwCl [((aT 2), .inl (cyI, 4, .inl T_kindOf)), ((aT 3), .inl (cyI, 4, .inl T_doneBy)), ((aT 4), .inl (cyI, 4, .inl T_knownTo)), ((aT 5), .inl (cyI, 4, .inl T_toldBy)), (aR, .inr (1, [.ref (aS 1), .int Rfrom, .int Rlength, .int o4.2.1])), ((aT 0), .inr (2, [.int o4.2.2.1, .int Tpeople, .int Tcatches, .ref (aT 1), .ref (aT 2), .ref (aT 3), .ref (aT 4), .ref (aT 5)])), ((aT 1), .inl (cyI, 6, .inl o4.2.2.2)), ((aS 1), .inl (cyI, 60, .inl S_cells))] H := hP
    have hD : va_D A [((aT 2), .inl (cyI, 4, .inl T_kindOf)), ((aT 3), .inl (cyI, 4, .inl T_doneBy)), ((aT 4), .inl (cyI, 4, .inl T_knownTo)), ((aT 5), .inl (cyI, 4, .inl T_toldBy)), (aR, .inr (1, [.ref (aS 1), .int Rfrom, .int Rlength, .int o4.2.1])), ((aT 0), .inr (2, [.int o4.2.2.1, .int Tpeople, .int Tcatches, .ref (aT 1), .ref (aT 2), .ref (aT 3), .ref (aT 4), .ref (aT 5)])), ((aT 1), .inl (cyI, 6, .inl o4.2.2.2)), ((aS 1), .inl (cyI, 60, .inl S_cells))] := hD
    refine lv_if_ne (tgt := 21) hx hb dX1_readsText_16 (by decide) (fun c6 => ?_) (fun c6 => ?_)
    · replace h := it_f c6 h
      refine lv_iconst (v := 1) hx hb dX1_readsText_21 (by decide) ?_
      refine lv_istore_n (lv' := [(2, .int 1), (0, .ref aR), (1, .ref (aT 0))]) hx hb dX1_readsText_22 rfl hl (by decide) rfl (fun ls hl => ?_)
      have hP := hP.sub (ws' := [(aR, .inr (1, [.ref (aS 1), .int Rfrom, .int Rlength, .int o4.2.1])), ((aT 0), .inr (2, [.int o4.2.2.1, .int Tpeople, .int Tcatches, .ref (aT 1), .ref (aT 2), .ref (aT 3), .ref (aT 4), .ref (aT 5)])), ((aT 1), .inl (cyI, 6, .inl o4.2.2.2)), ((aT 2), .inl (cyI, 4, .inl T_kindOf)), ((aT 3), .inl (cyI, 4, .inl T_doneBy)), ((aT 4), .inl (cyI, 4, .inl T_knownTo)), ((aT 5), .inl (cyI, 4, .inl T_toldBy)), ((aS 1), .inl (cyI, 60, .inl S_cells))]) [4, 5, 6, 0, 1, 2, 3, 7] rfl
      have hD := hD.sub (ws' := [(aR, .inr (1, [.ref (aS 1), .int Rfrom, .int Rlength, .int o4.2.1])), ((aT 0), .inr (2, [.int o4.2.2.1, .int Tpeople, .int Tcatches, .ref (aT 1), .ref (aT 2), .ref (aT 3), .ref (aT 4), .ref (aT 5)])), ((aT 1), .inl (cyI, 6, .inl o4.2.2.2)), ((aT 2), .inl (cyI, 4, .inl T_kindOf)), ((aT 3), .inl (cyI, 4, .inl T_doneBy)), ((aT 4), .inl (cyI, 4, .inl T_knownTo)), ((aT 5), .inl (cyI, 4, .inl T_toldBy)), ((aS 1), .inl (cyI, 60, .inl S_cells))]) [4, 5, 6, 0, 1, 2, 3, 7] (by decide) rfl
      exact lp23 99 1 o4.2.1 o4.2.2.1 Tpeople o4.2.2.2 T_kindOf T_doneBy T_knownTo T_toldBy H locs ls h hP hD hS (lv_sub hl [1, 2, 0] rfl)
    · replace h := it_t c6 h
      refine lv_iconst (v := 0) hx hb dX1_readsText_19 (by decide) ?_
      replace h := Option.some.inj h; subst h
      have hP := hP.sub (ws' := [(aR, .inr (1, [.ref (aS 1), .int Rfrom, .int Rlength, .int o4.2.1])), ((aT 0), .inr (2, [.int o4.2.2.1, .int Tpeople, .int Tcatches, .ref (aT 1), .ref (aT 2), .ref (aT 3), .ref (aT 4), .ref (aT 5)])), ((aT 1), .inl (cyI, 6, .inl o4.2.2.2)), ((aT 2), .inl (cyI, 4, .inl T_kindOf)), ((aT 3), .inl (cyI, 4, .inl T_doneBy)), ((aT 4), .inl (cyI, 4, .inl T_knownTo)), ((aT 5), .inl (cyI, 4, .inl T_toldBy)), ((aS 1), .inl (cyI, 60, .inl S_cells))]) [4, 5, 6, 0, 1, 2, 3, 7] rfl
      have hD := hD.sub (ws' := [(aR, .inr (1, [.ref (aS 1), .int Rfrom, .int Rlength, .int o4.2.1])), ((aT 0), .inr (2, [.int o4.2.2.1, .int Tpeople, .int Tcatches, .ref (aT 1), .ref (aT 2), .ref (aT 3), .ref (aT 4), .ref (aT 5)])), ((aT 1), .inl (cyI, 6, .inl o4.2.2.2)), ((aT 2), .inl (cyI, 4, .inl T_kindOf)), ((aT 3), .inl (cyI, 4, .inl T_doneBy)), ((aT 4), .inl (cyI, 4, .inl T_knownTo)), ((aT 5), .inl (cyI, 4, .inl T_toldBy)), ((aS 1), .inl (cyI, 60, .inl S_cells))]) [4, 5, 6, 0, 1, 2, 3, 7] (by decide) rfl
      exact hret () H locs _ ls hP hD hS dX1_readsText_20 bz_0
set_option maxHeartbeats 4000000 in
set_option maxRecDepth 100000 in
theorem c_X1_firstFault (l : Launch) (dC : Nat → ClassId) (dI : Nat → Nat → Nat) (cyI cyO : ClassId) (aR : Nat) (aT : Nat → Nat) (aS : Nat → Nat) (cd : Nat) (sz : Nat) (Rfrom : Int32) (Rlength : Int32) (Rat : Int32) (Tdeeds : Int32) (Tpeople : Int32) (Tcatches : Int32) (T_weightOf : Nat → Int32) (T_kindOf : Nat → Int32) (T_doneBy : Nat → Int32) (T_knownTo : Nat → Int32) (T_toldBy : Nat → Int32) (Slane : Int32) (Slength : Int32) (S_cells : Nat → Int32) (p2 : Int32) (p3 : Int32) {o : Int32 × Int32 × Int32 × Int32 × Int32 × Int32 × (Nat → Int32) × (Nat → Int32) × (Nat → Int32) × (Nat → Int32) × (Nat → Int32)}  (h : f_X1_firstFault Rfrom Rlength Rat Tdeeds Tpeople T_weightOf T_kindOf T_doneBy T_knownTo T_toldBy S_cells p2 p3 = some o) : CtI l yX1_firstFault wsX1_firstFault { frames := 4, cells := 0, slots := 0, locals := 90 } (dC, dI) [(cyI, .int), (cyO, .object RX0)] [.ref aR, .ref (aS 0), .int p2, .int p3, .ref (aT 0)] sz [(aR, .inr (1, [.ref cd, .int Rfrom, .int Rlength, .int Rat])), ((aT 0), .inr (2, [.int Tdeeds, .int Tpeople, .int Tcatches, .ref (aT 1), .ref (aT 2), .ref (aT 3), .ref (aT 4), .ref (aT 5)])), ((aT 1), .inl (cyI, 6, .inl T_weightOf)), ((aT 2), .inl (cyI, 4, .inl T_kindOf)), ((aT 3), .inl (cyI, 4, .inl T_doneBy)), ((aT 4), .inl (cyI, 4, .inl T_knownTo)), ((aT 5), .inl (cyI, 4, .inl T_toldBy)), ((aS 0), .inr (0, [.int Slane, .int Slength, .ref (aS 1)])), ((aS 1), .inl (cyI, 60, .inl S_cells))] (fun (_ : Unit) => [(aR, .inr (1, [.ref (aS 1), .int o.2.1, .int o.2.2.1, .int o.2.2.2.1])), ((aT 0), .inr (2, [.int o.2.2.2.2.1, .int o.2.2.2.2.2.1, .int Tcatches, .ref (aT 1), .ref (aT 2), .ref (aT 3), .ref (aT 4), .ref (aT 5)])), ((aT 1), .inl (cyI, 6, .inl o.2.2.2.2.2.2.1)), ((aT 2), .inl (cyI, 4, .inl o.2.2.2.2.2.2.2.1)), ((aT 3), .inl (cyI, 4, .inl o.2.2.2.2.2.2.2.2.1)), ((aT 4), .inl (cyI, 4, .inl o.2.2.2.2.2.2.2.2.2.1)), ((aT 5), .inl (cyI, 4, .inl o.2.2.2.2.2.2.2.2.2.2)), ((aS 0), .inr (0, [.int Slane, .int Slength, .ref (aS 1)])), ((aS 1), .inl (cyI, 60, .inl S_cells))]) o.1 := by
  refine CtI.of (cc := cX1_firstFault) (maxL := 5) (by decide) rfl (Nat.le_of_ble_eq_true rfl) ?_
  intro p e s m args below meth c A Q H locs hx hb hml hown hts hA hK hP hD hS hret ls hl
  have hown : s.vm.findClass RX1 = some m.cls := hown
  have hl : lv_has ls 5 [(0, .ref aR), (1, .ref (aS 0)), (2, .int p2), (3, .int p3), (4, .ref (aT 0))] := hl
  unfold f_X1_firstFault at h
  have hiX0 : ∀ w ∈ u_ws RX0 TX0 3, w ∈ wsX1_firstFault := by decide +kernel
  have hiX1 : ∀ w ∈ u_ws RX1 TX1 4, w ∈ wsX1_firstFault := by decide +kernel
  have hf9 := hts (.fieldLink RX1 9 "TowerTell$TextReader" "codes" "[I") (by decide +kernel)
  have hf15 := hts (.fieldLink RX1 15 "TowerTell$Sheet" "cells" "[I") (by decide +kernel)
  have hf20 := hts (.fieldLink RX1 20 "TowerTell$TextReader" "from" "I") (by decide +kernel)
  have hf24 := hts (.fieldLink RX1 24 "TowerTell$TextReader" "length" "I") (by decide +kernel)
  have hf27 := hts (.fieldLink RX1 27 "TowerTell$TextReader" "at" "I") (by decide +kernel)
  refine lv_aload_n hx hb dX1_firstFault_0 rfl (lv_at hl 0 rfl) ?_
  refine lv_aload_n hx hb dX1_firstFault_1 rfl (lv_at hl 1 rfl) ?_
  refine va_get (D := (dC, dI)) (ci := 0) (v := .ref (aS 1)) (C := RX0) (T := TX0) (N := 3) hx hb hts hiX0 hown hK hP 7 rfl rfl 2 (by decide) hf15 (fun _ h9 => h9) rfl dX1_firstFault_2 ?_
  refine va_put (D := (dC, dI)) (ci := 1) (v := .ref (aS 1)) (ty := .array .int) (C := RX1) (T := TX1) (N := 4) hx hb hts hiX1 tyX1 tyX1_ok nmX1 hown hK hP hD hS 0 rfl rfl 0 (by decide) hf9 (fun _ h9 => h9) rfl (tyX1_ok 0 (by decide)) rfl rfl (Nat.le_of_ble_eq_true rfl) dX1_firstFault_5 (fun H locs hP hD hS => ?_)
  have hP : va_P (dC, dI) vwCl [(aR, .inr (1, [.ref (aS 1), .int Rfrom, .int Rlength, .int Rat])), ((aT 0), .inr (2, [.int Tdeeds, .int Tpeople, .int Tcatches, .ref (aT 1), .ref (aT 2), .ref (aT 3), .ref (aT 4), .ref (aT 5)])), ((aT 1), .inl (cyI, 6, .inl T_weightOf)), ((aT 2), .inl (cyI, 4, .inl T_kindOf)), ((aT 3), .inl (cyI, 4, .inl T_doneBy)), ((aT 4), .inl (cyI, 4, .inl T_knownTo)), ((aT 5), .inl (cyI, 4, .inl T_toldBy)), ((aS 0), .inr (0, [.int Slane, .int Slength, .ref (aS 1)])), ((aS 1), .inl (cyI, 60, .inl S_cells))] H := hP
  have hD : va_D A [(aR, .inr (1, [.ref (aS 1), .int Rfrom, .int Rlength, .int Rat])), ((aT 0), .inr (2, [.int Tdeeds, .int Tpeople, .int Tcatches, .ref (aT 1), .ref (aT 2), .ref (aT 3), .ref (aT 4), .ref (aT 5)])), ((aT 1), .inl (cyI, 6, .inl T_weightOf)), ((aT 2), .inl (cyI, 4, .inl T_kindOf)), ((aT 3), .inl (cyI, 4, .inl T_doneBy)), ((aT 4), .inl (cyI, 4, .inl T_knownTo)), ((aT 5), .inl (cyI, 4, .inl T_toldBy)), ((aS 0), .inr (0, [.int Slane, .int Slength, .ref (aS 1)])), ((aS 1), .inl (cyI, 60, .inl S_cells))] := hD
  refine lv_aload_n hx hb dX1_firstFault_8 rfl (lv_at hl 0 rfl) ?_
  refine lv_iload_n hx hb dX1_firstFault_9 rfl (lv_at hl 2 rfl) ?_
  refine va_put (D := (dC, dI)) (ci := 1) (v := .int p2) (ty := .int) (C := RX1) (T := TX1) (N := 4) hx hb hts hiX1 tyX1 tyX1_ok nmX1 hown hK hP hD hS 0 rfl rfl 1 (by decide) hf20 (fun _ h9 => h9) rfl (tyX1_ok 1 (by decide)) rfl rfl (Nat.le_of_ble_eq_true rfl) dX1_firstFault_10 (fun H locs hP hD hS => ?_)
  have hP : va_P (dC, dI) vwCl [(aR, .inr (1, [.ref (aS 1), .int p2, .int Rlength, .int Rat])), ((aT 0), .inr (2, [.int Tdeeds, .int Tpeople, .int Tcatches, .ref (aT 1), .ref (aT 2), .ref (aT 3), .ref (aT 4), .ref (aT 5)])), ((aT 1), .inl (cyI, 6, .inl T_weightOf)), ((aT 2), .inl (cyI, 4, .inl T_kindOf)), ((aT 3), .inl (cyI, 4, .inl T_doneBy)), ((aT 4), .inl (cyI, 4, .inl T_knownTo)), ((aT 5), .inl (cyI, 4, .inl T_toldBy)), ((aS 0), .inr (0, [.int Slane, .int Slength, .ref (aS 1)])), ((aS 1), .inl (cyI, 60, .inl S_cells))] H := hP
  have hD : va_D A [(aR, .inr (1, [.ref (aS 1), .int p2, .int Rlength, .int Rat])), ((aT 0), .inr (2, [.int Tdeeds, .int Tpeople, .int Tcatches, .ref (aT 1), .ref (aT 2), .ref (aT 3), .ref (aT 4), .ref (aT 5)])), ((aT 1), .inl (cyI, 6, .inl T_weightOf)), ((aT 2), .inl (cyI, 4, .inl T_kindOf)), ((aT 3), .inl (cyI, 4, .inl T_doneBy)), ((aT 4), .inl (cyI, 4, .inl T_knownTo)), ((aT 5), .inl (cyI, 4, .inl T_toldBy)), ((aS 0), .inr (0, [.int Slane, .int Slength, .ref (aS 1)])), ((aS 1), .inl (cyI, 60, .inl S_cells))] := hD
  refine lv_aload_n hx hb dX1_firstFault_13 rfl (lv_at hl 0 rfl) ?_
  refine lv_iload_n hx hb dX1_firstFault_14 rfl (lv_at hl 3 rfl) ?_
  refine va_put (D := (dC, dI)) (ci := 1) (v := .int p3) (ty := .int) (C := RX1) (T := TX1) (N := 4) hx hb hts hiX1 tyX1 tyX1_ok nmX1 hown hK hP hD hS 0 rfl rfl 2 (by decide) hf24 (fun _ h9 => h9) rfl (tyX1_ok 2 (by decide)) rfl rfl (Nat.le_of_ble_eq_true rfl) dX1_firstFault_15 (fun H locs hP hD hS => ?_)
  have hP : va_P (dC, dI) vwCl [(aR, .inr (1, [.ref (aS 1), .int p2, .int p3, .int Rat])), ((aT 0), .inr (2, [.int Tdeeds, .int Tpeople, .int Tcatches, .ref (aT 1), .ref (aT 2), .ref (aT 3), .ref (aT 4), .ref (aT 5)])), ((aT 1), .inl (cyI, 6, .inl T_weightOf)), ((aT 2), .inl (cyI, 4, .inl T_kindOf)), ((aT 3), .inl (cyI, 4, .inl T_doneBy)), ((aT 4), .inl (cyI, 4, .inl T_knownTo)), ((aT 5), .inl (cyI, 4, .inl T_toldBy)), ((aS 0), .inr (0, [.int Slane, .int Slength, .ref (aS 1)])), ((aS 1), .inl (cyI, 60, .inl S_cells))] H := hP
  have hD : va_D A [(aR, .inr (1, [.ref (aS 1), .int p2, .int p3, .int Rat])), ((aT 0), .inr (2, [.int Tdeeds, .int Tpeople, .int Tcatches, .ref (aT 1), .ref (aT 2), .ref (aT 3), .ref (aT 4), .ref (aT 5)])), ((aT 1), .inl (cyI, 6, .inl T_weightOf)), ((aT 2), .inl (cyI, 4, .inl T_kindOf)), ((aT 3), .inl (cyI, 4, .inl T_doneBy)), ((aT 4), .inl (cyI, 4, .inl T_knownTo)), ((aT 5), .inl (cyI, 4, .inl T_toldBy)), ((aS 0), .inr (0, [.int Slane, .int Slength, .ref (aS 1)])), ((aS 1), .inl (cyI, 60, .inl S_cells))] := hD
  refine lv_aload_n hx hb dX1_firstFault_18 rfl (lv_at hl 0 rfl) ?_
  refine lv_iconst (v := 0) hx hb dX1_firstFault_19 (by decide) ?_
  refine va_put (D := (dC, dI)) (ci := 1) (v := .int 0) (ty := .int) (C := RX1) (T := TX1) (N := 4) hx hb hts hiX1 tyX1 tyX1_ok nmX1 hown hK hP hD hS 0 rfl rfl 3 (by decide) hf27 (fun _ h9 => h9) rfl (tyX1_ok 3 (by decide)) rfl rfl (Nat.le_of_ble_eq_true rfl) dX1_firstFault_20 (fun H locs hP hD hS => ?_)
  have hP : va_P (dC, dI) vwCl [(aR, .inr (1, [.ref (aS 1), .int p2, .int p3, .int 0])), ((aT 0), .inr (2, [.int Tdeeds, .int Tpeople, .int Tcatches, .ref (aT 1), .ref (aT 2), .ref (aT 3), .ref (aT 4), .ref (aT 5)])), ((aT 1), .inl (cyI, 6, .inl T_weightOf)), ((aT 2), .inl (cyI, 4, .inl T_kindOf)), ((aT 3), .inl (cyI, 4, .inl T_doneBy)), ((aT 4), .inl (cyI, 4, .inl T_knownTo)), ((aT 5), .inl (cyI, 4, .inl T_toldBy)), ((aS 0), .inr (0, [.int Slane, .int Slength, .ref (aS 1)])), ((aS 1), .inl (cyI, 60, .inl S_cells))] H := hP
  have hD : va_D A [(aR, .inr (1, [.ref (aS 1), .int p2, .int p3, .int 0])), ((aT 0), .inr (2, [.int Tdeeds, .int Tpeople, .int Tcatches, .ref (aT 1), .ref (aT 2), .ref (aT 3), .ref (aT 4), .ref (aT 5)])), ((aT 1), .inl (cyI, 6, .inl T_weightOf)), ((aT 2), .inl (cyI, 4, .inl T_kindOf)), ((aT 3), .inl (cyI, 4, .inl T_doneBy)), ((aT 4), .inl (cyI, 4, .inl T_knownTo)), ((aT 5), .inl (cyI, 4, .inl T_toldBy)), ((aS 0), .inr (0, [.int Slane, .int Slength, .ref (aS 1)])), ((aS 1), .inl (cyI, 60, .inl S_cells))] := hD
  refine lv_aload hx hb dX1_firstFault_23 (lv_at hl 4 rfl) ?_
  obtain ⟨o1, hc2, h⟩ := ob h
  refine k_vv (As := []) (rest := []) ⟨hx, hb, hml, hown, hts⟩ (c_X2_clear l dC dI cyI cyO aT H.size Tdeeds Tpeople Tcatches hc2) (cwV 0 hts gX1_firstFault_X2_clear rfl rfl rfl (by decide +kernel) ⟨Nat.le_of_ble_eq_true rfl, Nat.le_of_ble_eq_true rfl⟩) hP hD hK hS hA [1] [0, 2, 3, 4, 5, 6, 7, 8] rfl rfl (by decide) (by decide) (by decide) 2 0 rfl rfl rfl rfl hl.1 rfl (Nat.le_of_ble_eq_true rfl) dX1_firstFault_25 ⟨Nat.zero_le _, Nat.zero_le _⟩ (fun _ H locs hP hD hS => ?_)
  have hP : va_P (dC, dI) vwCl [(aR, .inr (1, [.ref (aS 1), .int p2, .int p3, .int 0])), ((aT 1), .inl (cyI, 6, .inl T_weightOf)), ((aT 2), .inl (cyI, 4, .inl T_kindOf)), ((aT 3), .inl (cyI, 4, .inl T_doneBy)), ((aT 4), .inl (cyI, 4, .inl T_knownTo)), ((aT 5), .inl (cyI, 4, .inl T_toldBy)), ((aS 0), .inr (0, [.int Slane, .int Slength, .ref (aS 1)])), ((aS 1), .inl (cyI, 60, .inl S_cells)), ((aT 0), .inr (2, [.int o1.1, .int o1.2, .int Tcatches, .ref (aT 1), .ref (aT 2), .ref (aT 3), .ref (aT 4), .ref (aT 5)]))] H := hP
  have hD : va_D A [(aR, .inr (1, [.ref (aS 1), .int p2, .int p3, .int 0])), ((aT 1), .inl (cyI, 6, .inl T_weightOf)), ((aT 2), .inl (cyI, 4, .inl T_kindOf)), ((aT 3), .inl (cyI, 4, .inl T_doneBy)), ((aT 4), .inl (cyI, 4, .inl T_knownTo)), ((aT 5), .inl (cyI, 4, .inl T_toldBy)), ((aS 0), .inr (0, [.int Slane, .int Slength, .ref (aS 1)])), ((aS 1), .inl (cyI, 60, .inl S_cells)), ((aT 0), .inr (2, [.int o1.1, .int o1.2, .int Tcatches, .ref (aT 1), .ref (aT 2), .ref (aT 3), .ref (aT 4), .ref (aT 5)]))] := hD
  refine lv_aload_n hx hb dX1_firstFault_28 rfl (lv_at hl 0 rfl) ?_
  refine lv_aload hx hb dX1_firstFault_29 (lv_at hl 4 rfl) ?_
  obtain ⟨o3, hc4, h⟩ := ob h
  refine k_vi (As := [.ref (aT 0)]) (rest := []) ⟨hx, hb, hml, hown, hts⟩ (c_X1_readsText l dC dI cyI cyO aR aT aS H.size p2 p3 0 o1.1 o1.2 Tcatches T_weightOf T_kindOf T_doneBy T_knownTo T_toldBy S_cells hc4) (cwV 1 hts gX1_firstFault_X1_readsText rfl rfl rfl (by decide +kernel) ⟨Nat.le_of_ble_eq_true rfl, Nat.le_of_ble_eq_true rfl⟩) hP hD hK hS hA [0, 8, 1, 2, 3, 4, 5, 7] [6] rfl rfl (by decide) (by decide) (by decide) 1 0 rfl rfl rfl rfl hl.1 rfl (Nat.le_of_ble_eq_true rfl) dX1_firstFault_31 ⟨Nat.zero_le _, Nat.zero_le _⟩ (fun _ H locs hP hD hS => ?_)
  have hP : va_P (dC, dI) vwCl [((aS 0), .inr (0, [.int Slane, .int Slength, .ref (aS 1)])), (aR, .inr (1, [.ref (aS 1), .int p2, .int p3, .int o3.2.1])), ((aT 0), .inr (2, [.int o3.2.2.1, .int o3.2.2.2.1, .int Tcatches, .ref (aT 1), .ref (aT 2), .ref (aT 3), .ref (aT 4), .ref (aT 5)])), ((aT 1), .inl (cyI, 6, .inl o3.2.2.2.2.1)), ((aT 2), .inl (cyI, 4, .inl o3.2.2.2.2.2.1)), ((aT 3), .inl (cyI, 4, .inl o3.2.2.2.2.2.2.1)), ((aT 4), .inl (cyI, 4, .inl o3.2.2.2.2.2.2.2.1)), ((aT 5), .inl (cyI, 4, .inl o3.2.2.2.2.2.2.2.2)), ((aS 1), .inl (cyI, 60, .inl S_cells))] H := hP
  have hD : va_D A [((aS 0), .inr (0, [.int Slane, .int Slength, .ref (aS 1)])), (aR, .inr (1, [.ref (aS 1), .int p2, .int p3, .int o3.2.1])), ((aT 0), .inr (2, [.int o3.2.2.1, .int o3.2.2.2.1, .int Tcatches, .ref (aT 1), .ref (aT 2), .ref (aT 3), .ref (aT 4), .ref (aT 5)])), ((aT 1), .inl (cyI, 6, .inl o3.2.2.2.2.1)), ((aT 2), .inl (cyI, 4, .inl o3.2.2.2.2.2.1)), ((aT 3), .inl (cyI, 4, .inl o3.2.2.2.2.2.2.1)), ((aT 4), .inl (cyI, 4, .inl o3.2.2.2.2.2.2.2.1)), ((aT 5), .inl (cyI, 4, .inl o3.2.2.2.2.2.2.2.2)), ((aS 1), .inl (cyI, 60, .inl S_cells))] := hD
  refine lv_if_eq (tgt := 42) hx hb dX1_firstFault_34 (by decide) (fun c5 => ?_) (fun c5 => ?_)
  · replace h := it_t c5 h
    refine lv_aload_n hx hb dX1_firstFault_42 rfl (lv_at hl 0 rfl) ?_
    refine va_get (D := (dC, dI)) (ci := 1) (v := .int o3.2.1) (C := RX1) (T := TX1) (N := 4) hx hb hts hiX1 hown hK hP 1 rfl rfl 3 (by decide) hf27 (fun _ h9 => h9) rfl dX1_firstFault_43 ?_
    replace h := Option.some.inj h; subst h
    have hP := hP.sub (ws' := [(aR, .inr (1, [.ref (aS 1), .int p2, .int p3, .int o3.2.1])), ((aT 0), .inr (2, [.int o3.2.2.1, .int o3.2.2.2.1, .int Tcatches, .ref (aT 1), .ref (aT 2), .ref (aT 3), .ref (aT 4), .ref (aT 5)])), ((aT 1), .inl (cyI, 6, .inl o3.2.2.2.2.1)), ((aT 2), .inl (cyI, 4, .inl o3.2.2.2.2.2.1)), ((aT 3), .inl (cyI, 4, .inl o3.2.2.2.2.2.2.1)), ((aT 4), .inl (cyI, 4, .inl o3.2.2.2.2.2.2.2.1)), ((aT 5), .inl (cyI, 4, .inl o3.2.2.2.2.2.2.2.2)), ((aS 0), .inr (0, [.int Slane, .int Slength, .ref (aS 1)])), ((aS 1), .inl (cyI, 60, .inl S_cells))]) [1, 2, 3, 4, 5, 6, 7, 0, 8] rfl
    have hD := hD.sub (ws' := [(aR, .inr (1, [.ref (aS 1), .int p2, .int p3, .int o3.2.1])), ((aT 0), .inr (2, [.int o3.2.2.1, .int o3.2.2.2.1, .int Tcatches, .ref (aT 1), .ref (aT 2), .ref (aT 3), .ref (aT 4), .ref (aT 5)])), ((aT 1), .inl (cyI, 6, .inl o3.2.2.2.2.1)), ((aT 2), .inl (cyI, 4, .inl o3.2.2.2.2.2.1)), ((aT 3), .inl (cyI, 4, .inl o3.2.2.2.2.2.2.1)), ((aT 4), .inl (cyI, 4, .inl o3.2.2.2.2.2.2.2.1)), ((aT 5), .inl (cyI, 4, .inl o3.2.2.2.2.2.2.2.2)), ((aS 0), .inr (0, [.int Slane, .int Slength, .ref (aS 1)])), ((aS 1), .inl (cyI, 60, .inl S_cells))]) [1, 2, 3, 4, 5, 6, 7, 0, 8] (by decide) rfl
    exact hret () H locs _ ls hP hD hS dX1_firstFault_46 rfl
  · replace h := it_f c5 h
    refine lv_bipush (v := (-9)) hx hb dX1_firstFault_37 (by decide) ?_
    refine lv_goto (tgt := 46) hx hb dX1_firstFault_39 (by decide) ?_
    replace h := Option.some.inj h; subst h
    have hP := hP.sub (ws' := [(aR, .inr (1, [.ref (aS 1), .int p2, .int p3, .int o3.2.1])), ((aT 0), .inr (2, [.int o3.2.2.1, .int o3.2.2.2.1, .int Tcatches, .ref (aT 1), .ref (aT 2), .ref (aT 3), .ref (aT 4), .ref (aT 5)])), ((aT 1), .inl (cyI, 6, .inl o3.2.2.2.2.1)), ((aT 2), .inl (cyI, 4, .inl o3.2.2.2.2.2.1)), ((aT 3), .inl (cyI, 4, .inl o3.2.2.2.2.2.2.1)), ((aT 4), .inl (cyI, 4, .inl o3.2.2.2.2.2.2.2.1)), ((aT 5), .inl (cyI, 4, .inl o3.2.2.2.2.2.2.2.2)), ((aS 0), .inr (0, [.int Slane, .int Slength, .ref (aS 1)])), ((aS 1), .inl (cyI, 60, .inl S_cells))]) [1, 2, 3, 4, 5, 6, 7, 0, 8] rfl
    have hD := hD.sub (ws' := [(aR, .inr (1, [.ref (aS 1), .int p2, .int p3, .int o3.2.1])), ((aT 0), .inr (2, [.int o3.2.2.1, .int o3.2.2.2.1, .int Tcatches, .ref (aT 1), .ref (aT 2), .ref (aT 3), .ref (aT 4), .ref (aT 5)])), ((aT 1), .inl (cyI, 6, .inl o3.2.2.2.2.1)), ((aT 2), .inl (cyI, 4, .inl o3.2.2.2.2.2.1)), ((aT 3), .inl (cyI, 4, .inl o3.2.2.2.2.2.2.1)), ((aT 4), .inl (cyI, 4, .inl o3.2.2.2.2.2.2.2.1)), ((aT 5), .inl (cyI, 4, .inl o3.2.2.2.2.2.2.2.2)), ((aS 0), .inr (0, [.int Slane, .int Slength, .ref (aS 1)])), ((aS 1), .inl (cyI, 60, .inl S_cells))]) [1, 2, 3, 4, 5, 6, 7, 0, 8] (by decide) rfl
    exact hret () H locs _ ls hP hD hS dX1_firstFault_46 rfl
