/-! WALKS, by wip/whole/gen.py: X0_isBare X0_drop X0_begin X0_holds X0_faultOf X0_write X2_addDeed X2_addPerson X2_clear X2_become X2_isDeed X2_isPerson X2_truthsOf X2_hasTold X2_rise X2_floorBy X2_floorOf X2_highestFloor X2_wouldBeCaught X2_hear J6_bitCount_0f7a4 -/
set_option maxHeartbeats 4000000 in
set_option maxRecDepth 100000 in
theorem c_X0_isBare (l : Launch) (dC : Nat → ClassId) (dI : Nat → Nat → Nat) (cyI cyO : ClassId) (aS : Nat → Nat) (sz : Nat) (Slane : Int32) (Slength : Int32)  {o : Int32}  (h : f_X0_isBare Slane = some o) : CtI l yX0_isBare wsX0_isBare { frames := 0, cells := 0, slots := 0, locals := 0 } (dC, dI) [(cyI, .int), (cyO, .object RX0)] [.ref (aS 0)] sz [((aS 0), .inr (0, [.int Slane, .int Slength, .ref (aS 1)]))] (fun (_ : Unit) => [((aS 0), .inr (0, [.int Slane, .int Slength, .ref (aS 1)]))]) o := by
  refine CtI.of (cc := cX0_isBare) (maxL := 1) (by decide) rfl (Nat.le_of_ble_eq_true rfl) ?_
  intro p e s m args below meth c A Q H locs hx hb hml hown hts hA hK hP hD hS hret ls hl
  have hown : s.vm.findClass RX0 = some m.cls := hown
  have hl : lv_has ls 1 [(0, .ref (aS 0))] := hl
  unfold f_X0_isBare at h
  have hiX0 : ∀ w ∈ u_ws RX0 TX0 3, w ∈ wsX0_isBare := by decide +kernel
  have hf9 := hts (.fieldLink RX0 9 "TowerTell$Sheet" "lane" "I") (by decide +kernel)
  refine lv_aload_n hx hb dX0_isBare_0 rfl (lv_at hl 0 rfl) ?_
  refine va_get (D := (dC, dI)) (ci := 0) (v := .int Slane) (C := RX0) (T := TX0) (N := 3) hx hb hts hiX0 hown hK hP 0 rfl rfl 0 (by decide) hf9 (fun _ h9 => h9) rfl dX0_isBare_1 ?_
  refine lv_iconst (v := (-1)) hx hb dX0_isBare_4 (by decide) ?_
  refine lv_icmp_ne (tgt := 12) hx hb dX0_isBare_5 (by decide) (fun c1 => ?_) (fun c1 => ?_)
  · replace h := it_f c1 h
    refine lv_iconst (v := 0) hx hb dX0_isBare_12 (by decide) ?_
    replace h := Option.some.inj h; subst h
    exact hret () H locs _ ls hP hD hS dX0_isBare_13 bz_0
  · replace h := it_t c1 h
    refine lv_iconst (v := 1) hx hb dX0_isBare_8 (by decide) ?_
    refine lv_goto (tgt := 13) hx hb dX0_isBare_9 (by decide) ?_
    replace h := Option.some.inj h; subst h
    exact hret () H locs _ ls hP hD hS dX0_isBare_13 bz_1
set_option maxHeartbeats 4000000 in
set_option maxRecDepth 100000 in
theorem c_X0_drop (l : Launch) (dC : Nat → ClassId) (dI : Nat → Nat → Nat) (cyI cyO : ClassId) (aS : Nat → Nat) (sz : Nat) (Slane : Int32) (Slength : Int32)  {o : Int32 × Int32}  (h : f_X0_drop Slane Slength = some o) : CtV l yX0_drop wsX0_drop { frames := 0, cells := 0, slots := 0, locals := 0 } (dC, dI) [(cyI, .int), (cyO, .object RX0)] [.ref (aS 0)] sz [((aS 0), .inr (0, [.int Slane, .int Slength, .ref (aS 1)]))] (fun (_ : Unit) => [((aS 0), .inr (0, [.int o.1, .int o.2, .ref (aS 1)]))]) := by
  refine CtV.of (cc := cX0_drop) (maxL := 1) (by decide) rfl (Nat.le_of_ble_eq_true rfl) ?_
  intro p e s m args below meth c A Q H locs hx hb hml hown hts hA hK hP hD hS hret ls hl
  have hown : s.vm.findClass RX0 = some m.cls := hown
  have hl : lv_has ls 1 [(0, .ref (aS 0))] := hl
  unfold f_X0_drop at h
  have hiX0 : ∀ w ∈ u_ws RX0 TX0 3, w ∈ wsX0_drop := by decide +kernel
  have hf9 := hts (.fieldLink RX0 9 "TowerTell$Sheet" "lane" "I") (by decide +kernel)
  have hf19 := hts (.fieldLink RX0 19 "TowerTell$Sheet" "length" "I") (by decide +kernel)
  refine lv_aload_n hx hb dX0_drop_0 rfl (lv_at hl 0 rfl) ?_
  refine lv_iconst (v := (-1)) hx hb dX0_drop_1 (by decide) ?_
  refine va_put (D := (dC, dI)) (ci := 0) (v := .int (-1)) (ty := .int) (C := RX0) (T := TX0) (N := 3) hx hb hts hiX0 tyX0 tyX0_ok nmX0 hown hK hP hD hS 0 rfl rfl 0 (by decide) hf9 (fun _ h9 => h9) rfl (tyX0_ok 0 (by decide)) rfl rfl (Nat.le_of_ble_eq_true rfl) dX0_drop_2 (fun H locs hP hD hS => ?_)
  have hP : va_P (dC, dI) vwCl [((aS 0), .inr (0, [.int (-1), .int Slength, .ref (aS 1)]))] H := hP
  have hD : va_D A [((aS 0), .inr (0, [.int (-1), .int Slength, .ref (aS 1)]))] := hD
  refine lv_aload_n hx hb dX0_drop_5 rfl (lv_at hl 0 rfl) ?_
  refine lv_iconst (v := 0) hx hb dX0_drop_6 (by decide) ?_
  refine va_put (D := (dC, dI)) (ci := 0) (v := .int 0) (ty := .int) (C := RX0) (T := TX0) (N := 3) hx hb hts hiX0 tyX0 tyX0_ok nmX0 hown hK hP hD hS 0 rfl rfl 1 (by decide) hf19 (fun _ h9 => h9) rfl (tyX0_ok 1 (by decide)) rfl rfl (Nat.le_of_ble_eq_true rfl) dX0_drop_7 (fun H locs hP hD hS => ?_)
  have hP : va_P (dC, dI) vwCl [((aS 0), .inr (0, [.int (-1), .int 0, .ref (aS 1)]))] H := hP
  have hD : va_D A [((aS 0), .inr (0, [.int (-1), .int 0, .ref (aS 1)]))] := hD
  replace h := Option.some.inj h; subst h
  exact hret () H locs _ ls hP hD hS dX0_drop_10
set_option maxHeartbeats 4000000 in
set_option maxRecDepth 100000 in
theorem c_X0_begin (l : Launch) (dC : Nat → ClassId) (dI : Nat → Nat → Nat) (cyI cyO : ClassId) (aS : Nat → Nat) (sz : Nat) (Slane : Int32) (Slength : Int32) (S_cells : Nat → Int32) (p1 : Int32) (p2 : Int32) {o : Int32 × Int32 × (Nat → Int32)}  (h : f_X0_begin Slane Slength S_cells p1 p2 = some o) : CtV l yX0_begin wsX0_begin { frames := 0, cells := 0, slots := 0, locals := 0 } (dC, dI) [(cyI, .int), (cyO, .object RX0)] [.ref (aS 0), .int p1, .int p2] sz [((aS 0), .inr (0, [.int Slane, .int Slength, .ref (aS 1)])), ((aS 1), .inl (cyI, 60, .inl S_cells))] (fun (_ : Unit) => [((aS 0), .inr (0, [.int o.1, .int o.2.1, .ref (aS 1)])), ((aS 1), .inl (cyI, 60, .inl o.2.2))]) := by
  refine CtV.of (cc := cX0_begin) (maxL := 4) (by decide) rfl (Nat.le_of_ble_eq_true rfl) ?_
  intro p e s m args below meth c A Q H locs hx hb hml hown hts hA hK hP hD hS hret ls hl
  have hown : s.vm.findClass RX0 = some m.cls := hown
  have hl : lv_has ls 4 [(0, .ref (aS 0)), (1, .int p1), (2, .int p2)] := hl
  unfold f_X0_begin at h
  have hiX0 : ∀ w ∈ u_ws RX0 TX0 3, w ∈ wsX0_begin := by decide +kernel
  have hf9 := hts (.fieldLink RX0 9 "TowerTell$Sheet" "lane" "I") (by decide +kernel)
  have hf15 := hts (.fieldLink RX0 15 "TowerTell$Sheet" "cells" "[I") (by decide +kernel)
  have hf19 := hts (.fieldLink RX0 19 "TowerTell$Sheet" "length" "I") (by decide +kernel)
  have lp12 : ∀ (n : Nat) (x3 : Int32) (ySlane : Int32) (ySlength : Int32) (yS_cells : Nat → Int32) (H : Heap) (locs : List Loc) (ls : Array Slot), l_X0_begin_12 p1 p2 n (x3, ySlane, ySlength, yS_cells) = some o → va_P (dC, dI) vwCl [((aS 0), .inr (0, [.int ySlane, .int ySlength, .ref (aS 1)])), ((aS 1), .inl (cyI, 60, .inl yS_cells))] H → va_D A [((aS 0), .inr (0, [.int ySlane, .int ySlength, .ref (aS 1)])), ((aS 1), .inl (cyI, 60, .inl yS_cells))] → va_S A s.heap H locs → lv_has ls 4 [(0, .ref (aS 0)), (3, .int x3)] → W p l e { frames := 0, cells := 0, slots := 0, locals := 0 } s m args below meth c H locs 0 0 Q (F0 m 12 ls []) := by
    intro n
    induction n with
    | zero => intro _ _ _ _ H locs ls h _ _ _ _; exact (lpF_0 h).elim
    | succ n ih =>
      intro x3 ySlane ySlength yS_cells H locs ls h hP hD hS hl
      replace h : b_X0_begin_12 p1 p2 (l_X0_begin_12 p1 p2 n) x3 ySlane ySlength yS_cells = some o := h
      unfold b_X0_begin_12 at h
      refine lv_iload_n hx hb dX0_begin_12 rfl (lv_at hl 1 rfl) ?_
      refine lv_bipush (v := 60) hx hb dX0_begin_13 (by decide) ?_
      refine lv_icmp_ge (tgt := 31) hx hb dX0_begin_15 (by decide) (fun c1 => ?_) (fun c1 => ?_)
      · replace h := it_t c1 h
        replace h := Option.some.inj h; subst h
        exact hret () H locs _ ls hP hD hS dX0_begin_31
      · replace h := it_f c1 h
        refine lv_aload_n hx hb dX0_begin_18 rfl (lv_at hl 0 rfl) ?_
        refine va_get (D := (dC, dI)) (ci := 0) (v := .ref (aS 1)) (C := RX0) (T := TX0) (N := 3) hx hb hts hiX0 hown hK hP 0 rfl rfl 2 (by decide) hf15 (fun _ h9 => h9) rfl dX0_begin_19 ?_
        refine lv_iload_n hx hb dX0_begin_22 rfl (lv_at hl 1 rfl) ?_
        refine lv_iconst (v := 0) hx hb dX0_begin_23 (by decide) ?_
        obtain ⟨e2, h⟩ := it_n h
        refine va_iast hx hb hK hP hD hS 1 0 rfl rfl (ix_in e2) dX0_begin_24 (fun H locs hP hD hS => ?_)
        have hP : va_P (dC, dI) vwCl [((aS 0), .inr (0, [.int ySlane, .int ySlength, .ref (aS 1)])), ((aS 1), .inl (cyI, 60, .inl (upd yS_cells x3.toNatClampNeg 0)))] H := hP
        have hD : va_D A [((aS 0), .inr (0, [.int ySlane, .int ySlength, .ref (aS 1)])), ((aS 1), .inl (cyI, 60, .inl (upd yS_cells x3.toNatClampNeg 0)))] := hD
        refine lv_iinc (v := (x3 + 1)) (lv' := [(3, .int (x3 + 1)), (0, .ref (aS 0))]) hx hb dX0_begin_25 hl (k := 1) rfl rfl (by decide) rfl (fun ls hl => ?_)
        refine lv_goto (tgt := 12) hx hb dX0_begin_28 (by decide) ?_
        exact ih (x3 + 1) ySlane ySlength (upd yS_cells x3.toNatClampNeg 0) H locs ls h hP hD hS (lv_sub hl [1, 0] rfl)
  refine lv_aload_n hx hb dX0_begin_0 rfl (lv_at hl 0 rfl) ?_
  refine lv_iload_n hx hb dX0_begin_1 rfl (lv_at hl 1 rfl) ?_
  refine va_put (D := (dC, dI)) (ci := 0) (v := .int p1) (ty := .int) (C := RX0) (T := TX0) (N := 3) hx hb hts hiX0 tyX0 tyX0_ok nmX0 hown hK hP hD hS 0 rfl rfl 0 (by decide) hf9 (fun _ h9 => h9) rfl (tyX0_ok 0 (by decide)) rfl rfl (Nat.le_of_ble_eq_true rfl) dX0_begin_2 (fun H locs hP hD hS => ?_)
  have hP : va_P (dC, dI) vwCl [((aS 0), .inr (0, [.int p1, .int Slength, .ref (aS 1)])), ((aS 1), .inl (cyI, 60, .inl S_cells))] H := hP
  have hD : va_D A [((aS 0), .inr (0, [.int p1, .int Slength, .ref (aS 1)])), ((aS 1), .inl (cyI, 60, .inl S_cells))] := hD
  refine lv_aload_n hx hb dX0_begin_5 rfl (lv_at hl 0 rfl) ?_
  refine lv_iload_n hx hb dX0_begin_6 rfl (lv_at hl 2 rfl) ?_
  refine va_put (D := (dC, dI)) (ci := 0) (v := .int p2) (ty := .int) (C := RX0) (T := TX0) (N := 3) hx hb hts hiX0 tyX0 tyX0_ok nmX0 hown hK hP hD hS 0 rfl rfl 1 (by decide) hf19 (fun _ h9 => h9) rfl (tyX0_ok 1 (by decide)) rfl rfl (Nat.le_of_ble_eq_true rfl) dX0_begin_7 (fun H locs hP hD hS => ?_)
  have hP : va_P (dC, dI) vwCl [((aS 0), .inr (0, [.int p1, .int p2, .ref (aS 1)])), ((aS 1), .inl (cyI, 60, .inl S_cells))] H := hP
  have hD : va_D A [((aS 0), .inr (0, [.int p1, .int p2, .ref (aS 1)])), ((aS 1), .inl (cyI, 60, .inl S_cells))] := hD
  refine lv_iconst (v := 0) hx hb dX0_begin_10 (by decide) ?_
  refine lv_istore_n (lv' := [(3, .int 0), (0, .ref (aS 0)), (1, .int p1), (2, .int p2)]) hx hb dX0_begin_11 rfl hl (by decide) rfl (fun ls hl => ?_)
  exact lp12 99 0 p1 p2 S_cells H locs ls h hP hD hS (lv_sub hl [1, 0] rfl)
set_option maxHeartbeats 4000000 in
set_option maxRecDepth 100000 in
theorem c_X0_holds (l : Launch) (dC : Nat → ClassId) (dI : Nat → Nat → Nat) (cyI cyO : ClassId) (aS : Nat → Nat) (sz : Nat) (Slane : Int32) (Slength : Int32) (p1 : Int32) (p2 : Int32) {o : Int32}  (h : f_X0_holds Slength p1 p2 = some o) : CtI l yX0_holds wsX0_holds { frames := 0, cells := 0, slots := 0, locals := 0 } (dC, dI) [(cyI, .int), (cyO, .object RX0)] [.ref (aS 0), .int p1, .int p2] sz [((aS 0), .inr (0, [.int Slane, .int Slength, .ref (aS 1)]))] (fun (_ : Unit) => [((aS 0), .inr (0, [.int Slane, .int Slength, .ref (aS 1)]))]) o := by
  refine CtI.of (cc := cX0_holds) (maxL := 3) (by decide) rfl (Nat.le_of_ble_eq_true rfl) ?_
  intro p e s m args below meth c A Q H locs hx hb hml hown hts hA hK hP hD hS hret ls hl
  have hown : s.vm.findClass RX0 = some m.cls := hown
  have hl : lv_has ls 3 [(0, .ref (aS 0)), (1, .int p1), (2, .int p2)] := hl
  unfold f_X0_holds at h
  have hiX0 : ∀ w ∈ u_ws RX0 TX0 3, w ∈ wsX0_holds := by decide +kernel
  have hf19 := hts (.fieldLink RX0 19 "TowerTell$Sheet" "length" "I") (by decide +kernel)
  refine lv_iload_n hx hb dX0_holds_0 rfl (lv_at hl 1 rfl) ?_
  refine lv_if_lt (tgt := 30) hx hb dX0_holds_1 (by decide) (fun c1 => ?_) (fun c1 => ?_)
  · replace h := it_t c1 h
    refine lv_iconst (v := 0) hx hb dX0_holds_30 (by decide) ?_
    replace h := Option.some.inj h; subst h
    exact hret () H locs _ ls hP hD hS dX0_holds_31 bz_0
  · replace h := it_f c1 h
    refine lv_iload_n hx hb dX0_holds_4 rfl (lv_at hl 1 rfl) ?_
    refine lv_aload_n hx hb dX0_holds_5 rfl (lv_at hl 0 rfl) ?_
    refine va_get (D := (dC, dI)) (ci := 0) (v := .int Slength) (C := RX0) (T := TX0) (N := 3) hx hb hts hiX0 hown hK hP 0 rfl rfl 1 (by decide) hf19 (fun _ h9 => h9) rfl dX0_holds_6 ?_
    refine lv_icmp_gt (tgt := 30) hx hb dX0_holds_9 (by decide) (fun c2 => ?_) (fun c2 => ?_)
    · replace h := it_t c2 h
      refine lv_iconst (v := 0) hx hb dX0_holds_30 (by decide) ?_
      replace h := Option.some.inj h; subst h
      exact hret () H locs _ ls hP hD hS dX0_holds_31 bz_0
    · replace h := it_f c2 h
      refine lv_iload_n hx hb dX0_holds_12 rfl (lv_at hl 2 rfl) ?_
      refine lv_if_lt (tgt := 30) hx hb dX0_holds_13 (by decide) (fun c3 => ?_) (fun c3 => ?_)
      · replace h := it_t c3 h
        refine lv_iconst (v := 0) hx hb dX0_holds_30 (by decide) ?_
        replace h := Option.some.inj h; subst h
        exact hret () H locs _ ls hP hD hS dX0_holds_31 bz_0
      · replace h := it_f c3 h
        refine lv_iload_n hx hb dX0_holds_16 rfl (lv_at hl 2 rfl) ?_
        refine lv_aload_n hx hb dX0_holds_17 rfl (lv_at hl 0 rfl) ?_
        refine va_get (D := (dC, dI)) (ci := 0) (v := .int Slength) (C := RX0) (T := TX0) (N := 3) hx hb hts hiX0 hown hK hP 0 rfl rfl 1 (by decide) hf19 (fun _ h9 => h9) rfl dX0_holds_18 ?_
        refine lv_iload_n hx hb dX0_holds_21 rfl (lv_at hl 1 rfl) ?_
        refine lv_isub hx hb dX0_holds_22 ?_
        refine lv_icmp_gt (tgt := 30) hx hb dX0_holds_23 (by decide) (fun c4 => ?_) (fun c4 => ?_)
        · replace h := it_t c4 h
          refine lv_iconst (v := 0) hx hb dX0_holds_30 (by decide) ?_
          replace h := Option.some.inj h; subst h
          exact hret () H locs _ ls hP hD hS dX0_holds_31 bz_0
        · replace h := it_f c4 h
          refine lv_iconst (v := 1) hx hb dX0_holds_26 (by decide) ?_
          refine lv_goto (tgt := 31) hx hb dX0_holds_27 (by decide) ?_
          replace h := Option.some.inj h; subst h
          exact hret () H locs _ ls hP hD hS dX0_holds_31 bz_1
set_option maxHeartbeats 4000000 in
set_option maxRecDepth 100000 in
theorem c_X0_faultOf (l : Launch) (dC : Nat → ClassId) (dI : Nat → Nat → Nat) (cyI cyO : ClassId) (aS : Nat → Nat) (sz : Nat) (Slane : Int32) (Slength : Int32) (p1 : Int32) (p2 : Int32) (p3 : Int32) {o : Int32}  (h : f_X0_faultOf Slane Slength p1 p2 p3 = some o) : CtI l yX0_faultOf wsX0_faultOf { frames := 1, cells := 0, slots := 0, locals := 22 } (dC, dI) [(cyI, .int), (cyO, .object RX0)] [.ref (aS 0), .int p1, .int p2, .int p3] sz [((aS 0), .inr (0, [.int Slane, .int Slength, .ref (aS 1)]))] (fun (_ : Unit) => [((aS 0), .inr (0, [.int Slane, .int Slength, .ref (aS 1)]))]) o := by
  refine CtI.of (cc := cX0_faultOf) (maxL := 4) (by decide) rfl (Nat.le_of_ble_eq_true rfl) ?_
  intro p e s m args below meth c A Q H locs hx hb hml hown hts hA hK hP hD hS hret ls hl
  have hown : s.vm.findClass RX0 = some m.cls := hown
  have hl : lv_has ls 4 [(0, .ref (aS 0)), (1, .int p1), (2, .int p2), (3, .int p3)] := hl
  unfold f_X0_faultOf at h
  have hiX0 : ∀ w ∈ u_ws RX0 TX0 3, w ∈ wsX0_faultOf := by decide +kernel
  have hf9 := hts (.fieldLink RX0 9 "TowerTell$Sheet" "lane" "I") (by decide +kernel)
  refine lv_aload_n hx hb dX0_faultOf_0 rfl (lv_at hl 0 rfl) ?_
  obtain ⟨o1, hc2, h⟩ := ob h
  refine k_vi (As := []) (rest := []) ⟨hx, hb, hml, hown, hts⟩ (c_X0_isBare l dC dI cyI cyO aS H.size Slane Slength hc2) (cwV 0 hts gX0_faultOf_X0_isBare rfl rfl rfl (by decide +kernel) ⟨Nat.le_of_ble_eq_true rfl, Nat.le_of_ble_eq_true rfl⟩) hP hD hK hS hA [0] [] rfl rfl (by decide) (by decide) (by decide) 0 0 rfl rfl rfl rfl hl.1 rfl (Nat.le_of_ble_eq_true rfl) dX0_faultOf_1 ⟨Nat.zero_le _, Nat.zero_le _⟩ (fun _ H locs hP hD hS => ?_)
  have hP : va_P (dC, dI) vwCl [((aS 0), .inr (0, [.int Slane, .int Slength, .ref (aS 1)]))] H := hP
  have hD : va_D A [((aS 0), .inr (0, [.int Slane, .int Slength, .ref (aS 1)]))] := hD
  refine lv_if_eq (tgt := 9) hx hb dX0_faultOf_4 (by decide) (fun c3 => ?_) (fun c3 => ?_)
  · replace h := it_t c3 h
    refine lv_aload_n hx hb dX0_faultOf_9 rfl (lv_at hl 0 rfl) ?_
    refine va_get (D := (dC, dI)) (ci := 0) (v := .int Slane) (C := RX0) (T := TX0) (N := 3) hx hb hts hiX0 hown hK hP 0 rfl rfl 0 (by decide) hf9 (fun _ h9 => h9) rfl dX0_faultOf_10 ?_
    refine lv_iload_n hx hb dX0_faultOf_13 rfl (lv_at hl 1 rfl) ?_
    refine lv_icmp_eq (tgt := 19) hx hb dX0_faultOf_14 (by decide) (fun c4 => ?_) (fun c4 => ?_)
    · replace h := it_t c4 h
      refine lv_iload_n hx hb dX0_faultOf_19 rfl (lv_at hl 3 rfl) ?_
      refine lv_if_ge (tgt := 25) hx hb dX0_faultOf_20 (by decide) (fun c5 => ?_) (fun c5 => ?_)
      · replace h := it_t c5 h
        refine lv_aload_n hx hb dX0_faultOf_25 rfl (lv_at hl 0 rfl) ?_
        refine lv_iload_n hx hb dX0_faultOf_26 rfl (lv_at hl 2 rfl) ?_
        refine lv_iload_n hx hb dX0_faultOf_27 rfl (lv_at hl 3 rfl) ?_
        obtain ⟨o6, hc7, h⟩ := ob h
        refine k_vi (As := [.int p2, .int p3]) (rest := []) ⟨hx, hb, hml, hown, hts⟩ (c_X0_holds l dC dI cyI cyO aS H.size Slane Slength p2 p3 hc7) (cwV 2 hts gX0_faultOf_X0_holds rfl rfl rfl (by decide +kernel) ⟨Nat.le_of_ble_eq_true rfl, Nat.le_of_ble_eq_true rfl⟩) hP hD hK hS hA [0] [] rfl rfl (by decide) (by decide) (by decide) 0 0 rfl rfl rfl rfl hl.1 rfl (Nat.le_of_ble_eq_true rfl) dX0_faultOf_28 ⟨Nat.zero_le _, Nat.zero_le _⟩ (fun _ H locs hP hD hS => ?_)
        have hP : va_P (dC, dI) vwCl [((aS 0), .inr (0, [.int Slane, .int Slength, .ref (aS 1)]))] H := hP
        have hD : va_D A [((aS 0), .inr (0, [.int Slane, .int Slength, .ref (aS 1)]))] := hD
        refine lv_if_eq (tgt := 38) hx hb dX0_faultOf_31 (by decide) (fun c8 => ?_) (fun c8 => ?_)
        · replace h := it_t c8 h
          refine lv_iconst (v := 3) hx hb dX0_faultOf_38 (by decide) ?_
          replace h := Option.some.inj h; subst h
          exact hret () H locs _ ls hP hD hS dX0_faultOf_39 rfl
        · replace h := it_f c8 h
          refine lv_iconst (v := 0) hx hb dX0_faultOf_34 (by decide) ?_
          refine lv_goto (tgt := 39) hx hb dX0_faultOf_35 (by decide) ?_
          replace h := Option.some.inj h; subst h
          exact hret () H locs _ ls hP hD hS dX0_faultOf_39 rfl
      · replace h := it_f c5 h
        refine lv_iconst (v := 4) hx hb dX0_faultOf_23 (by decide) ?_
        replace h := Option.some.inj h; subst h
        exact hret () H locs _ ls hP hD hS dX0_faultOf_24 rfl
    · replace h := it_f c4 h
      refine lv_iconst (v := 2) hx hb dX0_faultOf_17 (by decide) ?_
      replace h := Option.some.inj h; subst h
      exact hret () H locs _ ls hP hD hS dX0_faultOf_18 rfl
  · replace h := it_f c3 h
    refine lv_iconst (v := 1) hx hb dX0_faultOf_7 (by decide) ?_
    replace h := Option.some.inj h; subst h
    exact hret () H locs _ ls hP hD hS dX0_faultOf_8 rfl
set_option maxHeartbeats 4000000 in
set_option maxRecDepth 100000 in
theorem c_X0_write (l : Launch) (dC : Nat → ClassId) (dI : Nat → Nat → Nat) (cyI cyO : ClassId) (aS : Nat → Nat) (sz : Nat) (Slane : Int32) (Slength : Int32) (S_cells : Nat → Int32) (p1 : Int32) (p2 : Int32) {o : (Nat → Int32)}  (h : f_X0_write Slane S_cells p1 p2 = some o) : CtV l yX0_write wsX0_write { frames := 0, cells := 0, slots := 0, locals := 0 } (dC, dI) [(cyI, .int), (cyO, .object RX0)] [.ref (aS 0), .int p1, .int p2] sz [((aS 0), .inr (0, [.int Slane, .int Slength, .ref (aS 1)])), ((aS 1), .inl (cyI, 60, .inl S_cells))] (fun (_ : Unit) => [((aS 0), .inr (0, [.int Slane, .int Slength, .ref (aS 1)])), ((aS 1), .inl (cyI, 60, .inl o))]) := by
  refine CtV.of (cc := cX0_write) (maxL := 3) (by decide) rfl (Nat.le_of_ble_eq_true rfl) ?_
  intro p e s m args below meth c A Q H locs hx hb hml hown hts hA hK hP hD hS hret ls hl
  have hown : s.vm.findClass RX0 = some m.cls := hown
  have hl : lv_has ls 3 [(0, .ref (aS 0)), (1, .int p1), (2, .int p2)] := hl
  unfold f_X0_write at h
  have hiX0 : ∀ w ∈ u_ws RX0 TX0 3, w ∈ wsX0_write := by decide +kernel
  have hf9 := hts (.fieldLink RX0 9 "TowerTell$Sheet" "lane" "I") (by decide +kernel)
  have hf15 := hts (.fieldLink RX0 15 "TowerTell$Sheet" "cells" "[I") (by decide +kernel)
  refine lv_aload_n hx hb dX0_write_0 rfl (lv_at hl 0 rfl) ?_
  refine va_get (D := (dC, dI)) (ci := 0) (v := .int Slane) (C := RX0) (T := TX0) (N := 3) hx hb hts hiX0 hown hK hP 0 rfl rfl 0 (by decide) hf9 (fun _ h9 => h9) rfl dX0_write_1 ?_
  by_cases c1 : Slane = 0
  · replace h := it_t c1 h
    refine lv_lookup (tgt := 32) (off := 28) hx hb dX0_write_4 (by decide) (by rw [c1]; rfl) (by decide) ?_
    refine lv_aload_n hx hb dX0_write_32 rfl (lv_at hl 0 rfl) ?_
    refine va_get (D := (dC, dI)) (ci := 0) (v := .ref (aS 1)) (C := RX0) (T := TX0) (N := 3) hx hb hts hiX0 hown hK hP 0 rfl rfl 2 (by decide) hf15 (fun _ h9 => h9) rfl dX0_write_33 ?_
    refine lv_iload_n hx hb dX0_write_36 rfl (lv_at hl 1 rfl) ?_
    refine lv_iload_n hx hb dX0_write_37 rfl (lv_at hl 2 rfl) ?_
    refine lv_i2b (v := p2.toInt8.toInt32) hx hb dX0_write_38 rfl ?_
    obtain ⟨e2, h⟩ := it_n h
    refine va_iast hx hb hK hP hD hS 1 0 rfl rfl (ix_in e2) dX0_write_39 (fun H locs hP hD hS => ?_)
    have hP : va_P (dC, dI) vwCl [((aS 0), .inr (0, [.int Slane, .int Slength, .ref (aS 1)])), ((aS 1), .inl (cyI, 60, .inl (upd S_cells p1.toNatClampNeg (p2.toInt8.toInt32))))] H := hP
    have hD : va_D A [((aS 0), .inr (0, [.int Slane, .int Slength, .ref (aS 1)])), ((aS 1), .inl (cyI, 60, .inl (upd S_cells p1.toNatClampNeg (p2.toInt8.toInt32))))] := hD
    refine lv_goto (tgt := 61) hx hb dX0_write_40 (by decide) ?_
    replace h := Option.some.inj h; subst h
    exact hret () H locs _ ls hP hD hS dX0_write_61
  · replace h := it_f c1 h
    by_cases c3 : Slane = 1
    · replace h := it_t c3 h
      refine lv_lookup (tgt := 43) (off := 39) hx hb dX0_write_4 (by decide) (by rw [c3]; rfl) (by decide) ?_
      refine lv_aload_n hx hb dX0_write_43 rfl (lv_at hl 0 rfl) ?_
      refine va_get (D := (dC, dI)) (ci := 0) (v := .ref (aS 1)) (C := RX0) (T := TX0) (N := 3) hx hb hts hiX0 hown hK hP 0 rfl rfl 2 (by decide) hf15 (fun _ h9 => h9) rfl dX0_write_44 ?_
      refine lv_iload_n hx hb dX0_write_47 rfl (lv_at hl 1 rfl) ?_
      refine lv_iload_n hx hb dX0_write_48 rfl (lv_at hl 2 rfl) ?_
      refine lv_i2s (v := p2.toInt16.toInt32) hx hb dX0_write_49 rfl ?_
      obtain ⟨e4, h⟩ := it_n h
      refine va_iast hx hb hK hP hD hS 1 0 rfl rfl (ix_in e4) dX0_write_50 (fun H locs hP hD hS => ?_)
      have hP : va_P (dC, dI) vwCl [((aS 0), .inr (0, [.int Slane, .int Slength, .ref (aS 1)])), ((aS 1), .inl (cyI, 60, .inl (upd S_cells p1.toNatClampNeg (p2.toInt16.toInt32))))] H := hP
      have hD : va_D A [((aS 0), .inr (0, [.int Slane, .int Slength, .ref (aS 1)])), ((aS 1), .inl (cyI, 60, .inl (upd S_cells p1.toNatClampNeg (p2.toInt16.toInt32))))] := hD
      refine lv_goto (tgt := 61) hx hb dX0_write_51 (by decide) ?_
      replace h := Option.some.inj h; subst h
      exact hret () H locs _ ls hP hD hS dX0_write_61
    · replace h := it_f c3 h
      refine lv_lookup (tgt := 54) (off := 50) hx hb dX0_write_4 (by decide) (show Op.lookupswitch.offset [(0, 28), (1, 39)] 50 (Int32.toInt Slane) = 50 from by rw [lv_osw c1 (show (0 : Int32).toInt = 0 from rfl), lv_osw c3 (show (1 : Int32).toInt = 1 from rfl)]; rfl) (by decide) ?_
      refine lv_aload_n hx hb dX0_write_54 rfl (lv_at hl 0 rfl) ?_
      refine va_get (D := (dC, dI)) (ci := 0) (v := .ref (aS 1)) (C := RX0) (T := TX0) (N := 3) hx hb hts hiX0 hown hK hP 0 rfl rfl 2 (by decide) hf15 (fun _ h9 => h9) rfl dX0_write_55 ?_
      refine lv_iload_n hx hb dX0_write_58 rfl (lv_at hl 1 rfl) ?_
      refine lv_iload_n hx hb dX0_write_59 rfl (lv_at hl 2 rfl) ?_
      obtain ⟨e5, h⟩ := it_n h
      refine va_iast hx hb hK hP hD hS 1 0 rfl rfl (ix_in e5) dX0_write_60 (fun H locs hP hD hS => ?_)
      have hP : va_P (dC, dI) vwCl [((aS 0), .inr (0, [.int Slane, .int Slength, .ref (aS 1)])), ((aS 1), .inl (cyI, 60, .inl (upd S_cells p1.toNatClampNeg p2)))] H := hP
      have hD : va_D A [((aS 0), .inr (0, [.int Slane, .int Slength, .ref (aS 1)])), ((aS 1), .inl (cyI, 60, .inl (upd S_cells p1.toNatClampNeg p2)))] := hD
      replace h := Option.some.inj h; subst h
      exact hret () H locs _ ls hP hD hS dX0_write_61
set_option maxHeartbeats 4000000 in
set_option maxRecDepth 100000 in
theorem c_X2_addDeed (l : Launch) (dC : Nat → ClassId) (dI : Nat → Nat → Nat) (cyI cyO : ClassId) (aT : Nat → Nat) (sz : Nat) (Tdeeds : Int32) (Tpeople : Int32) (Tcatches : Int32) (T_weightOf : Nat → Int32) (p1 : Int32) {o : Int32 × (Nat → Int32)}  (h : f_X2_addDeed Tdeeds T_weightOf p1 = some o) : CtV l yX2_addDeed wsX2_addDeed { frames := 0, cells := 0, slots := 0, locals := 0 } (dC, dI) [(cyI, .int), (cyO, .object RX0)] [.ref (aT 0), .int p1] sz [((aT 0), .inr (2, [.int Tdeeds, .int Tpeople, .int Tcatches, .ref (aT 1), .ref (aT 2), .ref (aT 3), .ref (aT 4), .ref (aT 5)])), ((aT 1), .inl (cyI, 6, .inl T_weightOf))] (fun (_ : Unit) => [((aT 0), .inr (2, [.int o.1, .int Tpeople, .int Tcatches, .ref (aT 1), .ref (aT 2), .ref (aT 3), .ref (aT 4), .ref (aT 5)])), ((aT 1), .inl (cyI, 6, .inl o.2))]) := by
  refine CtV.of (cc := cX2_addDeed) (maxL := 2) (by decide) rfl (Nat.le_of_ble_eq_true rfl) ?_
  intro p e s m args below meth c A Q H locs hx hb hml hown hts hA hK hP hD hS hret ls hl
  have hown : s.vm.findClass RX2 = some m.cls := hown
  have hl : lv_has ls 2 [(0, .ref (aT 0)), (1, .int p1)] := hl
  unfold f_X2_addDeed at h
  have hiX2 : ∀ w ∈ u_ws RX2 TX2 8, w ∈ wsX2_addDeed := by decide +kernel
  have hf9 := hts (.fieldLink RX2 9 "TowerTell$Tower" "weightOf" "[I") (by decide +kernel)
  have hf27 := hts (.fieldLink RX2 27 "TowerTell$Tower" "deeds" "I") (by decide +kernel)
  refine lv_aload_n hx hb dX2_addDeed_0 rfl (lv_at hl 0 rfl) ?_
  refine va_get (D := (dC, dI)) (ci := 2) (v := .int Tdeeds) (C := RX2) (T := TX2) (N := 8) hx hb hts hiX2 hown hK hP 0 rfl rfl 0 (by decide) hf27 (fun _ h9 => h9) rfl dX2_addDeed_1 ?_
  refine lv_bipush (v := 6) hx hb dX2_addDeed_4 (by decide) ?_
  refine lv_icmp_ge (tgt := 29) hx hb dX2_addDeed_6 (by decide) (fun c1 => ?_) (fun c1 => ?_)
  · replace h := it_t c1 h
    replace h := Option.some.inj h; subst h
    exact hret () H locs _ ls hP hD hS dX2_addDeed_29
  · replace h := it_f c1 h
    refine lv_aload_n hx hb dX2_addDeed_9 rfl (lv_at hl 0 rfl) ?_
    refine va_get (D := (dC, dI)) (ci := 2) (v := .ref (aT 1)) (C := RX2) (T := TX2) (N := 8) hx hb hts hiX2 hown hK hP 0 rfl rfl 3 (by decide) hf9 (fun _ h9 => h9) rfl dX2_addDeed_10 ?_
    refine lv_aload_n hx hb dX2_addDeed_13 rfl (lv_at hl 0 rfl) ?_
    refine va_get (D := (dC, dI)) (ci := 2) (v := .int Tdeeds) (C := RX2) (T := TX2) (N := 8) hx hb hts hiX2 hown hK hP 0 rfl rfl 0 (by decide) hf27 (fun _ h9 => h9) rfl dX2_addDeed_14 ?_
    refine lv_iload_n hx hb dX2_addDeed_17 rfl (lv_at hl 1 rfl) ?_
    obtain ⟨e2, h⟩ := it_n h
    refine va_iast hx hb hK hP hD hS 1 0 rfl rfl (ix_in e2) dX2_addDeed_18 (fun H locs hP hD hS => ?_)
    have hP : va_P (dC, dI) vwCl [((aT 0), .inr (2, [.int Tdeeds, .int Tpeople, .int Tcatches, .ref (aT 1), .ref (aT 2), .ref (aT 3), .ref (aT 4), .ref (aT 5)])), ((aT 1), .inl (cyI, 6, .inl (upd T_weightOf Tdeeds.toNatClampNeg p1)))] H := hP
    have hD : va_D A [((aT 0), .inr (2, [.int Tdeeds, .int Tpeople, .int Tcatches, .ref (aT 1), .ref (aT 2), .ref (aT 3), .ref (aT 4), .ref (aT 5)])), ((aT 1), .inl (cyI, 6, .inl (upd T_weightOf Tdeeds.toNatClampNeg p1)))] := hD
    refine lv_aload_n hx hb dX2_addDeed_19 rfl (lv_at hl 0 rfl) ?_
    refine lv_dup hx hb dX2_addDeed_20 rfl ?_
    refine va_get (D := (dC, dI)) (ci := 2) (v := .int Tdeeds) (C := RX2) (T := TX2) (N := 8) hx hb hts hiX2 hown hK hP 0 rfl rfl 0 (by decide) hf27 (fun _ h9 => h9) rfl dX2_addDeed_21 ?_
    refine lv_iconst (v := 1) hx hb dX2_addDeed_24 (by decide) ?_
    refine lv_iadd hx hb dX2_addDeed_25 ?_
    refine va_put (D := (dC, dI)) (ci := 2) (v := .int (Tdeeds + 1)) (ty := .int) (C := RX2) (T := TX2) (N := 8) hx hb hts hiX2 tyX2 tyX2_ok nmX2 hown hK hP hD hS 0 rfl rfl 0 (by decide) hf27 (fun _ h9 => h9) rfl (tyX2_ok 0 (by decide)) rfl rfl (Nat.le_of_ble_eq_true rfl) dX2_addDeed_26 (fun H locs hP hD hS => ?_)
    have hP : va_P (dC, dI) vwCl [((aT 0), .inr (2, [.int (Tdeeds + 1), .int Tpeople, .int Tcatches, .ref (aT 1), .ref (aT 2), .ref (aT 3), .ref (aT 4), .ref (aT 5)])), ((aT 1), .inl (cyI, 6, .inl (upd T_weightOf Tdeeds.toNatClampNeg p1)))] H := hP
    have hD : va_D A [((aT 0), .inr (2, [.int (Tdeeds + 1), .int Tpeople, .int Tcatches, .ref (aT 1), .ref (aT 2), .ref (aT 3), .ref (aT 4), .ref (aT 5)])), ((aT 1), .inl (cyI, 6, .inl (upd T_weightOf Tdeeds.toNatClampNeg p1)))] := hD
    replace h := Option.some.inj h; subst h
    exact hret () H locs _ ls hP hD hS dX2_addDeed_29
set_option maxHeartbeats 4000000 in
set_option maxRecDepth 100000 in
theorem c_X2_addPerson (l : Launch) (dC : Nat → ClassId) (dI : Nat → Nat → Nat) (cyI cyO : ClassId) (aT : Nat → Nat) (sz : Nat) (Tdeeds : Int32) (Tpeople : Int32) (Tcatches : Int32) (T_kindOf : Nat → Int32) (T_doneBy : Nat → Int32) (T_knownTo : Nat → Int32) (T_toldBy : Nat → Int32) (p1 : Int32) (p2 : Int32) (p3 : Int32) {o : Int32 × (Nat → Int32) × (Nat → Int32) × (Nat → Int32) × (Nat → Int32)}  (h : f_X2_addPerson Tpeople T_kindOf T_doneBy T_knownTo T_toldBy p1 p2 p3 = some o) : CtV l yX2_addPerson wsX2_addPerson { frames := 0, cells := 0, slots := 0, locals := 0 } (dC, dI) [(cyI, .int), (cyO, .object RX0)] [.ref (aT 0), .int p1, .int p2, .int p3] sz [((aT 0), .inr (2, [.int Tdeeds, .int Tpeople, .int Tcatches, .ref (aT 1), .ref (aT 2), .ref (aT 3), .ref (aT 4), .ref (aT 5)])), ((aT 2), .inl (cyI, 4, .inl T_kindOf)), ((aT 3), .inl (cyI, 4, .inl T_doneBy)), ((aT 4), .inl (cyI, 4, .inl T_knownTo)), ((aT 5), .inl (cyI, 4, .inl T_toldBy))] (fun (_ : Unit) => [((aT 0), .inr (2, [.int Tdeeds, .int o.1, .int Tcatches, .ref (aT 1), .ref (aT 2), .ref (aT 3), .ref (aT 4), .ref (aT 5)])), ((aT 2), .inl (cyI, 4, .inl o.2.1)), ((aT 3), .inl (cyI, 4, .inl o.2.2.1)), ((aT 4), .inl (cyI, 4, .inl o.2.2.2.1)), ((aT 5), .inl (cyI, 4, .inl o.2.2.2.2))]) := by
  refine CtV.of (cc := cX2_addPerson) (maxL := 4) (by decide) rfl (Nat.le_of_ble_eq_true rfl) ?_
  intro p e s m args below meth c A Q H locs hx hb hml hown hts hA hK hP hD hS hret ls hl
  have hown : s.vm.findClass RX2 = some m.cls := hown
  have hl : lv_has ls 4 [(0, .ref (aT 0)), (1, .int p1), (2, .int p2), (3, .int p3)] := hl
  unfold f_X2_addPerson at h
  have hiX2 : ∀ w ∈ u_ws RX2 TX2 8, w ∈ wsX2_addPerson := by decide +kernel
  have hf15 := hts (.fieldLink RX2 15 "TowerTell$Tower" "kindOf" "[I") (by decide +kernel)
  have hf18 := hts (.fieldLink RX2 18 "TowerTell$Tower" "doneBy" "[I") (by decide +kernel)
  have hf21 := hts (.fieldLink RX2 21 "TowerTell$Tower" "knownTo" "[I") (by decide +kernel)
  have hf24 := hts (.fieldLink RX2 24 "TowerTell$Tower" "toldBy" "[I") (by decide +kernel)
  have hf31 := hts (.fieldLink RX2 31 "TowerTell$Tower" "people" "I") (by decide +kernel)
  refine lv_aload_n hx hb dX2_addPerson_0 rfl (lv_at hl 0 rfl) ?_
  refine va_get (D := (dC, dI)) (ci := 2) (v := .int Tpeople) (C := RX2) (T := TX2) (N := 8) hx hb hts hiX2 hown hK hP 0 rfl rfl 1 (by decide) hf31 (fun _ h9 => h9) rfl dX2_addPerson_1 ?_
  refine lv_iconst (v := 4) hx hb dX2_addPerson_4 (by decide) ?_
  refine lv_icmp_ge (tgt := 58) hx hb dX2_addPerson_5 (by decide) (fun c1 => ?_) (fun c1 => ?_)
  · replace h := it_t c1 h
    replace h := Option.some.inj h; subst h
    exact hret () H locs _ ls hP hD hS dX2_addPerson_58
  · replace h := it_f c1 h
    refine lv_aload_n hx hb dX2_addPerson_8 rfl (lv_at hl 0 rfl) ?_
    refine va_get (D := (dC, dI)) (ci := 2) (v := .ref (aT 2)) (C := RX2) (T := TX2) (N := 8) hx hb hts hiX2 hown hK hP 0 rfl rfl 4 (by decide) hf15 (fun _ h9 => h9) rfl dX2_addPerson_9 ?_
    refine lv_aload_n hx hb dX2_addPerson_12 rfl (lv_at hl 0 rfl) ?_
    refine va_get (D := (dC, dI)) (ci := 2) (v := .int Tpeople) (C := RX2) (T := TX2) (N := 8) hx hb hts hiX2 hown hK hP 0 rfl rfl 1 (by decide) hf31 (fun _ h9 => h9) rfl dX2_addPerson_13 ?_
    refine lv_iload_n hx hb dX2_addPerson_16 rfl (lv_at hl 1 rfl) ?_
    obtain ⟨e2, h⟩ := it_n h
    refine va_iast hx hb hK hP hD hS 1 0 rfl rfl (ix_in e2) dX2_addPerson_17 (fun H locs hP hD hS => ?_)
    have hP : va_P (dC, dI) vwCl [((aT 0), .inr (2, [.int Tdeeds, .int Tpeople, .int Tcatches, .ref (aT 1), .ref (aT 2), .ref (aT 3), .ref (aT 4), .ref (aT 5)])), ((aT 2), .inl (cyI, 4, .inl (upd T_kindOf Tpeople.toNatClampNeg p1))), ((aT 3), .inl (cyI, 4, .inl T_doneBy)), ((aT 4), .inl (cyI, 4, .inl T_knownTo)), ((aT 5), .inl (cyI, 4, .inl T_toldBy))] H := hP
    have hD : va_D A [((aT 0), .inr (2, [.int Tdeeds, .int Tpeople, .int Tcatches, .ref (aT 1), .ref (aT 2), .ref (aT 3), .ref (aT 4), .ref (aT 5)])), ((aT 2), .inl (cyI, 4, .inl (upd T_kindOf Tpeople.toNatClampNeg p1))), ((aT 3), .inl (cyI, 4, .inl T_doneBy)), ((aT 4), .inl (cyI, 4, .inl T_knownTo)), ((aT 5), .inl (cyI, 4, .inl T_toldBy))] := hD
    refine lv_aload_n hx hb dX2_addPerson_18 rfl (lv_at hl 0 rfl) ?_
    refine va_get (D := (dC, dI)) (ci := 2) (v := .ref (aT 3)) (C := RX2) (T := TX2) (N := 8) hx hb hts hiX2 hown hK hP 0 rfl rfl 5 (by decide) hf18 (fun _ h9 => h9) rfl dX2_addPerson_19 ?_
    refine lv_aload_n hx hb dX2_addPerson_22 rfl (lv_at hl 0 rfl) ?_
    refine va_get (D := (dC, dI)) (ci := 2) (v := .int Tpeople) (C := RX2) (T := TX2) (N := 8) hx hb hts hiX2 hown hK hP 0 rfl rfl 1 (by decide) hf31 (fun _ h9 => h9) rfl dX2_addPerson_23 ?_
    refine lv_iload_n hx hb dX2_addPerson_26 rfl (lv_at hl 2 rfl) ?_
    obtain ⟨e3, h⟩ := it_n h
    refine va_iast hx hb hK hP hD hS 2 0 rfl rfl (ix_in e3) dX2_addPerson_27 (fun H locs hP hD hS => ?_)
    have hP : va_P (dC, dI) vwCl [((aT 0), .inr (2, [.int Tdeeds, .int Tpeople, .int Tcatches, .ref (aT 1), .ref (aT 2), .ref (aT 3), .ref (aT 4), .ref (aT 5)])), ((aT 2), .inl (cyI, 4, .inl (upd T_kindOf Tpeople.toNatClampNeg p1))), ((aT 3), .inl (cyI, 4, .inl (upd T_doneBy Tpeople.toNatClampNeg p2))), ((aT 4), .inl (cyI, 4, .inl T_knownTo)), ((aT 5), .inl (cyI, 4, .inl T_toldBy))] H := hP
    have hD : va_D A [((aT 0), .inr (2, [.int Tdeeds, .int Tpeople, .int Tcatches, .ref (aT 1), .ref (aT 2), .ref (aT 3), .ref (aT 4), .ref (aT 5)])), ((aT 2), .inl (cyI, 4, .inl (upd T_kindOf Tpeople.toNatClampNeg p1))), ((aT 3), .inl (cyI, 4, .inl (upd T_doneBy Tpeople.toNatClampNeg p2))), ((aT 4), .inl (cyI, 4, .inl T_knownTo)), ((aT 5), .inl (cyI, 4, .inl T_toldBy))] := hD
    refine lv_aload_n hx hb dX2_addPerson_28 rfl (lv_at hl 0 rfl) ?_
    refine va_get (D := (dC, dI)) (ci := 2) (v := .ref (aT 4)) (C := RX2) (T := TX2) (N := 8) hx hb hts hiX2 hown hK hP 0 rfl rfl 6 (by decide) hf21 (fun _ h9 => h9) rfl dX2_addPerson_29 ?_
    refine lv_aload_n hx hb dX2_addPerson_32 rfl (lv_at hl 0 rfl) ?_
    refine va_get (D := (dC, dI)) (ci := 2) (v := .int Tpeople) (C := RX2) (T := TX2) (N := 8) hx hb hts hiX2 hown hK hP 0 rfl rfl 1 (by decide) hf31 (fun _ h9 => h9) rfl dX2_addPerson_33 ?_
    refine lv_iload_n hx hb dX2_addPerson_36 rfl (lv_at hl 3 rfl) ?_
    obtain ⟨e4, h⟩ := it_n h
    refine va_iast hx hb hK hP hD hS 3 0 rfl rfl (ix_in e4) dX2_addPerson_37 (fun H locs hP hD hS => ?_)
    have hP : va_P (dC, dI) vwCl [((aT 0), .inr (2, [.int Tdeeds, .int Tpeople, .int Tcatches, .ref (aT 1), .ref (aT 2), .ref (aT 3), .ref (aT 4), .ref (aT 5)])), ((aT 2), .inl (cyI, 4, .inl (upd T_kindOf Tpeople.toNatClampNeg p1))), ((aT 3), .inl (cyI, 4, .inl (upd T_doneBy Tpeople.toNatClampNeg p2))), ((aT 4), .inl (cyI, 4, .inl (upd T_knownTo Tpeople.toNatClampNeg p3))), ((aT 5), .inl (cyI, 4, .inl T_toldBy))] H := hP
    have hD : va_D A [((aT 0), .inr (2, [.int Tdeeds, .int Tpeople, .int Tcatches, .ref (aT 1), .ref (aT 2), .ref (aT 3), .ref (aT 4), .ref (aT 5)])), ((aT 2), .inl (cyI, 4, .inl (upd T_kindOf Tpeople.toNatClampNeg p1))), ((aT 3), .inl (cyI, 4, .inl (upd T_doneBy Tpeople.toNatClampNeg p2))), ((aT 4), .inl (cyI, 4, .inl (upd T_knownTo Tpeople.toNatClampNeg p3))), ((aT 5), .inl (cyI, 4, .inl T_toldBy))] := hD
    refine lv_aload_n hx hb dX2_addPerson_38 rfl (lv_at hl 0 rfl) ?_
    refine va_get (D := (dC, dI)) (ci := 2) (v := .ref (aT 5)) (C := RX2) (T := TX2) (N := 8) hx hb hts hiX2 hown hK hP 0 rfl rfl 7 (by decide) hf24 (fun _ h9 => h9) rfl dX2_addPerson_39 ?_
    refine lv_aload_n hx hb dX2_addPerson_42 rfl (lv_at hl 0 rfl) ?_
    refine va_get (D := (dC, dI)) (ci := 2) (v := .int Tpeople) (C := RX2) (T := TX2) (N := 8) hx hb hts hiX2 hown hK hP 0 rfl rfl 1 (by decide) hf31 (fun _ h9 => h9) rfl dX2_addPerson_43 ?_
    refine lv_iconst (v := 0) hx hb dX2_addPerson_46 (by decide) ?_
    obtain ⟨e5, h⟩ := it_n h
    refine va_iast hx hb hK hP hD hS 4 0 rfl rfl (ix_in e5) dX2_addPerson_47 (fun H locs hP hD hS => ?_)
    have hP : va_P (dC, dI) vwCl [((aT 0), .inr (2, [.int Tdeeds, .int Tpeople, .int Tcatches, .ref (aT 1), .ref (aT 2), .ref (aT 3), .ref (aT 4), .ref (aT 5)])), ((aT 2), .inl (cyI, 4, .inl (upd T_kindOf Tpeople.toNatClampNeg p1))), ((aT 3), .inl (cyI, 4, .inl (upd T_doneBy Tpeople.toNatClampNeg p2))), ((aT 4), .inl (cyI, 4, .inl (upd T_knownTo Tpeople.toNatClampNeg p3))), ((aT 5), .inl (cyI, 4, .inl (upd T_toldBy Tpeople.toNatClampNeg 0)))] H := hP
    have hD : va_D A [((aT 0), .inr (2, [.int Tdeeds, .int Tpeople, .int Tcatches, .ref (aT 1), .ref (aT 2), .ref (aT 3), .ref (aT 4), .ref (aT 5)])), ((aT 2), .inl (cyI, 4, .inl (upd T_kindOf Tpeople.toNatClampNeg p1))), ((aT 3), .inl (cyI, 4, .inl (upd T_doneBy Tpeople.toNatClampNeg p2))), ((aT 4), .inl (cyI, 4, .inl (upd T_knownTo Tpeople.toNatClampNeg p3))), ((aT 5), .inl (cyI, 4, .inl (upd T_toldBy Tpeople.toNatClampNeg 0)))] := hD
    refine lv_aload_n hx hb dX2_addPerson_48 rfl (lv_at hl 0 rfl) ?_
    refine lv_dup hx hb dX2_addPerson_49 rfl ?_
    refine va_get (D := (dC, dI)) (ci := 2) (v := .int Tpeople) (C := RX2) (T := TX2) (N := 8) hx hb hts hiX2 hown hK hP 0 rfl rfl 1 (by decide) hf31 (fun _ h9 => h9) rfl dX2_addPerson_50 ?_
    refine lv_iconst (v := 1) hx hb dX2_addPerson_53 (by decide) ?_
    refine lv_iadd hx hb dX2_addPerson_54 ?_
    refine va_put (D := (dC, dI)) (ci := 2) (v := .int (Tpeople + 1)) (ty := .int) (C := RX2) (T := TX2) (N := 8) hx hb hts hiX2 tyX2 tyX2_ok nmX2 hown hK hP hD hS 0 rfl rfl 1 (by decide) hf31 (fun _ h9 => h9) rfl (tyX2_ok 1 (by decide)) rfl rfl (Nat.le_of_ble_eq_true rfl) dX2_addPerson_55 (fun H locs hP hD hS => ?_)
    have hP : va_P (dC, dI) vwCl [((aT 0), .inr (2, [.int Tdeeds, .int (Tpeople + 1), .int Tcatches, .ref (aT 1), .ref (aT 2), .ref (aT 3), .ref (aT 4), .ref (aT 5)])), ((aT 2), .inl (cyI, 4, .inl (upd T_kindOf Tpeople.toNatClampNeg p1))), ((aT 3), .inl (cyI, 4, .inl (upd T_doneBy Tpeople.toNatClampNeg p2))), ((aT 4), .inl (cyI, 4, .inl (upd T_knownTo Tpeople.toNatClampNeg p3))), ((aT 5), .inl (cyI, 4, .inl (upd T_toldBy Tpeople.toNatClampNeg 0)))] H := hP
    have hD : va_D A [((aT 0), .inr (2, [.int Tdeeds, .int (Tpeople + 1), .int Tcatches, .ref (aT 1), .ref (aT 2), .ref (aT 3), .ref (aT 4), .ref (aT 5)])), ((aT 2), .inl (cyI, 4, .inl (upd T_kindOf Tpeople.toNatClampNeg p1))), ((aT 3), .inl (cyI, 4, .inl (upd T_doneBy Tpeople.toNatClampNeg p2))), ((aT 4), .inl (cyI, 4, .inl (upd T_knownTo Tpeople.toNatClampNeg p3))), ((aT 5), .inl (cyI, 4, .inl (upd T_toldBy Tpeople.toNatClampNeg 0)))] := hD
    replace h := Option.some.inj h; subst h
    exact hret () H locs _ ls hP hD hS dX2_addPerson_58
set_option maxHeartbeats 4000000 in
set_option maxRecDepth 100000 in
theorem c_X2_clear (l : Launch) (dC : Nat → ClassId) (dI : Nat → Nat → Nat) (cyI cyO : ClassId) (aT : Nat → Nat) (sz : Nat) (Tdeeds : Int32) (Tpeople : Int32) (Tcatches : Int32)  {o : Int32 × Int32}  (h : f_X2_clear Tdeeds Tpeople = some o) : CtV l yX2_clear wsX2_clear { frames := 0, cells := 0, slots := 0, locals := 0 } (dC, dI) [(cyI, .int), (cyO, .object RX0)] [.ref (aT 0)] sz [((aT 0), .inr (2, [.int Tdeeds, .int Tpeople, .int Tcatches, .ref (aT 1), .ref (aT 2), .ref (aT 3), .ref (aT 4), .ref (aT 5)]))] (fun (_ : Unit) => [((aT 0), .inr (2, [.int o.1, .int o.2, .int Tcatches, .ref (aT 1), .ref (aT 2), .ref (aT 3), .ref (aT 4), .ref (aT 5)]))]) := by
  refine CtV.of (cc := cX2_clear) (maxL := 1) (by decide) rfl (Nat.le_of_ble_eq_true rfl) ?_
  intro p e s m args below meth c A Q H locs hx hb hml hown hts hA hK hP hD hS hret ls hl
  have hown : s.vm.findClass RX2 = some m.cls := hown
  have hl : lv_has ls 1 [(0, .ref (aT 0))] := hl
  unfold f_X2_clear at h
  have hiX2 : ∀ w ∈ u_ws RX2 TX2 8, w ∈ wsX2_clear := by decide +kernel
  have hf27 := hts (.fieldLink RX2 27 "TowerTell$Tower" "deeds" "I") (by decide +kernel)
  have hf31 := hts (.fieldLink RX2 31 "TowerTell$Tower" "people" "I") (by decide +kernel)
  refine lv_aload_n hx hb dX2_clear_0 rfl (lv_at hl 0 rfl) ?_
  refine lv_iconst (v := 0) hx hb dX2_clear_1 (by decide) ?_
  refine va_put (D := (dC, dI)) (ci := 2) (v := .int 0) (ty := .int) (C := RX2) (T := TX2) (N := 8) hx hb hts hiX2 tyX2 tyX2_ok nmX2 hown hK hP hD hS 0 rfl rfl 0 (by decide) hf27 (fun _ h9 => h9) rfl (tyX2_ok 0 (by decide)) rfl rfl (Nat.le_of_ble_eq_true rfl) dX2_clear_2 (fun H locs hP hD hS => ?_)
  have hP : va_P (dC, dI) vwCl [((aT 0), .inr (2, [.int 0, .int Tpeople, .int Tcatches, .ref (aT 1), .ref (aT 2), .ref (aT 3), .ref (aT 4), .ref (aT 5)]))] H := hP
  have hD : va_D A [((aT 0), .inr (2, [.int 0, .int Tpeople, .int Tcatches, .ref (aT 1), .ref (aT 2), .ref (aT 3), .ref (aT 4), .ref (aT 5)]))] := hD
  refine lv_aload_n hx hb dX2_clear_5 rfl (lv_at hl 0 rfl) ?_
  refine lv_iconst (v := 0) hx hb dX2_clear_6 (by decide) ?_
  refine va_put (D := (dC, dI)) (ci := 2) (v := .int 0) (ty := .int) (C := RX2) (T := TX2) (N := 8) hx hb hts hiX2 tyX2 tyX2_ok nmX2 hown hK hP hD hS 0 rfl rfl 1 (by decide) hf31 (fun _ h9 => h9) rfl (tyX2_ok 1 (by decide)) rfl rfl (Nat.le_of_ble_eq_true rfl) dX2_clear_7 (fun H locs hP hD hS => ?_)
  have hP : va_P (dC, dI) vwCl [((aT 0), .inr (2, [.int 0, .int 0, .int Tcatches, .ref (aT 1), .ref (aT 2), .ref (aT 3), .ref (aT 4), .ref (aT 5)]))] H := hP
  have hD : va_D A [((aT 0), .inr (2, [.int 0, .int 0, .int Tcatches, .ref (aT 1), .ref (aT 2), .ref (aT 3), .ref (aT 4), .ref (aT 5)]))] := hD
  replace h := Option.some.inj h; subst h
  exact hret () H locs _ ls hP hD hS dX2_clear_10
set_option maxHeartbeats 4000000 in
set_option maxRecDepth 100000 in
theorem c_X2_become (l : Launch) (dC : Nat → ClassId) (dI : Nat → Nat → Nat) (cyI cyO : ClassId) (aT : Nat → Nat) (aO : Nat → Nat) (sz : Nat) (Tdeeds : Int32) (Tpeople : Int32) (Tcatches : Int32) (T_weightOf : Nat → Int32) (T_kindOf : Nat → Int32) (T_doneBy : Nat → Int32) (T_knownTo : Nat → Int32) (T_toldBy : Nat → Int32) (Odeeds : Int32) (Opeople : Int32) (Ocatches : Int32) (O_weightOf : Nat → Int32) (O_kindOf : Nat → Int32) (O_doneBy : Nat → Int32) (O_knownTo : Nat → Int32) (O_toldBy : Nat → Int32)  {o : Int32 × Int32 × Int32 × (Nat → Int32) × (Nat → Int32) × (Nat → Int32) × (Nat → Int32) × (Nat → Int32)}  (h : f_X2_become Tdeeds Tpeople Tcatches T_weightOf T_kindOf T_doneBy T_knownTo T_toldBy Odeeds Opeople O_weightOf O_kindOf O_doneBy O_knownTo O_toldBy = some o) : CtV l yX2_become wsX2_become { frames := 1, cells := 0, slots := 0, locals := 40 } (dC, dI) [(cyI, .int), (cyO, .object RX0)] [.ref (aT 0), .ref (aO 0)] sz [((aT 0), .inr (2, [.int Tdeeds, .int Tpeople, .int Tcatches, .ref (aT 1), .ref (aT 2), .ref (aT 3), .ref (aT 4), .ref (aT 5)])), ((aT 1), .inl (cyI, 6, .inl T_weightOf)), ((aT 2), .inl (cyI, 4, .inl T_kindOf)), ((aT 3), .inl (cyI, 4, .inl T_doneBy)), ((aT 4), .inl (cyI, 4, .inl T_knownTo)), ((aT 5), .inl (cyI, 4, .inl T_toldBy)), ((aO 0), .inr (2, [.int Odeeds, .int Opeople, .int Ocatches, .ref (aO 1), .ref (aO 2), .ref (aO 3), .ref (aO 4), .ref (aO 5)])), ((aO 1), .inl (cyI, 6, .inl O_weightOf)), ((aO 2), .inl (cyI, 4, .inl O_kindOf)), ((aO 3), .inl (cyI, 4, .inl O_doneBy)), ((aO 4), .inl (cyI, 4, .inl O_knownTo)), ((aO 5), .inl (cyI, 4, .inl O_toldBy))] (fun (_ : Unit) => [((aT 0), .inr (2, [.int o.1, .int o.2.1, .int o.2.2.1, .ref (aT 1), .ref (aT 2), .ref (aT 3), .ref (aT 4), .ref (aT 5)])), ((aT 1), .inl (cyI, 6, .inl o.2.2.2.1)), ((aT 2), .inl (cyI, 4, .inl o.2.2.2.2.1)), ((aT 3), .inl (cyI, 4, .inl o.2.2.2.2.2.1)), ((aT 4), .inl (cyI, 4, .inl o.2.2.2.2.2.2.1)), ((aT 5), .inl (cyI, 4, .inl o.2.2.2.2.2.2.2)), ((aO 0), .inr (2, [.int Odeeds, .int Opeople, .int Ocatches, .ref (aO 1), .ref (aO 2), .ref (aO 3), .ref (aO 4), .ref (aO 5)])), ((aO 1), .inl (cyI, 6, .inl O_weightOf)), ((aO 2), .inl (cyI, 4, .inl O_kindOf)), ((aO 3), .inl (cyI, 4, .inl O_doneBy)), ((aO 4), .inl (cyI, 4, .inl O_knownTo)), ((aO 5), .inl (cyI, 4, .inl O_toldBy))]) := by
  refine CtV.of (cc := cX2_become) (maxL := 2) (by decide) rfl (Nat.le_of_ble_eq_true rfl) ?_
  intro p e s m args below meth c A Q H locs hx hb hml hown hts hA hK hP hD hS hret ls hl
  have hown : s.vm.findClass RX2 = some m.cls := hown
  have hl : lv_has ls 2 [(0, .ref (aT 0)), (1, .ref (aO 0))] := hl
  unfold f_X2_become at h
  have hiX2 : ∀ w ∈ u_ws RX2 TX2 8, w ∈ wsX2_become := by decide +kernel
  have hf9 := hts (.fieldLink RX2 9 "TowerTell$Tower" "weightOf" "[I") (by decide +kernel)
  have hf15 := hts (.fieldLink RX2 15 "TowerTell$Tower" "kindOf" "[I") (by decide +kernel)
  have hf18 := hts (.fieldLink RX2 18 "TowerTell$Tower" "doneBy" "[I") (by decide +kernel)
  have hf21 := hts (.fieldLink RX2 21 "TowerTell$Tower" "knownTo" "[I") (by decide +kernel)
  have hf24 := hts (.fieldLink RX2 24 "TowerTell$Tower" "toldBy" "[I") (by decide +kernel)
  have hf27 := hts (.fieldLink RX2 27 "TowerTell$Tower" "deeds" "I") (by decide +kernel)
  have hf31 := hts (.fieldLink RX2 31 "TowerTell$Tower" "people" "I") (by decide +kernel)
  have hf34 := hts (.fieldLink RX2 34 "TowerTell$Tower" "catches" "I") (by decide +kernel)
  have hac1 := hts (.methodLink RX2 37 arraycopyName) (by decide +kernel)
  have hac2 := hts (.native arraycopyName) (by decide +kernel)
  have hac3 := hts (.static arraycopyName) (by decide +kernel)
  have hac4 := hts (.initialized "java/lang/System") (by decide +kernel)
  refine lv_aload_n hx hb dX2_become_0 rfl (lv_at hl 0 rfl) ?_
  refine lv_aload_n hx hb dX2_become_1 rfl (lv_at hl 1 rfl) ?_
  refine va_get (D := (dC, dI)) (ci := 2) (v := .int Odeeds) (C := RX2) (T := TX2) (N := 8) hx hb hts hiX2 hown hK hP 6 rfl rfl 0 (by decide) hf27 (fun _ h9 => h9) rfl dX2_become_2 ?_
  refine va_put (D := (dC, dI)) (ci := 2) (v := .int Odeeds) (ty := .int) (C := RX2) (T := TX2) (N := 8) hx hb hts hiX2 tyX2 tyX2_ok nmX2 hown hK hP hD hS 0 rfl rfl 0 (by decide) hf27 (fun _ h9 => h9) rfl (tyX2_ok 0 (by decide)) rfl rfl (Nat.le_of_ble_eq_true rfl) dX2_become_5 (fun H locs hP hD hS => ?_)
  have hP : va_P (dC, dI) vwCl [((aT 0), .inr (2, [.int Odeeds, .int Tpeople, .int Tcatches, .ref (aT 1), .ref (aT 2), .ref (aT 3), .ref (aT 4), .ref (aT 5)])), ((aT 1), .inl (cyI, 6, .inl T_weightOf)), ((aT 2), .inl (cyI, 4, .inl T_kindOf)), ((aT 3), .inl (cyI, 4, .inl T_doneBy)), ((aT 4), .inl (cyI, 4, .inl T_knownTo)), ((aT 5), .inl (cyI, 4, .inl T_toldBy)), ((aO 0), .inr (2, [.int Odeeds, .int Opeople, .int Ocatches, .ref (aO 1), .ref (aO 2), .ref (aO 3), .ref (aO 4), .ref (aO 5)])), ((aO 1), .inl (cyI, 6, .inl O_weightOf)), ((aO 2), .inl (cyI, 4, .inl O_kindOf)), ((aO 3), .inl (cyI, 4, .inl O_doneBy)), ((aO 4), .inl (cyI, 4, .inl O_knownTo)), ((aO 5), .inl (cyI, 4, .inl O_toldBy))] H := hP
  have hD : va_D A [((aT 0), .inr (2, [.int Odeeds, .int Tpeople, .int Tcatches, .ref (aT 1), .ref (aT 2), .ref (aT 3), .ref (aT 4), .ref (aT 5)])), ((aT 1), .inl (cyI, 6, .inl T_weightOf)), ((aT 2), .inl (cyI, 4, .inl T_kindOf)), ((aT 3), .inl (cyI, 4, .inl T_doneBy)), ((aT 4), .inl (cyI, 4, .inl T_knownTo)), ((aT 5), .inl (cyI, 4, .inl T_toldBy)), ((aO 0), .inr (2, [.int Odeeds, .int Opeople, .int Ocatches, .ref (aO 1), .ref (aO 2), .ref (aO 3), .ref (aO 4), .ref (aO 5)])), ((aO 1), .inl (cyI, 6, .inl O_weightOf)), ((aO 2), .inl (cyI, 4, .inl O_kindOf)), ((aO 3), .inl (cyI, 4, .inl O_doneBy)), ((aO 4), .inl (cyI, 4, .inl O_knownTo)), ((aO 5), .inl (cyI, 4, .inl O_toldBy))] := hD
  refine lv_aload_n hx hb dX2_become_8 rfl (lv_at hl 0 rfl) ?_
  refine lv_aload_n hx hb dX2_become_9 rfl (lv_at hl 1 rfl) ?_
  refine va_get (D := (dC, dI)) (ci := 2) (v := .int Opeople) (C := RX2) (T := TX2) (N := 8) hx hb hts hiX2 hown hK hP 6 rfl rfl 1 (by decide) hf31 (fun _ h9 => h9) rfl dX2_become_10 ?_
  refine va_put (D := (dC, dI)) (ci := 2) (v := .int Opeople) (ty := .int) (C := RX2) (T := TX2) (N := 8) hx hb hts hiX2 tyX2 tyX2_ok nmX2 hown hK hP hD hS 0 rfl rfl 1 (by decide) hf31 (fun _ h9 => h9) rfl (tyX2_ok 1 (by decide)) rfl rfl (Nat.le_of_ble_eq_true rfl) dX2_become_13 (fun H locs hP hD hS => ?_)
  have hP : va_P (dC, dI) vwCl [((aT 0), .inr (2, [.int Odeeds, .int Opeople, .int Tcatches, .ref (aT 1), .ref (aT 2), .ref (aT 3), .ref (aT 4), .ref (aT 5)])), ((aT 1), .inl (cyI, 6, .inl T_weightOf)), ((aT 2), .inl (cyI, 4, .inl T_kindOf)), ((aT 3), .inl (cyI, 4, .inl T_doneBy)), ((aT 4), .inl (cyI, 4, .inl T_knownTo)), ((aT 5), .inl (cyI, 4, .inl T_toldBy)), ((aO 0), .inr (2, [.int Odeeds, .int Opeople, .int Ocatches, .ref (aO 1), .ref (aO 2), .ref (aO 3), .ref (aO 4), .ref (aO 5)])), ((aO 1), .inl (cyI, 6, .inl O_weightOf)), ((aO 2), .inl (cyI, 4, .inl O_kindOf)), ((aO 3), .inl (cyI, 4, .inl O_doneBy)), ((aO 4), .inl (cyI, 4, .inl O_knownTo)), ((aO 5), .inl (cyI, 4, .inl O_toldBy))] H := hP
  have hD : va_D A [((aT 0), .inr (2, [.int Odeeds, .int Opeople, .int Tcatches, .ref (aT 1), .ref (aT 2), .ref (aT 3), .ref (aT 4), .ref (aT 5)])), ((aT 1), .inl (cyI, 6, .inl T_weightOf)), ((aT 2), .inl (cyI, 4, .inl T_kindOf)), ((aT 3), .inl (cyI, 4, .inl T_doneBy)), ((aT 4), .inl (cyI, 4, .inl T_knownTo)), ((aT 5), .inl (cyI, 4, .inl T_toldBy)), ((aO 0), .inr (2, [.int Odeeds, .int Opeople, .int Ocatches, .ref (aO 1), .ref (aO 2), .ref (aO 3), .ref (aO 4), .ref (aO 5)])), ((aO 1), .inl (cyI, 6, .inl O_weightOf)), ((aO 2), .inl (cyI, 4, .inl O_kindOf)), ((aO 3), .inl (cyI, 4, .inl O_doneBy)), ((aO 4), .inl (cyI, 4, .inl O_knownTo)), ((aO 5), .inl (cyI, 4, .inl O_toldBy))] := hD
  refine lv_aload_n hx hb dX2_become_16 rfl (lv_at hl 0 rfl) ?_
  refine lv_iconst (v := 0) hx hb dX2_become_17 (by decide) ?_
  refine va_put (D := (dC, dI)) (ci := 2) (v := .int 0) (ty := .int) (C := RX2) (T := TX2) (N := 8) hx hb hts hiX2 tyX2 tyX2_ok nmX2 hown hK hP hD hS 0 rfl rfl 2 (by decide) hf34 (fun _ h9 => h9) rfl (tyX2_ok 2 (by decide)) rfl rfl (Nat.le_of_ble_eq_true rfl) dX2_become_18 (fun H locs hP hD hS => ?_)
  have hP : va_P (dC, dI) vwCl [((aT 0), .inr (2, [.int Odeeds, .int Opeople, .int 0, .ref (aT 1), .ref (aT 2), .ref (aT 3), .ref (aT 4), .ref (aT 5)])), ((aT 1), .inl (cyI, 6, .inl T_weightOf)), ((aT 2), .inl (cyI, 4, .inl T_kindOf)), ((aT 3), .inl (cyI, 4, .inl T_doneBy)), ((aT 4), .inl (cyI, 4, .inl T_knownTo)), ((aT 5), .inl (cyI, 4, .inl T_toldBy)), ((aO 0), .inr (2, [.int Odeeds, .int Opeople, .int Ocatches, .ref (aO 1), .ref (aO 2), .ref (aO 3), .ref (aO 4), .ref (aO 5)])), ((aO 1), .inl (cyI, 6, .inl O_weightOf)), ((aO 2), .inl (cyI, 4, .inl O_kindOf)), ((aO 3), .inl (cyI, 4, .inl O_doneBy)), ((aO 4), .inl (cyI, 4, .inl O_knownTo)), ((aO 5), .inl (cyI, 4, .inl O_toldBy))] H := hP
  have hD : va_D A [((aT 0), .inr (2, [.int Odeeds, .int Opeople, .int 0, .ref (aT 1), .ref (aT 2), .ref (aT 3), .ref (aT 4), .ref (aT 5)])), ((aT 1), .inl (cyI, 6, .inl T_weightOf)), ((aT 2), .inl (cyI, 4, .inl T_kindOf)), ((aT 3), .inl (cyI, 4, .inl T_doneBy)), ((aT 4), .inl (cyI, 4, .inl T_knownTo)), ((aT 5), .inl (cyI, 4, .inl T_toldBy)), ((aO 0), .inr (2, [.int Odeeds, .int Opeople, .int Ocatches, .ref (aO 1), .ref (aO 2), .ref (aO 3), .ref (aO 4), .ref (aO 5)])), ((aO 1), .inl (cyI, 6, .inl O_weightOf)), ((aO 2), .inl (cyI, 4, .inl O_kindOf)), ((aO 3), .inl (cyI, 4, .inl O_doneBy)), ((aO 4), .inl (cyI, 4, .inl O_knownTo)), ((aO 5), .inl (cyI, 4, .inl O_toldBy))] := hD
  refine lv_aload_n hx hb dX2_become_21 rfl (lv_at hl 1 rfl) ?_
  refine va_get (D := (dC, dI)) (ci := 2) (v := .ref (aO 1)) (C := RX2) (T := TX2) (N := 8) hx hb hts hiX2 hown hK hP 6 rfl rfl 3 (by decide) hf9 (fun _ h9 => h9) rfl dX2_become_22 ?_
  refine lv_iconst (v := 0) hx hb dX2_become_25 (by decide) ?_
  refine lv_aload_n hx hb dX2_become_26 rfl (lv_at hl 0 rfl) ?_
  refine va_get (D := (dC, dI)) (ci := 2) (v := .ref (aT 1)) (C := RX2) (T := TX2) (N := 8) hx hb hts hiX2 hown hK hP 0 rfl rfl 3 (by decide) hf9 (fun _ h9 => h9) rfl dX2_become_27 ?_
  refine lv_iconst (v := 0) hx hb dX2_become_30 (by decide) ?_
  refine lv_bipush (v := 6) hx hb dX2_become_31 (by decide) ?_
  refine va_copyi (a0 := (aO 1)) (ty := .int) hx hb (hml.trans hl.1.symm) hown hac1 hac2 hac3 hac4 hK hP hD hS 7 1 0 0 rfl rfl rfl rfl rfl (by decide) (by decide) (by decide) (by decide) (by decide) (fun _ _ => rfl) (Nat.le_of_ble_eq_true rfl) (Nat.le_of_ble_eq_true rfl) dX2_become_33 (fun H locs hP hD hS => ?_)
  have hP : va_P (dC, dI) vwCl [((aT 0), .inr (2, [.int Odeeds, .int Opeople, .int 0, .ref (aT 1), .ref (aT 2), .ref (aT 3), .ref (aT 4), .ref (aT 5)])), ((aT 1), .inl (cyI, 6, .inl (va_cpy O_weightOf T_weightOf (0 : Int32).toNatClampNeg (0 : Int32).toNatClampNeg (6 : Int32).toNatClampNeg))), ((aT 2), .inl (cyI, 4, .inl T_kindOf)), ((aT 3), .inl (cyI, 4, .inl T_doneBy)), ((aT 4), .inl (cyI, 4, .inl T_knownTo)), ((aT 5), .inl (cyI, 4, .inl T_toldBy)), ((aO 0), .inr (2, [.int Odeeds, .int Opeople, .int Ocatches, .ref (aO 1), .ref (aO 2), .ref (aO 3), .ref (aO 4), .ref (aO 5)])), ((aO 1), .inl (cyI, 6, .inl O_weightOf)), ((aO 2), .inl (cyI, 4, .inl O_kindOf)), ((aO 3), .inl (cyI, 4, .inl O_doneBy)), ((aO 4), .inl (cyI, 4, .inl O_knownTo)), ((aO 5), .inl (cyI, 4, .inl O_toldBy))] H := hP
  have hD : va_D A [((aT 0), .inr (2, [.int Odeeds, .int Opeople, .int 0, .ref (aT 1), .ref (aT 2), .ref (aT 3), .ref (aT 4), .ref (aT 5)])), ((aT 1), .inl (cyI, 6, .inl (va_cpy O_weightOf T_weightOf (0 : Int32).toNatClampNeg (0 : Int32).toNatClampNeg (6 : Int32).toNatClampNeg))), ((aT 2), .inl (cyI, 4, .inl T_kindOf)), ((aT 3), .inl (cyI, 4, .inl T_doneBy)), ((aT 4), .inl (cyI, 4, .inl T_knownTo)), ((aT 5), .inl (cyI, 4, .inl T_toldBy)), ((aO 0), .inr (2, [.int Odeeds, .int Opeople, .int Ocatches, .ref (aO 1), .ref (aO 2), .ref (aO 3), .ref (aO 4), .ref (aO 5)])), ((aO 1), .inl (cyI, 6, .inl O_weightOf)), ((aO 2), .inl (cyI, 4, .inl O_kindOf)), ((aO 3), .inl (cyI, 4, .inl O_doneBy)), ((aO 4), .inl (cyI, 4, .inl O_knownTo)), ((aO 5), .inl (cyI, 4, .inl O_toldBy))] := hD
  refine lv_aload_n hx hb dX2_become_36 rfl (lv_at hl 1 rfl) ?_
  refine va_get (D := (dC, dI)) (ci := 2) (v := .ref (aO 2)) (C := RX2) (T := TX2) (N := 8) hx hb hts hiX2 hown hK hP 6 rfl rfl 4 (by decide) hf15 (fun _ h9 => h9) rfl dX2_become_37 ?_
  refine lv_iconst (v := 0) hx hb dX2_become_40 (by decide) ?_
  refine lv_aload_n hx hb dX2_become_41 rfl (lv_at hl 0 rfl) ?_
  refine va_get (D := (dC, dI)) (ci := 2) (v := .ref (aT 2)) (C := RX2) (T := TX2) (N := 8) hx hb hts hiX2 hown hK hP 0 rfl rfl 4 (by decide) hf15 (fun _ h9 => h9) rfl dX2_become_42 ?_
  refine lv_iconst (v := 0) hx hb dX2_become_45 (by decide) ?_
  refine lv_iconst (v := 4) hx hb dX2_become_46 (by decide) ?_
  refine va_copyi (a0 := (aO 2)) (ty := .int) hx hb (hml.trans hl.1.symm) hown hac1 hac2 hac3 hac4 hK hP hD hS 8 2 0 0 rfl rfl rfl rfl rfl (by decide) (by decide) (by decide) (by decide) (by decide) (fun _ _ => rfl) (Nat.le_of_ble_eq_true rfl) (Nat.le_of_ble_eq_true rfl) dX2_become_47 (fun H locs hP hD hS => ?_)
  have hP : va_P (dC, dI) vwCl [((aT 0), .inr (2, [.int Odeeds, .int Opeople, .int 0, .ref (aT 1), .ref (aT 2), .ref (aT 3), .ref (aT 4), .ref (aT 5)])), ((aT 1), .inl (cyI, 6, .inl (va_cpy O_weightOf T_weightOf (0 : Int32).toNatClampNeg (0 : Int32).toNatClampNeg (6 : Int32).toNatClampNeg))), ((aT 2), .inl (cyI, 4, .inl (va_cpy O_kindOf T_kindOf (0 : Int32).toNatClampNeg (0 : Int32).toNatClampNeg (4 : Int32).toNatClampNeg))), ((aT 3), .inl (cyI, 4, .inl T_doneBy)), ((aT 4), .inl (cyI, 4, .inl T_knownTo)), ((aT 5), .inl (cyI, 4, .inl T_toldBy)), ((aO 0), .inr (2, [.int Odeeds, .int Opeople, .int Ocatches, .ref (aO 1), .ref (aO 2), .ref (aO 3), .ref (aO 4), .ref (aO 5)])), ((aO 1), .inl (cyI, 6, .inl O_weightOf)), ((aO 2), .inl (cyI, 4, .inl O_kindOf)), ((aO 3), .inl (cyI, 4, .inl O_doneBy)), ((aO 4), .inl (cyI, 4, .inl O_knownTo)), ((aO 5), .inl (cyI, 4, .inl O_toldBy))] H := hP
  have hD : va_D A [((aT 0), .inr (2, [.int Odeeds, .int Opeople, .int 0, .ref (aT 1), .ref (aT 2), .ref (aT 3), .ref (aT 4), .ref (aT 5)])), ((aT 1), .inl (cyI, 6, .inl (va_cpy O_weightOf T_weightOf (0 : Int32).toNatClampNeg (0 : Int32).toNatClampNeg (6 : Int32).toNatClampNeg))), ((aT 2), .inl (cyI, 4, .inl (va_cpy O_kindOf T_kindOf (0 : Int32).toNatClampNeg (0 : Int32).toNatClampNeg (4 : Int32).toNatClampNeg))), ((aT 3), .inl (cyI, 4, .inl T_doneBy)), ((aT 4), .inl (cyI, 4, .inl T_knownTo)), ((aT 5), .inl (cyI, 4, .inl T_toldBy)), ((aO 0), .inr (2, [.int Odeeds, .int Opeople, .int Ocatches, .ref (aO 1), .ref (aO 2), .ref (aO 3), .ref (aO 4), .ref (aO 5)])), ((aO 1), .inl (cyI, 6, .inl O_weightOf)), ((aO 2), .inl (cyI, 4, .inl O_kindOf)), ((aO 3), .inl (cyI, 4, .inl O_doneBy)), ((aO 4), .inl (cyI, 4, .inl O_knownTo)), ((aO 5), .inl (cyI, 4, .inl O_toldBy))] := hD
  refine lv_aload_n hx hb dX2_become_50 rfl (lv_at hl 1 rfl) ?_
  refine va_get (D := (dC, dI)) (ci := 2) (v := .ref (aO 3)) (C := RX2) (T := TX2) (N := 8) hx hb hts hiX2 hown hK hP 6 rfl rfl 5 (by decide) hf18 (fun _ h9 => h9) rfl dX2_become_51 ?_
  refine lv_iconst (v := 0) hx hb dX2_become_54 (by decide) ?_
  refine lv_aload_n hx hb dX2_become_55 rfl (lv_at hl 0 rfl) ?_
  refine va_get (D := (dC, dI)) (ci := 2) (v := .ref (aT 3)) (C := RX2) (T := TX2) (N := 8) hx hb hts hiX2 hown hK hP 0 rfl rfl 5 (by decide) hf18 (fun _ h9 => h9) rfl dX2_become_56 ?_
  refine lv_iconst (v := 0) hx hb dX2_become_59 (by decide) ?_
  refine lv_iconst (v := 4) hx hb dX2_become_60 (by decide) ?_
  refine va_copyi (a0 := (aO 3)) (ty := .int) hx hb (hml.trans hl.1.symm) hown hac1 hac2 hac3 hac4 hK hP hD hS 9 3 0 0 rfl rfl rfl rfl rfl (by decide) (by decide) (by decide) (by decide) (by decide) (fun _ _ => rfl) (Nat.le_of_ble_eq_true rfl) (Nat.le_of_ble_eq_true rfl) dX2_become_61 (fun H locs hP hD hS => ?_)
  have hP : va_P (dC, dI) vwCl [((aT 0), .inr (2, [.int Odeeds, .int Opeople, .int 0, .ref (aT 1), .ref (aT 2), .ref (aT 3), .ref (aT 4), .ref (aT 5)])), ((aT 1), .inl (cyI, 6, .inl (va_cpy O_weightOf T_weightOf (0 : Int32).toNatClampNeg (0 : Int32).toNatClampNeg (6 : Int32).toNatClampNeg))), ((aT 2), .inl (cyI, 4, .inl (va_cpy O_kindOf T_kindOf (0 : Int32).toNatClampNeg (0 : Int32).toNatClampNeg (4 : Int32).toNatClampNeg))), ((aT 3), .inl (cyI, 4, .inl (va_cpy O_doneBy T_doneBy (0 : Int32).toNatClampNeg (0 : Int32).toNatClampNeg (4 : Int32).toNatClampNeg))), ((aT 4), .inl (cyI, 4, .inl T_knownTo)), ((aT 5), .inl (cyI, 4, .inl T_toldBy)), ((aO 0), .inr (2, [.int Odeeds, .int Opeople, .int Ocatches, .ref (aO 1), .ref (aO 2), .ref (aO 3), .ref (aO 4), .ref (aO 5)])), ((aO 1), .inl (cyI, 6, .inl O_weightOf)), ((aO 2), .inl (cyI, 4, .inl O_kindOf)), ((aO 3), .inl (cyI, 4, .inl O_doneBy)), ((aO 4), .inl (cyI, 4, .inl O_knownTo)), ((aO 5), .inl (cyI, 4, .inl O_toldBy))] H := hP
  have hD : va_D A [((aT 0), .inr (2, [.int Odeeds, .int Opeople, .int 0, .ref (aT 1), .ref (aT 2), .ref (aT 3), .ref (aT 4), .ref (aT 5)])), ((aT 1), .inl (cyI, 6, .inl (va_cpy O_weightOf T_weightOf (0 : Int32).toNatClampNeg (0 : Int32).toNatClampNeg (6 : Int32).toNatClampNeg))), ((aT 2), .inl (cyI, 4, .inl (va_cpy O_kindOf T_kindOf (0 : Int32).toNatClampNeg (0 : Int32).toNatClampNeg (4 : Int32).toNatClampNeg))), ((aT 3), .inl (cyI, 4, .inl (va_cpy O_doneBy T_doneBy (0 : Int32).toNatClampNeg (0 : Int32).toNatClampNeg (4 : Int32).toNatClampNeg))), ((aT 4), .inl (cyI, 4, .inl T_knownTo)), ((aT 5), .inl (cyI, 4, .inl T_toldBy)), ((aO 0), .inr (2, [.int Odeeds, .int Opeople, .int Ocatches, .ref (aO 1), .ref (aO 2), .ref (aO 3), .ref (aO 4), .ref (aO 5)])), ((aO 1), .inl (cyI, 6, .inl O_weightOf)), ((aO 2), .inl (cyI, 4, .inl O_kindOf)), ((aO 3), .inl (cyI, 4, .inl O_doneBy)), ((aO 4), .inl (cyI, 4, .inl O_knownTo)), ((aO 5), .inl (cyI, 4, .inl O_toldBy))] := hD
  refine lv_aload_n hx hb dX2_become_64 rfl (lv_at hl 1 rfl) ?_
  refine va_get (D := (dC, dI)) (ci := 2) (v := .ref (aO 4)) (C := RX2) (T := TX2) (N := 8) hx hb hts hiX2 hown hK hP 6 rfl rfl 6 (by decide) hf21 (fun _ h9 => h9) rfl dX2_become_65 ?_
  refine lv_iconst (v := 0) hx hb dX2_become_68 (by decide) ?_
  refine lv_aload_n hx hb dX2_become_69 rfl (lv_at hl 0 rfl) ?_
  refine va_get (D := (dC, dI)) (ci := 2) (v := .ref (aT 4)) (C := RX2) (T := TX2) (N := 8) hx hb hts hiX2 hown hK hP 0 rfl rfl 6 (by decide) hf21 (fun _ h9 => h9) rfl dX2_become_70 ?_
  refine lv_iconst (v := 0) hx hb dX2_become_73 (by decide) ?_
  refine lv_iconst (v := 4) hx hb dX2_become_74 (by decide) ?_
  refine va_copyi (a0 := (aO 4)) (ty := .int) hx hb (hml.trans hl.1.symm) hown hac1 hac2 hac3 hac4 hK hP hD hS 10 4 0 0 rfl rfl rfl rfl rfl (by decide) (by decide) (by decide) (by decide) (by decide) (fun _ _ => rfl) (Nat.le_of_ble_eq_true rfl) (Nat.le_of_ble_eq_true rfl) dX2_become_75 (fun H locs hP hD hS => ?_)
  have hP : va_P (dC, dI) vwCl [((aT 0), .inr (2, [.int Odeeds, .int Opeople, .int 0, .ref (aT 1), .ref (aT 2), .ref (aT 3), .ref (aT 4), .ref (aT 5)])), ((aT 1), .inl (cyI, 6, .inl (va_cpy O_weightOf T_weightOf (0 : Int32).toNatClampNeg (0 : Int32).toNatClampNeg (6 : Int32).toNatClampNeg))), ((aT 2), .inl (cyI, 4, .inl (va_cpy O_kindOf T_kindOf (0 : Int32).toNatClampNeg (0 : Int32).toNatClampNeg (4 : Int32).toNatClampNeg))), ((aT 3), .inl (cyI, 4, .inl (va_cpy O_doneBy T_doneBy (0 : Int32).toNatClampNeg (0 : Int32).toNatClampNeg (4 : Int32).toNatClampNeg))), ((aT 4), .inl (cyI, 4, .inl (va_cpy O_knownTo T_knownTo (0 : Int32).toNatClampNeg (0 : Int32).toNatClampNeg (4 : Int32).toNatClampNeg))), ((aT 5), .inl (cyI, 4, .inl T_toldBy)), ((aO 0), .inr (2, [.int Odeeds, .int Opeople, .int Ocatches, .ref (aO 1), .ref (aO 2), .ref (aO 3), .ref (aO 4), .ref (aO 5)])), ((aO 1), .inl (cyI, 6, .inl O_weightOf)), ((aO 2), .inl (cyI, 4, .inl O_kindOf)), ((aO 3), .inl (cyI, 4, .inl O_doneBy)), ((aO 4), .inl (cyI, 4, .inl O_knownTo)), ((aO 5), .inl (cyI, 4, .inl O_toldBy))] H := hP
  have hD : va_D A [((aT 0), .inr (2, [.int Odeeds, .int Opeople, .int 0, .ref (aT 1), .ref (aT 2), .ref (aT 3), .ref (aT 4), .ref (aT 5)])), ((aT 1), .inl (cyI, 6, .inl (va_cpy O_weightOf T_weightOf (0 : Int32).toNatClampNeg (0 : Int32).toNatClampNeg (6 : Int32).toNatClampNeg))), ((aT 2), .inl (cyI, 4, .inl (va_cpy O_kindOf T_kindOf (0 : Int32).toNatClampNeg (0 : Int32).toNatClampNeg (4 : Int32).toNatClampNeg))), ((aT 3), .inl (cyI, 4, .inl (va_cpy O_doneBy T_doneBy (0 : Int32).toNatClampNeg (0 : Int32).toNatClampNeg (4 : Int32).toNatClampNeg))), ((aT 4), .inl (cyI, 4, .inl (va_cpy O_knownTo T_knownTo (0 : Int32).toNatClampNeg (0 : Int32).toNatClampNeg (4 : Int32).toNatClampNeg))), ((aT 5), .inl (cyI, 4, .inl T_toldBy)), ((aO 0), .inr (2, [.int Odeeds, .int Opeople, .int Ocatches, .ref (aO 1), .ref (aO 2), .ref (aO 3), .ref (aO 4), .ref (aO 5)])), ((aO 1), .inl (cyI, 6, .inl O_weightOf)), ((aO 2), .inl (cyI, 4, .inl O_kindOf)), ((aO 3), .inl (cyI, 4, .inl O_doneBy)), ((aO 4), .inl (cyI, 4, .inl O_knownTo)), ((aO 5), .inl (cyI, 4, .inl O_toldBy))] := hD
  refine lv_aload_n hx hb dX2_become_78 rfl (lv_at hl 1 rfl) ?_
  refine va_get (D := (dC, dI)) (ci := 2) (v := .ref (aO 5)) (C := RX2) (T := TX2) (N := 8) hx hb hts hiX2 hown hK hP 6 rfl rfl 7 (by decide) hf24 (fun _ h9 => h9) rfl dX2_become_79 ?_
  refine lv_iconst (v := 0) hx hb dX2_become_82 (by decide) ?_
  refine lv_aload_n hx hb dX2_become_83 rfl (lv_at hl 0 rfl) ?_
  refine va_get (D := (dC, dI)) (ci := 2) (v := .ref (aT 5)) (C := RX2) (T := TX2) (N := 8) hx hb hts hiX2 hown hK hP 0 rfl rfl 7 (by decide) hf24 (fun _ h9 => h9) rfl dX2_become_84 ?_
  refine lv_iconst (v := 0) hx hb dX2_become_87 (by decide) ?_
  refine lv_iconst (v := 4) hx hb dX2_become_88 (by decide) ?_
  refine va_copyi (a0 := (aO 5)) (ty := .int) hx hb (hml.trans hl.1.symm) hown hac1 hac2 hac3 hac4 hK hP hD hS 11 5 0 0 rfl rfl rfl rfl rfl (by decide) (by decide) (by decide) (by decide) (by decide) (fun _ _ => rfl) (Nat.le_of_ble_eq_true rfl) (Nat.le_of_ble_eq_true rfl) dX2_become_89 (fun H locs hP hD hS => ?_)
  have hP : va_P (dC, dI) vwCl [((aT 0), .inr (2, [.int Odeeds, .int Opeople, .int 0, .ref (aT 1), .ref (aT 2), .ref (aT 3), .ref (aT 4), .ref (aT 5)])), ((aT 1), .inl (cyI, 6, .inl (va_cpy O_weightOf T_weightOf (0 : Int32).toNatClampNeg (0 : Int32).toNatClampNeg (6 : Int32).toNatClampNeg))), ((aT 2), .inl (cyI, 4, .inl (va_cpy O_kindOf T_kindOf (0 : Int32).toNatClampNeg (0 : Int32).toNatClampNeg (4 : Int32).toNatClampNeg))), ((aT 3), .inl (cyI, 4, .inl (va_cpy O_doneBy T_doneBy (0 : Int32).toNatClampNeg (0 : Int32).toNatClampNeg (4 : Int32).toNatClampNeg))), ((aT 4), .inl (cyI, 4, .inl (va_cpy O_knownTo T_knownTo (0 : Int32).toNatClampNeg (0 : Int32).toNatClampNeg (4 : Int32).toNatClampNeg))), ((aT 5), .inl (cyI, 4, .inl (va_cpy O_toldBy T_toldBy (0 : Int32).toNatClampNeg (0 : Int32).toNatClampNeg (4 : Int32).toNatClampNeg))), ((aO 0), .inr (2, [.int Odeeds, .int Opeople, .int Ocatches, .ref (aO 1), .ref (aO 2), .ref (aO 3), .ref (aO 4), .ref (aO 5)])), ((aO 1), .inl (cyI, 6, .inl O_weightOf)), ((aO 2), .inl (cyI, 4, .inl O_kindOf)), ((aO 3), .inl (cyI, 4, .inl O_doneBy)), ((aO 4), .inl (cyI, 4, .inl O_knownTo)), ((aO 5), .inl (cyI, 4, .inl O_toldBy))] H := hP
  have hD : va_D A [((aT 0), .inr (2, [.int Odeeds, .int Opeople, .int 0, .ref (aT 1), .ref (aT 2), .ref (aT 3), .ref (aT 4), .ref (aT 5)])), ((aT 1), .inl (cyI, 6, .inl (va_cpy O_weightOf T_weightOf (0 : Int32).toNatClampNeg (0 : Int32).toNatClampNeg (6 : Int32).toNatClampNeg))), ((aT 2), .inl (cyI, 4, .inl (va_cpy O_kindOf T_kindOf (0 : Int32).toNatClampNeg (0 : Int32).toNatClampNeg (4 : Int32).toNatClampNeg))), ((aT 3), .inl (cyI, 4, .inl (va_cpy O_doneBy T_doneBy (0 : Int32).toNatClampNeg (0 : Int32).toNatClampNeg (4 : Int32).toNatClampNeg))), ((aT 4), .inl (cyI, 4, .inl (va_cpy O_knownTo T_knownTo (0 : Int32).toNatClampNeg (0 : Int32).toNatClampNeg (4 : Int32).toNatClampNeg))), ((aT 5), .inl (cyI, 4, .inl (va_cpy O_toldBy T_toldBy (0 : Int32).toNatClampNeg (0 : Int32).toNatClampNeg (4 : Int32).toNatClampNeg))), ((aO 0), .inr (2, [.int Odeeds, .int Opeople, .int Ocatches, .ref (aO 1), .ref (aO 2), .ref (aO 3), .ref (aO 4), .ref (aO 5)])), ((aO 1), .inl (cyI, 6, .inl O_weightOf)), ((aO 2), .inl (cyI, 4, .inl O_kindOf)), ((aO 3), .inl (cyI, 4, .inl O_doneBy)), ((aO 4), .inl (cyI, 4, .inl O_knownTo)), ((aO 5), .inl (cyI, 4, .inl O_toldBy))] := hD
  replace h := Option.some.inj h; subst h
  exact hret () H locs _ ls hP hD hS dX2_become_92
set_option maxHeartbeats 4000000 in
set_option maxRecDepth 100000 in
theorem c_X2_isDeed (l : Launch) (dC : Nat → ClassId) (dI : Nat → Nat → Nat) (cyI cyO : ClassId) (aT : Nat → Nat) (sz : Nat) (Tdeeds : Int32) (Tpeople : Int32) (Tcatches : Int32) (p1 : Int32) {o : Int32}  (h : f_X2_isDeed Tdeeds p1 = some o) : CtI l yX2_isDeed wsX2_isDeed { frames := 0, cells := 0, slots := 0, locals := 0 } (dC, dI) [(cyI, .int), (cyO, .object RX0)] [.ref (aT 0), .int p1] sz [((aT 0), .inr (2, [.int Tdeeds, .int Tpeople, .int Tcatches, .ref (aT 1), .ref (aT 2), .ref (aT 3), .ref (aT 4), .ref (aT 5)]))] (fun (_ : Unit) => [((aT 0), .inr (2, [.int Tdeeds, .int Tpeople, .int Tcatches, .ref (aT 1), .ref (aT 2), .ref (aT 3), .ref (aT 4), .ref (aT 5)]))]) o := by
  refine CtI.of (cc := cX2_isDeed) (maxL := 2) (by decide) rfl (Nat.le_of_ble_eq_true rfl) ?_
  intro p e s m args below meth c A Q H locs hx hb hml hown hts hA hK hP hD hS hret ls hl
  have hown : s.vm.findClass RX2 = some m.cls := hown
  have hl : lv_has ls 2 [(0, .ref (aT 0)), (1, .int p1)] := hl
  unfold f_X2_isDeed at h
  have hiX2 : ∀ w ∈ u_ws RX2 TX2 8, w ∈ wsX2_isDeed := by decide +kernel
  have hf27 := hts (.fieldLink RX2 27 "TowerTell$Tower" "deeds" "I") (by decide +kernel)
  refine lv_iload_n hx hb dX2_isDeed_0 rfl (lv_at hl 1 rfl) ?_
  refine lv_if_lt (tgt := 16) hx hb dX2_isDeed_1 (by decide) (fun c1 => ?_) (fun c1 => ?_)
  · replace h := it_t c1 h
    refine lv_iconst (v := 0) hx hb dX2_isDeed_16 (by decide) ?_
    replace h := Option.some.inj h; subst h
    exact hret () H locs _ ls hP hD hS dX2_isDeed_17 bz_0
  · replace h := it_f c1 h
    refine lv_iload_n hx hb dX2_isDeed_4 rfl (lv_at hl 1 rfl) ?_
    refine lv_aload_n hx hb dX2_isDeed_5 rfl (lv_at hl 0 rfl) ?_
    refine va_get (D := (dC, dI)) (ci := 2) (v := .int Tdeeds) (C := RX2) (T := TX2) (N := 8) hx hb hts hiX2 hown hK hP 0 rfl rfl 0 (by decide) hf27 (fun _ h9 => h9) rfl dX2_isDeed_6 ?_
    refine lv_icmp_ge (tgt := 16) hx hb dX2_isDeed_9 (by decide) (fun c2 => ?_) (fun c2 => ?_)
    · replace h := it_t c2 h
      refine lv_iconst (v := 0) hx hb dX2_isDeed_16 (by decide) ?_
      replace h := Option.some.inj h; subst h
      exact hret () H locs _ ls hP hD hS dX2_isDeed_17 bz_0
    · replace h := it_f c2 h
      refine lv_iconst (v := 1) hx hb dX2_isDeed_12 (by decide) ?_
      refine lv_goto (tgt := 17) hx hb dX2_isDeed_13 (by decide) ?_
      replace h := Option.some.inj h; subst h
      exact hret () H locs _ ls hP hD hS dX2_isDeed_17 bz_1
set_option maxHeartbeats 4000000 in
set_option maxRecDepth 100000 in
theorem c_X2_isPerson (l : Launch) (dC : Nat → ClassId) (dI : Nat → Nat → Nat) (cyI cyO : ClassId) (aT : Nat → Nat) (sz : Nat) (Tdeeds : Int32) (Tpeople : Int32) (Tcatches : Int32) (p1 : Int32) {o : Int32}  (h : f_X2_isPerson Tpeople p1 = some o) : CtI l yX2_isPerson wsX2_isPerson { frames := 0, cells := 0, slots := 0, locals := 0 } (dC, dI) [(cyI, .int), (cyO, .object RX0)] [.ref (aT 0), .int p1] sz [((aT 0), .inr (2, [.int Tdeeds, .int Tpeople, .int Tcatches, .ref (aT 1), .ref (aT 2), .ref (aT 3), .ref (aT 4), .ref (aT 5)]))] (fun (_ : Unit) => [((aT 0), .inr (2, [.int Tdeeds, .int Tpeople, .int Tcatches, .ref (aT 1), .ref (aT 2), .ref (aT 3), .ref (aT 4), .ref (aT 5)]))]) o := by
  refine CtI.of (cc := cX2_isPerson) (maxL := 2) (by decide) rfl (Nat.le_of_ble_eq_true rfl) ?_
  intro p e s m args below meth c A Q H locs hx hb hml hown hts hA hK hP hD hS hret ls hl
  have hown : s.vm.findClass RX2 = some m.cls := hown
  have hl : lv_has ls 2 [(0, .ref (aT 0)), (1, .int p1)] := hl
  unfold f_X2_isPerson at h
  have hiX2 : ∀ w ∈ u_ws RX2 TX2 8, w ∈ wsX2_isPerson := by decide +kernel
  have hf31 := hts (.fieldLink RX2 31 "TowerTell$Tower" "people" "I") (by decide +kernel)
  refine lv_iload_n hx hb dX2_isPerson_0 rfl (lv_at hl 1 rfl) ?_
  refine lv_if_lt (tgt := 16) hx hb dX2_isPerson_1 (by decide) (fun c1 => ?_) (fun c1 => ?_)
  · replace h := it_t c1 h
    refine lv_iconst (v := 0) hx hb dX2_isPerson_16 (by decide) ?_
    replace h := Option.some.inj h; subst h
    exact hret () H locs _ ls hP hD hS dX2_isPerson_17 bz_0
  · replace h := it_f c1 h
    refine lv_iload_n hx hb dX2_isPerson_4 rfl (lv_at hl 1 rfl) ?_
    refine lv_aload_n hx hb dX2_isPerson_5 rfl (lv_at hl 0 rfl) ?_
    refine va_get (D := (dC, dI)) (ci := 2) (v := .int Tpeople) (C := RX2) (T := TX2) (N := 8) hx hb hts hiX2 hown hK hP 0 rfl rfl 1 (by decide) hf31 (fun _ h9 => h9) rfl dX2_isPerson_6 ?_
    refine lv_icmp_ge (tgt := 16) hx hb dX2_isPerson_9 (by decide) (fun c2 => ?_) (fun c2 => ?_)
    · replace h := it_t c2 h
      refine lv_iconst (v := 0) hx hb dX2_isPerson_16 (by decide) ?_
      replace h := Option.some.inj h; subst h
      exact hret () H locs _ ls hP hD hS dX2_isPerson_17 bz_0
    · replace h := it_f c2 h
      refine lv_iconst (v := 1) hx hb dX2_isPerson_12 (by decide) ?_
      refine lv_goto (tgt := 17) hx hb dX2_isPerson_13 (by decide) ?_
      replace h := Option.some.inj h; subst h
      exact hret () H locs _ ls hP hD hS dX2_isPerson_17 bz_1
set_option maxHeartbeats 4000000 in
set_option maxRecDepth 100000 in
theorem c_X2_truthsOf (l : Launch) (dC : Nat → ClassId) (dI : Nat → Nat → Nat) (cyI cyO : ClassId) (aT : Nat → Nat) (sz : Nat) (Tdeeds : Int32) (Tpeople : Int32) (Tcatches : Int32) (T_doneBy : Nat → Int32) (p1 : Int32) {o : Int32}  (h : f_X2_truthsOf Tdeeds T_doneBy p1 = some o) : CtI l yX2_truthsOf wsX2_truthsOf { frames := 0, cells := 0, slots := 0, locals := 0 } (dC, dI) [(cyI, .int), (cyO, .object RX0)] [.ref (aT 0), .int p1] sz [((aT 0), .inr (2, [.int Tdeeds, .int Tpeople, .int Tcatches, .ref (aT 1), .ref (aT 2), .ref (aT 3), .ref (aT 4), .ref (aT 5)])), ((aT 3), .inl (cyI, 4, .inl T_doneBy))] (fun (_ : Unit) => [((aT 0), .inr (2, [.int Tdeeds, .int Tpeople, .int Tcatches, .ref (aT 1), .ref (aT 2), .ref (aT 3), .ref (aT 4), .ref (aT 5)])), ((aT 3), .inl (cyI, 4, .inl T_doneBy))]) o := by
  refine CtI.of (cc := cX2_truthsOf) (maxL := 2) (by decide) rfl (Nat.le_of_ble_eq_true rfl) ?_
  intro p e s m args below meth c A Q H locs hx hb hml hown hts hA hK hP hD hS hret ls hl
  have hown : s.vm.findClass RX2 = some m.cls := hown
  have hl : lv_has ls 2 [(0, .ref (aT 0)), (1, .int p1)] := hl
  unfold f_X2_truthsOf at h
  have hiX2 : ∀ w ∈ u_ws RX2 TX2 8, w ∈ wsX2_truthsOf := by decide +kernel
  have hf18 := hts (.fieldLink RX2 18 "TowerTell$Tower" "doneBy" "[I") (by decide +kernel)
  have hf27 := hts (.fieldLink RX2 27 "TowerTell$Tower" "deeds" "I") (by decide +kernel)
  refine lv_aload_n hx hb dX2_truthsOf_0 rfl (lv_at hl 0 rfl) ?_
  refine va_get (D := (dC, dI)) (ci := 2) (v := .ref (aT 3)) (C := RX2) (T := TX2) (N := 8) hx hb hts hiX2 hown hK hP 0 rfl rfl 5 (by decide) hf18 (fun _ h9 => h9) rfl dX2_truthsOf_1 ?_
  refine lv_iload_n hx hb dX2_truthsOf_4 rfl (lv_at hl 1 rfl) ?_
  obtain ⟨e1, h⟩ := it_n h
  refine va_iald hx hb hK hP 1 0 rfl rfl (ix_in e1) dX2_truthsOf_5 ?_
  refine lv_iconst (v := 1) hx hb dX2_truthsOf_6 (by decide) ?_
  refine lv_aload_n hx hb dX2_truthsOf_7 rfl (lv_at hl 0 rfl) ?_
  refine va_get (D := (dC, dI)) (ci := 2) (v := .int Tdeeds) (C := RX2) (T := TX2) (N := 8) hx hb hts hiX2 hown hK hP 0 rfl rfl 0 (by decide) hf27 (fun _ h9 => h9) rfl dX2_truthsOf_8 ?_
  refine lv_ishl hx hb dX2_truthsOf_11 ?_
  refine lv_iconst (v := 1) hx hb dX2_truthsOf_12 (by decide) ?_
  refine lv_isub hx hb dX2_truthsOf_13 ?_
  refine lv_iand hx hb dX2_truthsOf_14 ?_
  replace h := Option.some.inj h; subst h
  exact hret () H locs _ ls hP hD hS dX2_truthsOf_15 rfl
set_option maxHeartbeats 4000000 in
set_option maxRecDepth 100000 in
theorem c_X2_hasTold (l : Launch) (dC : Nat → ClassId) (dI : Nat → Nat → Nat) (cyI cyO : ClassId) (aT : Nat → Nat) (sz : Nat) (Tdeeds : Int32) (Tpeople : Int32) (Tcatches : Int32) (T_toldBy : Nat → Int32) (p1 : Int32) (p2 : Int32) {o : Int32}  (h : f_X2_hasTold T_toldBy p1 p2 = some o) : CtI l yX2_hasTold wsX2_hasTold { frames := 0, cells := 0, slots := 0, locals := 0 } (dC, dI) [(cyI, .int), (cyO, .object RX0)] [.ref (aT 0), .int p1, .int p2] sz [((aT 0), .inr (2, [.int Tdeeds, .int Tpeople, .int Tcatches, .ref (aT 1), .ref (aT 2), .ref (aT 3), .ref (aT 4), .ref (aT 5)])), ((aT 5), .inl (cyI, 4, .inl T_toldBy))] (fun (_ : Unit) => [((aT 0), .inr (2, [.int Tdeeds, .int Tpeople, .int Tcatches, .ref (aT 1), .ref (aT 2), .ref (aT 3), .ref (aT 4), .ref (aT 5)])), ((aT 5), .inl (cyI, 4, .inl T_toldBy))]) o := by
  refine CtI.of (cc := cX2_hasTold) (maxL := 3) (by decide) rfl (Nat.le_of_ble_eq_true rfl) ?_
  intro p e s m args below meth c A Q H locs hx hb hml hown hts hA hK hP hD hS hret ls hl
  have hown : s.vm.findClass RX2 = some m.cls := hown
  have hl : lv_has ls 3 [(0, .ref (aT 0)), (1, .int p1), (2, .int p2)] := hl
  unfold f_X2_hasTold at h
  have hiX2 : ∀ w ∈ u_ws RX2 TX2 8, w ∈ wsX2_hasTold := by decide +kernel
  have hf24 := hts (.fieldLink RX2 24 "TowerTell$Tower" "toldBy" "[I") (by decide +kernel)
  refine lv_aload_n hx hb dX2_hasTold_0 rfl (lv_at hl 0 rfl) ?_
  refine va_get (D := (dC, dI)) (ci := 2) (v := .ref (aT 5)) (C := RX2) (T := TX2) (N := 8) hx hb hts hiX2 hown hK hP 0 rfl rfl 7 (by decide) hf24 (fun _ h9 => h9) rfl dX2_hasTold_1 ?_
  refine lv_iload_n hx hb dX2_hasTold_4 rfl (lv_at hl 1 rfl) ?_
  obtain ⟨e1, h⟩ := it_n h
  refine va_iald hx hb hK hP 1 0 rfl rfl (ix_in e1) dX2_hasTold_5 ?_
  refine lv_iload_n hx hb dX2_hasTold_6 rfl (lv_at hl 2 rfl) ?_
  refine lv_ishr hx hb dX2_hasTold_7 ?_
  refine lv_iconst (v := 1) hx hb dX2_hasTold_8 (by decide) ?_
  refine lv_iand hx hb dX2_hasTold_9 ?_
  refine lv_iconst (v := 1) hx hb dX2_hasTold_10 (by decide) ?_
  refine lv_icmp_ne (tgt := 18) hx hb dX2_hasTold_11 (by decide) (fun c2 => ?_) (fun c2 => ?_)
  · replace h := it_f c2 h
    refine lv_iconst (v := 0) hx hb dX2_hasTold_18 (by decide) ?_
    replace h := Option.some.inj h; subst h
    exact hret () H locs _ ls hP hD hS dX2_hasTold_19 bz_0
  · replace h := it_t c2 h
    refine lv_iconst (v := 1) hx hb dX2_hasTold_14 (by decide) ?_
    refine lv_goto (tgt := 19) hx hb dX2_hasTold_15 (by decide) ?_
    replace h := Option.some.inj h; subst h
    exact hret () H locs _ ls hP hD hS dX2_hasTold_19 bz_1
set_option maxHeartbeats 4000000 in
set_option maxRecDepth 100000 in
theorem c_X2_rise (l : Launch) (dC : Nat → ClassId) (dI : Nat → Nat → Nat) (cyI cyO : ClassId) (aT : Nat → Nat) (sz : Nat) (Tdeeds : Int32) (Tpeople : Int32) (Tcatches : Int32) (T_weightOf : Nat → Int32) (T_kindOf : Nat → Int32) (p1 : Int32) (p2 : Int32) {o : Int32}  (h : f_X2_rise T_weightOf T_kindOf p1 p2 = some o) : CtI l yX2_rise wsX2_rise { frames := 0, cells := 0, slots := 0, locals := 0 } (dC, dI) [(cyI, .int), (cyO, .object RX0)] [.ref (aT 0), .int p1, .int p2] sz [((aT 0), .inr (2, [.int Tdeeds, .int Tpeople, .int Tcatches, .ref (aT 1), .ref (aT 2), .ref (aT 3), .ref (aT 4), .ref (aT 5)])), ((aT 1), .inl (cyI, 6, .inl T_weightOf)), ((aT 2), .inl (cyI, 4, .inl T_kindOf))] (fun (_ : Unit) => [((aT 0), .inr (2, [.int Tdeeds, .int Tpeople, .int Tcatches, .ref (aT 1), .ref (aT 2), .ref (aT 3), .ref (aT 4), .ref (aT 5)])), ((aT 1), .inl (cyI, 6, .inl T_weightOf)), ((aT 2), .inl (cyI, 4, .inl T_kindOf))]) o := by
  refine CtI.of (cc := cX2_rise) (maxL := 3) (by decide) rfl (Nat.le_of_ble_eq_true rfl) ?_
  intro p e s m args below meth c A Q H locs hx hb hml hown hts hA hK hP hD hS hret ls hl
  have hown : s.vm.findClass RX2 = some m.cls := hown
  have hl : lv_has ls 3 [(0, .ref (aT 0)), (1, .int p1), (2, .int p2)] := hl
  unfold f_X2_rise at h
  have hiX2 : ∀ w ∈ u_ws RX2 TX2 8, w ∈ wsX2_rise := by decide +kernel
  have hf9 := hts (.fieldLink RX2 9 "TowerTell$Tower" "weightOf" "[I") (by decide +kernel)
  have hf15 := hts (.fieldLink RX2 15 "TowerTell$Tower" "kindOf" "[I") (by decide +kernel)
  refine lv_aload_n hx hb dX2_rise_0 rfl (lv_at hl 0 rfl) ?_
  refine va_get (D := (dC, dI)) (ci := 2) (v := .ref (aT 2)) (C := RX2) (T := TX2) (N := 8) hx hb hts hiX2 hown hK hP 0 rfl rfl 4 (by decide) hf15 (fun _ h9 => h9) rfl dX2_rise_1 ?_
  refine lv_iload_n hx hb dX2_rise_4 rfl (lv_at hl 1 rfl) ?_
  obtain ⟨e1, h⟩ := it_n h
  refine va_iald hx hb hK hP 2 0 rfl rfl (ix_in e1) dX2_rise_5 ?_
  by_cases c2 : (T_kindOf p1.toNatClampNeg) = 1
  · replace h := it_t c2 h
    refine lv_lookup (tgt := 32) (off := 26) hx hb dX2_rise_6 (by decide) (by rw [c2]; rfl) (by decide) ?_
    refine lv_aload_n hx hb dX2_rise_32 rfl (lv_at hl 0 rfl) ?_
    refine va_get (D := (dC, dI)) (ci := 2) (v := .ref (aT 1)) (C := RX2) (T := TX2) (N := 8) hx hb hts hiX2 hown hK hP 0 rfl rfl 3 (by decide) hf9 (fun _ h9 => h9) rfl dX2_rise_33 ?_
    refine lv_iload_n hx hb dX2_rise_36 rfl (lv_at hl 2 rfl) ?_
    obtain ⟨e3, h⟩ := it_n h
    refine va_iald hx hb hK hP 1 0 rfl rfl (ix_in e3) dX2_rise_37 ?_
    refine lv_iconst (v := 1) hx hb dX2_rise_38 (by decide) ?_
    refine lv_isub hx hb dX2_rise_39 ?_
    replace h := Option.some.inj h; subst h
    exact hret () H locs _ ls hP hD hS dX2_rise_40 rfl
  · replace h := it_f c2 h
    by_cases c4 : (T_kindOf p1.toNatClampNeg) = 2
    · replace h := it_t c4 h
      refine lv_lookup (tgt := 41) (off := 35) hx hb dX2_rise_6 (by decide) (by rw [c4]; rfl) (by decide) ?_
      refine lv_iconst (v := 2) hx hb dX2_rise_41 (by decide) ?_
      refine lv_aload_n hx hb dX2_rise_42 rfl (lv_at hl 0 rfl) ?_
      refine va_get (D := (dC, dI)) (ci := 2) (v := .ref (aT 1)) (C := RX2) (T := TX2) (N := 8) hx hb hts hiX2 hown hK hP 0 rfl rfl 3 (by decide) hf9 (fun _ h9 => h9) rfl dX2_rise_43 ?_
      refine lv_iload_n hx hb dX2_rise_46 rfl (lv_at hl 2 rfl) ?_
      obtain ⟨e5, h⟩ := it_n h
      refine va_iald hx hb hK hP 1 0 rfl rfl (ix_in e5) dX2_rise_47 ?_
      refine lv_imul hx hb dX2_rise_48 ?_
      replace h := Option.some.inj h; subst h
      exact hret () H locs _ ls hP hD hS dX2_rise_49 rfl
    · replace h := it_f c4 h
      refine lv_lookup (tgt := 50) (off := 44) hx hb dX2_rise_6 (by decide) (show Op.lookupswitch.offset [(1, 26), (2, 35)] 44 (Int32.toInt (T_kindOf p1.toNatClampNeg)) = 44 from by rw [lv_osw c2 (show (1 : Int32).toInt = 1 from rfl), lv_osw c4 (show (2 : Int32).toInt = 2 from rfl)]; rfl) (by decide) ?_
      refine lv_aload_n hx hb dX2_rise_50 rfl (lv_at hl 0 rfl) ?_
      refine va_get (D := (dC, dI)) (ci := 2) (v := .ref (aT 1)) (C := RX2) (T := TX2) (N := 8) hx hb hts hiX2 hown hK hP 0 rfl rfl 3 (by decide) hf9 (fun _ h9 => h9) rfl dX2_rise_51 ?_
      refine lv_iload_n hx hb dX2_rise_54 rfl (lv_at hl 2 rfl) ?_
      obtain ⟨e6, h⟩ := it_n h
      refine va_iald hx hb hK hP 1 0 rfl rfl (ix_in e6) dX2_rise_55 ?_
      replace h := Option.some.inj h; subst h
      exact hret () H locs _ ls hP hD hS dX2_rise_56 rfl
set_option maxHeartbeats 4000000 in
set_option maxRecDepth 100000 in
theorem c_X2_floorBy (l : Launch) (dC : Nat → ClassId) (dI : Nat → Nat → Nat) (cyI cyO : ClassId) (aT : Nat → Nat) (sz : Nat) (Tdeeds : Int32) (Tpeople : Int32) (Tcatches : Int32) (T_weightOf : Nat → Int32) (T_kindOf : Nat → Int32) (p1 : Int32) (p2 : Int32) {o : Int32}  (h : f_X2_floorBy Tdeeds T_weightOf T_kindOf p1 p2 = some o) : CtI l yX2_floorBy wsX2_floorBy { frames := 1, cells := 0, slots := 0, locals := 22 } (dC, dI) [(cyI, .int), (cyO, .object RX0)] [.ref (aT 0), .int p1, .int p2] sz [((aT 0), .inr (2, [.int Tdeeds, .int Tpeople, .int Tcatches, .ref (aT 1), .ref (aT 2), .ref (aT 3), .ref (aT 4), .ref (aT 5)])), ((aT 1), .inl (cyI, 6, .inl T_weightOf)), ((aT 2), .inl (cyI, 4, .inl T_kindOf))] (fun (_ : Unit) => [((aT 0), .inr (2, [.int Tdeeds, .int Tpeople, .int Tcatches, .ref (aT 1), .ref (aT 2), .ref (aT 3), .ref (aT 4), .ref (aT 5)])), ((aT 1), .inl (cyI, 6, .inl T_weightOf)), ((aT 2), .inl (cyI, 4, .inl T_kindOf))]) o := by
  refine CtI.of (cc := cX2_floorBy) (maxL := 5) (by decide) rfl (Nat.le_of_ble_eq_true rfl) ?_
  intro p e s m args below meth c A Q H locs hx hb hml hown hts hA hK hP hD hS hret ls hl
  have hown : s.vm.findClass RX2 = some m.cls := hown
  have hl : lv_has ls 5 [(0, .ref (aT 0)), (1, .int p1), (2, .int p2)] := hl
  unfold f_X2_floorBy at h
  have hiX2 : ∀ w ∈ u_ws RX2 TX2 8, w ∈ wsX2_floorBy := by decide +kernel
  have hf27 := hts (.fieldLink RX2 27 "TowerTell$Tower" "deeds" "I") (by decide +kernel)
  have lp5 : ∀ (n : Nat) (x3 : Int32) (x4 : Int32) (H : Heap) (locs : List Loc) (ls : Array Slot), l_X2_floorBy_5 Tdeeds T_weightOf T_kindOf p1 p2 n (x3, x4) = some o → va_P (dC, dI) vwCl [((aT 0), .inr (2, [.int Tdeeds, .int Tpeople, .int Tcatches, .ref (aT 1), .ref (aT 2), .ref (aT 3), .ref (aT 4), .ref (aT 5)])), ((aT 1), .inl (cyI, 6, .inl T_weightOf)), ((aT 2), .inl (cyI, 4, .inl T_kindOf))] H → va_D A [((aT 0), .inr (2, [.int Tdeeds, .int Tpeople, .int Tcatches, .ref (aT 1), .ref (aT 2), .ref (aT 3), .ref (aT 4), .ref (aT 5)])), ((aT 1), .inl (cyI, 6, .inl T_weightOf)), ((aT 2), .inl (cyI, 4, .inl T_kindOf))] → va_S A s.heap H locs → lv_has ls 5 [(0, .ref (aT 0)), (1, .int p1), (2, .int p2), (3, .int x3), (4, .int x4)] → W p l e { frames := 1, cells := 0, slots := 0, locals := 22 } s m args below meth c H locs 0 0 Q (F0 m 5 ls []) := by
    intro n
    induction n with
    | zero => intro _ _ H locs ls h _ _ _ _; exact (lpF_0 h).elim
    | succ n ih =>
      intro x3 x4 H locs ls h hP hD hS hl
      replace h : b_X2_floorBy_5 Tdeeds T_weightOf T_kindOf p1 p2 (l_X2_floorBy_5 Tdeeds T_weightOf T_kindOf p1 p2 n) x3 x4 = some o := h
      unfold b_X2_floorBy_5 at h
      refine lv_iload hx hb dX2_floorBy_5 (lv_at hl 4 rfl) ?_
      refine lv_aload_n hx hb dX2_floorBy_7 rfl (lv_at hl 0 rfl) ?_
      refine va_get (D := (dC, dI)) (ci := 2) (v := .int Tdeeds) (C := RX2) (T := TX2) (N := 8) hx hb hts hiX2 hown hK hP 0 rfl rfl 0 (by decide) hf27 (fun _ h9 => h9) rfl dX2_floorBy_8 ?_
      refine lv_icmp_ge (tgt := 40) hx hb dX2_floorBy_11 (by decide) (fun c1 => ?_) (fun c1 => ?_)
      · replace h := it_t c1 h
        refine lv_iload_n hx hb dX2_floorBy_40 rfl (lv_at hl 3 rfl) ?_
        replace h := Option.some.inj h; subst h
        exact hret () H locs _ ls hP hD hS dX2_floorBy_41 rfl
      · replace h := it_f c1 h
        refine lv_iload_n hx hb dX2_floorBy_14 rfl (lv_at hl 2 rfl) ?_
        refine lv_iload hx hb dX2_floorBy_15 (lv_at hl 4 rfl) ?_
        refine lv_ishr hx hb dX2_floorBy_17 ?_
        refine lv_iconst (v := 1) hx hb dX2_floorBy_18 (by decide) ?_
        refine lv_iand hx hb dX2_floorBy_19 ?_
        refine lv_iconst (v := 1) hx hb dX2_floorBy_20 (by decide) ?_
        refine lv_icmp_ne (tgt := 34) hx hb dX2_floorBy_21 (by decide) (fun c2 => ?_) (fun c2 => ?_)
        · replace h := it_f c2 h
          refine lv_iinc (v := (x4 + 1)) (lv' := [(4, .int (x4 + 1)), (0, .ref (aT 0)), (1, .int p1), (2, .int p2), (3, .int x3)]) hx hb dX2_floorBy_34 hl (k := 4) rfl rfl (by decide) rfl (fun ls hl => ?_)
          refine lv_goto (tgt := 5) hx hb dX2_floorBy_37 (by decide) ?_
          exact ih x3 (x4 + 1) H locs ls h hP hD hS (lv_sub hl [1, 2, 3, 4, 0] rfl)
        · replace h := it_t c2 h
          refine lv_iload_n hx hb dX2_floorBy_24 rfl (lv_at hl 3 rfl) ?_
          refine lv_aload_n hx hb dX2_floorBy_25 rfl (lv_at hl 0 rfl) ?_
          refine lv_iload_n hx hb dX2_floorBy_26 rfl (lv_at hl 1 rfl) ?_
          refine lv_iload hx hb dX2_floorBy_27 (lv_at hl 4 rfl) ?_
          obtain ⟨o3, hc4, h⟩ := ob h
          refine k_vi (As := [.int p1, .int x4]) (rest := [.int x3]) ⟨hx, hb, hml, hown, hts⟩ (c_X2_rise l dC dI cyI cyO aT H.size Tdeeds Tpeople Tcatches T_weightOf T_kindOf p1 x4 hc4) (cwV 2 hts gX2_floorBy_X2_rise rfl rfl rfl (by decide +kernel) ⟨Nat.le_of_ble_eq_true rfl, Nat.le_of_ble_eq_true rfl⟩) hP hD hK hS hA [0, 1, 2] [] rfl rfl (by decide) (by decide) (by decide) 2 0 rfl rfl rfl rfl hl.1 rfl (Nat.le_of_ble_eq_true rfl) dX2_floorBy_29 ⟨Nat.zero_le _, Nat.zero_le _⟩ (fun _ H locs hP hD hS => ?_)
          have hP : va_P (dC, dI) vwCl [((aT 0), .inr (2, [.int Tdeeds, .int Tpeople, .int Tcatches, .ref (aT 1), .ref (aT 2), .ref (aT 3), .ref (aT 4), .ref (aT 5)])), ((aT 1), .inl (cyI, 6, .inl T_weightOf)), ((aT 2), .inl (cyI, 4, .inl T_kindOf))] H := hP
          have hD : va_D A [((aT 0), .inr (2, [.int Tdeeds, .int Tpeople, .int Tcatches, .ref (aT 1), .ref (aT 2), .ref (aT 3), .ref (aT 4), .ref (aT 5)])), ((aT 1), .inl (cyI, 6, .inl T_weightOf)), ((aT 2), .inl (cyI, 4, .inl T_kindOf))] := hD
          refine lv_iadd hx hb dX2_floorBy_32 ?_
          refine lv_istore_n (lv' := [(3, .int (x3 + o3)), (0, .ref (aT 0)), (1, .int p1), (2, .int p2), (4, .int x4)]) hx hb dX2_floorBy_33 rfl hl (by decide) rfl (fun ls hl => ?_)
          refine lv_iinc (v := (x4 + 1)) (lv' := [(4, .int (x4 + 1)), (3, .int (x3 + o3)), (0, .ref (aT 0)), (1, .int p1), (2, .int p2)]) hx hb dX2_floorBy_34 hl (k := 4) rfl rfl (by decide) rfl (fun ls hl => ?_)
          refine lv_goto (tgt := 5) hx hb dX2_floorBy_37 (by decide) ?_
          exact ih (x3 + o3) (x4 + 1) H locs ls h hP hD hS (lv_sub hl [2, 3, 4, 1, 0] rfl)
  refine lv_iconst (v := 0) hx hb dX2_floorBy_0 (by decide) ?_
  refine lv_istore_n (lv' := [(3, .int 0), (0, .ref (aT 0)), (1, .int p1), (2, .int p2)]) hx hb dX2_floorBy_1 rfl hl (by decide) rfl (fun ls hl => ?_)
  refine lv_iconst (v := 0) hx hb dX2_floorBy_2 (by decide) ?_
  refine lv_istore (lv' := [(4, .int 0), (3, .int 0), (0, .ref (aT 0)), (1, .int p1), (2, .int p2)]) hx hb dX2_floorBy_3 hl (by decide) rfl (fun ls hl => ?_)
  exact lp5 99 0 0 H locs ls h hP hD hS (lv_sub hl [2, 3, 4, 1, 0] rfl)
set_option maxHeartbeats 4000000 in
set_option maxRecDepth 100000 in
theorem c_X2_floorOf (l : Launch) (dC : Nat → ClassId) (dI : Nat → Nat → Nat) (cyI cyO : ClassId) (aT : Nat → Nat) (sz : Nat) (Tdeeds : Int32) (Tpeople : Int32) (Tcatches : Int32) (T_weightOf : Nat → Int32) (T_kindOf : Nat → Int32) (T_toldBy : Nat → Int32) (p1 : Int32) {o : Int32}  (h : f_X2_floorOf Tdeeds T_weightOf T_kindOf T_toldBy p1 = some o) : CtI l yX2_floorOf wsX2_floorOf { frames := 2, cells := 0, slots := 0, locals := 46 } (dC, dI) [(cyI, .int), (cyO, .object RX0)] [.ref (aT 0), .int p1] sz [((aT 0), .inr (2, [.int Tdeeds, .int Tpeople, .int Tcatches, .ref (aT 1), .ref (aT 2), .ref (aT 3), .ref (aT 4), .ref (aT 5)])), ((aT 1), .inl (cyI, 6, .inl T_weightOf)), ((aT 2), .inl (cyI, 4, .inl T_kindOf)), ((aT 5), .inl (cyI, 4, .inl T_toldBy))] (fun (_ : Unit) => [((aT 0), .inr (2, [.int Tdeeds, .int Tpeople, .int Tcatches, .ref (aT 1), .ref (aT 2), .ref (aT 3), .ref (aT 4), .ref (aT 5)])), ((aT 1), .inl (cyI, 6, .inl T_weightOf)), ((aT 2), .inl (cyI, 4, .inl T_kindOf)), ((aT 5), .inl (cyI, 4, .inl T_toldBy))]) o := by
  refine CtI.of (cc := cX2_floorOf) (maxL := 2) (by decide) rfl (Nat.le_of_ble_eq_true rfl) ?_
  intro p e s m args below meth c A Q H locs hx hb hml hown hts hA hK hP hD hS hret ls hl
  have hown : s.vm.findClass RX2 = some m.cls := hown
  have hl : lv_has ls 2 [(0, .ref (aT 0)), (1, .int p1)] := hl
  unfold f_X2_floorOf at h
  have hiX2 : ∀ w ∈ u_ws RX2 TX2 8, w ∈ wsX2_floorOf := by decide +kernel
  have hf24 := hts (.fieldLink RX2 24 "TowerTell$Tower" "toldBy" "[I") (by decide +kernel)
  refine lv_aload_n hx hb dX2_floorOf_0 rfl (lv_at hl 0 rfl) ?_
  refine lv_iload_n hx hb dX2_floorOf_1 rfl (lv_at hl 1 rfl) ?_
  refine lv_aload_n hx hb dX2_floorOf_2 rfl (lv_at hl 0 rfl) ?_
  refine va_get (D := (dC, dI)) (ci := 2) (v := .ref (aT 5)) (C := RX2) (T := TX2) (N := 8) hx hb hts hiX2 hown hK hP 0 rfl rfl 7 (by decide) hf24 (fun _ h9 => h9) rfl dX2_floorOf_3 ?_
  refine lv_iload_n hx hb dX2_floorOf_6 rfl (lv_at hl 1 rfl) ?_
  obtain ⟨e1, h⟩ := it_n h
  refine va_iald hx hb hK hP 3 0 rfl rfl (ix_in e1) dX2_floorOf_7 ?_
  obtain ⟨o2, hc3, h⟩ := ob h
  refine k_vi (As := [.int p1, .int (T_toldBy p1.toNatClampNeg)]) (rest := []) ⟨hx, hb, hml, hown, hts⟩ (c_X2_floorBy l dC dI cyI cyO aT H.size Tdeeds Tpeople Tcatches T_weightOf T_kindOf p1 (T_toldBy p1.toNatClampNeg) hc3) (cwV 2 hts gX2_floorOf_X2_floorBy rfl rfl rfl (by decide +kernel) ⟨Nat.le_of_ble_eq_true rfl, Nat.le_of_ble_eq_true rfl⟩) hP hD hK hS hA [0, 1, 2] [3] rfl rfl (by decide) (by decide) (by decide) 2 0 rfl rfl rfl rfl hl.1 rfl (Nat.le_of_ble_eq_true rfl) dX2_floorOf_8 ⟨Nat.zero_le _, Nat.zero_le _⟩ (fun _ H locs hP hD hS => ?_)
  have hP : va_P (dC, dI) vwCl [((aT 5), .inl (cyI, 4, .inl T_toldBy)), ((aT 0), .inr (2, [.int Tdeeds, .int Tpeople, .int Tcatches, .ref (aT 1), .ref (aT 2), .ref (aT 3), .ref (aT 4), .ref (aT 5)])), ((aT 1), .inl (cyI, 6, .inl T_weightOf)), ((aT 2), .inl (cyI, 4, .inl T_kindOf))] H := hP
  have hD : va_D A [((aT 5), .inl (cyI, 4, .inl T_toldBy)), ((aT 0), .inr (2, [.int Tdeeds, .int Tpeople, .int Tcatches, .ref (aT 1), .ref (aT 2), .ref (aT 3), .ref (aT 4), .ref (aT 5)])), ((aT 1), .inl (cyI, 6, .inl T_weightOf)), ((aT 2), .inl (cyI, 4, .inl T_kindOf))] := hD
  replace h := Option.some.inj h; subst h
  have hP := hP.sub (ws' := [((aT 0), .inr (2, [.int Tdeeds, .int Tpeople, .int Tcatches, .ref (aT 1), .ref (aT 2), .ref (aT 3), .ref (aT 4), .ref (aT 5)])), ((aT 1), .inl (cyI, 6, .inl T_weightOf)), ((aT 2), .inl (cyI, 4, .inl T_kindOf)), ((aT 5), .inl (cyI, 4, .inl T_toldBy))]) [1, 2, 3, 0] rfl
  have hD := hD.sub (ws' := [((aT 0), .inr (2, [.int Tdeeds, .int Tpeople, .int Tcatches, .ref (aT 1), .ref (aT 2), .ref (aT 3), .ref (aT 4), .ref (aT 5)])), ((aT 1), .inl (cyI, 6, .inl T_weightOf)), ((aT 2), .inl (cyI, 4, .inl T_kindOf)), ((aT 5), .inl (cyI, 4, .inl T_toldBy))]) [1, 2, 3, 0] (by decide) rfl
  exact hret () H locs _ ls hP hD hS dX2_floorOf_11 rfl
set_option maxHeartbeats 4000000 in
set_option maxRecDepth 100000 in
theorem c_X2_highestFloor (l : Launch) (dC : Nat → ClassId) (dI : Nat → Nat → Nat) (cyI cyO : ClassId) (aT : Nat → Nat) (sz : Nat) (Tdeeds : Int32) (Tpeople : Int32) (Tcatches : Int32) (T_weightOf : Nat → Int32) (T_kindOf : Nat → Int32) (T_toldBy : Nat → Int32)  {o : Int32}  (h : f_X2_highestFloor Tdeeds Tpeople T_weightOf T_kindOf T_toldBy = some o) : CtI l yX2_highestFloor wsX2_highestFloor { frames := 3, cells := 0, slots := 0, locals := 67 } (dC, dI) [(cyI, .int), (cyO, .object RX0)] [.ref (aT 0)] sz [((aT 0), .inr (2, [.int Tdeeds, .int Tpeople, .int Tcatches, .ref (aT 1), .ref (aT 2), .ref (aT 3), .ref (aT 4), .ref (aT 5)])), ((aT 1), .inl (cyI, 6, .inl T_weightOf)), ((aT 2), .inl (cyI, 4, .inl T_kindOf)), ((aT 5), .inl (cyI, 4, .inl T_toldBy))] (fun (_ : Unit) => [((aT 0), .inr (2, [.int Tdeeds, .int Tpeople, .int Tcatches, .ref (aT 1), .ref (aT 2), .ref (aT 3), .ref (aT 4), .ref (aT 5)])), ((aT 1), .inl (cyI, 6, .inl T_weightOf)), ((aT 2), .inl (cyI, 4, .inl T_kindOf)), ((aT 5), .inl (cyI, 4, .inl T_toldBy))]) o := by
  refine CtI.of (cc := cX2_highestFloor) (maxL := 3) (by decide) rfl (Nat.le_of_ble_eq_true rfl) ?_
  intro p e s m args below meth c A Q H locs hx hb hml hown hts hA hK hP hD hS hret ls hl
  have hown : s.vm.findClass RX2 = some m.cls := hown
  have hl : lv_has ls 3 [(0, .ref (aT 0))] := hl
  unfold f_X2_highestFloor at h
  have hiX2 : ∀ w ∈ u_ws RX2 TX2 8, w ∈ wsX2_highestFloor := by decide +kernel
  have hf31 := hts (.fieldLink RX2 31 "TowerTell$Tower" "people" "I") (by decide +kernel)
  have hmx1 := hts (.methodLink RX2 54 Lib.Math.max.name) (by decide +kernel)
  have hmx2 := hts (.static Lib.Math.max.name) (by decide +kernel)
  have hmx3 := hts (.initialized "java/lang/Math") (by decide +kernel)
  have hmx4 := hts (.code Lib.Math.max.name Lib.Math.max.code 2 (some .int)) (by decide +kernel)
  have lp4 : ∀ (n : Nat) (x1 : Int32) (x2 : Int32) (H : Heap) (locs : List Loc) (ls : Array Slot), l_X2_highestFloor_4 Tdeeds Tpeople T_weightOf T_kindOf T_toldBy n (x1, x2) = some o → va_P (dC, dI) vwCl [((aT 0), .inr (2, [.int Tdeeds, .int Tpeople, .int Tcatches, .ref (aT 1), .ref (aT 2), .ref (aT 3), .ref (aT 4), .ref (aT 5)])), ((aT 1), .inl (cyI, 6, .inl T_weightOf)), ((aT 2), .inl (cyI, 4, .inl T_kindOf)), ((aT 5), .inl (cyI, 4, .inl T_toldBy))] H → va_D A [((aT 0), .inr (2, [.int Tdeeds, .int Tpeople, .int Tcatches, .ref (aT 1), .ref (aT 2), .ref (aT 3), .ref (aT 4), .ref (aT 5)])), ((aT 1), .inl (cyI, 6, .inl T_weightOf)), ((aT 2), .inl (cyI, 4, .inl T_kindOf)), ((aT 5), .inl (cyI, 4, .inl T_toldBy))] → va_S A s.heap H locs → lv_has ls 3 [(0, .ref (aT 0)), (1, .int x1), (2, .int x2)] → W p l e { frames := 3, cells := 0, slots := 0, locals := 67 } s m args below meth c H locs 0 0 Q (F0 m 4 ls []) := by
    intro n
    induction n with
    | zero => intro _ _ H locs ls h _ _ _ _; exact (lpF_0 h).elim
    | succ n ih =>
      intro x1 x2 H locs ls h hP hD hS hl
      replace h : b_X2_highestFloor_4 Tdeeds Tpeople T_weightOf T_kindOf T_toldBy (l_X2_highestFloor_4 Tdeeds Tpeople T_weightOf T_kindOf T_toldBy n) x1 x2 = some o := h
      unfold b_X2_highestFloor_4 at h
      refine lv_iload_n hx hb dX2_highestFloor_4 rfl (lv_at hl 2 rfl) ?_
      refine lv_aload_n hx hb dX2_highestFloor_5 rfl (lv_at hl 0 rfl) ?_
      refine va_get (D := (dC, dI)) (ci := 2) (v := .int Tpeople) (C := RX2) (T := TX2) (N := 8) hx hb hts hiX2 hown hK hP 0 rfl rfl 1 (by decide) hf31 (fun _ h9 => h9) rfl dX2_highestFloor_6 ?_
      refine lv_icmp_ge (tgt := 28) hx hb dX2_highestFloor_9 (by decide) (fun c1 => ?_) (fun c1 => ?_)
      · replace h := it_t c1 h
        refine lv_iload_n hx hb dX2_highestFloor_28 rfl (lv_at hl 1 rfl) ?_
        replace h := Option.some.inj h; subst h
        exact hret () H locs _ ls hP hD hS dX2_highestFloor_29 rfl
      · replace h := it_f c1 h
        refine lv_iload_n hx hb dX2_highestFloor_12 rfl (lv_at hl 1 rfl) ?_
        refine lv_aload_n hx hb dX2_highestFloor_13 rfl (lv_at hl 0 rfl) ?_
        refine lv_iload_n hx hb dX2_highestFloor_14 rfl (lv_at hl 2 rfl) ?_
        obtain ⟨o2, hc3, h⟩ := ob h
        refine k_vi (As := [.int x2]) (rest := [.int x1]) ⟨hx, hb, hml, hown, hts⟩ (c_X2_floorOf l dC dI cyI cyO aT H.size Tdeeds Tpeople Tcatches T_weightOf T_kindOf T_toldBy x2 hc3) (cwV 1 hts gX2_highestFloor_X2_floorOf rfl rfl rfl (by decide +kernel) ⟨Nat.le_of_ble_eq_true rfl, Nat.le_of_ble_eq_true rfl⟩) hP hD hK hS hA [0, 1, 2, 3] [] rfl rfl (by decide) (by decide) (by decide) 2 0 rfl rfl rfl rfl hl.1 rfl (Nat.le_of_ble_eq_true rfl) dX2_highestFloor_15 ⟨Nat.zero_le _, Nat.zero_le _⟩ (fun _ H locs hP hD hS => ?_)
        have hP : va_P (dC, dI) vwCl [((aT 0), .inr (2, [.int Tdeeds, .int Tpeople, .int Tcatches, .ref (aT 1), .ref (aT 2), .ref (aT 3), .ref (aT 4), .ref (aT 5)])), ((aT 1), .inl (cyI, 6, .inl T_weightOf)), ((aT 2), .inl (cyI, 4, .inl T_kindOf)), ((aT 5), .inl (cyI, 4, .inl T_toldBy))] H := hP
        have hD : va_D A [((aT 0), .inr (2, [.int Tdeeds, .int Tpeople, .int Tcatches, .ref (aT 1), .ref (aT 2), .ref (aT 3), .ref (aT 4), .ref (aT 5)])), ((aT 1), .inl (cyI, 6, .inl T_weightOf)), ((aT 2), .inl (cyI, 4, .inl T_kindOf)), ((aT 5), .inl (cyI, 4, .inl T_toldBy))] := hD
        refine va_mmax hx hb (hml.trans hl.1.symm) hown hmx1 hmx2 hmx3 hmx4 (Nat.le_of_ble_eq_true rfl) (Nat.le_of_ble_eq_true rfl) (Nat.zero_le _) (Nat.zero_le _) dX2_highestFloor_18 ?_
        refine lv_istore_n (lv' := [(1, .int (if x1 < o2 then o2 else x1)), (0, .ref (aT 0)), (2, .int x2)]) hx hb dX2_highestFloor_21 rfl hl (by decide) rfl (fun ls hl => ?_)
        refine lv_iinc (v := (x2 + 1)) (lv' := [(2, .int (x2 + 1)), (1, .int (if x1 < o2 then o2 else x1)), (0, .ref (aT 0))]) hx hb dX2_highestFloor_22 hl (k := 2) rfl rfl (by decide) rfl (fun ls hl => ?_)
        refine lv_goto (tgt := 4) hx hb dX2_highestFloor_25 (by decide) ?_
        exact ih (if x1 < o2 then o2 else x1) (x2 + 1) H locs ls h hP hD hS (lv_sub hl [2, 1, 0] rfl)
  refine lv_iconst (v := 0) hx hb dX2_highestFloor_0 (by decide) ?_
  refine lv_istore_n (lv' := [(1, .int 0), (0, .ref (aT 0))]) hx hb dX2_highestFloor_1 rfl hl (by decide) rfl (fun ls hl => ?_)
  refine lv_iconst (v := 0) hx hb dX2_highestFloor_2 (by decide) ?_
  refine lv_istore_n (lv' := [(2, .int 0), (1, .int 0), (0, .ref (aT 0))]) hx hb dX2_highestFloor_3 rfl hl (by decide) rfl (fun ls hl => ?_)
  exact lp4 99 0 0 H locs ls h hP hD hS (lv_sub hl [2, 1, 0] rfl)
set_option maxHeartbeats 4000000 in
set_option maxRecDepth 100000 in
theorem c_X2_wouldBeCaught (l : Launch) (dC : Nat → ClassId) (dI : Nat → Nat → Nat) (cyI cyO : ClassId) (aT : Nat → Nat) (sz : Nat) (Tdeeds : Int32) (Tpeople : Int32) (Tcatches : Int32) (T_weightOf : Nat → Int32) (T_kindOf : Nat → Int32) (T_doneBy : Nat → Int32) (T_knownTo : Nat → Int32) (T_toldBy : Nat → Int32) (p1 : Int32) (p2 : Int32) {o : Int32}  (h : f_X2_wouldBeCaught Tdeeds Tpeople T_weightOf T_kindOf T_doneBy T_knownTo T_toldBy p1 p2 = some o) : CtI l yX2_wouldBeCaught wsX2_wouldBeCaught { frames := 3, cells := 0, slots := 0, locals := 67 } (dC, dI) [(cyI, .int), (cyO, .object RX0)] [.ref (aT 0), .int p1, .int p2] sz [((aT 0), .inr (2, [.int Tdeeds, .int Tpeople, .int Tcatches, .ref (aT 1), .ref (aT 2), .ref (aT 3), .ref (aT 4), .ref (aT 5)])), ((aT 1), .inl (cyI, 6, .inl T_weightOf)), ((aT 2), .inl (cyI, 4, .inl T_kindOf)), ((aT 3), .inl (cyI, 4, .inl T_doneBy)), ((aT 4), .inl (cyI, 4, .inl T_knownTo)), ((aT 5), .inl (cyI, 4, .inl T_toldBy))] (fun (_ : Unit) => [((aT 0), .inr (2, [.int Tdeeds, .int Tpeople, .int Tcatches, .ref (aT 1), .ref (aT 2), .ref (aT 3), .ref (aT 4), .ref (aT 5)])), ((aT 1), .inl (cyI, 6, .inl T_weightOf)), ((aT 2), .inl (cyI, 4, .inl T_kindOf)), ((aT 3), .inl (cyI, 4, .inl T_doneBy)), ((aT 4), .inl (cyI, 4, .inl T_knownTo)), ((aT 5), .inl (cyI, 4, .inl T_toldBy))]) o := by
  refine CtI.of (cc := cX2_wouldBeCaught) (maxL := 4) (by decide) rfl (Nat.le_of_ble_eq_true rfl) ?_
  intro p e s m args below meth c A Q H locs hx hb hml hown hts hA hK hP hD hS hret ls hl
  have hown : s.vm.findClass RX2 = some m.cls := hown
  have hl : lv_has ls 4 [(0, .ref (aT 0)), (1, .int p1), (2, .int p2)] := hl
  unfold f_X2_wouldBeCaught at h
  have hiX2 : ∀ w ∈ u_ws RX2 TX2 8, w ∈ wsX2_wouldBeCaught := by decide +kernel
  have hf18 := hts (.fieldLink RX2 18 "TowerTell$Tower" "doneBy" "[I") (by decide +kernel)
  have hf21 := hts (.fieldLink RX2 21 "TowerTell$Tower" "knownTo" "[I") (by decide +kernel)
  have hf31 := hts (.fieldLink RX2 31 "TowerTell$Tower" "people" "I") (by decide +kernel)
  have lp18 : ∀ (n : Nat) (x3 : Int32) (H : Heap) (locs : List Loc) (ls : Array Slot), l_X2_wouldBeCaught_18 Tdeeds Tpeople T_weightOf T_kindOf T_doneBy T_knownTo T_toldBy p1 p2 n x3 = some o → va_P (dC, dI) vwCl [((aT 0), .inr (2, [.int Tdeeds, .int Tpeople, .int Tcatches, .ref (aT 1), .ref (aT 2), .ref (aT 3), .ref (aT 4), .ref (aT 5)])), ((aT 1), .inl (cyI, 6, .inl T_weightOf)), ((aT 2), .inl (cyI, 4, .inl T_kindOf)), ((aT 3), .inl (cyI, 4, .inl T_doneBy)), ((aT 4), .inl (cyI, 4, .inl T_knownTo)), ((aT 5), .inl (cyI, 4, .inl T_toldBy))] H → va_D A [((aT 0), .inr (2, [.int Tdeeds, .int Tpeople, .int Tcatches, .ref (aT 1), .ref (aT 2), .ref (aT 3), .ref (aT 4), .ref (aT 5)])), ((aT 1), .inl (cyI, 6, .inl T_weightOf)), ((aT 2), .inl (cyI, 4, .inl T_kindOf)), ((aT 3), .inl (cyI, 4, .inl T_doneBy)), ((aT 4), .inl (cyI, 4, .inl T_knownTo)), ((aT 5), .inl (cyI, 4, .inl T_toldBy))] → va_S A s.heap H locs → lv_has ls 4 [(0, .ref (aT 0)), (1, .int p1), (3, .int x3)] → W p l e { frames := 3, cells := 0, slots := 0, locals := 67 } s m args below meth c H locs 0 0 Q (F0 m 18 ls []) := by
    intro n
    induction n with
    | zero => intro _ H locs ls h _ _ _ _; exact (lpF_0 h).elim
    | succ n ih =>
      intro x3 H locs ls h hP hD hS hl
      replace h : b_X2_wouldBeCaught_18 Tdeeds Tpeople T_weightOf T_kindOf T_doneBy T_knownTo T_toldBy p1 p2 (l_X2_wouldBeCaught_18 Tdeeds Tpeople T_weightOf T_kindOf T_doneBy T_knownTo T_toldBy p1 p2 n) x3 = some o := h
      unfold b_X2_wouldBeCaught_18 at h
      refine lv_iload_n hx hb dX2_wouldBeCaught_18 rfl (lv_at hl 2 rfl) ?_
      refine lv_aload_n hx hb dX2_wouldBeCaught_19 rfl (lv_at hl 0 rfl) ?_
      refine va_get (D := (dC, dI)) (ci := 2) (v := .int Tpeople) (C := RX2) (T := TX2) (N := 8) hx hb hts hiX2 hown hK hP 0 rfl rfl 1 (by decide) hf31 (fun _ h9 => h9) rfl dX2_wouldBeCaught_20 ?_
      refine lv_icmp_ge (tgt := 62) hx hb dX2_wouldBeCaught_23 (by decide) (fun c3 => ?_) (fun c3 => ?_)
      · replace h := it_t c3 h
        refine lv_iconst (v := 0) hx hb dX2_wouldBeCaught_62 (by decide) ?_
        replace h := Option.some.inj h; subst h
        exact hret () H locs _ ls hP hD hS dX2_wouldBeCaught_63 bz_0
      · replace h := it_f c3 h
        refine lv_iload_n hx hb dX2_wouldBeCaught_26 rfl (lv_at hl 2 rfl) ?_
        refine lv_iload_n hx hb dX2_wouldBeCaught_27 rfl (lv_at hl 1 rfl) ?_
        refine lv_icmp_eq (tgt := 56) hx hb dX2_wouldBeCaught_28 (by decide) (fun c4 => ?_) (fun c4 => ?_)
        · replace h := it_t c4 h
          refine lv_iinc (v := (x3 + 1)) (lv' := [(3, .int (x3 + 1)), (0, .ref (aT 0)), (1, .int p1)]) hx hb dX2_wouldBeCaught_56 hl (k := 2) rfl rfl (by decide) rfl (fun ls hl => ?_)
          refine lv_goto (tgt := 18) hx hb dX2_wouldBeCaught_59 (by decide) ?_
          exact ih (x3 + 1) H locs ls h hP hD hS (lv_sub hl [1, 2, 0] rfl)
        · replace h := it_f c4 h
          refine lv_aload_n hx hb dX2_wouldBeCaught_31 rfl (lv_at hl 0 rfl) ?_
          refine va_get (D := (dC, dI)) (ci := 2) (v := .ref (aT 4)) (C := RX2) (T := TX2) (N := 8) hx hb hts hiX2 hown hK hP 0 rfl rfl 6 (by decide) hf21 (fun _ h9 => h9) rfl dX2_wouldBeCaught_32 ?_
          refine lv_iload_n hx hb dX2_wouldBeCaught_35 rfl (lv_at hl 2 rfl) ?_
          obtain ⟨e5, h⟩ := it_n h
          refine va_iald hx hb hK hP 4 0 rfl rfl (ix_in e5) dX2_wouldBeCaught_36 ?_
          refine lv_iload_n hx hb dX2_wouldBeCaught_37 rfl (lv_at hl 1 rfl) ?_
          refine lv_icmp_ne (tgt := 56) hx hb dX2_wouldBeCaught_38 (by decide) (fun c6 => ?_) (fun c6 => ?_)
          · replace h := it_f c6 h
            refine lv_iinc (v := (x3 + 1)) (lv' := [(3, .int (x3 + 1)), (0, .ref (aT 0)), (1, .int p1)]) hx hb dX2_wouldBeCaught_56 hl (k := 2) rfl rfl (by decide) rfl (fun ls hl => ?_)
            refine lv_goto (tgt := 18) hx hb dX2_wouldBeCaught_59 (by decide) ?_
            exact ih (x3 + 1) H locs ls h hP hD hS (lv_sub hl [1, 2, 0] rfl)
          · replace h := it_t c6 h
            refine lv_aload_n hx hb dX2_wouldBeCaught_41 rfl (lv_at hl 0 rfl) ?_
            refine lv_iload_n hx hb dX2_wouldBeCaught_42 rfl (lv_at hl 2 rfl) ?_
            obtain ⟨o7, hc8, h⟩ := ob h
            refine k_vi (As := [.int x3]) (rest := []) ⟨hx, hb, hml, hown, hts⟩ (c_X2_floorOf l dC dI cyI cyO aT H.size Tdeeds Tpeople Tcatches T_weightOf T_kindOf T_toldBy x3 hc8) (cwV 1 hts gX2_wouldBeCaught_X2_floorOf rfl rfl rfl (by decide +kernel) ⟨Nat.le_of_ble_eq_true rfl, Nat.le_of_ble_eq_true rfl⟩) hP hD hK hS hA [0, 1, 2, 5] [3, 4] rfl rfl (by decide) (by decide) (by decide) 2 0 rfl rfl rfl rfl hl.1 rfl (Nat.le_of_ble_eq_true rfl) dX2_wouldBeCaught_43 ⟨Nat.zero_le _, Nat.zero_le _⟩ (fun _ H locs hP hD hS => ?_)
            have hP : va_P (dC, dI) vwCl [((aT 3), .inl (cyI, 4, .inl T_doneBy)), ((aT 4), .inl (cyI, 4, .inl T_knownTo)), ((aT 0), .inr (2, [.int Tdeeds, .int Tpeople, .int Tcatches, .ref (aT 1), .ref (aT 2), .ref (aT 3), .ref (aT 4), .ref (aT 5)])), ((aT 1), .inl (cyI, 6, .inl T_weightOf)), ((aT 2), .inl (cyI, 4, .inl T_kindOf)), ((aT 5), .inl (cyI, 4, .inl T_toldBy))] H := hP
            have hD : va_D A [((aT 3), .inl (cyI, 4, .inl T_doneBy)), ((aT 4), .inl (cyI, 4, .inl T_knownTo)), ((aT 0), .inr (2, [.int Tdeeds, .int Tpeople, .int Tcatches, .ref (aT 1), .ref (aT 2), .ref (aT 3), .ref (aT 4), .ref (aT 5)])), ((aT 1), .inl (cyI, 6, .inl T_weightOf)), ((aT 2), .inl (cyI, 4, .inl T_kindOf)), ((aT 5), .inl (cyI, 4, .inl T_toldBy))] := hD
            refine lv_aload_n hx hb dX2_wouldBeCaught_46 rfl (lv_at hl 0 rfl) ?_
            refine lv_iload_n hx hb dX2_wouldBeCaught_47 rfl (lv_at hl 1 rfl) ?_
            obtain ⟨o9, hc10, h⟩ := ob h
            refine k_vi (As := [.int p1]) (rest := [.int o7]) ⟨hx, hb, hml, hown, hts⟩ (c_X2_floorOf l dC dI cyI cyO aT H.size Tdeeds Tpeople Tcatches T_weightOf T_kindOf T_toldBy p1 hc10) (cwV 1 hts gX2_wouldBeCaught_X2_floorOf rfl rfl rfl (by decide +kernel) ⟨Nat.le_of_ble_eq_true rfl, Nat.le_of_ble_eq_true rfl⟩) hP hD hK hS hA [2, 3, 4, 5] [0, 1] rfl rfl (by decide) (by decide) (by decide) 2 0 rfl rfl rfl rfl hl.1 rfl (Nat.le_of_ble_eq_true rfl) dX2_wouldBeCaught_48 ⟨Nat.zero_le _, Nat.zero_le _⟩ (fun _ H locs hP hD hS => ?_)
            have hP : va_P (dC, dI) vwCl [((aT 3), .inl (cyI, 4, .inl T_doneBy)), ((aT 4), .inl (cyI, 4, .inl T_knownTo)), ((aT 0), .inr (2, [.int Tdeeds, .int Tpeople, .int Tcatches, .ref (aT 1), .ref (aT 2), .ref (aT 3), .ref (aT 4), .ref (aT 5)])), ((aT 1), .inl (cyI, 6, .inl T_weightOf)), ((aT 2), .inl (cyI, 4, .inl T_kindOf)), ((aT 5), .inl (cyI, 4, .inl T_toldBy))] H := hP
            have hD : va_D A [((aT 3), .inl (cyI, 4, .inl T_doneBy)), ((aT 4), .inl (cyI, 4, .inl T_knownTo)), ((aT 0), .inr (2, [.int Tdeeds, .int Tpeople, .int Tcatches, .ref (aT 1), .ref (aT 2), .ref (aT 3), .ref (aT 4), .ref (aT 5)])), ((aT 1), .inl (cyI, 6, .inl T_weightOf)), ((aT 2), .inl (cyI, 4, .inl T_kindOf)), ((aT 5), .inl (cyI, 4, .inl T_toldBy))] := hD
            refine lv_icmp_ne (tgt := 56) hx hb dX2_wouldBeCaught_51 (by decide) (fun c11 => ?_) (fun c11 => ?_)
            · replace h := it_f c11 h
              refine lv_iinc (v := (x3 + 1)) (lv' := [(3, .int (x3 + 1)), (0, .ref (aT 0)), (1, .int p1)]) hx hb dX2_wouldBeCaught_56 hl (k := 2) rfl rfl (by decide) rfl (fun ls hl => ?_)
              refine lv_goto (tgt := 18) hx hb dX2_wouldBeCaught_59 (by decide) ?_
              have hP := hP.sub (ws' := [((aT 0), .inr (2, [.int Tdeeds, .int Tpeople, .int Tcatches, .ref (aT 1), .ref (aT 2), .ref (aT 3), .ref (aT 4), .ref (aT 5)])), ((aT 1), .inl (cyI, 6, .inl T_weightOf)), ((aT 2), .inl (cyI, 4, .inl T_kindOf)), ((aT 3), .inl (cyI, 4, .inl T_doneBy)), ((aT 4), .inl (cyI, 4, .inl T_knownTo)), ((aT 5), .inl (cyI, 4, .inl T_toldBy))]) [2, 3, 4, 0, 1, 5] rfl
              have hD := hD.sub (ws' := [((aT 0), .inr (2, [.int Tdeeds, .int Tpeople, .int Tcatches, .ref (aT 1), .ref (aT 2), .ref (aT 3), .ref (aT 4), .ref (aT 5)])), ((aT 1), .inl (cyI, 6, .inl T_weightOf)), ((aT 2), .inl (cyI, 4, .inl T_kindOf)), ((aT 3), .inl (cyI, 4, .inl T_doneBy)), ((aT 4), .inl (cyI, 4, .inl T_knownTo)), ((aT 5), .inl (cyI, 4, .inl T_toldBy))]) [2, 3, 4, 0, 1, 5] (by decide) rfl
              exact ih (x3 + 1) H locs ls h hP hD hS (lv_sub hl [1, 2, 0] rfl)
            · replace h := it_t c11 h
              refine lv_iconst (v := 1) hx hb dX2_wouldBeCaught_54 (by decide) ?_
              replace h := Option.some.inj h; subst h
              have hP := hP.sub (ws' := [((aT 0), .inr (2, [.int Tdeeds, .int Tpeople, .int Tcatches, .ref (aT 1), .ref (aT 2), .ref (aT 3), .ref (aT 4), .ref (aT 5)])), ((aT 1), .inl (cyI, 6, .inl T_weightOf)), ((aT 2), .inl (cyI, 4, .inl T_kindOf)), ((aT 3), .inl (cyI, 4, .inl T_doneBy)), ((aT 4), .inl (cyI, 4, .inl T_knownTo)), ((aT 5), .inl (cyI, 4, .inl T_toldBy))]) [2, 3, 4, 0, 1, 5] rfl
              have hD := hD.sub (ws' := [((aT 0), .inr (2, [.int Tdeeds, .int Tpeople, .int Tcatches, .ref (aT 1), .ref (aT 2), .ref (aT 3), .ref (aT 4), .ref (aT 5)])), ((aT 1), .inl (cyI, 6, .inl T_weightOf)), ((aT 2), .inl (cyI, 4, .inl T_kindOf)), ((aT 3), .inl (cyI, 4, .inl T_doneBy)), ((aT 4), .inl (cyI, 4, .inl T_knownTo)), ((aT 5), .inl (cyI, 4, .inl T_toldBy))]) [2, 3, 4, 0, 1, 5] (by decide) rfl
              exact hret () H locs _ ls hP hD hS dX2_wouldBeCaught_55 bz_1
  refine lv_aload_n hx hb dX2_wouldBeCaught_0 rfl (lv_at hl 0 rfl) ?_
  refine va_get (D := (dC, dI)) (ci := 2) (v := .ref (aT 3)) (C := RX2) (T := TX2) (N := 8) hx hb hts hiX2 hown hK hP 0 rfl rfl 5 (by decide) hf18 (fun _ h9 => h9) rfl dX2_wouldBeCaught_1 ?_
  refine lv_iload_n hx hb dX2_wouldBeCaught_4 rfl (lv_at hl 1 rfl) ?_
  obtain ⟨e1, h⟩ := it_n h
  refine va_iald hx hb hK hP 3 0 rfl rfl (ix_in e1) dX2_wouldBeCaught_5 ?_
  refine lv_iload_n hx hb dX2_wouldBeCaught_6 rfl (lv_at hl 2 rfl) ?_
  refine lv_ishr hx hb dX2_wouldBeCaught_7 ?_
  refine lv_iconst (v := 1) hx hb dX2_wouldBeCaught_8 (by decide) ?_
  refine lv_iand hx hb dX2_wouldBeCaught_9 ?_
  refine lv_iconst (v := 1) hx hb dX2_wouldBeCaught_10 (by decide) ?_
  refine lv_icmp_ne (tgt := 16) hx hb dX2_wouldBeCaught_11 (by decide) (fun c2 => ?_) (fun c2 => ?_)
  · replace h := it_f c2 h
    refine lv_iconst (v := 0) hx hb dX2_wouldBeCaught_16 (by decide) ?_
    refine lv_istore_n (lv' := [(3, .int 0), (0, .ref (aT 0)), (1, .int p1), (2, .int p2)]) hx hb dX2_wouldBeCaught_17 rfl hl (by decide) rfl (fun ls hl => ?_)
    exact lp18 99 0 H locs ls h hP hD hS (lv_sub hl [1, 2, 0] rfl)
  · replace h := it_t c2 h
    refine lv_iconst (v := 0) hx hb dX2_wouldBeCaught_14 (by decide) ?_
    replace h := Option.some.inj h; subst h
    exact hret () H locs _ ls hP hD hS dX2_wouldBeCaught_15 bz_0
set_option maxHeartbeats 4000000 in
set_option maxRecDepth 100000 in
theorem c_X2_hear (l : Launch) (dC : Nat → ClassId) (dI : Nat → Nat → Nat) (cyI cyO : ClassId) (aT : Nat → Nat) (sz : Nat) (Tdeeds : Int32) (Tpeople : Int32) (Tcatches : Int32) (T_weightOf : Nat → Int32) (T_kindOf : Nat → Int32) (T_doneBy : Nat → Int32) (T_knownTo : Nat → Int32) (T_toldBy : Nat → Int32) (p1 : Int32) (p2 : Int32) {o : Int32 × (Nat → Int32)}  (h : f_X2_hear Tdeeds Tpeople Tcatches T_weightOf T_kindOf T_doneBy T_knownTo T_toldBy p1 p2 = some o) : CtV l yX2_hear wsX2_hear { frames := 4, cells := 0, slots := 0, locals := 90 } (dC, dI) [(cyI, .int), (cyO, .object RX0)] [.ref (aT 0), .int p1, .int p2] sz [((aT 0), .inr (2, [.int Tdeeds, .int Tpeople, .int Tcatches, .ref (aT 1), .ref (aT 2), .ref (aT 3), .ref (aT 4), .ref (aT 5)])), ((aT 1), .inl (cyI, 6, .inl T_weightOf)), ((aT 2), .inl (cyI, 4, .inl T_kindOf)), ((aT 3), .inl (cyI, 4, .inl T_doneBy)), ((aT 4), .inl (cyI, 4, .inl T_knownTo)), ((aT 5), .inl (cyI, 4, .inl T_toldBy))] (fun (_ : Unit) => [((aT 0), .inr (2, [.int Tdeeds, .int Tpeople, .int o.1, .ref (aT 1), .ref (aT 2), .ref (aT 3), .ref (aT 4), .ref (aT 5)])), ((aT 1), .inl (cyI, 6, .inl T_weightOf)), ((aT 2), .inl (cyI, 4, .inl T_kindOf)), ((aT 3), .inl (cyI, 4, .inl T_doneBy)), ((aT 4), .inl (cyI, 4, .inl T_knownTo)), ((aT 5), .inl (cyI, 4, .inl o.2))]) := by
  refine CtV.of (cc := cX2_hear) (maxL := 3) (by decide) rfl (Nat.le_of_ble_eq_true rfl) ?_
  intro p e s m args below meth c A Q H locs hx hb hml hown hts hA hK hP hD hS hret ls hl
  have hown : s.vm.findClass RX2 = some m.cls := hown
  have hl : lv_has ls 3 [(0, .ref (aT 0)), (1, .int p1), (2, .int p2)] := hl
  unfold f_X2_hear at h
  have hiX2 : ∀ w ∈ u_ws RX2 TX2 8, w ∈ wsX2_hear := by decide +kernel
  have hf24 := hts (.fieldLink RX2 24 "TowerTell$Tower" "toldBy" "[I") (by decide +kernel)
  have hf34 := hts (.fieldLink RX2 34 "TowerTell$Tower" "catches" "I") (by decide +kernel)
  refine lv_aload_n hx hb dX2_hear_0 rfl (lv_at hl 0 rfl) ?_
  refine lv_iload_n hx hb dX2_hear_1 rfl (lv_at hl 1 rfl) ?_
  refine lv_iload_n hx hb dX2_hear_2 rfl (lv_at hl 2 rfl) ?_
  obtain ⟨o1, hc2, h⟩ := ob h
  refine k_vi (As := [.int p1, .int p2]) (rest := []) ⟨hx, hb, hml, hown, hts⟩ (c_X2_wouldBeCaught l dC dI cyI cyO aT H.size Tdeeds Tpeople Tcatches T_weightOf T_kindOf T_doneBy T_knownTo T_toldBy p1 p2 hc2) (cwV 2 hts gX2_hear_X2_wouldBeCaught rfl rfl rfl (by decide +kernel) ⟨Nat.le_of_ble_eq_true rfl, Nat.le_of_ble_eq_true rfl⟩) hP hD hK hS hA [0, 1, 2, 3, 4, 5] [] rfl rfl (by decide) (by decide) (by decide) 2 0 rfl rfl rfl rfl hl.1 rfl (Nat.le_of_ble_eq_true rfl) dX2_hear_3 ⟨Nat.zero_le _, Nat.zero_le _⟩ (fun _ H locs hP hD hS => ?_)
  have hP : va_P (dC, dI) vwCl [((aT 0), .inr (2, [.int Tdeeds, .int Tpeople, .int Tcatches, .ref (aT 1), .ref (aT 2), .ref (aT 3), .ref (aT 4), .ref (aT 5)])), ((aT 1), .inl (cyI, 6, .inl T_weightOf)), ((aT 2), .inl (cyI, 4, .inl T_kindOf)), ((aT 3), .inl (cyI, 4, .inl T_doneBy)), ((aT 4), .inl (cyI, 4, .inl T_knownTo)), ((aT 5), .inl (cyI, 4, .inl T_toldBy))] H := hP
  have hD : va_D A [((aT 0), .inr (2, [.int Tdeeds, .int Tpeople, .int Tcatches, .ref (aT 1), .ref (aT 2), .ref (aT 3), .ref (aT 4), .ref (aT 5)])), ((aT 1), .inl (cyI, 6, .inl T_weightOf)), ((aT 2), .inl (cyI, 4, .inl T_kindOf)), ((aT 3), .inl (cyI, 4, .inl T_doneBy)), ((aT 4), .inl (cyI, 4, .inl T_knownTo)), ((aT 5), .inl (cyI, 4, .inl T_toldBy))] := hD
  refine lv_if_eq (tgt := 29) hx hb dX2_hear_6 (by decide) (fun c3 => ?_) (fun c3 => ?_)
  · replace h := it_t c3 h
    refine lv_aload_n hx hb dX2_hear_29 rfl (lv_at hl 0 rfl) ?_
    refine va_get (D := (dC, dI)) (ci := 2) (v := .ref (aT 5)) (C := RX2) (T := TX2) (N := 8) hx hb hts hiX2 hown hK hP 0 rfl rfl 7 (by decide) hf24 (fun _ h9 => h9) rfl dX2_hear_30 ?_
    refine lv_iload_n hx hb dX2_hear_33 rfl (lv_at hl 1 rfl) ?_
    refine lv_dup2_11 hx hb dX2_hear_34 rfl rfl ?_
    obtain ⟨e4, h⟩ := it_n h
    refine va_iald hx hb hK hP 5 0 rfl rfl (ix_in e4) dX2_hear_35 ?_
    refine lv_iconst (v := 1) hx hb dX2_hear_36 (by decide) ?_
    refine lv_iload_n hx hb dX2_hear_37 rfl (lv_at hl 2 rfl) ?_
    refine lv_ishl hx hb dX2_hear_38 ?_
    refine lv_ior hx hb dX2_hear_39 ?_
    obtain ⟨e5, h⟩ := it_n h
    refine va_iast hx hb hK hP hD hS 5 0 rfl rfl (ix_in e5) dX2_hear_40 (fun H locs hP hD hS => ?_)
    have hP : va_P (dC, dI) vwCl [((aT 0), .inr (2, [.int Tdeeds, .int Tpeople, .int Tcatches, .ref (aT 1), .ref (aT 2), .ref (aT 3), .ref (aT 4), .ref (aT 5)])), ((aT 1), .inl (cyI, 6, .inl T_weightOf)), ((aT 2), .inl (cyI, 4, .inl T_kindOf)), ((aT 3), .inl (cyI, 4, .inl T_doneBy)), ((aT 4), .inl (cyI, 4, .inl T_knownTo)), ((aT 5), .inl (cyI, 4, .inl (upd T_toldBy p1.toNatClampNeg ((T_toldBy p1.toNatClampNeg) ||| (1 <<< (p2 &&& 31))))))] H := hP
    have hD : va_D A [((aT 0), .inr (2, [.int Tdeeds, .int Tpeople, .int Tcatches, .ref (aT 1), .ref (aT 2), .ref (aT 3), .ref (aT 4), .ref (aT 5)])), ((aT 1), .inl (cyI, 6, .inl T_weightOf)), ((aT 2), .inl (cyI, 4, .inl T_kindOf)), ((aT 3), .inl (cyI, 4, .inl T_doneBy)), ((aT 4), .inl (cyI, 4, .inl T_knownTo)), ((aT 5), .inl (cyI, 4, .inl (upd T_toldBy p1.toNatClampNeg ((T_toldBy p1.toNatClampNeg) ||| (1 <<< (p2 &&& 31))))))] := hD
    replace h := Option.some.inj h; subst h
    exact hret () H locs _ ls hP hD hS dX2_hear_41
  · replace h := it_f c3 h
    refine lv_aload_n hx hb dX2_hear_9 rfl (lv_at hl 0 rfl) ?_
    refine va_get (D := (dC, dI)) (ci := 2) (v := .ref (aT 5)) (C := RX2) (T := TX2) (N := 8) hx hb hts hiX2 hown hK hP 0 rfl rfl 7 (by decide) hf24 (fun _ h9 => h9) rfl dX2_hear_10 ?_
    refine lv_iload_n hx hb dX2_hear_13 rfl (lv_at hl 1 rfl) ?_
    refine lv_iconst (v := 0) hx hb dX2_hear_14 (by decide) ?_
    obtain ⟨e6, h⟩ := it_n h
    refine va_iast hx hb hK hP hD hS 5 0 rfl rfl (ix_in e6) dX2_hear_15 (fun H locs hP hD hS => ?_)
    have hP : va_P (dC, dI) vwCl [((aT 0), .inr (2, [.int Tdeeds, .int Tpeople, .int Tcatches, .ref (aT 1), .ref (aT 2), .ref (aT 3), .ref (aT 4), .ref (aT 5)])), ((aT 1), .inl (cyI, 6, .inl T_weightOf)), ((aT 2), .inl (cyI, 4, .inl T_kindOf)), ((aT 3), .inl (cyI, 4, .inl T_doneBy)), ((aT 4), .inl (cyI, 4, .inl T_knownTo)), ((aT 5), .inl (cyI, 4, .inl (upd T_toldBy p1.toNatClampNeg 0)))] H := hP
    have hD : va_D A [((aT 0), .inr (2, [.int Tdeeds, .int Tpeople, .int Tcatches, .ref (aT 1), .ref (aT 2), .ref (aT 3), .ref (aT 4), .ref (aT 5)])), ((aT 1), .inl (cyI, 6, .inl T_weightOf)), ((aT 2), .inl (cyI, 4, .inl T_kindOf)), ((aT 3), .inl (cyI, 4, .inl T_doneBy)), ((aT 4), .inl (cyI, 4, .inl T_knownTo)), ((aT 5), .inl (cyI, 4, .inl (upd T_toldBy p1.toNatClampNeg 0)))] := hD
    refine lv_aload_n hx hb dX2_hear_16 rfl (lv_at hl 0 rfl) ?_
    refine lv_dup hx hb dX2_hear_17 rfl ?_
    refine va_get (D := (dC, dI)) (ci := 2) (v := .int Tcatches) (C := RX2) (T := TX2) (N := 8) hx hb hts hiX2 hown hK hP 0 rfl rfl 2 (by decide) hf34 (fun _ h9 => h9) rfl dX2_hear_18 ?_
    refine lv_iconst (v := 1) hx hb dX2_hear_21 (by decide) ?_
    refine lv_iadd hx hb dX2_hear_22 ?_
    refine va_put (D := (dC, dI)) (ci := 2) (v := .int (Tcatches + 1)) (ty := .int) (C := RX2) (T := TX2) (N := 8) hx hb hts hiX2 tyX2 tyX2_ok nmX2 hown hK hP hD hS 0 rfl rfl 2 (by decide) hf34 (fun _ h9 => h9) rfl (tyX2_ok 2 (by decide)) rfl rfl (Nat.le_of_ble_eq_true rfl) dX2_hear_23 (fun H locs hP hD hS => ?_)
    have hP : va_P (dC, dI) vwCl [((aT 0), .inr (2, [.int Tdeeds, .int Tpeople, .int (Tcatches + 1), .ref (aT 1), .ref (aT 2), .ref (aT 3), .ref (aT 4), .ref (aT 5)])), ((aT 1), .inl (cyI, 6, .inl T_weightOf)), ((aT 2), .inl (cyI, 4, .inl T_kindOf)), ((aT 3), .inl (cyI, 4, .inl T_doneBy)), ((aT 4), .inl (cyI, 4, .inl T_knownTo)), ((aT 5), .inl (cyI, 4, .inl (upd T_toldBy p1.toNatClampNeg 0)))] H := hP
    have hD : va_D A [((aT 0), .inr (2, [.int Tdeeds, .int Tpeople, .int (Tcatches + 1), .ref (aT 1), .ref (aT 2), .ref (aT 3), .ref (aT 4), .ref (aT 5)])), ((aT 1), .inl (cyI, 6, .inl T_weightOf)), ((aT 2), .inl (cyI, 4, .inl T_kindOf)), ((aT 3), .inl (cyI, 4, .inl T_doneBy)), ((aT 4), .inl (cyI, 4, .inl T_knownTo)), ((aT 5), .inl (cyI, 4, .inl (upd T_toldBy p1.toNatClampNeg 0)))] := hD
    refine lv_goto (tgt := 41) hx hb dX2_hear_26 (by decide) ?_
    replace h := Option.some.inj h; subst h
    exact hret () H locs _ ls hP hD hS dX2_hear_41
set_option maxHeartbeats 4000000 in
set_option maxRecDepth 100000 in
theorem c_J6_bitCount_0f7a4 (l : Launch) (dC : Nat → ClassId) (dI : Nat → Nat → Nat) (cyI cyO : ClassId)  (sz : Nat)  (p0 : Int32) {o : Int32}  (h : f_J6_bitCount_0f7a4 p0 = some o) : CtI l yJ6_bitCount_0f7a4 wsJ6_bitCount_0f7a4 { frames := 0, cells := 0, slots := 0, locals := 0 } (dC, dI) [(cyI, .int), (cyO, .object RX0)] [.int p0] sz [] (fun (_ : Unit) => []) o := by
  refine CtI.of (cc := cJ6_bitCount_0f7a4) (maxL := 1) (by decide) rfl (Nat.le_of_ble_eq_true rfl) ?_
  intro p e s m args below meth c A Q H locs hx hb hml hown hts hA hK hP hD hS hret ls hl
  have hown : s.vm.findClass RJ6 = some m.cls := hown
  have hl : lv_has ls 1 [(0, .int p0)] := hl
  unfold f_J6_bitCount_0f7a4 at h
  have hC265 := hts (.constant RJ6 265 (1431655765)) (by decide +kernel)
  have hC266 := hts (.constant RJ6 266 (858993459)) (by decide +kernel)
  have hC267 := hts (.constant RJ6 267 (252645135)) (by decide +kernel)
  refine lv_iload_n hx hb dJ6_bitCount_0f7a4_0 rfl (lv_at hl 0 rfl) ?_
  refine lv_iload_n hx hb dJ6_bitCount_0f7a4_1 rfl (lv_at hl 0 rfl) ?_
  refine lv_iconst (v := 1) hx hb dJ6_bitCount_0f7a4_2 (by decide) ?_
  refine lv_iushr (v := (p0.toUInt32 >>> ((1 : Int32).toUInt32 &&& Int32.toUInt32 31)).toInt32) hx hb dJ6_bitCount_0f7a4_3 rfl ?_
  refine lv_ldcw hx hb hown hC265 dJ6_bitCount_0f7a4_4 ?_
  refine lv_iand hx hb dJ6_bitCount_0f7a4_7 ?_
  refine lv_isub hx hb dJ6_bitCount_0f7a4_8 ?_
  refine lv_istore_n (lv' := [(0, .int (p0 - (((p0.toUInt32 >>> ((1 : Int32).toUInt32 &&& Int32.toUInt32 31)).toInt32) &&& 1431655765)))]) hx hb dJ6_bitCount_0f7a4_9 rfl hl (by decide) rfl (fun ls hl => ?_)
  refine lv_iload_n hx hb dJ6_bitCount_0f7a4_10 rfl (lv_at hl 0 rfl) ?_
  refine lv_ldcw hx hb hown hC266 dJ6_bitCount_0f7a4_11 ?_
  refine lv_iand hx hb dJ6_bitCount_0f7a4_14 ?_
  refine lv_iload_n hx hb dJ6_bitCount_0f7a4_15 rfl (lv_at hl 0 rfl) ?_
  refine lv_iconst (v := 2) hx hb dJ6_bitCount_0f7a4_16 (by decide) ?_
  refine lv_iushr (v := ((p0 - (((p0.toUInt32 >>> ((1 : Int32).toUInt32 &&& Int32.toUInt32 31)).toInt32) &&& 1431655765)).toUInt32 >>> ((2 : Int32).toUInt32 &&& Int32.toUInt32 31)).toInt32) hx hb dJ6_bitCount_0f7a4_17 rfl ?_
  refine lv_ldcw hx hb hown hC266 dJ6_bitCount_0f7a4_18 ?_
  refine lv_iand hx hb dJ6_bitCount_0f7a4_21 ?_
  refine lv_iadd hx hb dJ6_bitCount_0f7a4_22 ?_
  refine lv_istore_n (lv' := [(0, .int (((p0 - (((p0.toUInt32 >>> ((1 : Int32).toUInt32 &&& Int32.toUInt32 31)).toInt32) &&& 1431655765)) &&& 858993459) + ((((p0 - (((p0.toUInt32 >>> ((1 : Int32).toUInt32 &&& Int32.toUInt32 31)).toInt32) &&& 1431655765)).toUInt32 >>> ((2 : Int32).toUInt32 &&& Int32.toUInt32 31)).toInt32) &&& 858993459)))]) hx hb dJ6_bitCount_0f7a4_23 rfl hl (by decide) rfl (fun ls hl => ?_)
  refine lv_iload_n hx hb dJ6_bitCount_0f7a4_24 rfl (lv_at hl 0 rfl) ?_
  refine lv_iload_n hx hb dJ6_bitCount_0f7a4_25 rfl (lv_at hl 0 rfl) ?_
  refine lv_iconst (v := 4) hx hb dJ6_bitCount_0f7a4_26 (by decide) ?_
  refine lv_iushr (v := ((((p0 - (((p0.toUInt32 >>> ((1 : Int32).toUInt32 &&& Int32.toUInt32 31)).toInt32) &&& 1431655765)) &&& 858993459) + ((((p0 - (((p0.toUInt32 >>> ((1 : Int32).toUInt32 &&& Int32.toUInt32 31)).toInt32) &&& 1431655765)).toUInt32 >>> ((2 : Int32).toUInt32 &&& Int32.toUInt32 31)).toInt32) &&& 858993459)).toUInt32 >>> ((4 : Int32).toUInt32 &&& Int32.toUInt32 31)).toInt32) hx hb dJ6_bitCount_0f7a4_27 rfl ?_
  refine lv_iadd hx hb dJ6_bitCount_0f7a4_28 ?_
  refine lv_ldcw hx hb hown hC267 dJ6_bitCount_0f7a4_29 ?_
  refine lv_iand hx hb dJ6_bitCount_0f7a4_32 ?_
  refine lv_istore_n (lv' := [(0, .int (((((p0 - (((p0.toUInt32 >>> ((1 : Int32).toUInt32 &&& Int32.toUInt32 31)).toInt32) &&& 1431655765)) &&& 858993459) + ((((p0 - (((p0.toUInt32 >>> ((1 : Int32).toUInt32 &&& Int32.toUInt32 31)).toInt32) &&& 1431655765)).toUInt32 >>> ((2 : Int32).toUInt32 &&& Int32.toUInt32 31)).toInt32) &&& 858993459)) + (((((p0 - (((p0.toUInt32 >>> ((1 : Int32).toUInt32 &&& Int32.toUInt32 31)).toInt32) &&& 1431655765)) &&& 858993459) + ((((p0 - (((p0.toUInt32 >>> ((1 : Int32).toUInt32 &&& Int32.toUInt32 31)).toInt32) &&& 1431655765)).toUInt32 >>> ((2 : Int32).toUInt32 &&& Int32.toUInt32 31)).toInt32) &&& 858993459)).toUInt32 >>> ((4 : Int32).toUInt32 &&& Int32.toUInt32 31)).toInt32)) &&& 252645135))]) hx hb dJ6_bitCount_0f7a4_33 rfl hl (by decide) rfl (fun ls hl => ?_)
  refine lv_iload_n hx hb dJ6_bitCount_0f7a4_34 rfl (lv_at hl 0 rfl) ?_
  refine lv_iload_n hx hb dJ6_bitCount_0f7a4_35 rfl (lv_at hl 0 rfl) ?_
  refine lv_bipush (v := 8) hx hb dJ6_bitCount_0f7a4_36 (by decide) ?_
  refine lv_iushr (v := ((((((p0 - (((p0.toUInt32 >>> ((1 : Int32).toUInt32 &&& Int32.toUInt32 31)).toInt32) &&& 1431655765)) &&& 858993459) + ((((p0 - (((p0.toUInt32 >>> ((1 : Int32).toUInt32 &&& Int32.toUInt32 31)).toInt32) &&& 1431655765)).toUInt32 >>> ((2 : Int32).toUInt32 &&& Int32.toUInt32 31)).toInt32) &&& 858993459)) + (((((p0 - (((p0.toUInt32 >>> ((1 : Int32).toUInt32 &&& Int32.toUInt32 31)).toInt32) &&& 1431655765)) &&& 858993459) + ((((p0 - (((p0.toUInt32 >>> ((1 : Int32).toUInt32 &&& Int32.toUInt32 31)).toInt32) &&& 1431655765)).toUInt32 >>> ((2 : Int32).toUInt32 &&& Int32.toUInt32 31)).toInt32) &&& 858993459)).toUInt32 >>> ((4 : Int32).toUInt32 &&& Int32.toUInt32 31)).toInt32)) &&& 252645135).toUInt32 >>> ((8 : Int32).toUInt32 &&& Int32.toUInt32 31)).toInt32) hx hb dJ6_bitCount_0f7a4_38 rfl ?_
  refine lv_iadd hx hb dJ6_bitCount_0f7a4_39 ?_
  refine lv_istore_n (lv' := [(0, .int ((((((p0 - (((p0.toUInt32 >>> ((1 : Int32).toUInt32 &&& Int32.toUInt32 31)).toInt32) &&& 1431655765)) &&& 858993459) + ((((p0 - (((p0.toUInt32 >>> ((1 : Int32).toUInt32 &&& Int32.toUInt32 31)).toInt32) &&& 1431655765)).toUInt32 >>> ((2 : Int32).toUInt32 &&& Int32.toUInt32 31)).toInt32) &&& 858993459)) + (((((p0 - (((p0.toUInt32 >>> ((1 : Int32).toUInt32 &&& Int32.toUInt32 31)).toInt32) &&& 1431655765)) &&& 858993459) + ((((p0 - (((p0.toUInt32 >>> ((1 : Int32).toUInt32 &&& Int32.toUInt32 31)).toInt32) &&& 1431655765)).toUInt32 >>> ((2 : Int32).toUInt32 &&& Int32.toUInt32 31)).toInt32) &&& 858993459)).toUInt32 >>> ((4 : Int32).toUInt32 &&& Int32.toUInt32 31)).toInt32)) &&& 252645135) + (((((((p0 - (((p0.toUInt32 >>> ((1 : Int32).toUInt32 &&& Int32.toUInt32 31)).toInt32) &&& 1431655765)) &&& 858993459) + ((((p0 - (((p0.toUInt32 >>> ((1 : Int32).toUInt32 &&& Int32.toUInt32 31)).toInt32) &&& 1431655765)).toUInt32 >>> ((2 : Int32).toUInt32 &&& Int32.toUInt32 31)).toInt32) &&& 858993459)) + (((((p0 - (((p0.toUInt32 >>> ((1 : Int32).toUInt32 &&& Int32.toUInt32 31)).toInt32) &&& 1431655765)) &&& 858993459) + ((((p0 - (((p0.toUInt32 >>> ((1 : Int32).toUInt32 &&& Int32.toUInt32 31)).toInt32) &&& 1431655765)).toUInt32 >>> ((2 : Int32).toUInt32 &&& Int32.toUInt32 31)).toInt32) &&& 858993459)).toUInt32 >>> ((4 : Int32).toUInt32 &&& Int32.toUInt32 31)).toInt32)) &&& 252645135).toUInt32 >>> ((8 : Int32).toUInt32 &&& Int32.toUInt32 31)).toInt32)))]) hx hb dJ6_bitCount_0f7a4_40 rfl hl (by decide) rfl (fun ls hl => ?_)
  refine lv_iload_n hx hb dJ6_bitCount_0f7a4_41 rfl (lv_at hl 0 rfl) ?_
  refine lv_iload_n hx hb dJ6_bitCount_0f7a4_42 rfl (lv_at hl 0 rfl) ?_
  refine lv_bipush (v := 16) hx hb dJ6_bitCount_0f7a4_43 (by decide) ?_
  refine lv_iushr (v := (((((((p0 - (((p0.toUInt32 >>> ((1 : Int32).toUInt32 &&& Int32.toUInt32 31)).toInt32) &&& 1431655765)) &&& 858993459) + ((((p0 - (((p0.toUInt32 >>> ((1 : Int32).toUInt32 &&& Int32.toUInt32 31)).toInt32) &&& 1431655765)).toUInt32 >>> ((2 : Int32).toUInt32 &&& Int32.toUInt32 31)).toInt32) &&& 858993459)) + (((((p0 - (((p0.toUInt32 >>> ((1 : Int32).toUInt32 &&& Int32.toUInt32 31)).toInt32) &&& 1431655765)) &&& 858993459) + ((((p0 - (((p0.toUInt32 >>> ((1 : Int32).toUInt32 &&& Int32.toUInt32 31)).toInt32) &&& 1431655765)).toUInt32 >>> ((2 : Int32).toUInt32 &&& Int32.toUInt32 31)).toInt32) &&& 858993459)).toUInt32 >>> ((4 : Int32).toUInt32 &&& Int32.toUInt32 31)).toInt32)) &&& 252645135) + (((((((p0 - (((p0.toUInt32 >>> ((1 : Int32).toUInt32 &&& Int32.toUInt32 31)).toInt32) &&& 1431655765)) &&& 858993459) + ((((p0 - (((p0.toUInt32 >>> ((1 : Int32).toUInt32 &&& Int32.toUInt32 31)).toInt32) &&& 1431655765)).toUInt32 >>> ((2 : Int32).toUInt32 &&& Int32.toUInt32 31)).toInt32) &&& 858993459)) + (((((p0 - (((p0.toUInt32 >>> ((1 : Int32).toUInt32 &&& Int32.toUInt32 31)).toInt32) &&& 1431655765)) &&& 858993459) + ((((p0 - (((p0.toUInt32 >>> ((1 : Int32).toUInt32 &&& Int32.toUInt32 31)).toInt32) &&& 1431655765)).toUInt32 >>> ((2 : Int32).toUInt32 &&& Int32.toUInt32 31)).toInt32) &&& 858993459)).toUInt32 >>> ((4 : Int32).toUInt32 &&& Int32.toUInt32 31)).toInt32)) &&& 252645135).toUInt32 >>> ((8 : Int32).toUInt32 &&& Int32.toUInt32 31)).toInt32)).toUInt32 >>> ((16 : Int32).toUInt32 &&& Int32.toUInt32 31)).toInt32) hx hb dJ6_bitCount_0f7a4_45 rfl ?_
  refine lv_iadd hx hb dJ6_bitCount_0f7a4_46 ?_
  refine lv_istore_n (lv' := [(0, .int (((((((p0 - (((p0.toUInt32 >>> ((1 : Int32).toUInt32 &&& Int32.toUInt32 31)).toInt32) &&& 1431655765)) &&& 858993459) + ((((p0 - (((p0.toUInt32 >>> ((1 : Int32).toUInt32 &&& Int32.toUInt32 31)).toInt32) &&& 1431655765)).toUInt32 >>> ((2 : Int32).toUInt32 &&& Int32.toUInt32 31)).toInt32) &&& 858993459)) + (((((p0 - (((p0.toUInt32 >>> ((1 : Int32).toUInt32 &&& Int32.toUInt32 31)).toInt32) &&& 1431655765)) &&& 858993459) + ((((p0 - (((p0.toUInt32 >>> ((1 : Int32).toUInt32 &&& Int32.toUInt32 31)).toInt32) &&& 1431655765)).toUInt32 >>> ((2 : Int32).toUInt32 &&& Int32.toUInt32 31)).toInt32) &&& 858993459)).toUInt32 >>> ((4 : Int32).toUInt32 &&& Int32.toUInt32 31)).toInt32)) &&& 252645135) + (((((((p0 - (((p0.toUInt32 >>> ((1 : Int32).toUInt32 &&& Int32.toUInt32 31)).toInt32) &&& 1431655765)) &&& 858993459) + ((((p0 - (((p0.toUInt32 >>> ((1 : Int32).toUInt32 &&& Int32.toUInt32 31)).toInt32) &&& 1431655765)).toUInt32 >>> ((2 : Int32).toUInt32 &&& Int32.toUInt32 31)).toInt32) &&& 858993459)) + (((((p0 - (((p0.toUInt32 >>> ((1 : Int32).toUInt32 &&& Int32.toUInt32 31)).toInt32) &&& 1431655765)) &&& 858993459) + ((((p0 - (((p0.toUInt32 >>> ((1 : Int32).toUInt32 &&& Int32.toUInt32 31)).toInt32) &&& 1431655765)).toUInt32 >>> ((2 : Int32).toUInt32 &&& Int32.toUInt32 31)).toInt32) &&& 858993459)).toUInt32 >>> ((4 : Int32).toUInt32 &&& Int32.toUInt32 31)).toInt32)) &&& 252645135).toUInt32 >>> ((8 : Int32).toUInt32 &&& Int32.toUInt32 31)).toInt32)) + ((((((((p0 - (((p0.toUInt32 >>> ((1 : Int32).toUInt32 &&& Int32.toUInt32 31)).toInt32) &&& 1431655765)) &&& 858993459) + ((((p0 - (((p0.toUInt32 >>> ((1 : Int32).toUInt32 &&& Int32.toUInt32 31)).toInt32) &&& 1431655765)).toUInt32 >>> ((2 : Int32).toUInt32 &&& Int32.toUInt32 31)).toInt32) &&& 858993459)) + (((((p0 - (((p0.toUInt32 >>> ((1 : Int32).toUInt32 &&& Int32.toUInt32 31)).toInt32) &&& 1431655765)) &&& 858993459) + ((((p0 - (((p0.toUInt32 >>> ((1 : Int32).toUInt32 &&& Int32.toUInt32 31)).toInt32) &&& 1431655765)).toUInt32 >>> ((2 : Int32).toUInt32 &&& Int32.toUInt32 31)).toInt32) &&& 858993459)).toUInt32 >>> ((4 : Int32).toUInt32 &&& Int32.toUInt32 31)).toInt32)) &&& 252645135) + (((((((p0 - (((p0.toUInt32 >>> ((1 : Int32).toUInt32 &&& Int32.toUInt32 31)).toInt32) &&& 1431655765)) &&& 858993459) + ((((p0 - (((p0.toUInt32 >>> ((1 : Int32).toUInt32 &&& Int32.toUInt32 31)).toInt32) &&& 1431655765)).toUInt32 >>> ((2 : Int32).toUInt32 &&& Int32.toUInt32 31)).toInt32) &&& 858993459)) + (((((p0 - (((p0.toUInt32 >>> ((1 : Int32).toUInt32 &&& Int32.toUInt32 31)).toInt32) &&& 1431655765)) &&& 858993459) + ((((p0 - (((p0.toUInt32 >>> ((1 : Int32).toUInt32 &&& Int32.toUInt32 31)).toInt32) &&& 1431655765)).toUInt32 >>> ((2 : Int32).toUInt32 &&& Int32.toUInt32 31)).toInt32) &&& 858993459)).toUInt32 >>> ((4 : Int32).toUInt32 &&& Int32.toUInt32 31)).toInt32)) &&& 252645135).toUInt32 >>> ((8 : Int32).toUInt32 &&& Int32.toUInt32 31)).toInt32)).toUInt32 >>> ((16 : Int32).toUInt32 &&& Int32.toUInt32 31)).toInt32)))]) hx hb dJ6_bitCount_0f7a4_47 rfl hl (by decide) rfl (fun ls hl => ?_)
  refine lv_iload_n hx hb dJ6_bitCount_0f7a4_48 rfl (lv_at hl 0 rfl) ?_
  refine lv_bipush (v := 63) hx hb dJ6_bitCount_0f7a4_49 (by decide) ?_
  refine lv_iand hx hb dJ6_bitCount_0f7a4_51 ?_
  replace h := Option.some.inj h; subst h
  exact hret () H locs _ ls hP hD hS dJ6_bitCount_0f7a4_52 rfl
