/-! WALKS, by wip/whole/gen.py: X3_odds X3_sheet X3_lose X3_put X3_cell X3_copy X3_leaveTrace X3_plainTelling X3_proudTelling X3_abjectTelling X3_tell X3_abjectGreeting X3_lentGreeting X3_greet X3_as X3_trace X3_fault X3_many X3_copyS -/
set_option maxHeartbeats 4000000 in
set_option maxRecDepth 100000 in
theorem c_X3_odds (l : Launch) (dC : Nat → ClassId) (dI : Nat → Nat → Nat) (cyI cyO : ClassId) (aX : Nat → Nat) (aN : Nat → Nat) (aR : Nat) (aT : Nat → Nat) (sz : Nat) (Xreadings : Int32) (Xtrail : Int32) (XlatestFault : Int32) (Ndeeds : Int32) (Npeople : Int32) (Ncatches : Int32) (N_weightOf : Nat → Int32) (N_kindOf : Nat → Int32) (N_doneBy : Nat → Int32) (p1 : Int32) (p2 : Int32) (p3 : Int32) {o : Int64}  (h : f_X3_odds Ndeeds Npeople N_weightOf N_kindOf N_doneBy p1 p2 p3 = some o) : CtL l yX3_odds wsX3_odds { frames := 2, cells := 0, slots := 0, locals := 46 } (dC, dI) [(cyI, .int), (cyO, .object RX0)] [.ref (aX 0), .int p1, .int p2, .int p3] sz [((aX 0), .inr (3, [.ref (aX 1), .ref aR, .ref (aX 2), .ref (aX 3), .int Xreadings, .ref (aN 0), .ref (aT 0), .int Xtrail, .int XlatestFault])), ((aN 0), .inr (2, [.int Ndeeds, .int Npeople, .int Ncatches, .ref (aN 1), .ref (aN 2), .ref (aN 3), .ref (aN 4), .ref (aN 5)])), ((aN 1), .inl (cyI, 6, .inl N_weightOf)), ((aN 2), .inl (cyI, 4, .inl N_kindOf)), ((aN 3), .inl (cyI, 4, .inl N_doneBy))] (fun (_ : Unit) => [((aX 0), .inr (3, [.ref (aX 1), .ref aR, .ref (aX 2), .ref (aX 3), .int Xreadings, .ref (aN 0), .ref (aT 0), .int Xtrail, .int XlatestFault])), ((aN 0), .inr (2, [.int Ndeeds, .int Npeople, .int Ncatches, .ref (aN 1), .ref (aN 2), .ref (aN 3), .ref (aN 4), .ref (aN 5)])), ((aN 1), .inl (cyI, 6, .inl N_weightOf)), ((aN 2), .inl (cyI, 4, .inl N_kindOf)), ((aN 3), .inl (cyI, 4, .inl N_doneBy))]) o := by
  refine CtL.of (cc := cX3_odds) (maxL := 8) (by decide) rfl (Nat.le_of_ble_eq_true rfl) ?_
  intro p e s m args below meth c A Q H locs hx hb hml hown hts hA hK hP hD hS hret ls hl
  have hown : s.vm.findClass RX3 = some m.cls := hown
  have hl : lv_has ls 8 [(0, .ref (aX 0)), (1, .int p1), (2, .int p2), (3, .int p3)] := hl
  unfold f_X3_odds at h
  have hiX3 : ∀ w ∈ u_ws RX3 TX3 9, w ∈ wsX3_odds := by decide +kernel
  have hf35 := hts (.fieldLink RX3 35 "TowerTell" "now" "LTowerTell$Tower;") (by decide +kernel)
  have hL153 := hts (.constantLong RX3 153 (-9223372036854775808)) (by decide +kernel)
  have lp93 : ∀ (n : Nat) (x5 : Int32) (x6 : Int32) (H : Heap) (locs : List Loc) (ls : Array Slot), l_X3_odds_93 Ndeeds Npeople N_weightOf N_kindOf N_doneBy p1 p2 p3 n (x5, x6) = some o → va_P (dC, dI) vwCl [((aX 0), .inr (3, [.ref (aX 1), .ref aR, .ref (aX 2), .ref (aX 3), .int Xreadings, .ref (aN 0), .ref (aT 0), .int Xtrail, .int XlatestFault])), ((aN 0), .inr (2, [.int Ndeeds, .int Npeople, .int Ncatches, .ref (aN 1), .ref (aN 2), .ref (aN 3), .ref (aN 4), .ref (aN 5)])), ((aN 1), .inl (cyI, 6, .inl N_weightOf)), ((aN 2), .inl (cyI, 4, .inl N_kindOf)), ((aN 3), .inl (cyI, 4, .inl N_doneBy))] H → va_D A [((aX 0), .inr (3, [.ref (aX 1), .ref aR, .ref (aX 2), .ref (aX 3), .int Xreadings, .ref (aN 0), .ref (aT 0), .int Xtrail, .int XlatestFault])), ((aN 0), .inr (2, [.int Ndeeds, .int Npeople, .int Ncatches, .ref (aN 1), .ref (aN 2), .ref (aN 3), .ref (aN 4), .ref (aN 5)])), ((aN 1), .inl (cyI, 6, .inl N_weightOf)), ((aN 2), .inl (cyI, 4, .inl N_kindOf)), ((aN 3), .inl (cyI, 4, .inl N_doneBy))] → va_S A s.heap H locs → lv_has ls 8 [(3, .int p3), (5, .int x5), (6, .int x6)] → W p l e { frames := 2, cells := 0, slots := 0, locals := 46 } s m args below meth c H locs 0 0 Q (F0 m 93 ls []) := by
    intro n
    induction n with
    | zero => intro _ _ H locs ls h _ _ _ _; exact (lpF_0 h).elim
    | succ n ih =>
      intro x5 x6 H locs ls h hP hD hS hl
      replace h : b_X3_odds_93 Ndeeds Npeople N_weightOf N_kindOf N_doneBy p1 p2 p3 (l_X3_odds_93 Ndeeds Npeople N_weightOf N_kindOf N_doneBy p1 p2 p3 n) x5 x6 = some o := h
      unfold b_X3_odds_93 at h
      refine lv_iload hx hb dX3_odds_93 (lv_at hl 2 rfl) ?_
      refine lv_iconst (v := 1) hx hb dX3_odds_95 (by decide) ?_
      refine lv_icmp_le (tgt := 121) hx hb dX3_odds_96 (by decide) (fun c12 => ?_) (fun c12 => ?_)
      · replace h := it_t c12 h
        refine lv_iload_n hx hb dX3_odds_121 rfl (lv_at hl 0 rfl) ?_
        refine lv_if_ne (tgt := 131) hx hb dX3_odds_122 (by decide) (fun c13 => ?_) (fun c13 => ?_)
        · replace h := it_f c13 h
          refine lv_iload hx hb dX3_odds_131 (lv_at hl 2 rfl) ?_
          refine lv_i2l (v := x6.toInt64) hx hb dX3_odds_133 rfl ?_
          replace h := Option.some.inj h; subst h
          exact hret () H locs _ ls hP hD hS dX3_odds_134
        · replace h := it_t c13 h
          refine lv_iload hx hb dX3_odds_125 (lv_at hl 1 rfl) ?_
          refine lv_i2l (v := x5.toInt64) hx hb dX3_odds_127 rfl ?_
          refine lv_goto (tgt := 134) hx hb dX3_odds_128 (by decide) ?_
          replace h := Option.some.inj h; subst h
          exact hret () H locs _ ls hP hD hS dX3_odds_134
      · replace h := it_f c12 h
        refine lv_iload hx hb dX3_odds_99 (lv_at hl 1 rfl) ?_
        refine lv_iconst (v := 1) hx hb dX3_odds_101 (by decide) ?_
        refine lv_iand hx hb dX3_odds_102 ?_
        refine lv_if_ne (tgt := 121) hx hb dX3_odds_103 (by decide) (fun c14 => ?_) (fun c14 => ?_)
        · replace h := it_f c14 h
          refine lv_iload_n hx hb dX3_odds_121 rfl (lv_at hl 0 rfl) ?_
          refine lv_if_ne (tgt := 131) hx hb dX3_odds_122 (by decide) (fun c15 => ?_) (fun c15 => ?_)
          · replace h := it_f c15 h
            refine lv_iload hx hb dX3_odds_131 (lv_at hl 2 rfl) ?_
            refine lv_i2l (v := x6.toInt64) hx hb dX3_odds_133 rfl ?_
            replace h := Option.some.inj h; subst h
            exact hret () H locs _ ls hP hD hS dX3_odds_134
          · replace h := it_t c15 h
            refine lv_iload hx hb dX3_odds_125 (lv_at hl 1 rfl) ?_
            refine lv_i2l (v := x5.toInt64) hx hb dX3_odds_127 rfl ?_
            refine lv_goto (tgt := 134) hx hb dX3_odds_128 (by decide) ?_
            replace h := Option.some.inj h; subst h
            exact hret () H locs _ ls hP hD hS dX3_odds_134
        · replace h := it_t c14 h
          refine lv_iload hx hb dX3_odds_106 (lv_at hl 1 rfl) ?_
          refine lv_iconst (v := 1) hx hb dX3_odds_108 (by decide) ?_
          refine lv_ishr hx hb dX3_odds_109 ?_
          refine lv_istore (lv' := [(5, .int (x5 >>> (1 &&& 31))), (3, .int p3), (6, .int x6)]) hx hb dX3_odds_110 hl (by decide) rfl (fun ls hl => ?_)
          refine lv_iload hx hb dX3_odds_112 (lv_at hl 2 rfl) ?_
          refine lv_iconst (v := 1) hx hb dX3_odds_114 (by decide) ?_
          refine lv_ishr hx hb dX3_odds_115 ?_
          refine lv_istore (lv' := [(6, .int (x6 >>> (1 &&& 31))), (5, .int (x5 >>> (1 &&& 31))), (3, .int p3)]) hx hb dX3_odds_116 hl (by decide) rfl (fun ls hl => ?_)
          refine lv_goto (tgt := 93) hx hb dX3_odds_118 (by decide) ?_
          exact ih (x5 >>> (1 &&& 31)) (x6 >>> (1 &&& 31)) H locs ls h hP hD hS (lv_sub hl [2, 1, 0] rfl)
  have lp53 : ∀ (n : Nat) (x4 : Int32) (x5 : Int32) (x6 : Int32) (x7 : Int32) (H : Heap) (locs : List Loc) (ls : Array Slot), l_X3_odds_53 Ndeeds Npeople N_weightOf N_kindOf N_doneBy p1 p2 p3 n (x4, x5, x6, x7) = some o → va_P (dC, dI) vwCl [((aX 0), .inr (3, [.ref (aX 1), .ref aR, .ref (aX 2), .ref (aX 3), .int Xreadings, .ref (aN 0), .ref (aT 0), .int Xtrail, .int XlatestFault])), ((aN 0), .inr (2, [.int Ndeeds, .int Npeople, .int Ncatches, .ref (aN 1), .ref (aN 2), .ref (aN 3), .ref (aN 4), .ref (aN 5)])), ((aN 1), .inl (cyI, 6, .inl N_weightOf)), ((aN 2), .inl (cyI, 4, .inl N_kindOf)), ((aN 3), .inl (cyI, 4, .inl N_doneBy))] H → va_D A [((aX 0), .inr (3, [.ref (aX 1), .ref aR, .ref (aX 2), .ref (aX 3), .int Xreadings, .ref (aN 0), .ref (aT 0), .int Xtrail, .int XlatestFault])), ((aN 0), .inr (2, [.int Ndeeds, .int Npeople, .int Ncatches, .ref (aN 1), .ref (aN 2), .ref (aN 3), .ref (aN 4), .ref (aN 5)])), ((aN 1), .inl (cyI, 6, .inl N_weightOf)), ((aN 2), .inl (cyI, 4, .inl N_kindOf)), ((aN 3), .inl (cyI, 4, .inl N_doneBy))] → va_S A s.heap H locs → lv_has ls 8 [(0, .ref (aX 0)), (1, .int p1), (2, .int p2), (3, .int p3), (4, .int x4), (5, .int x5), (6, .int x6), (7, .int x7)] → W p l e { frames := 2, cells := 0, slots := 0, locals := 46 } s m args below meth c H locs 0 0 Q (F0 m 53 ls []) := by
    intro n
    induction n with
    | zero => intro _ _ _ _ H locs ls h _ _ _ _; exact (lpF_0 h).elim
    | succ n ih =>
      intro x4 x5 x6 x7 H locs ls h hP hD hS hl
      replace h : b_X3_odds_53 Ndeeds Npeople N_weightOf N_kindOf N_doneBy p1 p2 p3 (l_X3_odds_53 Ndeeds Npeople N_weightOf N_kindOf N_doneBy p1 p2 p3 n) x4 x5 x6 x7 = some o := h
      unfold b_X3_odds_53 at h
      refine lv_iload hx hb dX3_odds_53 (lv_at hl 7 rfl) ?_
      refine lv_iload hx hb dX3_odds_55 (lv_at hl 4 rfl) ?_
      refine lv_icmp_gt (tgt := 93) hx hb dX3_odds_57 (by decide) (fun c11 => ?_) (fun c11 => ?_)
      · replace h := it_t c11 h
        exact lp93 99 x5 x6 H locs ls h hP hD hS (lv_sub hl [3, 5, 6] rfl)
      · replace h := it_f c11 h
        refine lv_iload hx hb dX3_odds_60 (lv_at hl 7 rfl) ?_
        refine lv_iload hx hb dX3_odds_62 (lv_at hl 4 rfl) ?_
        obtain ⟨o16, hc17, h⟩ := ob h
        refine k_si (As := [.int x7, .int x4]) (rest := []) ⟨hx, hb, hml, hown, hts⟩ (c_X3_isWithin l dC dI cyI cyO H.size x7 x4 hc17) (va_cwS 2 hts gX3_odds_X3_isWithin rfl rfl rfl (by decide +kernel) ⟨Nat.le_of_ble_eq_true rfl, Nat.le_of_ble_eq_true rfl⟩) hP hD hK hS hA [] [0, 1, 2, 3, 4] rfl rfl (by decide) (by decide) (by decide) rfl hl.1 rfl (Nat.le_of_ble_eq_true rfl) dX3_odds_64 ⟨Nat.zero_le _, Nat.zero_le _⟩ (fun _ H locs hP hD hS => ?_)
        have hP : va_P (dC, dI) vwCl [((aX 0), .inr (3, [.ref (aX 1), .ref aR, .ref (aX 2), .ref (aX 3), .int Xreadings, .ref (aN 0), .ref (aT 0), .int Xtrail, .int XlatestFault])), ((aN 0), .inr (2, [.int Ndeeds, .int Npeople, .int Ncatches, .ref (aN 1), .ref (aN 2), .ref (aN 3), .ref (aN 4), .ref (aN 5)])), ((aN 1), .inl (cyI, 6, .inl N_weightOf)), ((aN 2), .inl (cyI, 4, .inl N_kindOf)), ((aN 3), .inl (cyI, 4, .inl N_doneBy))] H := hP
        have hD : va_D A [((aX 0), .inr (3, [.ref (aX 1), .ref aR, .ref (aX 2), .ref (aX 3), .int Xreadings, .ref (aN 0), .ref (aT 0), .int Xtrail, .int XlatestFault])), ((aN 0), .inr (2, [.int Ndeeds, .int Npeople, .int Ncatches, .ref (aN 1), .ref (aN 2), .ref (aN 3), .ref (aN 4), .ref (aN 5)])), ((aN 1), .inl (cyI, 6, .inl N_weightOf)), ((aN 2), .inl (cyI, 4, .inl N_kindOf)), ((aN 3), .inl (cyI, 4, .inl N_doneBy))] := hD
        refine lv_if_eq (tgt := 87) hx hb dX3_odds_67 (by decide) (fun c18 => ?_) (fun c18 => ?_)
        · replace h := it_t c18 h
          refine lv_iinc (v := (x7 + 1)) (lv' := [(7, .int (x7 + 1)), (0, .ref (aX 0)), (1, .int p1), (2, .int p2), (3, .int p3), (4, .int x4), (5, .int x5), (6, .int x6)]) hx hb dX3_odds_87 hl (k := 7) rfl rfl (by decide) rfl (fun ls hl => ?_)
          refine lv_goto (tgt := 53) hx hb dX3_odds_90 (by decide) ?_
          exact ih x4 x5 x6 (x7 + 1) H locs ls h hP hD hS (lv_sub hl [1, 2, 3, 4, 5, 6, 7, 0] rfl)
        · replace h := it_f c18 h
          refine lv_aload_n hx hb dX3_odds_70 rfl (lv_at hl 0 rfl) ?_
          refine va_get (D := (dC, dI)) (ci := 3) (v := .ref (aN 0)) (C := RX3) (T := TX3) (N := 9) hx hb hts hiX3 hown hK hP 0 rfl rfl 5 (by decide) hf35 (fun _ h9 => h9) rfl dX3_odds_71 ?_
          refine lv_iload_n hx hb dX3_odds_74 rfl (lv_at hl 1 rfl) ?_
          refine lv_iload hx hb dX3_odds_75 (lv_at hl 7 rfl) ?_
          obtain ⟨o19, hc20, h⟩ := ob h
          refine k_vi (As := [.int p1, .int x7]) (rest := []) ⟨hx, hb, hml, hown, hts⟩ (c_X2_floorBy l dC dI cyI cyO aN H.size Ndeeds Npeople Ncatches N_weightOf N_kindOf p1 x7 hc20) (cwV 2 hts gX3_odds_X2_floorBy rfl rfl rfl (by decide +kernel) ⟨Nat.le_of_ble_eq_true rfl, Nat.le_of_ble_eq_true rfl⟩) hP hD hK hS hA [1, 2, 3] [0, 4] rfl rfl (by decide) (by decide) (by decide) 2 0 rfl rfl rfl rfl hl.1 rfl (Nat.le_of_ble_eq_true rfl) dX3_odds_77 ⟨Nat.zero_le _, Nat.zero_le _⟩ (fun _ H locs hP hD hS => ?_)
          have hP : va_P (dC, dI) vwCl [((aX 0), .inr (3, [.ref (aX 1), .ref aR, .ref (aX 2), .ref (aX 3), .int Xreadings, .ref (aN 0), .ref (aT 0), .int Xtrail, .int XlatestFault])), ((aN 3), .inl (cyI, 4, .inl N_doneBy)), ((aN 0), .inr (2, [.int Ndeeds, .int Npeople, .int Ncatches, .ref (aN 1), .ref (aN 2), .ref (aN 3), .ref (aN 4), .ref (aN 5)])), ((aN 1), .inl (cyI, 6, .inl N_weightOf)), ((aN 2), .inl (cyI, 4, .inl N_kindOf))] H := hP
          have hD : va_D A [((aX 0), .inr (3, [.ref (aX 1), .ref aR, .ref (aX 2), .ref (aX 3), .int Xreadings, .ref (aN 0), .ref (aT 0), .int Xtrail, .int XlatestFault])), ((aN 3), .inl (cyI, 4, .inl N_doneBy)), ((aN 0), .inr (2, [.int Ndeeds, .int Npeople, .int Ncatches, .ref (aN 1), .ref (aN 2), .ref (aN 3), .ref (aN 4), .ref (aN 5)])), ((aN 1), .inl (cyI, 6, .inl N_weightOf)), ((aN 2), .inl (cyI, 4, .inl N_kindOf))] := hD
          refine lv_iload_n hx hb dX3_odds_80 rfl (lv_at hl 2 rfl) ?_
          refine lv_icmp_lt (tgt := 87) hx hb dX3_odds_81 (by decide) (fun c21 => ?_) (fun c21 => ?_)
          · replace h := it_t c21 h
            refine lv_iinc (v := (x7 + 1)) (lv' := [(7, .int (x7 + 1)), (0, .ref (aX 0)), (1, .int p1), (2, .int p2), (3, .int p3), (4, .int x4), (5, .int x5), (6, .int x6)]) hx hb dX3_odds_87 hl (k := 7) rfl rfl (by decide) rfl (fun ls hl => ?_)
            refine lv_goto (tgt := 53) hx hb dX3_odds_90 (by decide) ?_
            have hP := hP.sub (ws' := [((aX 0), .inr (3, [.ref (aX 1), .ref aR, .ref (aX 2), .ref (aX 3), .int Xreadings, .ref (aN 0), .ref (aT 0), .int Xtrail, .int XlatestFault])), ((aN 0), .inr (2, [.int Ndeeds, .int Npeople, .int Ncatches, .ref (aN 1), .ref (aN 2), .ref (aN 3), .ref (aN 4), .ref (aN 5)])), ((aN 1), .inl (cyI, 6, .inl N_weightOf)), ((aN 2), .inl (cyI, 4, .inl N_kindOf)), ((aN 3), .inl (cyI, 4, .inl N_doneBy))]) [0, 2, 3, 4, 1] rfl
            have hD := hD.sub (ws' := [((aX 0), .inr (3, [.ref (aX 1), .ref aR, .ref (aX 2), .ref (aX 3), .int Xreadings, .ref (aN 0), .ref (aT 0), .int Xtrail, .int XlatestFault])), ((aN 0), .inr (2, [.int Ndeeds, .int Npeople, .int Ncatches, .ref (aN 1), .ref (aN 2), .ref (aN 3), .ref (aN 4), .ref (aN 5)])), ((aN 1), .inl (cyI, 6, .inl N_weightOf)), ((aN 2), .inl (cyI, 4, .inl N_kindOf)), ((aN 3), .inl (cyI, 4, .inl N_doneBy))]) [0, 2, 3, 4, 1] (by decide) rfl
            exact ih x4 x5 x6 (x7 + 1) H locs ls h hP hD hS (lv_sub hl [1, 2, 3, 4, 5, 6, 7, 0] rfl)
          · replace h := it_f c21 h
            refine lv_iinc (v := (x5 + 1)) (lv' := [(5, .int (x5 + 1)), (0, .ref (aX 0)), (1, .int p1), (2, .int p2), (3, .int p3), (4, .int x4), (6, .int x6), (7, .int x7)]) hx hb dX3_odds_84 hl (k := 5) rfl rfl (by decide) rfl (fun ls hl => ?_)
            refine lv_iinc (v := (x7 + 1)) (lv' := [(7, .int (x7 + 1)), (5, .int (x5 + 1)), (0, .ref (aX 0)), (1, .int p1), (2, .int p2), (3, .int p3), (4, .int x4), (6, .int x6)]) hx hb dX3_odds_87 hl (k := 7) rfl rfl (by decide) rfl (fun ls hl => ?_)
            refine lv_goto (tgt := 53) hx hb dX3_odds_90 (by decide) ?_
            have hP := hP.sub (ws' := [((aX 0), .inr (3, [.ref (aX 1), .ref aR, .ref (aX 2), .ref (aX 3), .int Xreadings, .ref (aN 0), .ref (aT 0), .int Xtrail, .int XlatestFault])), ((aN 0), .inr (2, [.int Ndeeds, .int Npeople, .int Ncatches, .ref (aN 1), .ref (aN 2), .ref (aN 3), .ref (aN 4), .ref (aN 5)])), ((aN 1), .inl (cyI, 6, .inl N_weightOf)), ((aN 2), .inl (cyI, 4, .inl N_kindOf)), ((aN 3), .inl (cyI, 4, .inl N_doneBy))]) [0, 2, 3, 4, 1] rfl
            have hD := hD.sub (ws' := [((aX 0), .inr (3, [.ref (aX 1), .ref aR, .ref (aX 2), .ref (aX 3), .int Xreadings, .ref (aN 0), .ref (aT 0), .int Xtrail, .int XlatestFault])), ((aN 0), .inr (2, [.int Ndeeds, .int Npeople, .int Ncatches, .ref (aN 1), .ref (aN 2), .ref (aN 3), .ref (aN 4), .ref (aN 5)])), ((aN 1), .inl (cyI, 6, .inl N_weightOf)), ((aN 2), .inl (cyI, 4, .inl N_kindOf)), ((aN 3), .inl (cyI, 4, .inl N_doneBy))]) [0, 2, 3, 4, 1] (by decide) rfl
            exact ih x4 (x5 + 1) x6 (x7 + 1) H locs ls h hP hD hS (lv_sub hl [2, 3, 4, 5, 6, 1, 7, 0] rfl)
  refine lv_aload_n hx hb dX3_odds_0 rfl (lv_at hl 0 rfl) ?_
  refine va_get (D := (dC, dI)) (ci := 3) (v := .ref (aN 0)) (C := RX3) (T := TX3) (N := 9) hx hb hts hiX3 hown hK hP 0 rfl rfl 5 (by decide) hf35 (fun _ h9 => h9) rfl dX3_odds_1 ?_
  refine lv_iload_n hx hb dX3_odds_4 rfl (lv_at hl 1 rfl) ?_
  obtain ⟨o1, hc2, h⟩ := ob h
  refine k_vi (As := [.int p1]) (rest := []) ⟨hx, hb, hml, hown, hts⟩ (c_X2_isPerson l dC dI cyI cyO aN H.size Ndeeds Npeople Ncatches p1 hc2) (cwV 1 hts gX3_odds_X2_isPerson rfl rfl rfl (by decide +kernel) ⟨Nat.le_of_ble_eq_true rfl, Nat.le_of_ble_eq_true rfl⟩) hP hD hK hS hA [1] [0, 2, 3, 4] rfl rfl (by decide) (by decide) (by decide) 2 0 rfl rfl rfl rfl hl.1 rfl (Nat.le_of_ble_eq_true rfl) dX3_odds_5 ⟨Nat.zero_le _, Nat.zero_le _⟩ (fun _ H locs hP hD hS => ?_)
  have hP : va_P (dC, dI) vwCl [((aX 0), .inr (3, [.ref (aX 1), .ref aR, .ref (aX 2), .ref (aX 3), .int Xreadings, .ref (aN 0), .ref (aT 0), .int Xtrail, .int XlatestFault])), ((aN 1), .inl (cyI, 6, .inl N_weightOf)), ((aN 2), .inl (cyI, 4, .inl N_kindOf)), ((aN 3), .inl (cyI, 4, .inl N_doneBy)), ((aN 0), .inr (2, [.int Ndeeds, .int Npeople, .int Ncatches, .ref (aN 1), .ref (aN 2), .ref (aN 3), .ref (aN 4), .ref (aN 5)]))] H := hP
  have hD : va_D A [((aX 0), .inr (3, [.ref (aX 1), .ref aR, .ref (aX 2), .ref (aX 3), .int Xreadings, .ref (aN 0), .ref (aT 0), .int Xtrail, .int XlatestFault])), ((aN 1), .inl (cyI, 6, .inl N_weightOf)), ((aN 2), .inl (cyI, 4, .inl N_kindOf)), ((aN 3), .inl (cyI, 4, .inl N_doneBy)), ((aN 0), .inr (2, [.int Ndeeds, .int Npeople, .int Ncatches, .ref (aN 1), .ref (aN 2), .ref (aN 3), .ref (aN 4), .ref (aN 5)]))] := hD
  refine lv_if_eq (tgt := 24) hx hb dX3_odds_8 (by decide) (fun c3 => ?_) (fun c3 => ?_)
  · replace h := it_t c3 h
    refine lv_ldc2 hx hb hown hL153 dX3_odds_24 ?_
    replace h := Option.some.inj h; subst h
    have hP := hP.sub (ws' := [((aX 0), .inr (3, [.ref (aX 1), .ref aR, .ref (aX 2), .ref (aX 3), .int Xreadings, .ref (aN 0), .ref (aT 0), .int Xtrail, .int XlatestFault])), ((aN 0), .inr (2, [.int Ndeeds, .int Npeople, .int Ncatches, .ref (aN 1), .ref (aN 2), .ref (aN 3), .ref (aN 4), .ref (aN 5)])), ((aN 1), .inl (cyI, 6, .inl N_weightOf)), ((aN 2), .inl (cyI, 4, .inl N_kindOf)), ((aN 3), .inl (cyI, 4, .inl N_doneBy))]) [0, 4, 1, 2, 3] rfl
    have hD := hD.sub (ws' := [((aX 0), .inr (3, [.ref (aX 1), .ref aR, .ref (aX 2), .ref (aX 3), .int Xreadings, .ref (aN 0), .ref (aT 0), .int Xtrail, .int XlatestFault])), ((aN 0), .inr (2, [.int Ndeeds, .int Npeople, .int Ncatches, .ref (aN 1), .ref (aN 2), .ref (aN 3), .ref (aN 4), .ref (aN 5)])), ((aN 1), .inl (cyI, 6, .inl N_weightOf)), ((aN 2), .inl (cyI, 4, .inl N_kindOf)), ((aN 3), .inl (cyI, 4, .inl N_doneBy))]) [0, 4, 1, 2, 3] (by decide) rfl
    exact hret () H locs _ ls hP hD hS dX3_odds_27
  · replace h := it_f c3 h
    refine lv_iload_n hx hb dX3_odds_11 rfl (lv_at hl 2 rfl) ?_
    refine lv_if_lt (tgt := 24) hx hb dX3_odds_12 (by decide) (fun c4 => ?_) (fun c4 => ?_)
    · replace h := it_t c4 h
      refine lv_ldc2 hx hb hown hL153 dX3_odds_24 ?_
      replace h := Option.some.inj h; subst h
      have hP := hP.sub (ws' := [((aX 0), .inr (3, [.ref (aX 1), .ref aR, .ref (aX 2), .ref (aX 3), .int Xreadings, .ref (aN 0), .ref (aT 0), .int Xtrail, .int XlatestFault])), ((aN 0), .inr (2, [.int Ndeeds, .int Npeople, .int Ncatches, .ref (aN 1), .ref (aN 2), .ref (aN 3), .ref (aN 4), .ref (aN 5)])), ((aN 1), .inl (cyI, 6, .inl N_weightOf)), ((aN 2), .inl (cyI, 4, .inl N_kindOf)), ((aN 3), .inl (cyI, 4, .inl N_doneBy))]) [0, 4, 1, 2, 3] rfl
      have hD := hD.sub (ws' := [((aX 0), .inr (3, [.ref (aX 1), .ref aR, .ref (aX 2), .ref (aX 3), .int Xreadings, .ref (aN 0), .ref (aT 0), .int Xtrail, .int XlatestFault])), ((aN 0), .inr (2, [.int Ndeeds, .int Npeople, .int Ncatches, .ref (aN 1), .ref (aN 2), .ref (aN 3), .ref (aN 4), .ref (aN 5)])), ((aN 1), .inl (cyI, 6, .inl N_weightOf)), ((aN 2), .inl (cyI, 4, .inl N_kindOf)), ((aN 3), .inl (cyI, 4, .inl N_doneBy))]) [0, 4, 1, 2, 3] (by decide) rfl
      exact hret () H locs _ ls hP hD hS dX3_odds_27
    · replace h := it_f c4 h
      refine lv_iload_n hx hb dX3_odds_15 rfl (lv_at hl 3 rfl) ?_
      refine lv_if_lt (tgt := 24) hx hb dX3_odds_16 (by decide) (fun c5 => ?_) (fun c5 => ?_)
      · replace h := it_t c5 h
        refine lv_ldc2 hx hb hown hL153 dX3_odds_24 ?_
        replace h := Option.some.inj h; subst h
        have hP := hP.sub (ws' := [((aX 0), .inr (3, [.ref (aX 1), .ref aR, .ref (aX 2), .ref (aX 3), .int Xreadings, .ref (aN 0), .ref (aT 0), .int Xtrail, .int XlatestFault])), ((aN 0), .inr (2, [.int Ndeeds, .int Npeople, .int Ncatches, .ref (aN 1), .ref (aN 2), .ref (aN 3), .ref (aN 4), .ref (aN 5)])), ((aN 1), .inl (cyI, 6, .inl N_weightOf)), ((aN 2), .inl (cyI, 4, .inl N_kindOf)), ((aN 3), .inl (cyI, 4, .inl N_doneBy))]) [0, 4, 1, 2, 3] rfl
        have hD := hD.sub (ws' := [((aX 0), .inr (3, [.ref (aX 1), .ref aR, .ref (aX 2), .ref (aX 3), .int Xreadings, .ref (aN 0), .ref (aT 0), .int Xtrail, .int XlatestFault])), ((aN 0), .inr (2, [.int Ndeeds, .int Npeople, .int Ncatches, .ref (aN 1), .ref (aN 2), .ref (aN 3), .ref (aN 4), .ref (aN 5)])), ((aN 1), .inl (cyI, 6, .inl N_weightOf)), ((aN 2), .inl (cyI, 4, .inl N_kindOf)), ((aN 3), .inl (cyI, 4, .inl N_doneBy))]) [0, 4, 1, 2, 3] (by decide) rfl
        exact hret () H locs _ ls hP hD hS dX3_odds_27
      · replace h := it_f c5 h
        refine lv_iload_n hx hb dX3_odds_19 rfl (lv_at hl 3 rfl) ?_
        refine lv_iconst (v := 1) hx hb dX3_odds_20 (by decide) ?_
        refine lv_icmp_le (tgt := 28) hx hb dX3_odds_21 (by decide) (fun c6 => ?_) (fun c6 => ?_)
        · replace h := it_t c6 h
          refine lv_aload_n hx hb dX3_odds_28 rfl (lv_at hl 0 rfl) ?_
          refine va_get (D := (dC, dI)) (ci := 3) (v := .ref (aN 0)) (C := RX3) (T := TX3) (N := 9) hx hb hts hiX3 hown hK hP 0 rfl rfl 5 (by decide) hf35 (fun _ h9 => h9) rfl dX3_odds_29 ?_
          refine lv_iload_n hx hb dX3_odds_32 rfl (lv_at hl 1 rfl) ?_
          obtain ⟨o7, hc8, h⟩ := ob h
          refine k_vi (As := [.int p1]) (rest := []) ⟨hx, hb, hml, hown, hts⟩ (c_X2_truthsOf l dC dI cyI cyO aN H.size Ndeeds Npeople Ncatches N_doneBy p1 hc8) (cwV 1 hts gX3_odds_X2_truthsOf rfl rfl rfl (by decide +kernel) ⟨Nat.le_of_ble_eq_true rfl, Nat.le_of_ble_eq_true rfl⟩) hP hD hK hS hA [4, 3] [0, 1, 2] rfl rfl (by decide) (by decide) (by decide) 2 0 rfl rfl rfl rfl hl.1 rfl (Nat.le_of_ble_eq_true rfl) dX3_odds_33 ⟨Nat.zero_le _, Nat.zero_le _⟩ (fun _ H locs hP hD hS => ?_)
          have hP : va_P (dC, dI) vwCl [((aX 0), .inr (3, [.ref (aX 1), .ref aR, .ref (aX 2), .ref (aX 3), .int Xreadings, .ref (aN 0), .ref (aT 0), .int Xtrail, .int XlatestFault])), ((aN 1), .inl (cyI, 6, .inl N_weightOf)), ((aN 2), .inl (cyI, 4, .inl N_kindOf)), ((aN 0), .inr (2, [.int Ndeeds, .int Npeople, .int Ncatches, .ref (aN 1), .ref (aN 2), .ref (aN 3), .ref (aN 4), .ref (aN 5)])), ((aN 3), .inl (cyI, 4, .inl N_doneBy))] H := hP
          have hD : va_D A [((aX 0), .inr (3, [.ref (aX 1), .ref aR, .ref (aX 2), .ref (aX 3), .int Xreadings, .ref (aN 0), .ref (aT 0), .int Xtrail, .int XlatestFault])), ((aN 1), .inl (cyI, 6, .inl N_weightOf)), ((aN 2), .inl (cyI, 4, .inl N_kindOf)), ((aN 0), .inr (2, [.int Ndeeds, .int Npeople, .int Ncatches, .ref (aN 1), .ref (aN 2), .ref (aN 3), .ref (aN 4), .ref (aN 5)])), ((aN 3), .inl (cyI, 4, .inl N_doneBy))] := hD
          refine lv_istore (lv' := [(4, .int o7), (0, .ref (aX 0)), (1, .int p1), (2, .int p2), (3, .int p3)]) hx hb dX3_odds_36 hl (by decide) rfl (fun ls hl => ?_)
          refine lv_iconst (v := 0) hx hb dX3_odds_38 (by decide) ?_
          refine lv_istore (lv' := [(5, .int 0), (4, .int o7), (0, .ref (aX 0)), (1, .int p1), (2, .int p2), (3, .int p3)]) hx hb dX3_odds_39 hl (by decide) rfl (fun ls hl => ?_)
          refine lv_iconst (v := 1) hx hb dX3_odds_41 (by decide) ?_
          refine lv_iload hx hb dX3_odds_42 (lv_at hl 1 rfl) ?_
          obtain ⟨o9, hc10, h⟩ := ob h
          refine k_si (As := [.int o7]) (rest := [.int 1]) ⟨hx, hb, hml, hown, hts⟩ (c_J6_bitCount_0f7a4 l dC dI cyI cyO H.size o7 hc10) (va_cwS 1 hts gX3_odds_J6_bitCount_0f7a4 rfl rfl rfl (by decide +kernel) ⟨Nat.le_of_ble_eq_true rfl, Nat.le_of_ble_eq_true rfl⟩) hP hD hK hS hA [] [0, 1, 2, 3, 4] rfl rfl (by decide) (by decide) (by decide) rfl hl.1 rfl (Nat.le_of_ble_eq_true rfl) dX3_odds_44 ⟨Nat.zero_le _, Nat.zero_le _⟩ (fun _ H locs hP hD hS => ?_)
          have hP : va_P (dC, dI) vwCl [((aX 0), .inr (3, [.ref (aX 1), .ref aR, .ref (aX 2), .ref (aX 3), .int Xreadings, .ref (aN 0), .ref (aT 0), .int Xtrail, .int XlatestFault])), ((aN 1), .inl (cyI, 6, .inl N_weightOf)), ((aN 2), .inl (cyI, 4, .inl N_kindOf)), ((aN 0), .inr (2, [.int Ndeeds, .int Npeople, .int Ncatches, .ref (aN 1), .ref (aN 2), .ref (aN 3), .ref (aN 4), .ref (aN 5)])), ((aN 3), .inl (cyI, 4, .inl N_doneBy))] H := hP
          have hD : va_D A [((aX 0), .inr (3, [.ref (aX 1), .ref aR, .ref (aX 2), .ref (aX 3), .int Xreadings, .ref (aN 0), .ref (aT 0), .int Xtrail, .int XlatestFault])), ((aN 1), .inl (cyI, 6, .inl N_weightOf)), ((aN 2), .inl (cyI, 4, .inl N_kindOf)), ((aN 0), .inr (2, [.int Ndeeds, .int Npeople, .int Ncatches, .ref (aN 1), .ref (aN 2), .ref (aN 3), .ref (aN 4), .ref (aN 5)])), ((aN 3), .inl (cyI, 4, .inl N_doneBy))] := hD
          refine lv_ishl hx hb dX3_odds_47 ?_
          refine lv_istore (lv' := [(6, .int (1 <<< (o9 &&& 31))), (5, .int 0), (4, .int o7), (0, .ref (aX 0)), (1, .int p1), (2, .int p2), (3, .int p3)]) hx hb dX3_odds_48 hl (by decide) rfl (fun ls hl => ?_)
          refine lv_iconst (v := 0) hx hb dX3_odds_50 (by decide) ?_
          refine lv_istore (lv' := [(7, .int 0), (6, .int (1 <<< (o9 &&& 31))), (5, .int 0), (4, .int o7), (0, .ref (aX 0)), (1, .int p1), (2, .int p2), (3, .int p3)]) hx hb dX3_odds_51 hl (by decide) rfl (fun ls hl => ?_)
          have hP := hP.sub (ws' := [((aX 0), .inr (3, [.ref (aX 1), .ref aR, .ref (aX 2), .ref (aX 3), .int Xreadings, .ref (aN 0), .ref (aT 0), .int Xtrail, .int XlatestFault])), ((aN 0), .inr (2, [.int Ndeeds, .int Npeople, .int Ncatches, .ref (aN 1), .ref (aN 2), .ref (aN 3), .ref (aN 4), .ref (aN 5)])), ((aN 1), .inl (cyI, 6, .inl N_weightOf)), ((aN 2), .inl (cyI, 4, .inl N_kindOf)), ((aN 3), .inl (cyI, 4, .inl N_doneBy))]) [0, 3, 1, 2, 4] rfl
          have hD := hD.sub (ws' := [((aX 0), .inr (3, [.ref (aX 1), .ref aR, .ref (aX 2), .ref (aX 3), .int Xreadings, .ref (aN 0), .ref (aT 0), .int Xtrail, .int XlatestFault])), ((aN 0), .inr (2, [.int Ndeeds, .int Npeople, .int Ncatches, .ref (aN 1), .ref (aN 2), .ref (aN 3), .ref (aN 4), .ref (aN 5)])), ((aN 1), .inl (cyI, 6, .inl N_weightOf)), ((aN 2), .inl (cyI, 4, .inl N_kindOf)), ((aN 3), .inl (cyI, 4, .inl N_doneBy))]) [0, 3, 1, 2, 4] (by decide) rfl
          exact lp53 99 o7 0 (1 <<< (o9 &&& 31)) 0 H locs ls h hP hD hS (lv_sub hl [4, 5, 6, 7, 3, 2, 1, 0] rfl)
        · replace h := it_f c6 h
          refine lv_ldc2 hx hb hown hL153 dX3_odds_24 ?_
          replace h := Option.some.inj h; subst h
          have hP := hP.sub (ws' := [((aX 0), .inr (3, [.ref (aX 1), .ref aR, .ref (aX 2), .ref (aX 3), .int Xreadings, .ref (aN 0), .ref (aT 0), .int Xtrail, .int XlatestFault])), ((aN 0), .inr (2, [.int Ndeeds, .int Npeople, .int Ncatches, .ref (aN 1), .ref (aN 2), .ref (aN 3), .ref (aN 4), .ref (aN 5)])), ((aN 1), .inl (cyI, 6, .inl N_weightOf)), ((aN 2), .inl (cyI, 4, .inl N_kindOf)), ((aN 3), .inl (cyI, 4, .inl N_doneBy))]) [0, 4, 1, 2, 3] rfl
          have hD := hD.sub (ws' := [((aX 0), .inr (3, [.ref (aX 1), .ref aR, .ref (aX 2), .ref (aX 3), .int Xreadings, .ref (aN 0), .ref (aT 0), .int Xtrail, .int XlatestFault])), ((aN 0), .inr (2, [.int Ndeeds, .int Npeople, .int Ncatches, .ref (aN 1), .ref (aN 2), .ref (aN 3), .ref (aN 4), .ref (aN 5)])), ((aN 1), .inl (cyI, 6, .inl N_weightOf)), ((aN 2), .inl (cyI, 4, .inl N_kindOf)), ((aN 3), .inl (cyI, 4, .inl N_doneBy))]) [0, 4, 1, 2, 3] (by decide) rfl
          exact hret () H locs _ ls hP hD hS dX3_odds_27
set_option maxHeartbeats 4000000 in
set_option maxRecDepth 100000 in
theorem c_X3_sheet (l : Launch) (dC : Nat → ClassId) (dI : Nat → Nat → Nat) (cyI cyO : ClassId) (aX : Nat → Nat) (aS : Nat → Nat) (aR : Nat) (aN : Nat → Nat) (aT : Nat → Nat) (gS : Nat → Option Nat) (sz : Nat) (Xreadings : Int32) (Xtrail : Int32) (XlatestFault : Int32) (Slane : Int32) (Slength : Int32) (S_cells : Nat → Int32) (p1 : Int32) (p2 : Int32) (p3 : Int32) {o : Int32 × Int32 × Int32 × Int32 × (Nat → Int32)} (hg_p1 : vp_in p1 4 → gS p1.toNatClampNeg = some (aS 0)) (h : f_X3_sheet XlatestFault Slane Slength S_cells p1 p2 p3 = some o) : CtI l yX3_sheet wsX3_sheet { frames := 1, cells := 0, slots := 0, locals := 23 } (dC, dI) [(cyI, .int), (cyO, .object RX0)] [.ref (aX 0), .int p1, .int p2, .int p3] sz [((aX 0), .inr (3, [.ref (aX 1), .ref aR, .ref (aX 2), .ref (aX 3), .int Xreadings, .ref (aN 0), .ref (aT 0), .int Xtrail, .int XlatestFault])), ((aX 1), .inl (cyO, 4, .inr (.inr (.inr (.inr gS))))), ((aS 0), .inr (0, [.int Slane, .int Slength, .ref (aS 1)])), ((aS 1), .inl (cyI, 60, .inl S_cells))] (fun (_ : Unit) => [((aX 0), .inr (3, [.ref (aX 1), .ref aR, .ref (aX 2), .ref (aX 3), .int Xreadings, .ref (aN 0), .ref (aT 0), .int Xtrail, .int o.2.1])), ((aX 1), .inl (cyO, 4, .inr (.inr (.inr (.inr gS))))), ((aS 0), .inr (0, [.int o.2.2.1, .int o.2.2.2.1, .ref (aS 1)])), ((aS 1), .inl (cyI, 60, .inl o.2.2.2.2))]) o.1 := by
  refine CtI.of (cc := cX3_sheet) (maxL := 4) (by decide) rfl (Nat.le_of_ble_eq_true rfl) ?_
  intro p e s m args below meth c A Q H locs hx hb hml hown hts hA hK hP hD hS hret ls hl
  have hown : s.vm.findClass RX3 = some m.cls := hown
  have hl : lv_has ls 4 [(0, .ref (aX 0)), (1, .int p1), (2, .int p2), (3, .int p3)] := hl
  unfold f_X3_sheet at h
  have hiX3 : ∀ w ∈ u_ws RX3 TX3 9, w ∈ wsX3_sheet := by decide +kernel
  have hf13 := hts (.fieldLink RX3 13 "TowerTell" "sheets" "[LTowerTell$Sheet;") (by decide +kernel)
  have hf42 := hts (.fieldLink RX3 42 "TowerTell" "latestFault" "I") (by decide +kernel)
  refine lv_aload_n hx hb dX3_sheet_0 rfl (lv_at hl 0 rfl) ?_
  refine lv_iconst (v := 0) hx hb dX3_sheet_1 (by decide) ?_
  refine va_put (D := (dC, dI)) (ci := 3) (v := .int 0) (ty := .int) (C := RX3) (T := TX3) (N := 9) hx hb hts hiX3 tyX3 tyX3_ok nmX3 hown hK hP hD hS 0 rfl rfl 8 (by decide) hf42 (fun _ h9 => h9) rfl (tyX3_ok 8 (by decide)) rfl rfl (Nat.le_of_ble_eq_true rfl) dX3_sheet_2 (fun H locs hP hD hS => ?_)
  have hP : va_P (dC, dI) vwCl [((aX 0), .inr (3, [.ref (aX 1), .ref aR, .ref (aX 2), .ref (aX 3), .int Xreadings, .ref (aN 0), .ref (aT 0), .int Xtrail, .int 0])), ((aX 1), .inl (cyO, 4, .inr (.inr (.inr (.inr gS))))), ((aS 0), .inr (0, [.int Slane, .int Slength, .ref (aS 1)])), ((aS 1), .inl (cyI, 60, .inl S_cells))] H := hP
  have hD : va_D A [((aX 0), .inr (3, [.ref (aX 1), .ref aR, .ref (aX 2), .ref (aX 3), .int Xreadings, .ref (aN 0), .ref (aT 0), .int Xtrail, .int 0])), ((aX 1), .inl (cyO, 4, .inr (.inr (.inr (.inr gS))))), ((aS 0), .inr (0, [.int Slane, .int Slength, .ref (aS 1)])), ((aS 1), .inl (cyI, 60, .inl S_cells))] := hD
  refine lv_iload_n hx hb dX3_sheet_5 rfl (lv_at hl 1 rfl) ?_
  obtain ⟨o1, hc2, h⟩ := ob h
  refine k_si (As := [.int p1]) (rest := []) ⟨hx, hb, hml, hown, hts⟩ (c_X3_isSheet l dC dI cyI cyO H.size p1 hc2) (va_cwS 1 hts gX3_sheet_X3_isSheet rfl rfl rfl (by decide +kernel) ⟨Nat.le_of_ble_eq_true rfl, Nat.le_of_ble_eq_true rfl⟩) hP hD hK hS hA [] [0, 1, 2, 3] rfl rfl (by decide) (by decide) (by decide) rfl hl.1 rfl (Nat.le_of_ble_eq_true rfl) dX3_sheet_6 ⟨Nat.zero_le _, Nat.zero_le _⟩ (fun _ H locs hP hD hS => ?_)
  have hP : va_P (dC, dI) vwCl [((aX 0), .inr (3, [.ref (aX 1), .ref aR, .ref (aX 2), .ref (aX 3), .int Xreadings, .ref (aN 0), .ref (aT 0), .int Xtrail, .int 0])), ((aX 1), .inl (cyO, 4, .inr (.inr (.inr (.inr gS))))), ((aS 0), .inr (0, [.int Slane, .int Slength, .ref (aS 1)])), ((aS 1), .inl (cyI, 60, .inl S_cells))] H := hP
  have hD : va_D A [((aX 0), .inr (3, [.ref (aX 1), .ref aR, .ref (aX 2), .ref (aX 3), .int Xreadings, .ref (aN 0), .ref (aT 0), .int Xtrail, .int 0])), ((aX 1), .inl (cyO, 4, .inr (.inr (.inr (.inr gS))))), ((aS 0), .inr (0, [.int Slane, .int Slength, .ref (aS 1)])), ((aS 1), .inl (cyI, 60, .inl S_cells))] := hD
  refine lv_if_ne (tgt := 14) hx hb dX3_sheet_9 (by decide) (fun c3 => ?_) (fun c3 => ?_)
  · replace h := it_f c3 h
    refine lv_iload_n hx hb dX3_sheet_14 rfl (lv_at hl 2 rfl) ?_
    obtain ⟨o4, hc5, h⟩ := ob h
    refine k_si (As := [.int p2]) (rest := []) ⟨hx, hb, hml, hown, hts⟩ (c_X3_isLane l dC dI cyI cyO H.size p2 hc5) (va_cwS 1 hts gX3_sheet_X3_isLane rfl rfl rfl (by decide +kernel) ⟨Nat.le_of_ble_eq_true rfl, Nat.le_of_ble_eq_true rfl⟩) hP hD hK hS hA [] [0, 1, 2, 3] rfl rfl (by decide) (by decide) (by decide) rfl hl.1 rfl (Nat.le_of_ble_eq_true rfl) dX3_sheet_15 ⟨Nat.zero_le _, Nat.zero_le _⟩ (fun _ H locs hP hD hS => ?_)
    have hP : va_P (dC, dI) vwCl [((aX 0), .inr (3, [.ref (aX 1), .ref aR, .ref (aX 2), .ref (aX 3), .int Xreadings, .ref (aN 0), .ref (aT 0), .int Xtrail, .int 0])), ((aX 1), .inl (cyO, 4, .inr (.inr (.inr (.inr gS))))), ((aS 0), .inr (0, [.int Slane, .int Slength, .ref (aS 1)])), ((aS 1), .inl (cyI, 60, .inl S_cells))] H := hP
    have hD : va_D A [((aX 0), .inr (3, [.ref (aX 1), .ref aR, .ref (aX 2), .ref (aX 3), .int Xreadings, .ref (aN 0), .ref (aT 0), .int Xtrail, .int 0])), ((aX 1), .inl (cyO, 4, .inr (.inr (.inr (.inr gS))))), ((aS 0), .inr (0, [.int Slane, .int Slength, .ref (aS 1)])), ((aS 1), .inl (cyI, 60, .inl S_cells))] := hD
    refine lv_if_eq (tgt := 27) hx hb dX3_sheet_18 (by decide) (fun c6 => ?_) (fun c6 => ?_)
    · replace h := it_t c6 h
      refine lv_bipush (v := (-2)) hx hb dX3_sheet_27 (by decide) ?_
      replace h := Option.some.inj h; subst h
      exact hret () H locs _ ls hP hD hS dX3_sheet_29 rfl
    · replace h := it_f c6 h
      refine lv_iload_n hx hb dX3_sheet_21 rfl (lv_at hl 3 rfl) ?_
      refine lv_bipush (v := 60) hx hb dX3_sheet_22 (by decide) ?_
      refine lv_icmp_le (tgt := 30) hx hb dX3_sheet_24 (by decide) (fun c7 => ?_) (fun c7 => ?_)
      · replace h := it_t c7 h
        refine lv_iload_n hx hb dX3_sheet_30 rfl (lv_at hl 3 rfl) ?_
        refine lv_if_ge (tgt := 40) hx hb dX3_sheet_31 (by decide) (fun c8 => ?_) (fun c8 => ?_)
        · replace h := it_t c8 h
          refine lv_aload_n hx hb dX3_sheet_40 rfl (lv_at hl 0 rfl) ?_
          refine va_get (D := (dC, dI)) (ci := 3) (v := .ref (aX 1)) (C := RX3) (T := TX3) (N := 9) hx hb hts hiX3 hown hK hP 0 rfl rfl 0 (by decide) hf13 (fun _ h9 => h9) rfl dX3_sheet_41 ?_
          refine lv_iload_n hx hb dX3_sheet_44 rfl (lv_at hl 1 rfl) ?_
          obtain ⟨e9, h⟩ := it_n h
          refine k_ald hx hb hK hP 1 1 rfl rfl (ix_in e9) (hg_p1 (ix_in e9)) dX3_sheet_45 ?_
          refine lv_iload_n hx hb dX3_sheet_46 rfl (lv_at hl 2 rfl) ?_
          refine lv_iload_n hx hb dX3_sheet_47 rfl (lv_at hl 3 rfl) ?_
          obtain ⟨o10, hc11, h⟩ := ob h
          refine k_vv (As := [.int p2, .int p3]) (rest := []) ⟨hx, hb, hml, hown, hts⟩ (c_X0_begin l dC dI cyI cyO aS H.size Slane Slength S_cells p2 p3 hc11) (cwV 2 hts gX3_sheet_X0_begin rfl rfl rfl (by decide +kernel) ⟨Nat.le_of_ble_eq_true rfl, Nat.le_of_ble_eq_true rfl⟩) hP hD hK hS hA [2, 3] [0, 1] rfl rfl (by decide) (by decide) (by decide) 0 0 rfl rfl rfl rfl hl.1 rfl (Nat.le_of_ble_eq_true rfl) dX3_sheet_48 ⟨Nat.zero_le _, Nat.zero_le _⟩ (fun _ H locs hP hD hS => ?_)
          have hP : va_P (dC, dI) vwCl [((aX 0), .inr (3, [.ref (aX 1), .ref aR, .ref (aX 2), .ref (aX 3), .int Xreadings, .ref (aN 0), .ref (aT 0), .int Xtrail, .int 0])), ((aX 1), .inl (cyO, 4, .inr (.inr (.inr (.inr gS))))), ((aS 0), .inr (0, [.int o10.1, .int o10.2.1, .ref (aS 1)])), ((aS 1), .inl (cyI, 60, .inl o10.2.2))] H := hP
          have hD : va_D A [((aX 0), .inr (3, [.ref (aX 1), .ref aR, .ref (aX 2), .ref (aX 3), .int Xreadings, .ref (aN 0), .ref (aT 0), .int Xtrail, .int 0])), ((aX 1), .inl (cyO, 4, .inr (.inr (.inr (.inr gS))))), ((aS 0), .inr (0, [.int o10.1, .int o10.2.1, .ref (aS 1)])), ((aS 1), .inl (cyI, 60, .inl o10.2.2))] := hD
          refine lv_iconst (v := 1) hx hb dX3_sheet_51 (by decide) ?_
          replace h := Option.some.inj h; subst h
          exact hret () H locs _ ls hP hD hS dX3_sheet_52 rfl
        · replace h := it_f c8 h
          refine lv_aload_n hx hb dX3_sheet_34 rfl (lv_at hl 0 rfl) ?_
          refine lv_iconst (v := 4) hx hb dX3_sheet_35 (by decide) ?_
          obtain ⟨o12, hc13, h⟩ := ob h
          refine k_vi (As := [.int 4]) (rest := []) ⟨hx, hb, hml, hown, hts⟩ (c_X3_faulted l dC dI cyI cyO aX aR aN aT H.size Xreadings Xtrail 0 4 hc13) (cwV 1 hts gX3_sheet_X3_faulted rfl rfl rfl (by decide +kernel) ⟨Nat.le_of_ble_eq_true rfl, Nat.le_of_ble_eq_true rfl⟩) hP hD hK hS hA [0] [1, 2, 3] rfl rfl (by decide) (by decide) (by decide) 3 0 rfl rfl rfl rfl hl.1 rfl (Nat.le_of_ble_eq_true rfl) dX3_sheet_36 ⟨Nat.zero_le _, Nat.zero_le _⟩ (fun _ H locs hP hD hS => ?_)
          have hP : va_P (dC, dI) vwCl [((aX 1), .inl (cyO, 4, .inr (.inr (.inr (.inr gS))))), ((aS 0), .inr (0, [.int Slane, .int Slength, .ref (aS 1)])), ((aS 1), .inl (cyI, 60, .inl S_cells)), ((aX 0), .inr (3, [.ref (aX 1), .ref aR, .ref (aX 2), .ref (aX 3), .int Xreadings, .ref (aN 0), .ref (aT 0), .int Xtrail, .int o12.2]))] H := hP
          have hD : va_D A [((aX 1), .inl (cyO, 4, .inr (.inr (.inr (.inr gS))))), ((aS 0), .inr (0, [.int Slane, .int Slength, .ref (aS 1)])), ((aS 1), .inl (cyI, 60, .inl S_cells)), ((aX 0), .inr (3, [.ref (aX 1), .ref aR, .ref (aX 2), .ref (aX 3), .int Xreadings, .ref (aN 0), .ref (aT 0), .int Xtrail, .int o12.2]))] := hD
          replace h := Option.some.inj h; subst h
          have hP := hP.sub (ws' := [((aX 0), .inr (3, [.ref (aX 1), .ref aR, .ref (aX 2), .ref (aX 3), .int Xreadings, .ref (aN 0), .ref (aT 0), .int Xtrail, .int o12.2])), ((aX 1), .inl (cyO, 4, .inr (.inr (.inr (.inr gS))))), ((aS 0), .inr (0, [.int Slane, .int Slength, .ref (aS 1)])), ((aS 1), .inl (cyI, 60, .inl S_cells))]) [3, 0, 1, 2] rfl
          have hD := hD.sub (ws' := [((aX 0), .inr (3, [.ref (aX 1), .ref aR, .ref (aX 2), .ref (aX 3), .int Xreadings, .ref (aN 0), .ref (aT 0), .int Xtrail, .int o12.2])), ((aX 1), .inl (cyO, 4, .inr (.inr (.inr (.inr gS))))), ((aS 0), .inr (0, [.int Slane, .int Slength, .ref (aS 1)])), ((aS 1), .inl (cyI, 60, .inl S_cells))]) [3, 0, 1, 2] (by decide) rfl
          exact hret () H locs _ ls hP hD hS dX3_sheet_39 rfl
      · replace h := it_f c7 h
        refine lv_bipush (v := (-2)) hx hb dX3_sheet_27 (by decide) ?_
        replace h := Option.some.inj h; subst h
        exact hret () H locs _ ls hP hD hS dX3_sheet_29 rfl
  · replace h := it_t c3 h
    refine lv_iconst (v := (-1)) hx hb dX3_sheet_12 (by decide) ?_
    replace h := Option.some.inj h; subst h
    exact hret () H locs _ ls hP hD hS dX3_sheet_13 rfl
set_option maxHeartbeats 4000000 in
set_option maxRecDepth 100000 in
theorem c_X3_lose (l : Launch) (dC : Nat → ClassId) (dI : Nat → Nat → Nat) (cyI cyO : ClassId) (aX : Nat → Nat) (aS : Nat → Nat) (aR : Nat) (aN : Nat → Nat) (aT : Nat → Nat) (gS : Nat → Option Nat) (sz : Nat) (Xreadings : Int32) (Xtrail : Int32) (XlatestFault : Int32) (Slane : Int32) (Slength : Int32) (p1 : Int32) {o : Int32 × Int32 × Int32} (hg_p1 : vp_in p1 4 → gS p1.toNatClampNeg = some (aS 0)) (h : f_X3_lose Slane Slength p1 = some o) : CtI l yX3_lose wsX3_lose { frames := 1, cells := 0, slots := 0, locals := 20 } (dC, dI) [(cyI, .int), (cyO, .object RX0)] [.ref (aX 0), .int p1] sz [((aX 0), .inr (3, [.ref (aX 1), .ref aR, .ref (aX 2), .ref (aX 3), .int Xreadings, .ref (aN 0), .ref (aT 0), .int Xtrail, .int XlatestFault])), ((aX 1), .inl (cyO, 4, .inr (.inr (.inr (.inr gS))))), ((aS 0), .inr (0, [.int Slane, .int Slength, .ref (aS 1)]))] (fun (_ : Unit) => [((aX 0), .inr (3, [.ref (aX 1), .ref aR, .ref (aX 2), .ref (aX 3), .int Xreadings, .ref (aN 0), .ref (aT 0), .int Xtrail, .int XlatestFault])), ((aX 1), .inl (cyO, 4, .inr (.inr (.inr (.inr gS))))), ((aS 0), .inr (0, [.int o.2.1, .int o.2.2, .ref (aS 1)]))]) o.1 := by
  refine CtI.of (cc := cX3_lose) (maxL := 3) (by decide) rfl (Nat.le_of_ble_eq_true rfl) ?_
  intro p e s m args below meth c A Q H locs hx hb hml hown hts hA hK hP hD hS hret ls hl
  have hown : s.vm.findClass RX3 = some m.cls := hown
  have hl : lv_has ls 3 [(0, .ref (aX 0)), (1, .int p1)] := hl
  unfold f_X3_lose at h
  have hiX3 : ∀ w ∈ u_ws RX3 TX3 9, w ∈ wsX3_lose := by decide +kernel
  have hf13 := hts (.fieldLink RX3 13 "TowerTell" "sheets" "[LTowerTell$Sheet;") (by decide +kernel)
  refine lv_iload_n hx hb dX3_lose_0 rfl (lv_at hl 1 rfl) ?_
  obtain ⟨o1, hc2, h⟩ := ob h
  refine k_si (As := [.int p1]) (rest := []) ⟨hx, hb, hml, hown, hts⟩ (c_X3_isSheet l dC dI cyI cyO H.size p1 hc2) (va_cwS 1 hts gX3_lose_X3_isSheet rfl rfl rfl (by decide +kernel) ⟨Nat.le_of_ble_eq_true rfl, Nat.le_of_ble_eq_true rfl⟩) hP hD hK hS hA [] [0, 1, 2] rfl rfl (by decide) (by decide) (by decide) rfl hl.1 rfl (Nat.le_of_ble_eq_true rfl) dX3_lose_1 ⟨Nat.zero_le _, Nat.zero_le _⟩ (fun _ H locs hP hD hS => ?_)
  have hP : va_P (dC, dI) vwCl [((aX 0), .inr (3, [.ref (aX 1), .ref aR, .ref (aX 2), .ref (aX 3), .int Xreadings, .ref (aN 0), .ref (aT 0), .int Xtrail, .int XlatestFault])), ((aX 1), .inl (cyO, 4, .inr (.inr (.inr (.inr gS))))), ((aS 0), .inr (0, [.int Slane, .int Slength, .ref (aS 1)]))] H := hP
  have hD : va_D A [((aX 0), .inr (3, [.ref (aX 1), .ref aR, .ref (aX 2), .ref (aX 3), .int Xreadings, .ref (aN 0), .ref (aT 0), .int Xtrail, .int XlatestFault])), ((aX 1), .inl (cyO, 4, .inr (.inr (.inr (.inr gS))))), ((aS 0), .inr (0, [.int Slane, .int Slength, .ref (aS 1)]))] := hD
  refine lv_if_ne (tgt := 9) hx hb dX3_lose_4 (by decide) (fun c3 => ?_) (fun c3 => ?_)
  · replace h := it_f c3 h
    refine lv_aload_n hx hb dX3_lose_9 rfl (lv_at hl 0 rfl) ?_
    refine va_get (D := (dC, dI)) (ci := 3) (v := .ref (aX 1)) (C := RX3) (T := TX3) (N := 9) hx hb hts hiX3 hown hK hP 0 rfl rfl 0 (by decide) hf13 (fun _ h9 => h9) rfl dX3_lose_10 ?_
    refine lv_iload_n hx hb dX3_lose_13 rfl (lv_at hl 1 rfl) ?_
    obtain ⟨e4, h⟩ := it_n h
    refine k_ald hx hb hK hP 1 1 rfl rfl (ix_in e4) (hg_p1 (ix_in e4)) dX3_lose_14 ?_
    obtain ⟨o5, hc6, h⟩ := ob h
    refine k_vi (As := []) (rest := []) ⟨hx, hb, hml, hown, hts⟩ (c_X0_isBare l dC dI cyI cyO aS H.size Slane Slength hc6) (cwV 0 hts gX3_lose_X0_isBare rfl rfl rfl (by decide +kernel) ⟨Nat.le_of_ble_eq_true rfl, Nat.le_of_ble_eq_true rfl⟩) hP hD hK hS hA [2] [0, 1] rfl rfl (by decide) (by decide) (by decide) 0 0 rfl rfl rfl rfl hl.1 rfl (Nat.le_of_ble_eq_true rfl) dX3_lose_15 ⟨Nat.zero_le _, Nat.zero_le _⟩ (fun _ H locs hP hD hS => ?_)
    have hP : va_P (dC, dI) vwCl [((aX 0), .inr (3, [.ref (aX 1), .ref aR, .ref (aX 2), .ref (aX 3), .int Xreadings, .ref (aN 0), .ref (aT 0), .int Xtrail, .int XlatestFault])), ((aX 1), .inl (cyO, 4, .inr (.inr (.inr (.inr gS))))), ((aS 0), .inr (0, [.int Slane, .int Slength, .ref (aS 1)]))] H := hP
    have hD : va_D A [((aX 0), .inr (3, [.ref (aX 1), .ref aR, .ref (aX 2), .ref (aX 3), .int Xreadings, .ref (aN 0), .ref (aT 0), .int Xtrail, .int XlatestFault])), ((aX 1), .inl (cyO, 4, .inr (.inr (.inr (.inr gS))))), ((aS 0), .inr (0, [.int Slane, .int Slength, .ref (aS 1)]))] := hD
    refine lv_if_eq (tgt := 25) hx hb dX3_lose_18 (by decide) (fun c7 => ?_) (fun c7 => ?_)
    · replace h := it_t c7 h
      refine lv_iconst (v := 1) hx hb dX3_lose_25 (by decide) ?_
      refine lv_istore_n (lv' := [(2, .int 1), (0, .ref (aX 0)), (1, .int p1)]) hx hb dX3_lose_26 rfl hl (by decide) rfl (fun ls hl => ?_)
      refine lv_aload_n hx hb dX3_lose_27 rfl (lv_at hl 1 rfl) ?_
      refine va_get (D := (dC, dI)) (ci := 3) (v := .ref (aX 1)) (C := RX3) (T := TX3) (N := 9) hx hb hts hiX3 hown hK hP 0 rfl rfl 0 (by decide) hf13 (fun _ h9 => h9) rfl dX3_lose_28 ?_
      refine lv_iload_n hx hb dX3_lose_31 rfl (lv_at hl 2 rfl) ?_
      obtain ⟨e8, h⟩ := it_n h
      refine k_ald hx hb hK hP 1 1 rfl rfl (ix_in e8) (hg_p1 (ix_in e8)) dX3_lose_32 ?_
      obtain ⟨o9, hc10, h⟩ := ob h
      refine k_vv (As := []) (rest := []) ⟨hx, hb, hml, hown, hts⟩ (c_X0_drop l dC dI cyI cyO aS H.size Slane Slength hc10) (cwV 0 hts gX3_lose_X0_drop rfl rfl rfl (by decide +kernel) ⟨Nat.le_of_ble_eq_true rfl, Nat.le_of_ble_eq_true rfl⟩) hP hD hK hS hA [2] [0, 1] rfl rfl (by decide) (by decide) (by decide) 0 0 rfl rfl rfl rfl hl.1 rfl (Nat.le_of_ble_eq_true rfl) dX3_lose_33 ⟨Nat.zero_le _, Nat.zero_le _⟩ (fun _ H locs hP hD hS => ?_)
      have hP : va_P (dC, dI) vwCl [((aX 0), .inr (3, [.ref (aX 1), .ref aR, .ref (aX 2), .ref (aX 3), .int Xreadings, .ref (aN 0), .ref (aT 0), .int Xtrail, .int XlatestFault])), ((aX 1), .inl (cyO, 4, .inr (.inr (.inr (.inr gS))))), ((aS 0), .inr (0, [.int o9.1, .int o9.2, .ref (aS 1)]))] H := hP
      have hD : va_D A [((aX 0), .inr (3, [.ref (aX 1), .ref aR, .ref (aX 2), .ref (aX 3), .int Xreadings, .ref (aN 0), .ref (aT 0), .int Xtrail, .int XlatestFault])), ((aX 1), .inl (cyO, 4, .inr (.inr (.inr (.inr gS))))), ((aS 0), .inr (0, [.int o9.1, .int o9.2, .ref (aS 1)]))] := hD
      refine lv_iload_n hx hb dX3_lose_36 rfl (lv_at hl 0 rfl) ?_
      replace h := Option.some.inj h; subst h
      exact hret () H locs _ ls hP hD hS dX3_lose_37 rfl
    · replace h := it_f c7 h
      refine lv_iconst (v := 0) hx hb dX3_lose_21 (by decide) ?_
      refine lv_goto (tgt := 26) hx hb dX3_lose_22 (by decide) ?_
      refine lv_istore_n (lv' := [(2, .int 0), (0, .ref (aX 0)), (1, .int p1)]) hx hb dX3_lose_26 rfl hl (by decide) rfl (fun ls hl => ?_)
      refine lv_aload_n hx hb dX3_lose_27 rfl (lv_at hl 1 rfl) ?_
      refine va_get (D := (dC, dI)) (ci := 3) (v := .ref (aX 1)) (C := RX3) (T := TX3) (N := 9) hx hb hts hiX3 hown hK hP 0 rfl rfl 0 (by decide) hf13 (fun _ h9 => h9) rfl dX3_lose_28 ?_
      refine lv_iload_n hx hb dX3_lose_31 rfl (lv_at hl 2 rfl) ?_
      obtain ⟨e11, h⟩ := it_n h
      refine k_ald hx hb hK hP 1 1 rfl rfl (ix_in e11) (hg_p1 (ix_in e11)) dX3_lose_32 ?_
      obtain ⟨o12, hc13, h⟩ := ob h
      refine k_vv (As := []) (rest := []) ⟨hx, hb, hml, hown, hts⟩ (c_X0_drop l dC dI cyI cyO aS H.size Slane Slength hc13) (cwV 0 hts gX3_lose_X0_drop rfl rfl rfl (by decide +kernel) ⟨Nat.le_of_ble_eq_true rfl, Nat.le_of_ble_eq_true rfl⟩) hP hD hK hS hA [2] [0, 1] rfl rfl (by decide) (by decide) (by decide) 0 0 rfl rfl rfl rfl hl.1 rfl (Nat.le_of_ble_eq_true rfl) dX3_lose_33 ⟨Nat.zero_le _, Nat.zero_le _⟩ (fun _ H locs hP hD hS => ?_)
      have hP : va_P (dC, dI) vwCl [((aX 0), .inr (3, [.ref (aX 1), .ref aR, .ref (aX 2), .ref (aX 3), .int Xreadings, .ref (aN 0), .ref (aT 0), .int Xtrail, .int XlatestFault])), ((aX 1), .inl (cyO, 4, .inr (.inr (.inr (.inr gS))))), ((aS 0), .inr (0, [.int o12.1, .int o12.2, .ref (aS 1)]))] H := hP
      have hD : va_D A [((aX 0), .inr (3, [.ref (aX 1), .ref aR, .ref (aX 2), .ref (aX 3), .int Xreadings, .ref (aN 0), .ref (aT 0), .int Xtrail, .int XlatestFault])), ((aX 1), .inl (cyO, 4, .inr (.inr (.inr (.inr gS))))), ((aS 0), .inr (0, [.int o12.1, .int o12.2, .ref (aS 1)]))] := hD
      refine lv_iload_n hx hb dX3_lose_36 rfl (lv_at hl 0 rfl) ?_
      replace h := Option.some.inj h; subst h
      exact hret () H locs _ ls hP hD hS dX3_lose_37 rfl
  · replace h := it_t c3 h
    refine lv_iconst (v := (-1)) hx hb dX3_lose_7 (by decide) ?_
    replace h := Option.some.inj h; subst h
    exact hret () H locs _ ls hP hD hS dX3_lose_8 rfl
set_option maxHeartbeats 4000000 in
set_option maxRecDepth 100000 in
theorem c_X3_put (l : Launch) (dC : Nat → ClassId) (dI : Nat → Nat → Nat) (cyI cyO : ClassId) (aX : Nat → Nat) (aS : Nat → Nat) (aR : Nat) (aN : Nat → Nat) (aT : Nat → Nat) (gS : Nat → Option Nat) (sz : Nat) (Xreadings : Int32) (Xtrail : Int32) (XlatestFault : Int32) (Slane : Int32) (Slength : Int32) (S_cells : Nat → Int32) (p1 : Int32) (p2 : Int32) (p3 : Int32) {o : Int32 × Int32 × (Nat → Int32)} (hg_p1 : vp_in p1 4 → gS p1.toNatClampNeg = some (aS 0)) (h : f_X3_put XlatestFault Slane Slength S_cells p1 p2 p3 = some o) : CtI l yX3_put wsX3_put { frames := 1, cells := 0, slots := 0, locals := 22 } (dC, dI) [(cyI, .int), (cyO, .object RX0)] [.ref (aX 0), .int p1, .int p2, .int p3] sz [((aX 0), .inr (3, [.ref (aX 1), .ref aR, .ref (aX 2), .ref (aX 3), .int Xreadings, .ref (aN 0), .ref (aT 0), .int Xtrail, .int XlatestFault])), ((aX 1), .inl (cyO, 4, .inr (.inr (.inr (.inr gS))))), ((aS 0), .inr (0, [.int Slane, .int Slength, .ref (aS 1)])), ((aS 1), .inl (cyI, 60, .inl S_cells))] (fun (_ : Unit) => [((aX 0), .inr (3, [.ref (aX 1), .ref aR, .ref (aX 2), .ref (aX 3), .int Xreadings, .ref (aN 0), .ref (aT 0), .int Xtrail, .int o.2.1])), ((aX 1), .inl (cyO, 4, .inr (.inr (.inr (.inr gS))))), ((aS 0), .inr (0, [.int Slane, .int Slength, .ref (aS 1)])), ((aS 1), .inl (cyI, 60, .inl o.2.2))]) o.1 := by
  refine CtI.of (cc := cX3_put) (maxL := 4) (by decide) rfl (Nat.le_of_ble_eq_true rfl) ?_
  intro p e s m args below meth c A Q H locs hx hb hml hown hts hA hK hP hD hS hret ls hl
  have hown : s.vm.findClass RX3 = some m.cls := hown
  have hl : lv_has ls 4 [(0, .ref (aX 0)), (1, .int p1), (2, .int p2), (3, .int p3)] := hl
  unfold f_X3_put at h
  have hiX3 : ∀ w ∈ u_ws RX3 TX3 9, w ∈ wsX3_put := by decide +kernel
  have hf13 := hts (.fieldLink RX3 13 "TowerTell" "sheets" "[LTowerTell$Sheet;") (by decide +kernel)
  have hf42 := hts (.fieldLink RX3 42 "TowerTell" "latestFault" "I") (by decide +kernel)
  refine lv_aload_n hx hb dX3_put_0 rfl (lv_at hl 0 rfl) ?_
  refine lv_iconst (v := 0) hx hb dX3_put_1 (by decide) ?_
  refine va_put (D := (dC, dI)) (ci := 3) (v := .int 0) (ty := .int) (C := RX3) (T := TX3) (N := 9) hx hb hts hiX3 tyX3 tyX3_ok nmX3 hown hK hP hD hS 0 rfl rfl 8 (by decide) hf42 (fun _ h9 => h9) rfl (tyX3_ok 8 (by decide)) rfl rfl (Nat.le_of_ble_eq_true rfl) dX3_put_2 (fun H locs hP hD hS => ?_)
  have hP : va_P (dC, dI) vwCl [((aX 0), .inr (3, [.ref (aX 1), .ref aR, .ref (aX 2), .ref (aX 3), .int Xreadings, .ref (aN 0), .ref (aT 0), .int Xtrail, .int 0])), ((aX 1), .inl (cyO, 4, .inr (.inr (.inr (.inr gS))))), ((aS 0), .inr (0, [.int Slane, .int Slength, .ref (aS 1)])), ((aS 1), .inl (cyI, 60, .inl S_cells))] H := hP
  have hD : va_D A [((aX 0), .inr (3, [.ref (aX 1), .ref aR, .ref (aX 2), .ref (aX 3), .int Xreadings, .ref (aN 0), .ref (aT 0), .int Xtrail, .int 0])), ((aX 1), .inl (cyO, 4, .inr (.inr (.inr (.inr gS))))), ((aS 0), .inr (0, [.int Slane, .int Slength, .ref (aS 1)])), ((aS 1), .inl (cyI, 60, .inl S_cells))] := hD
  refine lv_iload_n hx hb dX3_put_5 rfl (lv_at hl 1 rfl) ?_
  obtain ⟨o1, hc2, h⟩ := ob h
  refine k_si (As := [.int p1]) (rest := []) ⟨hx, hb, hml, hown, hts⟩ (c_X3_isSheet l dC dI cyI cyO H.size p1 hc2) (va_cwS 1 hts gX3_put_X3_isSheet rfl rfl rfl (by decide +kernel) ⟨Nat.le_of_ble_eq_true rfl, Nat.le_of_ble_eq_true rfl⟩) hP hD hK hS hA [] [0, 1, 2, 3] rfl rfl (by decide) (by decide) (by decide) rfl hl.1 rfl (Nat.le_of_ble_eq_true rfl) dX3_put_6 ⟨Nat.zero_le _, Nat.zero_le _⟩ (fun _ H locs hP hD hS => ?_)
  have hP : va_P (dC, dI) vwCl [((aX 0), .inr (3, [.ref (aX 1), .ref aR, .ref (aX 2), .ref (aX 3), .int Xreadings, .ref (aN 0), .ref (aT 0), .int Xtrail, .int 0])), ((aX 1), .inl (cyO, 4, .inr (.inr (.inr (.inr gS))))), ((aS 0), .inr (0, [.int Slane, .int Slength, .ref (aS 1)])), ((aS 1), .inl (cyI, 60, .inl S_cells))] H := hP
  have hD : va_D A [((aX 0), .inr (3, [.ref (aX 1), .ref aR, .ref (aX 2), .ref (aX 3), .int Xreadings, .ref (aN 0), .ref (aT 0), .int Xtrail, .int 0])), ((aX 1), .inl (cyO, 4, .inr (.inr (.inr (.inr gS))))), ((aS 0), .inr (0, [.int Slane, .int Slength, .ref (aS 1)])), ((aS 1), .inl (cyI, 60, .inl S_cells))] := hD
  refine lv_if_ne (tgt := 14) hx hb dX3_put_9 (by decide) (fun c3 => ?_) (fun c3 => ?_)
  · replace h := it_f c3 h
    refine lv_aload_n hx hb dX3_put_14 rfl (lv_at hl 0 rfl) ?_
    refine va_get (D := (dC, dI)) (ci := 3) (v := .ref (aX 1)) (C := RX3) (T := TX3) (N := 9) hx hb hts hiX3 hown hK hP 0 rfl rfl 0 (by decide) hf13 (fun _ h9 => h9) rfl dX3_put_15 ?_
    refine lv_iload_n hx hb dX3_put_18 rfl (lv_at hl 1 rfl) ?_
    obtain ⟨e4, h⟩ := it_n h
    refine k_ald hx hb hK hP 1 1 rfl rfl (ix_in e4) (hg_p1 (ix_in e4)) dX3_put_19 ?_
    obtain ⟨o5, hc6, h⟩ := ob h
    refine k_vi (As := []) (rest := []) ⟨hx, hb, hml, hown, hts⟩ (c_X0_isBare l dC dI cyI cyO aS H.size Slane Slength hc6) (cwV 0 hts gX3_put_X0_isBare rfl rfl rfl (by decide +kernel) ⟨Nat.le_of_ble_eq_true rfl, Nat.le_of_ble_eq_true rfl⟩) hP hD hK hS hA [2] [0, 1, 3] rfl rfl (by decide) (by decide) (by decide) 0 0 rfl rfl rfl rfl hl.1 rfl (Nat.le_of_ble_eq_true rfl) dX3_put_20 ⟨Nat.zero_le _, Nat.zero_le _⟩ (fun _ H locs hP hD hS => ?_)
    have hP : va_P (dC, dI) vwCl [((aX 0), .inr (3, [.ref (aX 1), .ref aR, .ref (aX 2), .ref (aX 3), .int Xreadings, .ref (aN 0), .ref (aT 0), .int Xtrail, .int 0])), ((aX 1), .inl (cyO, 4, .inr (.inr (.inr (.inr gS))))), ((aS 1), .inl (cyI, 60, .inl S_cells)), ((aS 0), .inr (0, [.int Slane, .int Slength, .ref (aS 1)]))] H := hP
    have hD : va_D A [((aX 0), .inr (3, [.ref (aX 1), .ref aR, .ref (aX 2), .ref (aX 3), .int Xreadings, .ref (aN 0), .ref (aT 0), .int Xtrail, .int 0])), ((aX 1), .inl (cyO, 4, .inr (.inr (.inr (.inr gS))))), ((aS 1), .inl (cyI, 60, .inl S_cells)), ((aS 0), .inr (0, [.int Slane, .int Slength, .ref (aS 1)]))] := hD
    refine lv_if_eq (tgt := 32) hx hb dX3_put_23 (by decide) (fun c7 => ?_) (fun c7 => ?_)
    · replace h := it_t c7 h
      refine lv_aload_n hx hb dX3_put_32 rfl (lv_at hl 0 rfl) ?_
      refine va_get (D := (dC, dI)) (ci := 3) (v := .ref (aX 1)) (C := RX3) (T := TX3) (N := 9) hx hb hts hiX3 hown hK hP 0 rfl rfl 0 (by decide) hf13 (fun _ h9 => h9) rfl dX3_put_33 ?_
      refine lv_iload_n hx hb dX3_put_36 rfl (lv_at hl 1 rfl) ?_
      obtain ⟨e8, h⟩ := it_n h
      refine k_ald hx hb hK hP 1 1 rfl rfl (ix_in e8) (hg_p1 (ix_in e8)) dX3_put_37 ?_
      refine lv_iload_n hx hb dX3_put_38 rfl (lv_at hl 2 rfl) ?_
      refine lv_iconst (v := 1) hx hb dX3_put_39 (by decide) ?_
      obtain ⟨o9, hc10, h⟩ := ob h
      refine k_vi (As := [.int p2, .int 1]) (rest := []) ⟨hx, hb, hml, hown, hts⟩ (c_X0_holds l dC dI cyI cyO aS H.size Slane Slength p2 1 hc10) (cwV 2 hts gX3_put_X0_holds rfl rfl rfl (by decide +kernel) ⟨Nat.le_of_ble_eq_true rfl, Nat.le_of_ble_eq_true rfl⟩) hP hD hK hS hA [3] [0, 1, 2] rfl rfl (by decide) (by decide) (by decide) 0 0 rfl rfl rfl rfl hl.1 rfl (Nat.le_of_ble_eq_true rfl) dX3_put_40 ⟨Nat.zero_le _, Nat.zero_le _⟩ (fun _ H locs hP hD hS => ?_)
      have hP : va_P (dC, dI) vwCl [((aX 0), .inr (3, [.ref (aX 1), .ref aR, .ref (aX 2), .ref (aX 3), .int Xreadings, .ref (aN 0), .ref (aT 0), .int Xtrail, .int 0])), ((aX 1), .inl (cyO, 4, .inr (.inr (.inr (.inr gS))))), ((aS 1), .inl (cyI, 60, .inl S_cells)), ((aS 0), .inr (0, [.int Slane, .int Slength, .ref (aS 1)]))] H := hP
      have hD : va_D A [((aX 0), .inr (3, [.ref (aX 1), .ref aR, .ref (aX 2), .ref (aX 3), .int Xreadings, .ref (aN 0), .ref (aT 0), .int Xtrail, .int 0])), ((aX 1), .inl (cyO, 4, .inr (.inr (.inr (.inr gS))))), ((aS 1), .inl (cyI, 60, .inl S_cells)), ((aS 0), .inr (0, [.int Slane, .int Slength, .ref (aS 1)]))] := hD
      refine lv_if_ne (tgt := 52) hx hb dX3_put_43 (by decide) (fun c11 => ?_) (fun c11 => ?_)
      · replace h := it_f c11 h
        refine lv_aload_n hx hb dX3_put_52 rfl (lv_at hl 0 rfl) ?_
        refine va_get (D := (dC, dI)) (ci := 3) (v := .ref (aX 1)) (C := RX3) (T := TX3) (N := 9) hx hb hts hiX3 hown hK hP 0 rfl rfl 0 (by decide) hf13 (fun _ h9 => h9) rfl dX3_put_53 ?_
        refine lv_iload_n hx hb dX3_put_56 rfl (lv_at hl 1 rfl) ?_
        obtain ⟨e12, h⟩ := it_n h
        refine k_ald hx hb hK hP 1 1 rfl rfl (ix_in e12) (hg_p1 (ix_in e12)) dX3_put_57 ?_
        refine lv_iload_n hx hb dX3_put_58 rfl (lv_at hl 2 rfl) ?_
        refine lv_iload_n hx hb dX3_put_59 rfl (lv_at hl 3 rfl) ?_
        obtain ⟨o13, hc14, h⟩ := ob h
        refine k_vv (As := [.int p2, .int p3]) (rest := []) ⟨hx, hb, hml, hown, hts⟩ (c_X0_write l dC dI cyI cyO aS H.size Slane Slength S_cells p2 p3 hc14) (cwV 2 hts gX3_put_X0_write rfl rfl rfl (by decide +kernel) ⟨Nat.le_of_ble_eq_true rfl, Nat.le_of_ble_eq_true rfl⟩) hP hD hK hS hA [3, 2] [0, 1] rfl rfl (by decide) (by decide) (by decide) 0 0 rfl rfl rfl rfl hl.1 rfl (Nat.le_of_ble_eq_true rfl) dX3_put_60 ⟨Nat.zero_le _, Nat.zero_le _⟩ (fun _ H locs hP hD hS => ?_)
        have hP : va_P (dC, dI) vwCl [((aX 0), .inr (3, [.ref (aX 1), .ref aR, .ref (aX 2), .ref (aX 3), .int Xreadings, .ref (aN 0), .ref (aT 0), .int Xtrail, .int 0])), ((aX 1), .inl (cyO, 4, .inr (.inr (.inr (.inr gS))))), ((aS 0), .inr (0, [.int Slane, .int Slength, .ref (aS 1)])), ((aS 1), .inl (cyI, 60, .inl o13))] H := hP
        have hD : va_D A [((aX 0), .inr (3, [.ref (aX 1), .ref aR, .ref (aX 2), .ref (aX 3), .int Xreadings, .ref (aN 0), .ref (aT 0), .int Xtrail, .int 0])), ((aX 1), .inl (cyO, 4, .inr (.inr (.inr (.inr gS))))), ((aS 0), .inr (0, [.int Slane, .int Slength, .ref (aS 1)])), ((aS 1), .inl (cyI, 60, .inl o13))] := hD
        refine lv_iconst (v := 1) hx hb dX3_put_63 (by decide) ?_
        replace h := Option.some.inj h; subst h
        exact hret () H locs _ ls hP hD hS dX3_put_64 rfl
      · replace h := it_t c11 h
        refine lv_aload_n hx hb dX3_put_46 rfl (lv_at hl 0 rfl) ?_
        refine lv_iconst (v := 3) hx hb dX3_put_47 (by decide) ?_
        obtain ⟨o15, hc16, h⟩ := ob h
        refine k_vi (As := [.int 3]) (rest := []) ⟨hx, hb, hml, hown, hts⟩ (c_X3_faulted l dC dI cyI cyO aX aR aN aT H.size Xreadings Xtrail 0 3 hc16) (cwV 1 hts gX3_put_X3_faulted rfl rfl rfl (by decide +kernel) ⟨Nat.le_of_ble_eq_true rfl, Nat.le_of_ble_eq_true rfl⟩) hP hD hK hS hA [0] [1, 2, 3] rfl rfl (by decide) (by decide) (by decide) 3 0 rfl rfl rfl rfl hl.1 rfl (Nat.le_of_ble_eq_true rfl) dX3_put_48 ⟨Nat.zero_le _, Nat.zero_le _⟩ (fun _ H locs hP hD hS => ?_)
        have hP : va_P (dC, dI) vwCl [((aX 1), .inl (cyO, 4, .inr (.inr (.inr (.inr gS))))), ((aS 1), .inl (cyI, 60, .inl S_cells)), ((aS 0), .inr (0, [.int Slane, .int Slength, .ref (aS 1)])), ((aX 0), .inr (3, [.ref (aX 1), .ref aR, .ref (aX 2), .ref (aX 3), .int Xreadings, .ref (aN 0), .ref (aT 0), .int Xtrail, .int o15.2]))] H := hP
        have hD : va_D A [((aX 1), .inl (cyO, 4, .inr (.inr (.inr (.inr gS))))), ((aS 1), .inl (cyI, 60, .inl S_cells)), ((aS 0), .inr (0, [.int Slane, .int Slength, .ref (aS 1)])), ((aX 0), .inr (3, [.ref (aX 1), .ref aR, .ref (aX 2), .ref (aX 3), .int Xreadings, .ref (aN 0), .ref (aT 0), .int Xtrail, .int o15.2]))] := hD
        replace h := Option.some.inj h; subst h
        have hP := hP.sub (ws' := [((aX 0), .inr (3, [.ref (aX 1), .ref aR, .ref (aX 2), .ref (aX 3), .int Xreadings, .ref (aN 0), .ref (aT 0), .int Xtrail, .int o15.2])), ((aX 1), .inl (cyO, 4, .inr (.inr (.inr (.inr gS))))), ((aS 0), .inr (0, [.int Slane, .int Slength, .ref (aS 1)])), ((aS 1), .inl (cyI, 60, .inl S_cells))]) [3, 0, 2, 1] rfl
        have hD := hD.sub (ws' := [((aX 0), .inr (3, [.ref (aX 1), .ref aR, .ref (aX 2), .ref (aX 3), .int Xreadings, .ref (aN 0), .ref (aT 0), .int Xtrail, .int o15.2])), ((aX 1), .inl (cyO, 4, .inr (.inr (.inr (.inr gS))))), ((aS 0), .inr (0, [.int Slane, .int Slength, .ref (aS 1)])), ((aS 1), .inl (cyI, 60, .inl S_cells))]) [3, 0, 2, 1] (by decide) rfl
        exact hret () H locs _ ls hP hD hS dX3_put_51 rfl
    · replace h := it_f c7 h
      refine lv_aload_n hx hb dX3_put_26 rfl (lv_at hl 0 rfl) ?_
      refine lv_iconst (v := 1) hx hb dX3_put_27 (by decide) ?_
      obtain ⟨o17, hc18, h⟩ := ob h
      refine k_vi (As := [.int 1]) (rest := []) ⟨hx, hb, hml, hown, hts⟩ (c_X3_faulted l dC dI cyI cyO aX aR aN aT H.size Xreadings Xtrail 0 1 hc18) (cwV 1 hts gX3_put_X3_faulted rfl rfl rfl (by decide +kernel) ⟨Nat.le_of_ble_eq_true rfl, Nat.le_of_ble_eq_true rfl⟩) hP hD hK hS hA [0] [1, 2, 3] rfl rfl (by decide) (by decide) (by decide) 3 0 rfl rfl rfl rfl hl.1 rfl (Nat.le_of_ble_eq_true rfl) dX3_put_28 ⟨Nat.zero_le _, Nat.zero_le _⟩ (fun _ H locs hP hD hS => ?_)
      have hP : va_P (dC, dI) vwCl [((aX 1), .inl (cyO, 4, .inr (.inr (.inr (.inr gS))))), ((aS 1), .inl (cyI, 60, .inl S_cells)), ((aS 0), .inr (0, [.int Slane, .int Slength, .ref (aS 1)])), ((aX 0), .inr (3, [.ref (aX 1), .ref aR, .ref (aX 2), .ref (aX 3), .int Xreadings, .ref (aN 0), .ref (aT 0), .int Xtrail, .int o17.2]))] H := hP
      have hD : va_D A [((aX 1), .inl (cyO, 4, .inr (.inr (.inr (.inr gS))))), ((aS 1), .inl (cyI, 60, .inl S_cells)), ((aS 0), .inr (0, [.int Slane, .int Slength, .ref (aS 1)])), ((aX 0), .inr (3, [.ref (aX 1), .ref aR, .ref (aX 2), .ref (aX 3), .int Xreadings, .ref (aN 0), .ref (aT 0), .int Xtrail, .int o17.2]))] := hD
      replace h := Option.some.inj h; subst h
      have hP := hP.sub (ws' := [((aX 0), .inr (3, [.ref (aX 1), .ref aR, .ref (aX 2), .ref (aX 3), .int Xreadings, .ref (aN 0), .ref (aT 0), .int Xtrail, .int o17.2])), ((aX 1), .inl (cyO, 4, .inr (.inr (.inr (.inr gS))))), ((aS 0), .inr (0, [.int Slane, .int Slength, .ref (aS 1)])), ((aS 1), .inl (cyI, 60, .inl S_cells))]) [3, 0, 2, 1] rfl
      have hD := hD.sub (ws' := [((aX 0), .inr (3, [.ref (aX 1), .ref aR, .ref (aX 2), .ref (aX 3), .int Xreadings, .ref (aN 0), .ref (aT 0), .int Xtrail, .int o17.2])), ((aX 1), .inl (cyO, 4, .inr (.inr (.inr (.inr gS))))), ((aS 0), .inr (0, [.int Slane, .int Slength, .ref (aS 1)])), ((aS 1), .inl (cyI, 60, .inl S_cells))]) [3, 0, 2, 1] (by decide) rfl
      exact hret () H locs _ ls hP hD hS dX3_put_31 rfl
  · replace h := it_t c3 h
    refine lv_iconst (v := (-1)) hx hb dX3_put_12 (by decide) ?_
    replace h := Option.some.inj h; subst h
    exact hret () H locs _ ls hP hD hS dX3_put_13 rfl
set_option maxHeartbeats 4000000 in
set_option maxRecDepth 100000 in
theorem c_X3_cell (l : Launch) (dC : Nat → ClassId) (dI : Nat → Nat → Nat) (cyI cyO : ClassId) (aX : Nat → Nat) (aS : Nat → Nat) (aR : Nat) (aN : Nat → Nat) (aT : Nat → Nat) (gS : Nat → Option Nat) (sz : Nat) (Xreadings : Int32) (Xtrail : Int32) (XlatestFault : Int32) (Slane : Int32) (Slength : Int32) (S_cells : Nat → Int32) (p1 : Int32) (p2 : Int32) (p3 : Int32) {o : Int64 × Int32} (hg_p1 : vp_in p1 4 → gS p1.toNatClampNeg = some (aS 0)) (h : f_X3_cell XlatestFault Slane Slength S_cells p1 p2 p3 = some o) : CtL l yX3_cell wsX3_cell { frames := 2, cells := 0, slots := 0, locals := 45 } (dC, dI) [(cyI, .int), (cyO, .object RX0)] [.ref (aX 0), .int p1, .int p2, .int p3] sz [((aX 0), .inr (3, [.ref (aX 1), .ref aR, .ref (aX 2), .ref (aX 3), .int Xreadings, .ref (aN 0), .ref (aT 0), .int Xtrail, .int XlatestFault])), ((aX 1), .inl (cyO, 4, .inr (.inr (.inr (.inr gS))))), ((aS 0), .inr (0, [.int Slane, .int Slength, .ref (aS 1)])), ((aS 1), .inl (cyI, 60, .inl S_cells))] (fun (_ : Unit) => [((aX 0), .inr (3, [.ref (aX 1), .ref aR, .ref (aX 2), .ref (aX 3), .int Xreadings, .ref (aN 0), .ref (aT 0), .int Xtrail, .int o.2])), ((aX 1), .inl (cyO, 4, .inr (.inr (.inr (.inr gS))))), ((aS 0), .inr (0, [.int Slane, .int Slength, .ref (aS 1)])), ((aS 1), .inl (cyI, 60, .inl S_cells))]) o.1 := by
  refine CtL.of (cc := cX3_cell) (maxL := 4) (by decide) rfl (Nat.le_of_ble_eq_true rfl) ?_
  intro p e s m args below meth c A Q H locs hx hb hml hown hts hA hK hP hD hS hret ls hl
  have hown : s.vm.findClass RX3 = some m.cls := hown
  have hl : lv_has ls 4 [(0, .ref (aX 0)), (1, .int p1), (2, .int p2), (3, .int p3)] := hl
  unfold f_X3_cell at h
  have hiX0 : ∀ w ∈ u_ws RX0 TX0 3, w ∈ wsX3_cell := by decide +kernel
  have hiX3 : ∀ w ∈ u_ws RX3 TX3 9, w ∈ wsX3_cell := by decide +kernel
  have hf13 := hts (.fieldLink RX3 13 "TowerTell" "sheets" "[LTowerTell$Sheet;") (by decide +kernel)
  have hf42 := hts (.fieldLink RX3 42 "TowerTell" "latestFault" "I") (by decide +kernel)
  have hf170 := hts (.fieldLink RX3 170 "TowerTell$Sheet" "cells" "[I") (by decide +kernel)
  have hL153 := hts (.constantLong RX3 153 (-9223372036854775808)) (by decide +kernel)
  refine lv_aload_n hx hb dX3_cell_0 rfl (lv_at hl 0 rfl) ?_
  refine lv_iconst (v := 0) hx hb dX3_cell_1 (by decide) ?_
  refine va_put (D := (dC, dI)) (ci := 3) (v := .int 0) (ty := .int) (C := RX3) (T := TX3) (N := 9) hx hb hts hiX3 tyX3 tyX3_ok nmX3 hown hK hP hD hS 0 rfl rfl 8 (by decide) hf42 (fun _ h9 => h9) rfl (tyX3_ok 8 (by decide)) rfl rfl (Nat.le_of_ble_eq_true rfl) dX3_cell_2 (fun H locs hP hD hS => ?_)
  have hP : va_P (dC, dI) vwCl [((aX 0), .inr (3, [.ref (aX 1), .ref aR, .ref (aX 2), .ref (aX 3), .int Xreadings, .ref (aN 0), .ref (aT 0), .int Xtrail, .int 0])), ((aX 1), .inl (cyO, 4, .inr (.inr (.inr (.inr gS))))), ((aS 0), .inr (0, [.int Slane, .int Slength, .ref (aS 1)])), ((aS 1), .inl (cyI, 60, .inl S_cells))] H := hP
  have hD : va_D A [((aX 0), .inr (3, [.ref (aX 1), .ref aR, .ref (aX 2), .ref (aX 3), .int Xreadings, .ref (aN 0), .ref (aT 0), .int Xtrail, .int 0])), ((aX 1), .inl (cyO, 4, .inr (.inr (.inr (.inr gS))))), ((aS 0), .inr (0, [.int Slane, .int Slength, .ref (aS 1)])), ((aS 1), .inl (cyI, 60, .inl S_cells))] := hD
  refine lv_iload_n hx hb dX3_cell_5 rfl (lv_at hl 1 rfl) ?_
  obtain ⟨o1, hc2, h⟩ := ob h
  refine k_si (As := [.int p1]) (rest := []) ⟨hx, hb, hml, hown, hts⟩ (c_X3_isSheet l dC dI cyI cyO H.size p1 hc2) (va_cwS 1 hts gX3_cell_X3_isSheet rfl rfl rfl (by decide +kernel) ⟨Nat.le_of_ble_eq_true rfl, Nat.le_of_ble_eq_true rfl⟩) hP hD hK hS hA [] [0, 1, 2, 3] rfl rfl (by decide) (by decide) (by decide) rfl hl.1 rfl (Nat.le_of_ble_eq_true rfl) dX3_cell_6 ⟨Nat.zero_le _, Nat.zero_le _⟩ (fun _ H locs hP hD hS => ?_)
  have hP : va_P (dC, dI) vwCl [((aX 0), .inr (3, [.ref (aX 1), .ref aR, .ref (aX 2), .ref (aX 3), .int Xreadings, .ref (aN 0), .ref (aT 0), .int Xtrail, .int 0])), ((aX 1), .inl (cyO, 4, .inr (.inr (.inr (.inr gS))))), ((aS 0), .inr (0, [.int Slane, .int Slength, .ref (aS 1)])), ((aS 1), .inl (cyI, 60, .inl S_cells))] H := hP
  have hD : va_D A [((aX 0), .inr (3, [.ref (aX 1), .ref aR, .ref (aX 2), .ref (aX 3), .int Xreadings, .ref (aN 0), .ref (aT 0), .int Xtrail, .int 0])), ((aX 1), .inl (cyO, 4, .inr (.inr (.inr (.inr gS))))), ((aS 0), .inr (0, [.int Slane, .int Slength, .ref (aS 1)])), ((aS 1), .inl (cyI, 60, .inl S_cells))] := hD
  refine lv_if_eq (tgt := 19) hx hb dX3_cell_9 (by decide) (fun c3 => ?_) (fun c3 => ?_)
  · replace h := it_t c3 h
    refine lv_ldc2 hx hb hown hL153 dX3_cell_19 ?_
    replace h := Option.some.inj h; subst h
    exact hret () H locs _ ls hP hD hS dX3_cell_22
  · replace h := it_f c3 h
    refine lv_iload_n hx hb dX3_cell_12 rfl (lv_at hl 3 rfl) ?_
    obtain ⟨o4, hc5, h⟩ := ob h
    refine k_si (As := [.int p3]) (rest := []) ⟨hx, hb, hml, hown, hts⟩ (c_X3_isLane l dC dI cyI cyO H.size p3 hc5) (va_cwS 1 hts gX3_cell_X3_isLane rfl rfl rfl (by decide +kernel) ⟨Nat.le_of_ble_eq_true rfl, Nat.le_of_ble_eq_true rfl⟩) hP hD hK hS hA [] [0, 1, 2, 3] rfl rfl (by decide) (by decide) (by decide) rfl hl.1 rfl (Nat.le_of_ble_eq_true rfl) dX3_cell_13 ⟨Nat.zero_le _, Nat.zero_le _⟩ (fun _ H locs hP hD hS => ?_)
    have hP : va_P (dC, dI) vwCl [((aX 0), .inr (3, [.ref (aX 1), .ref aR, .ref (aX 2), .ref (aX 3), .int Xreadings, .ref (aN 0), .ref (aT 0), .int Xtrail, .int 0])), ((aX 1), .inl (cyO, 4, .inr (.inr (.inr (.inr gS))))), ((aS 0), .inr (0, [.int Slane, .int Slength, .ref (aS 1)])), ((aS 1), .inl (cyI, 60, .inl S_cells))] H := hP
    have hD : va_D A [((aX 0), .inr (3, [.ref (aX 1), .ref aR, .ref (aX 2), .ref (aX 3), .int Xreadings, .ref (aN 0), .ref (aT 0), .int Xtrail, .int 0])), ((aX 1), .inl (cyO, 4, .inr (.inr (.inr (.inr gS))))), ((aS 0), .inr (0, [.int Slane, .int Slength, .ref (aS 1)])), ((aS 1), .inl (cyI, 60, .inl S_cells))] := hD
    refine lv_if_ne (tgt := 23) hx hb dX3_cell_16 (by decide) (fun c6 => ?_) (fun c6 => ?_)
    · replace h := it_f c6 h
      refine lv_aload_n hx hb dX3_cell_23 rfl (lv_at hl 0 rfl) ?_
      refine lv_aload_n hx hb dX3_cell_24 rfl (lv_at hl 0 rfl) ?_
      refine va_get (D := (dC, dI)) (ci := 3) (v := .ref (aX 1)) (C := RX3) (T := TX3) (N := 9) hx hb hts hiX3 hown hK hP 0 rfl rfl 0 (by decide) hf13 (fun _ h9 => h9) rfl dX3_cell_25 ?_
      refine lv_iload_n hx hb dX3_cell_28 rfl (lv_at hl 1 rfl) ?_
      obtain ⟨e7, h⟩ := it_n h
      refine k_ald hx hb hK hP 1 1 rfl rfl (ix_in e7) (hg_p1 (ix_in e7)) dX3_cell_29 ?_
      refine lv_iload_n hx hb dX3_cell_30 rfl (lv_at hl 3 rfl) ?_
      refine lv_iload_n hx hb dX3_cell_31 rfl (lv_at hl 2 rfl) ?_
      refine lv_iconst (v := 1) hx hb dX3_cell_32 (by decide) ?_
      obtain ⟨o8, hc9, h⟩ := ob h
      refine k_vi (As := [.int p3, .int p2, .int 1]) (rest := [.ref (aX 0)]) ⟨hx, hb, hml, hown, hts⟩ (c_X0_faultOf l dC dI cyI cyO aS H.size Slane Slength p3 p2 1 hc9) (cwV 3 hts gX3_cell_X0_faultOf rfl rfl rfl (by decide +kernel) ⟨Nat.le_of_ble_eq_true rfl, Nat.le_of_ble_eq_true rfl⟩) hP hD hK hS hA [2] [0, 1, 3] rfl rfl (by decide) (by decide) (by decide) 0 0 rfl rfl rfl rfl hl.1 rfl (Nat.le_of_ble_eq_true rfl) dX3_cell_33 ⟨Nat.zero_le _, Nat.zero_le _⟩ (fun _ H locs hP hD hS => ?_)
      have hP : va_P (dC, dI) vwCl [((aX 0), .inr (3, [.ref (aX 1), .ref aR, .ref (aX 2), .ref (aX 3), .int Xreadings, .ref (aN 0), .ref (aT 0), .int Xtrail, .int 0])), ((aX 1), .inl (cyO, 4, .inr (.inr (.inr (.inr gS))))), ((aS 1), .inl (cyI, 60, .inl S_cells)), ((aS 0), .inr (0, [.int Slane, .int Slength, .ref (aS 1)]))] H := hP
      have hD : va_D A [((aX 0), .inr (3, [.ref (aX 1), .ref aR, .ref (aX 2), .ref (aX 3), .int Xreadings, .ref (aN 0), .ref (aT 0), .int Xtrail, .int 0])), ((aX 1), .inl (cyO, 4, .inr (.inr (.inr (.inr gS))))), ((aS 1), .inl (cyI, 60, .inl S_cells)), ((aS 0), .inr (0, [.int Slane, .int Slength, .ref (aS 1)]))] := hD
      refine va_put (D := (dC, dI)) (ci := 3) (v := .int o8) (ty := .int) (C := RX3) (T := TX3) (N := 9) hx hb hts hiX3 tyX3 tyX3_ok nmX3 hown hK hP hD hS 0 rfl rfl 8 (by decide) hf42 (fun _ h9 => h9) rfl (tyX3_ok 8 (by decide)) rfl rfl (Nat.le_of_ble_eq_true rfl) dX3_cell_36 (fun H locs hP hD hS => ?_)
      have hP : va_P (dC, dI) vwCl [((aX 0), .inr (3, [.ref (aX 1), .ref aR, .ref (aX 2), .ref (aX 3), .int Xreadings, .ref (aN 0), .ref (aT 0), .int Xtrail, .int o8])), ((aX 1), .inl (cyO, 4, .inr (.inr (.inr (.inr gS))))), ((aS 1), .inl (cyI, 60, .inl S_cells)), ((aS 0), .inr (0, [.int Slane, .int Slength, .ref (aS 1)]))] H := hP
      have hD : va_D A [((aX 0), .inr (3, [.ref (aX 1), .ref aR, .ref (aX 2), .ref (aX 3), .int Xreadings, .ref (aN 0), .ref (aT 0), .int Xtrail, .int o8])), ((aX 1), .inl (cyO, 4, .inr (.inr (.inr (.inr gS))))), ((aS 1), .inl (cyI, 60, .inl S_cells)), ((aS 0), .inr (0, [.int Slane, .int Slength, .ref (aS 1)]))] := hD
      refine lv_aload_n hx hb dX3_cell_39 rfl (lv_at hl 0 rfl) ?_
      refine va_get (D := (dC, dI)) (ci := 3) (v := .int o8) (C := RX3) (T := TX3) (N := 9) hx hb hts hiX3 hown hK hP 0 rfl rfl 8 (by decide) hf42 (fun _ h9 => h9) rfl dX3_cell_40 ?_
      refine lv_if_ne (tgt := 61) hx hb dX3_cell_43 (by decide) (fun c10 => ?_) (fun c10 => ?_)
      · replace h := it_f c10 h
        refine lv_ldc2 hx hb hown hL153 dX3_cell_61 ?_
        replace h := Option.some.inj h; subst h
        have hP := hP.sub (ws' := [((aX 0), .inr (3, [.ref (aX 1), .ref aR, .ref (aX 2), .ref (aX 3), .int Xreadings, .ref (aN 0), .ref (aT 0), .int Xtrail, .int o8])), ((aX 1), .inl (cyO, 4, .inr (.inr (.inr (.inr gS))))), ((aS 0), .inr (0, [.int Slane, .int Slength, .ref (aS 1)])), ((aS 1), .inl (cyI, 60, .inl S_cells))]) [0, 1, 3, 2] rfl
        have hD := hD.sub (ws' := [((aX 0), .inr (3, [.ref (aX 1), .ref aR, .ref (aX 2), .ref (aX 3), .int Xreadings, .ref (aN 0), .ref (aT 0), .int Xtrail, .int o8])), ((aX 1), .inl (cyO, 4, .inr (.inr (.inr (.inr gS))))), ((aS 0), .inr (0, [.int Slane, .int Slength, .ref (aS 1)])), ((aS 1), .inl (cyI, 60, .inl S_cells))]) [0, 1, 3, 2] (by decide) rfl
        exact hret () H locs _ ls hP hD hS dX3_cell_64
      · replace h := it_t c10 h
        refine lv_aload_n hx hb dX3_cell_46 rfl (lv_at hl 0 rfl) ?_
        refine va_get (D := (dC, dI)) (ci := 3) (v := .ref (aX 1)) (C := RX3) (T := TX3) (N := 9) hx hb hts hiX3 hown hK hP 0 rfl rfl 0 (by decide) hf13 (fun _ h9 => h9) rfl dX3_cell_47 ?_
        refine lv_iload_n hx hb dX3_cell_50 rfl (lv_at hl 1 rfl) ?_
        obtain ⟨e11, h⟩ := it_n h
        refine k_ald hx hb hK hP 1 1 rfl rfl (ix_in e11) (hg_p1 (ix_in e11)) dX3_cell_51 ?_
        refine va_get (D := (dC, dI)) (ci := 0) (v := .ref (aS 1)) (C := RX0) (T := TX0) (N := 3) hx hb hts hiX0 hown hK hP 3 rfl rfl 2 (by decide) hf170 (fun _ h9 => h9) rfl dX3_cell_52 ?_
        refine lv_iload_n hx hb dX3_cell_55 rfl (lv_at hl 2 rfl) ?_
        obtain ⟨e12, h⟩ := it_n h
        refine va_iald hx hb hK hP 2 0 rfl rfl (ix_in e12) dX3_cell_56 ?_
        refine lv_i2l (v := (S_cells p2.toNatClampNeg).toInt64) hx hb dX3_cell_57 rfl ?_
        refine lv_goto (tgt := 64) hx hb dX3_cell_58 (by decide) ?_
        replace h := Option.some.inj h; subst h
        have hP := hP.sub (ws' := [((aX 0), .inr (3, [.ref (aX 1), .ref aR, .ref (aX 2), .ref (aX 3), .int Xreadings, .ref (aN 0), .ref (aT 0), .int Xtrail, .int o8])), ((aX 1), .inl (cyO, 4, .inr (.inr (.inr (.inr gS))))), ((aS 0), .inr (0, [.int Slane, .int Slength, .ref (aS 1)])), ((aS 1), .inl (cyI, 60, .inl S_cells))]) [0, 1, 3, 2] rfl
        have hD := hD.sub (ws' := [((aX 0), .inr (3, [.ref (aX 1), .ref aR, .ref (aX 2), .ref (aX 3), .int Xreadings, .ref (aN 0), .ref (aT 0), .int Xtrail, .int o8])), ((aX 1), .inl (cyO, 4, .inr (.inr (.inr (.inr gS))))), ((aS 0), .inr (0, [.int Slane, .int Slength, .ref (aS 1)])), ((aS 1), .inl (cyI, 60, .inl S_cells))]) [0, 1, 3, 2] (by decide) rfl
        exact hret () H locs _ ls hP hD hS dX3_cell_64
    · replace h := it_t c6 h
      refine lv_ldc2 hx hb hown hL153 dX3_cell_19 ?_
      replace h := Option.some.inj h; subst h
      exact hret () H locs _ ls hP hD hS dX3_cell_22
set_option maxHeartbeats 4000000 in
set_option maxRecDepth 100000 in
theorem c_X3_copy (l : Launch) (dC : Nat → ClassId) (dI : Nat → Nat → Nat) (cyI cyO : ClassId) (aX : Nat → Nat) (aS : Nat → Nat) (aZ : Nat → Nat) (aR : Nat) (aN : Nat → Nat) (aT : Nat → Nat) (gS : Nat → Option Nat) (sz : Nat) (Xreadings : Int32) (Xtrail : Int32) (XlatestFault : Int32) (Slane : Int32) (Slength : Int32) (S_cells : Nat → Int32) (Zlane : Int32) (Zlength : Int32) (Z_cells : Nat → Int32) (p1 : Int32) (p2 : Int32) (p3 : Int32) (p4 : Int32) (p5 : Int32) {o : Int32 × Int32 × (Nat → Int32)} (hg_p1 : vp_in p1 4 → gS p1.toNatClampNeg = some (aS 0)) (hg_p3 : vp_in p3 4 → gS p3.toNatClampNeg = some (aZ 0)) (h : f_X3_copy XlatestFault Slane Slength S_cells Zlane Zlength Z_cells p1 p2 p3 p4 p5 = some o) : CtI l yX3_copy wsX3_copy { frames := 1, cells := 0, slots := 0, locals := 40 } (dC, dI) [(cyI, .int), (cyO, .object RX0)] [.ref (aX 0), .int p1, .int p2, .int p3, .int p4, .int p5] sz [((aX 0), .inr (3, [.ref (aX 1), .ref aR, .ref (aX 2), .ref (aX 3), .int Xreadings, .ref (aN 0), .ref (aT 0), .int Xtrail, .int XlatestFault])), ((aX 1), .inl (cyO, 4, .inr (.inr (.inr (.inr gS))))), ((aS 0), .inr (0, [.int Slane, .int Slength, .ref (aS 1)])), ((aS 1), .inl (cyI, 60, .inl S_cells)), ((aZ 0), .inr (0, [.int Zlane, .int Zlength, .ref (aZ 1)])), ((aZ 1), .inl (cyI, 60, .inl Z_cells))] (fun (_ : Unit) => [((aX 0), .inr (3, [.ref (aX 1), .ref aR, .ref (aX 2), .ref (aX 3), .int Xreadings, .ref (aN 0), .ref (aT 0), .int Xtrail, .int o.2.1])), ((aX 1), .inl (cyO, 4, .inr (.inr (.inr (.inr gS))))), ((aS 0), .inr (0, [.int Slane, .int Slength, .ref (aS 1)])), ((aS 1), .inl (cyI, 60, .inl S_cells)), ((aZ 0), .inr (0, [.int Zlane, .int Zlength, .ref (aZ 1)])), ((aZ 1), .inl (cyI, 60, .inl o.2.2))]) o.1 := by
  refine CtI.of (cc := cX3_copy) (maxL := 8) (by decide) rfl (Nat.le_of_ble_eq_true rfl) ?_
  intro p e s m args below meth c A Q H locs hx hb hml hown hts hA hK hP hD hS hret ls hl
  have hown : s.vm.findClass RX3 = some m.cls := hown
  have hl : lv_has ls 8 [(0, .ref (aX 0)), (1, .int p1), (2, .int p2), (3, .int p3), (4, .int p4), (5, .int p5)] := hl
  unfold f_X3_copy at h
  have hiX0 : ∀ w ∈ u_ws RX0 TX0 3, w ∈ wsX3_copy := by decide +kernel
  have hiX3 : ∀ w ∈ u_ws RX3 TX3 9, w ∈ wsX3_copy := by decide +kernel
  have hf13 := hts (.fieldLink RX3 13 "TowerTell" "sheets" "[LTowerTell$Sheet;") (by decide +kernel)
  have hf42 := hts (.fieldLink RX3 42 "TowerTell" "latestFault" "I") (by decide +kernel)
  have hf170 := hts (.fieldLink RX3 170 "TowerTell$Sheet" "cells" "[I") (by decide +kernel)
  have hf173 := hts (.fieldLink RX3 173 "TowerTell$Sheet" "lane" "I") (by decide +kernel)
  have hac1 := hts (.methodLink RX3 176 arraycopyName) (by decide +kernel)
  have hac2 := hts (.native arraycopyName) (by decide +kernel)
  have hac3 := hts (.static arraycopyName) (by decide +kernel)
  have hac4 := hts (.initialized "java/lang/System") (by decide +kernel)
  refine lv_aload_n hx hb dX3_copy_0 rfl (lv_at hl 0 rfl) ?_
  refine lv_iconst (v := 0) hx hb dX3_copy_1 (by decide) ?_
  refine va_put (D := (dC, dI)) (ci := 3) (v := .int 0) (ty := .int) (C := RX3) (T := TX3) (N := 9) hx hb hts hiX3 tyX3 tyX3_ok nmX3 hown hK hP hD hS 0 rfl rfl 8 (by decide) hf42 (fun _ h9 => h9) rfl (tyX3_ok 8 (by decide)) rfl rfl (Nat.le_of_ble_eq_true rfl) dX3_copy_2 (fun H locs hP hD hS => ?_)
  have hP : va_P (dC, dI) vwCl [((aX 0), .inr (3, [.ref (aX 1), .ref aR, .ref (aX 2), .ref (aX 3), .int Xreadings, .ref (aN 0), .ref (aT 0), .int Xtrail, .int 0])), ((aX 1), .inl (cyO, 4, .inr (.inr (.inr (.inr gS))))), ((aS 0), .inr (0, [.int Slane, .int Slength, .ref (aS 1)])), ((aS 1), .inl (cyI, 60, .inl S_cells)), ((aZ 0), .inr (0, [.int Zlane, .int Zlength, .ref (aZ 1)])), ((aZ 1), .inl (cyI, 60, .inl Z_cells))] H := hP
  have hD : va_D A [((aX 0), .inr (3, [.ref (aX 1), .ref aR, .ref (aX 2), .ref (aX 3), .int Xreadings, .ref (aN 0), .ref (aT 0), .int Xtrail, .int 0])), ((aX 1), .inl (cyO, 4, .inr (.inr (.inr (.inr gS))))), ((aS 0), .inr (0, [.int Slane, .int Slength, .ref (aS 1)])), ((aS 1), .inl (cyI, 60, .inl S_cells)), ((aZ 0), .inr (0, [.int Zlane, .int Zlength, .ref (aZ 1)])), ((aZ 1), .inl (cyI, 60, .inl Z_cells))] := hD
  refine lv_iload_n hx hb dX3_copy_5 rfl (lv_at hl 1 rfl) ?_
  obtain ⟨o1, hc2, h⟩ := ob h
  refine k_si (As := [.int p1]) (rest := []) ⟨hx, hb, hml, hown, hts⟩ (c_X3_isSheet l dC dI cyI cyO H.size p1 hc2) (va_cwS 1 hts gX3_copy_X3_isSheet rfl rfl rfl (by decide +kernel) ⟨Nat.le_of_ble_eq_true rfl, Nat.le_of_ble_eq_true rfl⟩) hP hD hK hS hA [] [0, 1, 2, 3, 4, 5] rfl rfl (by decide) (by decide) (by decide) rfl hl.1 rfl (Nat.le_of_ble_eq_true rfl) dX3_copy_6 ⟨Nat.zero_le _, Nat.zero_le _⟩ (fun _ H locs hP hD hS => ?_)
  have hP : va_P (dC, dI) vwCl [((aX 0), .inr (3, [.ref (aX 1), .ref aR, .ref (aX 2), .ref (aX 3), .int Xreadings, .ref (aN 0), .ref (aT 0), .int Xtrail, .int 0])), ((aX 1), .inl (cyO, 4, .inr (.inr (.inr (.inr gS))))), ((aS 0), .inr (0, [.int Slane, .int Slength, .ref (aS 1)])), ((aS 1), .inl (cyI, 60, .inl S_cells)), ((aZ 0), .inr (0, [.int Zlane, .int Zlength, .ref (aZ 1)])), ((aZ 1), .inl (cyI, 60, .inl Z_cells))] H := hP
  have hD : va_D A [((aX 0), .inr (3, [.ref (aX 1), .ref aR, .ref (aX 2), .ref (aX 3), .int Xreadings, .ref (aN 0), .ref (aT 0), .int Xtrail, .int 0])), ((aX 1), .inl (cyO, 4, .inr (.inr (.inr (.inr gS))))), ((aS 0), .inr (0, [.int Slane, .int Slength, .ref (aS 1)])), ((aS 1), .inl (cyI, 60, .inl S_cells)), ((aZ 0), .inr (0, [.int Zlane, .int Zlength, .ref (aZ 1)])), ((aZ 1), .inl (cyI, 60, .inl Z_cells))] := hD
  refine lv_if_eq (tgt := 19) hx hb dX3_copy_9 (by decide) (fun c3 => ?_) (fun c3 => ?_)
  · replace h := it_t c3 h
    refine lv_iconst (v := (-1)) hx hb dX3_copy_19 (by decide) ?_
    replace h := Option.some.inj h; subst h
    exact hret () H locs _ ls hP hD hS dX3_copy_20 rfl
  · replace h := it_f c3 h
    refine lv_iload_n hx hb dX3_copy_12 rfl (lv_at hl 3 rfl) ?_
    obtain ⟨o4, hc5, h⟩ := ob h
    refine k_si (As := [.int p3]) (rest := []) ⟨hx, hb, hml, hown, hts⟩ (c_X3_isSheet l dC dI cyI cyO H.size p3 hc5) (va_cwS 1 hts gX3_copy_X3_isSheet rfl rfl rfl (by decide +kernel) ⟨Nat.le_of_ble_eq_true rfl, Nat.le_of_ble_eq_true rfl⟩) hP hD hK hS hA [] [0, 1, 2, 3, 4, 5] rfl rfl (by decide) (by decide) (by decide) rfl hl.1 rfl (Nat.le_of_ble_eq_true rfl) dX3_copy_13 ⟨Nat.zero_le _, Nat.zero_le _⟩ (fun _ H locs hP hD hS => ?_)
    have hP : va_P (dC, dI) vwCl [((aX 0), .inr (3, [.ref (aX 1), .ref aR, .ref (aX 2), .ref (aX 3), .int Xreadings, .ref (aN 0), .ref (aT 0), .int Xtrail, .int 0])), ((aX 1), .inl (cyO, 4, .inr (.inr (.inr (.inr gS))))), ((aS 0), .inr (0, [.int Slane, .int Slength, .ref (aS 1)])), ((aS 1), .inl (cyI, 60, .inl S_cells)), ((aZ 0), .inr (0, [.int Zlane, .int Zlength, .ref (aZ 1)])), ((aZ 1), .inl (cyI, 60, .inl Z_cells))] H := hP
    have hD : va_D A [((aX 0), .inr (3, [.ref (aX 1), .ref aR, .ref (aX 2), .ref (aX 3), .int Xreadings, .ref (aN 0), .ref (aT 0), .int Xtrail, .int 0])), ((aX 1), .inl (cyO, 4, .inr (.inr (.inr (.inr gS))))), ((aS 0), .inr (0, [.int Slane, .int Slength, .ref (aS 1)])), ((aS 1), .inl (cyI, 60, .inl S_cells)), ((aZ 0), .inr (0, [.int Zlane, .int Zlength, .ref (aZ 1)])), ((aZ 1), .inl (cyI, 60, .inl Z_cells))] := hD
    refine lv_if_ne (tgt := 21) hx hb dX3_copy_16 (by decide) (fun c6 => ?_) (fun c6 => ?_)
    · replace h := it_f c6 h
      refine lv_aload_n hx hb dX3_copy_21 rfl (lv_at hl 0 rfl) ?_
      refine va_get (D := (dC, dI)) (ci := 3) (v := .ref (aX 1)) (C := RX3) (T := TX3) (N := 9) hx hb hts hiX3 hown hK hP 0 rfl rfl 0 (by decide) hf13 (fun _ h9 => h9) rfl dX3_copy_22 ?_
      refine lv_iload_n hx hb dX3_copy_25 rfl (lv_at hl 1 rfl) ?_
      obtain ⟨e7, h⟩ := it_n h
      refine k_ald hx hb hK hP 1 1 rfl rfl (ix_in e7) (hg_p1 (ix_in e7)) dX3_copy_26 ?_
      refine lv_astore (lv' := [(6, .ref (aS 0)), (0, .ref (aX 0)), (1, .int p1), (2, .int p2), (3, .int p3), (4, .int p4), (5, .int p5)]) hx hb dX3_copy_27 hl (by decide) rfl (fun ls hl => ?_)
      refine lv_aload_n hx hb dX3_copy_29 rfl (lv_at hl 1 rfl) ?_
      refine va_get (D := (dC, dI)) (ci := 3) (v := .ref (aX 1)) (C := RX3) (T := TX3) (N := 9) hx hb hts hiX3 hown hK hP 0 rfl rfl 0 (by decide) hf13 (fun _ h9 => h9) rfl dX3_copy_30 ?_
      refine lv_iload_n hx hb dX3_copy_33 rfl (lv_at hl 4 rfl) ?_
      obtain ⟨e8, h⟩ := it_n h
      refine k_ald hx hb hK hP 1 1 rfl rfl (ix_in e8) (hg_p3 (ix_in e8)) dX3_copy_34 ?_
      refine lv_astore (lv' := [(7, .ref (aZ 0)), (6, .ref (aS 0)), (0, .ref (aX 0)), (1, .int p1), (2, .int p2), (3, .int p3), (4, .int p4), (5, .int p5)]) hx hb dX3_copy_35 hl (by decide) rfl (fun ls hl => ?_)
      refine lv_aload hx hb dX3_copy_37 (lv_at hl 1 rfl) ?_
      obtain ⟨o9, hc10, h⟩ := ob h
      refine k_vi (As := []) (rest := []) ⟨hx, hb, hml, hown, hts⟩ (c_X0_isBare l dC dI cyI cyO aS H.size Slane Slength hc10) (cwV 0 hts gX3_copy_X0_isBare rfl rfl rfl (by decide +kernel) ⟨Nat.le_of_ble_eq_true rfl, Nat.le_of_ble_eq_true rfl⟩) hP hD hK hS hA [2] [0, 1, 3, 4, 5] rfl rfl (by decide) (by decide) (by decide) 0 0 rfl rfl rfl rfl hl.1 rfl (Nat.le_of_ble_eq_true rfl) dX3_copy_39 ⟨Nat.zero_le _, Nat.zero_le _⟩ (fun _ H locs hP hD hS => ?_)
      have hP : va_P (dC, dI) vwCl [((aX 0), .inr (3, [.ref (aX 1), .ref aR, .ref (aX 2), .ref (aX 3), .int Xreadings, .ref (aN 0), .ref (aT 0), .int Xtrail, .int 0])), ((aX 1), .inl (cyO, 4, .inr (.inr (.inr (.inr gS))))), ((aS 1), .inl (cyI, 60, .inl S_cells)), ((aZ 0), .inr (0, [.int Zlane, .int Zlength, .ref (aZ 1)])), ((aZ 1), .inl (cyI, 60, .inl Z_cells)), ((aS 0), .inr (0, [.int Slane, .int Slength, .ref (aS 1)]))] H := hP
      have hD : va_D A [((aX 0), .inr (3, [.ref (aX 1), .ref aR, .ref (aX 2), .ref (aX 3), .int Xreadings, .ref (aN 0), .ref (aT 0), .int Xtrail, .int 0])), ((aX 1), .inl (cyO, 4, .inr (.inr (.inr (.inr gS))))), ((aS 1), .inl (cyI, 60, .inl S_cells)), ((aZ 0), .inr (0, [.int Zlane, .int Zlength, .ref (aZ 1)])), ((aZ 1), .inl (cyI, 60, .inl Z_cells)), ((aS 0), .inr (0, [.int Slane, .int Slength, .ref (aS 1)]))] := hD
      refine lv_if_ne (tgt := 53) hx hb dX3_copy_42 (by decide) (fun c11 => ?_) (fun c11 => ?_)
      · replace h := it_f c11 h
        refine lv_aload_n hx hb dX3_copy_53 rfl (lv_at hl 2 rfl) ?_
        refine lv_iconst (v := 1) hx hb dX3_copy_54 (by decide) ?_
        obtain ⟨o12, hc13, h⟩ := ob h
        refine k_vi (As := [.int 1]) (rest := []) ⟨hx, hb, hml, hown, hts⟩ (c_X3_faulted l dC dI cyI cyO aX aR aN aT H.size Xreadings Xtrail 0 1 hc13) (cwV 1 hts gX3_copy_X3_faulted rfl rfl rfl (by decide +kernel) ⟨Nat.le_of_ble_eq_true rfl, Nat.le_of_ble_eq_true rfl⟩) hP hD hK hS hA [0] [1, 2, 3, 4, 5] rfl rfl (by decide) (by decide) (by decide) 3 0 rfl rfl rfl rfl hl.1 rfl (Nat.le_of_ble_eq_true rfl) dX3_copy_55 ⟨Nat.zero_le _, Nat.zero_le _⟩ (fun _ H locs hP hD hS => ?_)
        have hP : va_P (dC, dI) vwCl [((aX 1), .inl (cyO, 4, .inr (.inr (.inr (.inr gS))))), ((aS 1), .inl (cyI, 60, .inl S_cells)), ((aZ 0), .inr (0, [.int Zlane, .int Zlength, .ref (aZ 1)])), ((aZ 1), .inl (cyI, 60, .inl Z_cells)), ((aS 0), .inr (0, [.int Slane, .int Slength, .ref (aS 1)])), ((aX 0), .inr (3, [.ref (aX 1), .ref aR, .ref (aX 2), .ref (aX 3), .int Xreadings, .ref (aN 0), .ref (aT 0), .int Xtrail, .int o12.2]))] H := hP
        have hD : va_D A [((aX 1), .inl (cyO, 4, .inr (.inr (.inr (.inr gS))))), ((aS 1), .inl (cyI, 60, .inl S_cells)), ((aZ 0), .inr (0, [.int Zlane, .int Zlength, .ref (aZ 1)])), ((aZ 1), .inl (cyI, 60, .inl Z_cells)), ((aS 0), .inr (0, [.int Slane, .int Slength, .ref (aS 1)])), ((aX 0), .inr (3, [.ref (aX 1), .ref aR, .ref (aX 2), .ref (aX 3), .int Xreadings, .ref (aN 0), .ref (aT 0), .int Xtrail, .int o12.2]))] := hD
        replace h := Option.some.inj h; subst h
        have hP := hP.sub (ws' := [((aX 0), .inr (3, [.ref (aX 1), .ref aR, .ref (aX 2), .ref (aX 3), .int Xreadings, .ref (aN 0), .ref (aT 0), .int Xtrail, .int o12.2])), ((aX 1), .inl (cyO, 4, .inr (.inr (.inr (.inr gS))))), ((aS 0), .inr (0, [.int Slane, .int Slength, .ref (aS 1)])), ((aS 1), .inl (cyI, 60, .inl S_cells)), ((aZ 0), .inr (0, [.int Zlane, .int Zlength, .ref (aZ 1)])), ((aZ 1), .inl (cyI, 60, .inl Z_cells))]) [5, 0, 4, 1, 2, 3] rfl
        have hD := hD.sub (ws' := [((aX 0), .inr (3, [.ref (aX 1), .ref aR, .ref (aX 2), .ref (aX 3), .int Xreadings, .ref (aN 0), .ref (aT 0), .int Xtrail, .int o12.2])), ((aX 1), .inl (cyO, 4, .inr (.inr (.inr (.inr gS))))), ((aS 0), .inr (0, [.int Slane, .int Slength, .ref (aS 1)])), ((aS 1), .inl (cyI, 60, .inl S_cells)), ((aZ 0), .inr (0, [.int Zlane, .int Zlength, .ref (aZ 1)])), ((aZ 1), .inl (cyI, 60, .inl Z_cells))]) [5, 0, 4, 1, 2, 3] (by decide) rfl
        exact hret () H locs _ ls hP hD hS dX3_copy_58 rfl
      · replace h := it_t c11 h
        refine lv_aload hx hb dX3_copy_45 (lv_at hl 0 rfl) ?_
        obtain ⟨o14, hc15, h⟩ := ob h
        refine k_vi (As := []) (rest := []) ⟨hx, hb, hml, hown, hts⟩ (c_X0_isBare l dC dI cyI cyO aZ H.size Zlane Zlength hc15) (cwV 0 hts gX3_copy_X0_isBare rfl rfl rfl (by decide +kernel) ⟨Nat.le_of_ble_eq_true rfl, Nat.le_of_ble_eq_true rfl⟩) hP hD hK hS hA [3] [0, 1, 2, 4, 5] rfl rfl (by decide) (by decide) (by decide) 0 0 rfl rfl rfl rfl hl.1 rfl (Nat.le_of_ble_eq_true rfl) dX3_copy_47 ⟨Nat.zero_le _, Nat.zero_le _⟩ (fun _ H locs hP hD hS => ?_)
        have hP : va_P (dC, dI) vwCl [((aX 0), .inr (3, [.ref (aX 1), .ref aR, .ref (aX 2), .ref (aX 3), .int Xreadings, .ref (aN 0), .ref (aT 0), .int Xtrail, .int 0])), ((aX 1), .inl (cyO, 4, .inr (.inr (.inr (.inr gS))))), ((aS 1), .inl (cyI, 60, .inl S_cells)), ((aZ 1), .inl (cyI, 60, .inl Z_cells)), ((aS 0), .inr (0, [.int Slane, .int Slength, .ref (aS 1)])), ((aZ 0), .inr (0, [.int Zlane, .int Zlength, .ref (aZ 1)]))] H := hP
        have hD : va_D A [((aX 0), .inr (3, [.ref (aX 1), .ref aR, .ref (aX 2), .ref (aX 3), .int Xreadings, .ref (aN 0), .ref (aT 0), .int Xtrail, .int 0])), ((aX 1), .inl (cyO, 4, .inr (.inr (.inr (.inr gS))))), ((aS 1), .inl (cyI, 60, .inl S_cells)), ((aZ 1), .inl (cyI, 60, .inl Z_cells)), ((aS 0), .inr (0, [.int Slane, .int Slength, .ref (aS 1)])), ((aZ 0), .inr (0, [.int Zlane, .int Zlength, .ref (aZ 1)]))] := hD
        refine lv_if_eq (tgt := 59) hx hb dX3_copy_50 (by decide) (fun c16 => ?_) (fun c16 => ?_)
        · replace h := it_t c16 h
          refine lv_aload hx hb dX3_copy_59 (lv_at hl 1 rfl) ?_
          refine va_get (D := (dC, dI)) (ci := 0) (v := .int Slane) (C := RX0) (T := TX0) (N := 3) hx hb hts hiX0 hown hK hP 4 rfl rfl 0 (by decide) hf173 (fun _ h9 => h9) rfl dX3_copy_61 ?_
          refine lv_aload hx hb dX3_copy_64 (lv_at hl 0 rfl) ?_
          refine va_get (D := (dC, dI)) (ci := 0) (v := .int Zlane) (C := RX0) (T := TX0) (N := 3) hx hb hts hiX0 hown hK hP 5 rfl rfl 0 (by decide) hf173 (fun _ h9 => h9) rfl dX3_copy_66 ?_
          refine lv_icmp_eq (tgt := 78) hx hb dX3_copy_69 (by decide) (fun c17 => ?_) (fun c17 => ?_)
          · replace h := it_t c17 h
            refine lv_aload hx hb dX3_copy_78 (lv_at hl 1 rfl) ?_
            refine lv_iload_n hx hb dX3_copy_80 rfl (lv_at hl 4 rfl) ?_
            refine lv_iload hx hb dX3_copy_81 (lv_at hl 7 rfl) ?_
            obtain ⟨o18, hc19, h⟩ := ob h
            refine k_vi (As := [.int p2, .int p5]) (rest := []) ⟨hx, hb, hml, hown, hts⟩ (c_X0_holds l dC dI cyI cyO aS H.size Slane Slength p2 p5 hc19) (cwV 2 hts gX3_copy_X0_holds rfl rfl rfl (by decide +kernel) ⟨Nat.le_of_ble_eq_true rfl, Nat.le_of_ble_eq_true rfl⟩) hP hD hK hS hA [4] [0, 1, 2, 3, 5] rfl rfl (by decide) (by decide) (by decide) 0 0 rfl rfl rfl rfl hl.1 rfl (Nat.le_of_ble_eq_true rfl) dX3_copy_83 ⟨Nat.zero_le _, Nat.zero_le _⟩ (fun _ H locs hP hD hS => ?_)
            have hP : va_P (dC, dI) vwCl [((aX 0), .inr (3, [.ref (aX 1), .ref aR, .ref (aX 2), .ref (aX 3), .int Xreadings, .ref (aN 0), .ref (aT 0), .int Xtrail, .int 0])), ((aX 1), .inl (cyO, 4, .inr (.inr (.inr (.inr gS))))), ((aS 1), .inl (cyI, 60, .inl S_cells)), ((aZ 1), .inl (cyI, 60, .inl Z_cells)), ((aZ 0), .inr (0, [.int Zlane, .int Zlength, .ref (aZ 1)])), ((aS 0), .inr (0, [.int Slane, .int Slength, .ref (aS 1)]))] H := hP
            have hD : va_D A [((aX 0), .inr (3, [.ref (aX 1), .ref aR, .ref (aX 2), .ref (aX 3), .int Xreadings, .ref (aN 0), .ref (aT 0), .int Xtrail, .int 0])), ((aX 1), .inl (cyO, 4, .inr (.inr (.inr (.inr gS))))), ((aS 1), .inl (cyI, 60, .inl S_cells)), ((aZ 1), .inl (cyI, 60, .inl Z_cells)), ((aZ 0), .inr (0, [.int Zlane, .int Zlength, .ref (aZ 1)])), ((aS 0), .inr (0, [.int Slane, .int Slength, .ref (aS 1)]))] := hD
            refine lv_if_eq (tgt := 101) hx hb dX3_copy_86 (by decide) (fun c20 => ?_) (fun c20 => ?_)
            · replace h := it_t c20 h
              refine lv_aload_n hx hb dX3_copy_101 rfl (lv_at hl 2 rfl) ?_
              refine lv_iconst (v := 3) hx hb dX3_copy_102 (by decide) ?_
              obtain ⟨o21, hc22, h⟩ := ob h
              refine k_vi (As := [.int 3]) (rest := []) ⟨hx, hb, hml, hown, hts⟩ (c_X3_faulted l dC dI cyI cyO aX aR aN aT H.size Xreadings Xtrail 0 3 hc22) (cwV 1 hts gX3_copy_X3_faulted rfl rfl rfl (by decide +kernel) ⟨Nat.le_of_ble_eq_true rfl, Nat.le_of_ble_eq_true rfl⟩) hP hD hK hS hA [0] [1, 2, 3, 4, 5] rfl rfl (by decide) (by decide) (by decide) 3 0 rfl rfl rfl rfl hl.1 rfl (Nat.le_of_ble_eq_true rfl) dX3_copy_103 ⟨Nat.zero_le _, Nat.zero_le _⟩ (fun _ H locs hP hD hS => ?_)
              have hP : va_P (dC, dI) vwCl [((aX 1), .inl (cyO, 4, .inr (.inr (.inr (.inr gS))))), ((aS 1), .inl (cyI, 60, .inl S_cells)), ((aZ 1), .inl (cyI, 60, .inl Z_cells)), ((aZ 0), .inr (0, [.int Zlane, .int Zlength, .ref (aZ 1)])), ((aS 0), .inr (0, [.int Slane, .int Slength, .ref (aS 1)])), ((aX 0), .inr (3, [.ref (aX 1), .ref aR, .ref (aX 2), .ref (aX 3), .int Xreadings, .ref (aN 0), .ref (aT 0), .int Xtrail, .int o21.2]))] H := hP
              have hD : va_D A [((aX 1), .inl (cyO, 4, .inr (.inr (.inr (.inr gS))))), ((aS 1), .inl (cyI, 60, .inl S_cells)), ((aZ 1), .inl (cyI, 60, .inl Z_cells)), ((aZ 0), .inr (0, [.int Zlane, .int Zlength, .ref (aZ 1)])), ((aS 0), .inr (0, [.int Slane, .int Slength, .ref (aS 1)])), ((aX 0), .inr (3, [.ref (aX 1), .ref aR, .ref (aX 2), .ref (aX 3), .int Xreadings, .ref (aN 0), .ref (aT 0), .int Xtrail, .int o21.2]))] := hD
              replace h := Option.some.inj h; subst h
              have hP := hP.sub (ws' := [((aX 0), .inr (3, [.ref (aX 1), .ref aR, .ref (aX 2), .ref (aX 3), .int Xreadings, .ref (aN 0), .ref (aT 0), .int Xtrail, .int o21.2])), ((aX 1), .inl (cyO, 4, .inr (.inr (.inr (.inr gS))))), ((aS 0), .inr (0, [.int Slane, .int Slength, .ref (aS 1)])), ((aS 1), .inl (cyI, 60, .inl S_cells)), ((aZ 0), .inr (0, [.int Zlane, .int Zlength, .ref (aZ 1)])), ((aZ 1), .inl (cyI, 60, .inl Z_cells))]) [5, 0, 4, 1, 3, 2] rfl
              have hD := hD.sub (ws' := [((aX 0), .inr (3, [.ref (aX 1), .ref aR, .ref (aX 2), .ref (aX 3), .int Xreadings, .ref (aN 0), .ref (aT 0), .int Xtrail, .int o21.2])), ((aX 1), .inl (cyO, 4, .inr (.inr (.inr (.inr gS))))), ((aS 0), .inr (0, [.int Slane, .int Slength, .ref (aS 1)])), ((aS 1), .inl (cyI, 60, .inl S_cells)), ((aZ 0), .inr (0, [.int Zlane, .int Zlength, .ref (aZ 1)])), ((aZ 1), .inl (cyI, 60, .inl Z_cells))]) [5, 0, 4, 1, 3, 2] (by decide) rfl
              exact hret () H locs _ ls hP hD hS dX3_copy_106 rfl
            · replace h := it_f c20 h
              refine lv_aload hx hb dX3_copy_89 (lv_at hl 0 rfl) ?_
              refine lv_iload hx hb dX3_copy_91 (lv_at hl 6 rfl) ?_
              refine lv_iload hx hb dX3_copy_93 (lv_at hl 7 rfl) ?_
              obtain ⟨o23, hc24, h⟩ := ob h
              refine k_vi (As := [.int p4, .int p5]) (rest := []) ⟨hx, hb, hml, hown, hts⟩ (c_X0_holds l dC dI cyI cyO aZ H.size Zlane Zlength p4 p5 hc24) (cwV 2 hts gX3_copy_X0_holds rfl rfl rfl (by decide +kernel) ⟨Nat.le_of_ble_eq_true rfl, Nat.le_of_ble_eq_true rfl⟩) hP hD hK hS hA [4] [0, 1, 2, 3, 5] rfl rfl (by decide) (by decide) (by decide) 0 0 rfl rfl rfl rfl hl.1 rfl (Nat.le_of_ble_eq_true rfl) dX3_copy_95 ⟨Nat.zero_le _, Nat.zero_le _⟩ (fun _ H locs hP hD hS => ?_)
              have hP : va_P (dC, dI) vwCl [((aX 0), .inr (3, [.ref (aX 1), .ref aR, .ref (aX 2), .ref (aX 3), .int Xreadings, .ref (aN 0), .ref (aT 0), .int Xtrail, .int 0])), ((aX 1), .inl (cyO, 4, .inr (.inr (.inr (.inr gS))))), ((aS 1), .inl (cyI, 60, .inl S_cells)), ((aZ 1), .inl (cyI, 60, .inl Z_cells)), ((aS 0), .inr (0, [.int Slane, .int Slength, .ref (aS 1)])), ((aZ 0), .inr (0, [.int Zlane, .int Zlength, .ref (aZ 1)]))] H := hP
              have hD : va_D A [((aX 0), .inr (3, [.ref (aX 1), .ref aR, .ref (aX 2), .ref (aX 3), .int Xreadings, .ref (aN 0), .ref (aT 0), .int Xtrail, .int 0])), ((aX 1), .inl (cyO, 4, .inr (.inr (.inr (.inr gS))))), ((aS 1), .inl (cyI, 60, .inl S_cells)), ((aZ 1), .inl (cyI, 60, .inl Z_cells)), ((aS 0), .inr (0, [.int Slane, .int Slength, .ref (aS 1)])), ((aZ 0), .inr (0, [.int Zlane, .int Zlength, .ref (aZ 1)]))] := hD
              refine lv_if_ne (tgt := 107) hx hb dX3_copy_98 (by decide) (fun c25 => ?_) (fun c25 => ?_)
              · replace h := it_f c25 h
                refine lv_aload hx hb dX3_copy_107 (lv_at hl 1 rfl) ?_
                refine va_get (D := (dC, dI)) (ci := 0) (v := .ref (aS 1)) (C := RX0) (T := TX0) (N := 3) hx hb hts hiX0 hown hK hP 4 rfl rfl 2 (by decide) hf170 (fun _ h9 => h9) rfl dX3_copy_109 ?_
                refine lv_iload_n hx hb dX3_copy_112 rfl (lv_at hl 4 rfl) ?_
                refine lv_aload hx hb dX3_copy_113 (lv_at hl 0 rfl) ?_
                refine va_get (D := (dC, dI)) (ci := 0) (v := .ref (aZ 1)) (C := RX0) (T := TX0) (N := 3) hx hb hts hiX0 hown hK hP 5 rfl rfl 2 (by decide) hf170 (fun _ h9 => h9) rfl dX3_copy_115 ?_
                refine lv_iload hx hb dX3_copy_118 (lv_at hl 6 rfl) ?_
                refine lv_iload hx hb dX3_copy_120 (lv_at hl 7 rfl) ?_
                obtain ⟨e26, h⟩ := it_n h
                obtain ⟨e27, h⟩ := it_n h
                obtain ⟨e28, h⟩ := it_n h
                obtain ⟨e29, h⟩ := it_n h
                obtain ⟨e30, h⟩ := it_n h
                refine va_copyi (a0 := (aS 1)) (ty := .int) hx hb (hml.trans hl.1.symm) hown hac1 hac2 hac3 hac4 hK hP hD hS 2 3 0 0 rfl rfl rfl rfl rfl e26 e27 e28 e29 e30 (fun _ _ => rfl) (Nat.le_of_ble_eq_true rfl) (Nat.le_of_ble_eq_true rfl) dX3_copy_122 (fun H locs hP hD hS => ?_)
                have hP : va_P (dC, dI) vwCl [((aX 0), .inr (3, [.ref (aX 1), .ref aR, .ref (aX 2), .ref (aX 3), .int Xreadings, .ref (aN 0), .ref (aT 0), .int Xtrail, .int 0])), ((aX 1), .inl (cyO, 4, .inr (.inr (.inr (.inr gS))))), ((aS 1), .inl (cyI, 60, .inl S_cells)), ((aZ 1), .inl (cyI, 60, .inl (va_cpy S_cells Z_cells p2.toNatClampNeg p4.toNatClampNeg p5.toNatClampNeg))), ((aS 0), .inr (0, [.int Slane, .int Slength, .ref (aS 1)])), ((aZ 0), .inr (0, [.int Zlane, .int Zlength, .ref (aZ 1)]))] H := hP
                have hD : va_D A [((aX 0), .inr (3, [.ref (aX 1), .ref aR, .ref (aX 2), .ref (aX 3), .int Xreadings, .ref (aN 0), .ref (aT 0), .int Xtrail, .int 0])), ((aX 1), .inl (cyO, 4, .inr (.inr (.inr (.inr gS))))), ((aS 1), .inl (cyI, 60, .inl S_cells)), ((aZ 1), .inl (cyI, 60, .inl (va_cpy S_cells Z_cells p2.toNatClampNeg p4.toNatClampNeg p5.toNatClampNeg))), ((aS 0), .inr (0, [.int Slane, .int Slength, .ref (aS 1)])), ((aZ 0), .inr (0, [.int Zlane, .int Zlength, .ref (aZ 1)]))] := hD
                refine lv_iload hx hb dX3_copy_125 (lv_at hl 7 rfl) ?_
                replace h := Option.some.inj h; subst h
                have hP := hP.sub (ws' := [((aX 0), .inr (3, [.ref (aX 1), .ref aR, .ref (aX 2), .ref (aX 3), .int Xreadings, .ref (aN 0), .ref (aT 0), .int Xtrail, .int 0])), ((aX 1), .inl (cyO, 4, .inr (.inr (.inr (.inr gS))))), ((aS 0), .inr (0, [.int Slane, .int Slength, .ref (aS 1)])), ((aS 1), .inl (cyI, 60, .inl S_cells)), ((aZ 0), .inr (0, [.int Zlane, .int Zlength, .ref (aZ 1)])), ((aZ 1), .inl (cyI, 60, .inl (va_cpy S_cells Z_cells p2.toNatClampNeg p4.toNatClampNeg p5.toNatClampNeg)))]) [0, 1, 4, 2, 5, 3] rfl
                have hD := hD.sub (ws' := [((aX 0), .inr (3, [.ref (aX 1), .ref aR, .ref (aX 2), .ref (aX 3), .int Xreadings, .ref (aN 0), .ref (aT 0), .int Xtrail, .int 0])), ((aX 1), .inl (cyO, 4, .inr (.inr (.inr (.inr gS))))), ((aS 0), .inr (0, [.int Slane, .int Slength, .ref (aS 1)])), ((aS 1), .inl (cyI, 60, .inl S_cells)), ((aZ 0), .inr (0, [.int Zlane, .int Zlength, .ref (aZ 1)])), ((aZ 1), .inl (cyI, 60, .inl (va_cpy S_cells Z_cells p2.toNatClampNeg p4.toNatClampNeg p5.toNatClampNeg)))]) [0, 1, 4, 2, 5, 3] (by decide) rfl
                exact hret () H locs _ ls hP hD hS dX3_copy_127 rfl
              · replace h := it_t c25 h
                refine lv_aload_n hx hb dX3_copy_101 rfl (lv_at hl 2 rfl) ?_
                refine lv_iconst (v := 3) hx hb dX3_copy_102 (by decide) ?_
                obtain ⟨o31, hc32, h⟩ := ob h
                refine k_vi (As := [.int 3]) (rest := []) ⟨hx, hb, hml, hown, hts⟩ (c_X3_faulted l dC dI cyI cyO aX aR aN aT H.size Xreadings Xtrail 0 3 hc32) (cwV 1 hts gX3_copy_X3_faulted rfl rfl rfl (by decide +kernel) ⟨Nat.le_of_ble_eq_true rfl, Nat.le_of_ble_eq_true rfl⟩) hP hD hK hS hA [0] [1, 2, 3, 4, 5] rfl rfl (by decide) (by decide) (by decide) 3 0 rfl rfl rfl rfl hl.1 rfl (Nat.le_of_ble_eq_true rfl) dX3_copy_103 ⟨Nat.zero_le _, Nat.zero_le _⟩ (fun _ H locs hP hD hS => ?_)
                have hP : va_P (dC, dI) vwCl [((aX 1), .inl (cyO, 4, .inr (.inr (.inr (.inr gS))))), ((aS 1), .inl (cyI, 60, .inl S_cells)), ((aZ 1), .inl (cyI, 60, .inl Z_cells)), ((aS 0), .inr (0, [.int Slane, .int Slength, .ref (aS 1)])), ((aZ 0), .inr (0, [.int Zlane, .int Zlength, .ref (aZ 1)])), ((aX 0), .inr (3, [.ref (aX 1), .ref aR, .ref (aX 2), .ref (aX 3), .int Xreadings, .ref (aN 0), .ref (aT 0), .int Xtrail, .int o31.2]))] H := hP
                have hD : va_D A [((aX 1), .inl (cyO, 4, .inr (.inr (.inr (.inr gS))))), ((aS 1), .inl (cyI, 60, .inl S_cells)), ((aZ 1), .inl (cyI, 60, .inl Z_cells)), ((aS 0), .inr (0, [.int Slane, .int Slength, .ref (aS 1)])), ((aZ 0), .inr (0, [.int Zlane, .int Zlength, .ref (aZ 1)])), ((aX 0), .inr (3, [.ref (aX 1), .ref aR, .ref (aX 2), .ref (aX 3), .int Xreadings, .ref (aN 0), .ref (aT 0), .int Xtrail, .int o31.2]))] := hD
                replace h := Option.some.inj h; subst h
                have hP := hP.sub (ws' := [((aX 0), .inr (3, [.ref (aX 1), .ref aR, .ref (aX 2), .ref (aX 3), .int Xreadings, .ref (aN 0), .ref (aT 0), .int Xtrail, .int o31.2])), ((aX 1), .inl (cyO, 4, .inr (.inr (.inr (.inr gS))))), ((aS 0), .inr (0, [.int Slane, .int Slength, .ref (aS 1)])), ((aS 1), .inl (cyI, 60, .inl S_cells)), ((aZ 0), .inr (0, [.int Zlane, .int Zlength, .ref (aZ 1)])), ((aZ 1), .inl (cyI, 60, .inl Z_cells))]) [5, 0, 3, 1, 4, 2] rfl
                have hD := hD.sub (ws' := [((aX 0), .inr (3, [.ref (aX 1), .ref aR, .ref (aX 2), .ref (aX 3), .int Xreadings, .ref (aN 0), .ref (aT 0), .int Xtrail, .int o31.2])), ((aX 1), .inl (cyO, 4, .inr (.inr (.inr (.inr gS))))), ((aS 0), .inr (0, [.int Slane, .int Slength, .ref (aS 1)])), ((aS 1), .inl (cyI, 60, .inl S_cells)), ((aZ 0), .inr (0, [.int Zlane, .int Zlength, .ref (aZ 1)])), ((aZ 1), .inl (cyI, 60, .inl Z_cells))]) [5, 0, 3, 1, 4, 2] (by decide) rfl
                exact hret () H locs _ ls hP hD hS dX3_copy_106 rfl
          · replace h := it_f c17 h
            refine lv_aload_n hx hb dX3_copy_72 rfl (lv_at hl 2 rfl) ?_
            refine lv_iconst (v := 2) hx hb dX3_copy_73 (by decide) ?_
            obtain ⟨o33, hc34, h⟩ := ob h
            refine k_vi (As := [.int 2]) (rest := []) ⟨hx, hb, hml, hown, hts⟩ (c_X3_faulted l dC dI cyI cyO aX aR aN aT H.size Xreadings Xtrail 0 2 hc34) (cwV 1 hts gX3_copy_X3_faulted rfl rfl rfl (by decide +kernel) ⟨Nat.le_of_ble_eq_true rfl, Nat.le_of_ble_eq_true rfl⟩) hP hD hK hS hA [0] [1, 2, 3, 4, 5] rfl rfl (by decide) (by decide) (by decide) 3 0 rfl rfl rfl rfl hl.1 rfl (Nat.le_of_ble_eq_true rfl) dX3_copy_74 ⟨Nat.zero_le _, Nat.zero_le _⟩ (fun _ H locs hP hD hS => ?_)
            have hP : va_P (dC, dI) vwCl [((aX 1), .inl (cyO, 4, .inr (.inr (.inr (.inr gS))))), ((aS 1), .inl (cyI, 60, .inl S_cells)), ((aZ 1), .inl (cyI, 60, .inl Z_cells)), ((aS 0), .inr (0, [.int Slane, .int Slength, .ref (aS 1)])), ((aZ 0), .inr (0, [.int Zlane, .int Zlength, .ref (aZ 1)])), ((aX 0), .inr (3, [.ref (aX 1), .ref aR, .ref (aX 2), .ref (aX 3), .int Xreadings, .ref (aN 0), .ref (aT 0), .int Xtrail, .int o33.2]))] H := hP
            have hD : va_D A [((aX 1), .inl (cyO, 4, .inr (.inr (.inr (.inr gS))))), ((aS 1), .inl (cyI, 60, .inl S_cells)), ((aZ 1), .inl (cyI, 60, .inl Z_cells)), ((aS 0), .inr (0, [.int Slane, .int Slength, .ref (aS 1)])), ((aZ 0), .inr (0, [.int Zlane, .int Zlength, .ref (aZ 1)])), ((aX 0), .inr (3, [.ref (aX 1), .ref aR, .ref (aX 2), .ref (aX 3), .int Xreadings, .ref (aN 0), .ref (aT 0), .int Xtrail, .int o33.2]))] := hD
            replace h := Option.some.inj h; subst h
            have hP := hP.sub (ws' := [((aX 0), .inr (3, [.ref (aX 1), .ref aR, .ref (aX 2), .ref (aX 3), .int Xreadings, .ref (aN 0), .ref (aT 0), .int Xtrail, .int o33.2])), ((aX 1), .inl (cyO, 4, .inr (.inr (.inr (.inr gS))))), ((aS 0), .inr (0, [.int Slane, .int Slength, .ref (aS 1)])), ((aS 1), .inl (cyI, 60, .inl S_cells)), ((aZ 0), .inr (0, [.int Zlane, .int Zlength, .ref (aZ 1)])), ((aZ 1), .inl (cyI, 60, .inl Z_cells))]) [5, 0, 3, 1, 4, 2] rfl
            have hD := hD.sub (ws' := [((aX 0), .inr (3, [.ref (aX 1), .ref aR, .ref (aX 2), .ref (aX 3), .int Xreadings, .ref (aN 0), .ref (aT 0), .int Xtrail, .int o33.2])), ((aX 1), .inl (cyO, 4, .inr (.inr (.inr (.inr gS))))), ((aS 0), .inr (0, [.int Slane, .int Slength, .ref (aS 1)])), ((aS 1), .inl (cyI, 60, .inl S_cells)), ((aZ 0), .inr (0, [.int Zlane, .int Zlength, .ref (aZ 1)])), ((aZ 1), .inl (cyI, 60, .inl Z_cells))]) [5, 0, 3, 1, 4, 2] (by decide) rfl
            exact hret () H locs _ ls hP hD hS dX3_copy_77 rfl
        · replace h := it_f c16 h
          refine lv_aload_n hx hb dX3_copy_53 rfl (lv_at hl 2 rfl) ?_
          refine lv_iconst (v := 1) hx hb dX3_copy_54 (by decide) ?_
          obtain ⟨o35, hc36, h⟩ := ob h
          refine k_vi (As := [.int 1]) (rest := []) ⟨hx, hb, hml, hown, hts⟩ (c_X3_faulted l dC dI cyI cyO aX aR aN aT H.size Xreadings Xtrail 0 1 hc36) (cwV 1 hts gX3_copy_X3_faulted rfl rfl rfl (by decide +kernel) ⟨Nat.le_of_ble_eq_true rfl, Nat.le_of_ble_eq_true rfl⟩) hP hD hK hS hA [0] [1, 2, 3, 4, 5] rfl rfl (by decide) (by decide) (by decide) 3 0 rfl rfl rfl rfl hl.1 rfl (Nat.le_of_ble_eq_true rfl) dX3_copy_55 ⟨Nat.zero_le _, Nat.zero_le _⟩ (fun _ H locs hP hD hS => ?_)
          have hP : va_P (dC, dI) vwCl [((aX 1), .inl (cyO, 4, .inr (.inr (.inr (.inr gS))))), ((aS 1), .inl (cyI, 60, .inl S_cells)), ((aZ 1), .inl (cyI, 60, .inl Z_cells)), ((aS 0), .inr (0, [.int Slane, .int Slength, .ref (aS 1)])), ((aZ 0), .inr (0, [.int Zlane, .int Zlength, .ref (aZ 1)])), ((aX 0), .inr (3, [.ref (aX 1), .ref aR, .ref (aX 2), .ref (aX 3), .int Xreadings, .ref (aN 0), .ref (aT 0), .int Xtrail, .int o35.2]))] H := hP
          have hD : va_D A [((aX 1), .inl (cyO, 4, .inr (.inr (.inr (.inr gS))))), ((aS 1), .inl (cyI, 60, .inl S_cells)), ((aZ 1), .inl (cyI, 60, .inl Z_cells)), ((aS 0), .inr (0, [.int Slane, .int Slength, .ref (aS 1)])), ((aZ 0), .inr (0, [.int Zlane, .int Zlength, .ref (aZ 1)])), ((aX 0), .inr (3, [.ref (aX 1), .ref aR, .ref (aX 2), .ref (aX 3), .int Xreadings, .ref (aN 0), .ref (aT 0), .int Xtrail, .int o35.2]))] := hD
          replace h := Option.some.inj h; subst h
          have hP := hP.sub (ws' := [((aX 0), .inr (3, [.ref (aX 1), .ref aR, .ref (aX 2), .ref (aX 3), .int Xreadings, .ref (aN 0), .ref (aT 0), .int Xtrail, .int o35.2])), ((aX 1), .inl (cyO, 4, .inr (.inr (.inr (.inr gS))))), ((aS 0), .inr (0, [.int Slane, .int Slength, .ref (aS 1)])), ((aS 1), .inl (cyI, 60, .inl S_cells)), ((aZ 0), .inr (0, [.int Zlane, .int Zlength, .ref (aZ 1)])), ((aZ 1), .inl (cyI, 60, .inl Z_cells))]) [5, 0, 3, 1, 4, 2] rfl
          have hD := hD.sub (ws' := [((aX 0), .inr (3, [.ref (aX 1), .ref aR, .ref (aX 2), .ref (aX 3), .int Xreadings, .ref (aN 0), .ref (aT 0), .int Xtrail, .int o35.2])), ((aX 1), .inl (cyO, 4, .inr (.inr (.inr (.inr gS))))), ((aS 0), .inr (0, [.int Slane, .int Slength, .ref (aS 1)])), ((aS 1), .inl (cyI, 60, .inl S_cells)), ((aZ 0), .inr (0, [.int Zlane, .int Zlength, .ref (aZ 1)])), ((aZ 1), .inl (cyI, 60, .inl Z_cells))]) [5, 0, 3, 1, 4, 2] (by decide) rfl
          exact hret () H locs _ ls hP hD hS dX3_copy_58 rfl
    · replace h := it_t c6 h
      refine lv_iconst (v := (-1)) hx hb dX3_copy_19 (by decide) ?_
      replace h := Option.some.inj h; subst h
      exact hret () H locs _ ls hP hD hS dX3_copy_20 rfl
set_option maxHeartbeats 4000000 in
set_option maxRecDepth 100000 in
theorem c_X3_leaveTrace (l : Launch) (dC : Nat → ClassId) (dI : Nat → Nat → Nat) (cyI cyO : ClassId) (aX : Nat → Nat) (aR : Nat) (aN : Nat → Nat) (aT : Nat → Nat) (sz : Nat) (Xreadings : Int32) (Xtrail : Int32) (XlatestFault : Int32) (p1 : Int32) {o : Int32}  (h : f_X3_leaveTrace Xtrail p1 = some o) : CtV l yX3_leaveTrace wsX3_leaveTrace { frames := 0, cells := 0, slots := 0, locals := 0 } (dC, dI) [(cyI, .int), (cyO, .object RX0)] [.ref (aX 0), .int p1] sz [((aX 0), .inr (3, [.ref (aX 1), .ref aR, .ref (aX 2), .ref (aX 3), .int Xreadings, .ref (aN 0), .ref (aT 0), .int Xtrail, .int XlatestFault]))] (fun (_ : Unit) => [((aX 0), .inr (3, [.ref (aX 1), .ref aR, .ref (aX 2), .ref (aX 3), .int Xreadings, .ref (aN 0), .ref (aT 0), .int o, .int XlatestFault]))]) := by
  refine CtV.of (cc := cX3_leaveTrace) (maxL := 2) (by decide) rfl (Nat.le_of_ble_eq_true rfl) ?_
  intro p e s m args below meth c A Q H locs hx hb hml hown hts hA hK hP hD hS hret ls hl
  have hown : s.vm.findClass RX3 = some m.cls := hown
  have hl : lv_has ls 2 [(0, .ref (aX 0)), (1, .int p1)] := hl
  unfold f_X3_leaveTrace at h
  have hiX3 : ∀ w ∈ u_ws RX3 TX3 9, w ∈ wsX3_leaveTrace := by decide +kernel
  have hf198 := hts (.fieldLink RX3 198 "TowerTell" "trail" "I") (by decide +kernel)
  refine lv_aload_n hx hb dX3_leaveTrace_0 rfl (lv_at hl 0 rfl) ?_
  refine lv_bipush (v := 31) hx hb dX3_leaveTrace_1 (by decide) ?_
  refine lv_aload_n hx hb dX3_leaveTrace_3 rfl (lv_at hl 0 rfl) ?_
  refine va_get (D := (dC, dI)) (ci := 3) (v := .int Xtrail) (C := RX3) (T := TX3) (N := 9) hx hb hts hiX3 hown hK hP 0 rfl rfl 7 (by decide) hf198 (fun _ h9 => h9) rfl dX3_leaveTrace_4 ?_
  refine lv_imul hx hb dX3_leaveTrace_7 ?_
  refine lv_iload_n hx hb dX3_leaveTrace_8 rfl (lv_at hl 1 rfl) ?_
  refine lv_iadd hx hb dX3_leaveTrace_9 ?_
  refine va_put (D := (dC, dI)) (ci := 3) (v := .int ((31 * Xtrail) + p1)) (ty := .int) (C := RX3) (T := TX3) (N := 9) hx hb hts hiX3 tyX3 tyX3_ok nmX3 hown hK hP hD hS 0 rfl rfl 7 (by decide) hf198 (fun _ h9 => h9) rfl (tyX3_ok 7 (by decide)) rfl rfl (Nat.le_of_ble_eq_true rfl) dX3_leaveTrace_10 (fun H locs hP hD hS => ?_)
  have hP : va_P (dC, dI) vwCl [((aX 0), .inr (3, [.ref (aX 1), .ref aR, .ref (aX 2), .ref (aX 3), .int Xreadings, .ref (aN 0), .ref (aT 0), .int ((31 * Xtrail) + p1), .int XlatestFault]))] H := hP
  have hD : va_D A [((aX 0), .inr (3, [.ref (aX 1), .ref aR, .ref (aX 2), .ref (aX 3), .int Xreadings, .ref (aN 0), .ref (aT 0), .int ((31 * Xtrail) + p1), .int XlatestFault]))] := hD
  replace h := Option.some.inj h; subst h
  exact hret () H locs _ ls hP hD hS dX3_leaveTrace_13
set_option maxHeartbeats 4000000 in
set_option maxRecDepth 100000 in
theorem c_X3_plainTelling (l : Launch) (dC : Nat → ClassId) (dI : Nat → Nat → Nat) (cyI cyO : ClassId) (aX : Nat → Nat) (aN : Nat → Nat) (aR : Nat) (aT : Nat → Nat) (sz : Nat) (Xreadings : Int32) (Xtrail : Int32) (XlatestFault : Int32) (Ndeeds : Int32) (Npeople : Int32) (Ncatches : Int32) (N_knownTo : Nat → Int32) (p1 : Int32) {o : Int32 × Int32}  (h : f_X3_plainTelling Xtrail N_knownTo p1 = some o) : CtI l yX3_plainTelling wsX3_plainTelling { frames := 1, cells := 0, slots := 0, locals := 21 } (dC, dI) [(cyI, .int), (cyO, .object RX0)] [.ref (aX 0), .int p1] sz [((aX 0), .inr (3, [.ref (aX 1), .ref aR, .ref (aX 2), .ref (aX 3), .int Xreadings, .ref (aN 0), .ref (aT 0), .int Xtrail, .int XlatestFault])), ((aN 0), .inr (2, [.int Ndeeds, .int Npeople, .int Ncatches, .ref (aN 1), .ref (aN 2), .ref (aN 3), .ref (aN 4), .ref (aN 5)])), ((aN 4), .inl (cyI, 4, .inl N_knownTo))] (fun (_ : Unit) => [((aX 0), .inr (3, [.ref (aX 1), .ref aR, .ref (aX 2), .ref (aX 3), .int Xreadings, .ref (aN 0), .ref (aT 0), .int o.2, .int XlatestFault])), ((aN 0), .inr (2, [.int Ndeeds, .int Npeople, .int Ncatches, .ref (aN 1), .ref (aN 2), .ref (aN 3), .ref (aN 4), .ref (aN 5)])), ((aN 4), .inl (cyI, 4, .inl N_knownTo))]) o.1 := by
  refine CtI.of (cc := cX3_plainTelling) (maxL := 2) (by decide) rfl (Nat.le_of_ble_eq_true rfl) ?_
  intro p e s m args below meth c A Q H locs hx hb hml hown hts hA hK hP hD hS hret ls hl
  have hown : s.vm.findClass RX3 = some m.cls := hown
  have hl : lv_has ls 2 [(0, .ref (aX 0)), (1, .int p1)] := hl
  unfold f_X3_plainTelling at h
  have hiX2 : ∀ w ∈ u_ws RX2 TX2 8, w ∈ wsX3_plainTelling := by decide +kernel
  have hiX3 : ∀ w ∈ u_ws RX3 TX3 9, w ∈ wsX3_plainTelling := by decide +kernel
  have hf35 := hts (.fieldLink RX3 35 "TowerTell" "now" "LTowerTell$Tower;") (by decide +kernel)
  have hf80 := hts (.fieldLink RX3 80 "TowerTell$Tower" "knownTo" "[I") (by decide +kernel)
  refine lv_aload_n hx hb dX3_plainTelling_0 rfl (lv_at hl 0 rfl) ?_
  refine lv_iconst (v := 1) hx hb dX3_plainTelling_1 (by decide) ?_
  obtain ⟨o1, hc2, h⟩ := ob h
  refine k_vv (As := [.int 1]) (rest := []) ⟨hx, hb, hml, hown, hts⟩ (c_X3_leaveTrace l dC dI cyI cyO aX aR aN aT H.size Xreadings Xtrail XlatestFault 1 hc2) (cwV 1 hts gX3_plainTelling_X3_leaveTrace rfl rfl rfl (by decide +kernel) ⟨Nat.le_of_ble_eq_true rfl, Nat.le_of_ble_eq_true rfl⟩) hP hD hK hS hA [0] [1, 2] rfl rfl (by decide) (by decide) (by decide) 3 0 rfl rfl rfl rfl hl.1 rfl (Nat.le_of_ble_eq_true rfl) dX3_plainTelling_2 ⟨Nat.zero_le _, Nat.zero_le _⟩ (fun _ H locs hP hD hS => ?_)
  have hP : va_P (dC, dI) vwCl [((aN 0), .inr (2, [.int Ndeeds, .int Npeople, .int Ncatches, .ref (aN 1), .ref (aN 2), .ref (aN 3), .ref (aN 4), .ref (aN 5)])), ((aN 4), .inl (cyI, 4, .inl N_knownTo)), ((aX 0), .inr (3, [.ref (aX 1), .ref aR, .ref (aX 2), .ref (aX 3), .int Xreadings, .ref (aN 0), .ref (aT 0), .int o1, .int XlatestFault]))] H := hP
  have hD : va_D A [((aN 0), .inr (2, [.int Ndeeds, .int Npeople, .int Ncatches, .ref (aN 1), .ref (aN 2), .ref (aN 3), .ref (aN 4), .ref (aN 5)])), ((aN 4), .inl (cyI, 4, .inl N_knownTo)), ((aX 0), .inr (3, [.ref (aX 1), .ref aR, .ref (aX 2), .ref (aX 3), .int Xreadings, .ref (aN 0), .ref (aT 0), .int o1, .int XlatestFault]))] := hD
  refine lv_aload_n hx hb dX3_plainTelling_5 rfl (lv_at hl 0 rfl) ?_
  refine va_get (D := (dC, dI)) (ci := 3) (v := .ref (aN 0)) (C := RX3) (T := TX3) (N := 9) hx hb hts hiX3 hown hK hP 2 rfl rfl 5 (by decide) hf35 (fun _ h9 => h9) rfl dX3_plainTelling_6 ?_
  refine va_get (D := (dC, dI)) (ci := 2) (v := .ref (aN 4)) (C := RX2) (T := TX2) (N := 8) hx hb hts hiX2 hown hK hP 0 rfl rfl 6 (by decide) hf80 (fun _ h9 => h9) rfl dX3_plainTelling_9 ?_
  refine lv_iload_n hx hb dX3_plainTelling_12 rfl (lv_at hl 1 rfl) ?_
  obtain ⟨e3, h⟩ := it_n h
  refine va_iald hx hb hK hP 1 0 rfl rfl (ix_in e3) dX3_plainTelling_13 ?_
  replace h := Option.some.inj h; subst h
  have hP := hP.sub (ws' := [((aX 0), .inr (3, [.ref (aX 1), .ref aR, .ref (aX 2), .ref (aX 3), .int Xreadings, .ref (aN 0), .ref (aT 0), .int o1, .int XlatestFault])), ((aN 0), .inr (2, [.int Ndeeds, .int Npeople, .int Ncatches, .ref (aN 1), .ref (aN 2), .ref (aN 3), .ref (aN 4), .ref (aN 5)])), ((aN 4), .inl (cyI, 4, .inl N_knownTo))]) [2, 0, 1] rfl
  have hD := hD.sub (ws' := [((aX 0), .inr (3, [.ref (aX 1), .ref aR, .ref (aX 2), .ref (aX 3), .int Xreadings, .ref (aN 0), .ref (aT 0), .int o1, .int XlatestFault])), ((aN 0), .inr (2, [.int Ndeeds, .int Npeople, .int Ncatches, .ref (aN 1), .ref (aN 2), .ref (aN 3), .ref (aN 4), .ref (aN 5)])), ((aN 4), .inl (cyI, 4, .inl N_knownTo))]) [2, 0, 1] (by decide) rfl
  exact hret () H locs _ ls hP hD hS dX3_plainTelling_14 rfl
set_option maxHeartbeats 4000000 in
set_option maxRecDepth 100000 in
theorem c_X3_proudTelling (l : Launch) (dC : Nat → ClassId) (dI : Nat → Nat → Nat) (cyI cyO : ClassId) (aX : Nat → Nat) (aN : Nat → Nat) (aR : Nat) (aT : Nat → Nat) (sz : Nat) (Xreadings : Int32) (Xtrail : Int32) (XlatestFault : Int32) (Ndeeds : Int32) (Npeople : Int32) (Ncatches : Int32) (N_knownTo : Nat → Int32) (p1 : Int32) {o : Int32 × Int32}  (h : f_X3_proudTelling Xtrail N_knownTo p1 = some o) : CtI l yX3_proudTelling wsX3_proudTelling { frames := 2, cells := 0, slots := 0, locals := 42 } (dC, dI) [(cyI, .int), (cyO, .object RX0)] [.ref (aX 0), .int p1] sz [((aX 0), .inr (3, [.ref (aX 1), .ref aR, .ref (aX 2), .ref (aX 3), .int Xreadings, .ref (aN 0), .ref (aT 0), .int Xtrail, .int XlatestFault])), ((aN 0), .inr (2, [.int Ndeeds, .int Npeople, .int Ncatches, .ref (aN 1), .ref (aN 2), .ref (aN 3), .ref (aN 4), .ref (aN 5)])), ((aN 4), .inl (cyI, 4, .inl N_knownTo))] (fun (_ : Unit) => [((aX 0), .inr (3, [.ref (aX 1), .ref aR, .ref (aX 2), .ref (aX 3), .int Xreadings, .ref (aN 0), .ref (aT 0), .int o.2, .int XlatestFault])), ((aN 0), .inr (2, [.int Ndeeds, .int Npeople, .int Ncatches, .ref (aN 1), .ref (aN 2), .ref (aN 3), .ref (aN 4), .ref (aN 5)])), ((aN 4), .inl (cyI, 4, .inl N_knownTo))]) o.1 := by
  refine CtI.of (cc := cX3_proudTelling) (maxL := 2) (by decide) rfl (Nat.le_of_ble_eq_true rfl) ?_
  intro p e s m args below meth c A Q H locs hx hb hml hown hts hA hK hP hD hS hret ls hl
  have hown : s.vm.findClass RX3 = some m.cls := hown
  have hl : lv_has ls 2 [(0, .ref (aX 0)), (1, .int p1)] := hl
  unfold f_X3_proudTelling at h
  refine lv_aload_n hx hb dX3_proudTelling_0 rfl (lv_at hl 0 rfl) ?_
  refine lv_iconst (v := 2) hx hb dX3_proudTelling_1 (by decide) ?_
  obtain ⟨o1, hc2, h⟩ := ob h
  refine k_vv (As := [.int 2]) (rest := []) ⟨hx, hb, hml, hown, hts⟩ (c_X3_leaveTrace l dC dI cyI cyO aX aR aN aT H.size Xreadings Xtrail XlatestFault 2 hc2) (cwV 1 hts gX3_proudTelling_X3_leaveTrace rfl rfl rfl (by decide +kernel) ⟨Nat.le_of_ble_eq_true rfl, Nat.le_of_ble_eq_true rfl⟩) hP hD hK hS hA [0] [1, 2] rfl rfl (by decide) (by decide) (by decide) 3 0 rfl rfl rfl rfl hl.1 rfl (Nat.le_of_ble_eq_true rfl) dX3_proudTelling_2 ⟨Nat.zero_le _, Nat.zero_le _⟩ (fun _ H locs hP hD hS => ?_)
  have hP : va_P (dC, dI) vwCl [((aN 0), .inr (2, [.int Ndeeds, .int Npeople, .int Ncatches, .ref (aN 1), .ref (aN 2), .ref (aN 3), .ref (aN 4), .ref (aN 5)])), ((aN 4), .inl (cyI, 4, .inl N_knownTo)), ((aX 0), .inr (3, [.ref (aX 1), .ref aR, .ref (aX 2), .ref (aX 3), .int Xreadings, .ref (aN 0), .ref (aT 0), .int o1, .int XlatestFault]))] H := hP
  have hD : va_D A [((aN 0), .inr (2, [.int Ndeeds, .int Npeople, .int Ncatches, .ref (aN 1), .ref (aN 2), .ref (aN 3), .ref (aN 4), .ref (aN 5)])), ((aN 4), .inl (cyI, 4, .inl N_knownTo)), ((aX 0), .inr (3, [.ref (aX 1), .ref aR, .ref (aX 2), .ref (aX 3), .int Xreadings, .ref (aN 0), .ref (aT 0), .int o1, .int XlatestFault]))] := hD
  refine lv_aload_n hx hb dX3_proudTelling_5 rfl (lv_at hl 0 rfl) ?_
  refine lv_iload_n hx hb dX3_proudTelling_6 rfl (lv_at hl 1 rfl) ?_
  obtain ⟨o3, hc4, h⟩ := ob h
  refine k_vi (As := [.int p1]) (rest := []) ⟨hx, hb, hml, hown, hts⟩ (c_X3_plainTelling l dC dI cyI cyO aX aN aR aT H.size Xreadings o1 XlatestFault Ndeeds Npeople Ncatches N_knownTo p1 hc4) (cwV 1 hts gX3_proudTelling_X3_plainTelling rfl rfl rfl (by decide +kernel) ⟨Nat.le_of_ble_eq_true rfl, Nat.le_of_ble_eq_true rfl⟩) hP hD hK hS hA [2, 0, 1] [] rfl rfl (by decide) (by decide) (by decide) 3 0 rfl rfl rfl rfl hl.1 rfl (Nat.le_of_ble_eq_true rfl) dX3_proudTelling_7 ⟨Nat.zero_le _, Nat.zero_le _⟩ (fun _ H locs hP hD hS => ?_)
  have hP : va_P (dC, dI) vwCl [((aX 0), .inr (3, [.ref (aX 1), .ref aR, .ref (aX 2), .ref (aX 3), .int Xreadings, .ref (aN 0), .ref (aT 0), .int o3.2, .int XlatestFault])), ((aN 0), .inr (2, [.int Ndeeds, .int Npeople, .int Ncatches, .ref (aN 1), .ref (aN 2), .ref (aN 3), .ref (aN 4), .ref (aN 5)])), ((aN 4), .inl (cyI, 4, .inl N_knownTo))] H := hP
  have hD : va_D A [((aX 0), .inr (3, [.ref (aX 1), .ref aR, .ref (aX 2), .ref (aX 3), .int Xreadings, .ref (aN 0), .ref (aT 0), .int o3.2, .int XlatestFault])), ((aN 0), .inr (2, [.int Ndeeds, .int Npeople, .int Ncatches, .ref (aN 1), .ref (aN 2), .ref (aN 3), .ref (aN 4), .ref (aN 5)])), ((aN 4), .inl (cyI, 4, .inl N_knownTo))] := hD
  refine lv_bipush (v := 100) hx hb dX3_proudTelling_10 (by decide) ?_
  refine lv_iadd hx hb dX3_proudTelling_12 ?_
  replace h := Option.some.inj h; subst h
  exact hret () H locs _ ls hP hD hS dX3_proudTelling_13 rfl
set_option maxHeartbeats 4000000 in
set_option maxRecDepth 100000 in
theorem c_X3_abjectTelling (l : Launch) (dC : Nat → ClassId) (dI : Nat → Nat → Nat) (cyI cyO : ClassId) (aX : Nat → Nat) (aN : Nat → Nat) (aR : Nat) (aT : Nat → Nat) (sz : Nat) (Xreadings : Int32) (Xtrail : Int32) (XlatestFault : Int32) (Ndeeds : Int32) (Npeople : Int32) (Ncatches : Int32) (N_knownTo : Nat → Int32) (p1 : Int32) {o : Int32 × Int32}  (h : f_X3_abjectTelling Xtrail N_knownTo p1 = some o) : CtI l yX3_abjectTelling wsX3_abjectTelling { frames := 3, cells := 0, slots := 0, locals := 63 } (dC, dI) [(cyI, .int), (cyO, .object RX0)] [.ref (aX 0), .int p1] sz [((aX 0), .inr (3, [.ref (aX 1), .ref aR, .ref (aX 2), .ref (aX 3), .int Xreadings, .ref (aN 0), .ref (aT 0), .int Xtrail, .int XlatestFault])), ((aN 0), .inr (2, [.int Ndeeds, .int Npeople, .int Ncatches, .ref (aN 1), .ref (aN 2), .ref (aN 3), .ref (aN 4), .ref (aN 5)])), ((aN 4), .inl (cyI, 4, .inl N_knownTo))] (fun (_ : Unit) => [((aX 0), .inr (3, [.ref (aX 1), .ref aR, .ref (aX 2), .ref (aX 3), .int Xreadings, .ref (aN 0), .ref (aT 0), .int o.2, .int XlatestFault])), ((aN 0), .inr (2, [.int Ndeeds, .int Npeople, .int Ncatches, .ref (aN 1), .ref (aN 2), .ref (aN 3), .ref (aN 4), .ref (aN 5)])), ((aN 4), .inl (cyI, 4, .inl N_knownTo))]) o.1 := by
  refine CtI.of (cc := cX3_abjectTelling) (maxL := 3) (by decide) rfl (Nat.le_of_ble_eq_true rfl) ?_
  intro p e s m args below meth c A Q H locs hx hb hml hown hts hA hK hP hD hS hret ls hl
  have hown : s.vm.findClass RX3 = some m.cls := hown
  have hl : lv_has ls 3 [(0, .ref (aX 0)), (1, .int p1)] := hl
  unfold f_X3_abjectTelling at h
  refine lv_aload_n hx hb dX3_abjectTelling_0 rfl (lv_at hl 0 rfl) ?_
  refine lv_iconst (v := 3) hx hb dX3_abjectTelling_1 (by decide) ?_
  obtain ⟨o1, hc2, h⟩ := ob h
  refine k_vv (As := [.int 3]) (rest := []) ⟨hx, hb, hml, hown, hts⟩ (c_X3_leaveTrace l dC dI cyI cyO aX aR aN aT H.size Xreadings Xtrail XlatestFault 3 hc2) (cwV 1 hts gX3_abjectTelling_X3_leaveTrace rfl rfl rfl (by decide +kernel) ⟨Nat.le_of_ble_eq_true rfl, Nat.le_of_ble_eq_true rfl⟩) hP hD hK hS hA [0] [1, 2] rfl rfl (by decide) (by decide) (by decide) 3 0 rfl rfl rfl rfl hl.1 rfl (Nat.le_of_ble_eq_true rfl) dX3_abjectTelling_2 ⟨Nat.zero_le _, Nat.zero_le _⟩ (fun _ H locs hP hD hS => ?_)
  have hP : va_P (dC, dI) vwCl [((aN 0), .inr (2, [.int Ndeeds, .int Npeople, .int Ncatches, .ref (aN 1), .ref (aN 2), .ref (aN 3), .ref (aN 4), .ref (aN 5)])), ((aN 4), .inl (cyI, 4, .inl N_knownTo)), ((aX 0), .inr (3, [.ref (aX 1), .ref aR, .ref (aX 2), .ref (aX 3), .int Xreadings, .ref (aN 0), .ref (aT 0), .int o1, .int XlatestFault]))] H := hP
  have hD : va_D A [((aN 0), .inr (2, [.int Ndeeds, .int Npeople, .int Ncatches, .ref (aN 1), .ref (aN 2), .ref (aN 3), .ref (aN 4), .ref (aN 5)])), ((aN 4), .inl (cyI, 4, .inl N_knownTo)), ((aX 0), .inr (3, [.ref (aX 1), .ref aR, .ref (aX 2), .ref (aX 3), .int Xreadings, .ref (aN 0), .ref (aT 0), .int o1, .int XlatestFault]))] := hD
  refine lv_aload_n hx hb dX3_abjectTelling_5 rfl (lv_at hl 0 rfl) ?_
  refine lv_iload_n hx hb dX3_abjectTelling_6 rfl (lv_at hl 1 rfl) ?_
  obtain ⟨o3, hc4, h⟩ := ob h
  refine k_vi (As := [.int p1]) (rest := []) ⟨hx, hb, hml, hown, hts⟩ (c_X3_proudTelling l dC dI cyI cyO aX aN aR aT H.size Xreadings o1 XlatestFault Ndeeds Npeople Ncatches N_knownTo p1 hc4) (cwV 1 hts gX3_abjectTelling_X3_proudTelling rfl rfl rfl (by decide +kernel) ⟨Nat.le_of_ble_eq_true rfl, Nat.le_of_ble_eq_true rfl⟩) hP hD hK hS hA [2, 0, 1] [] rfl rfl (by decide) (by decide) (by decide) 3 0 rfl rfl rfl rfl hl.1 rfl (Nat.le_of_ble_eq_true rfl) dX3_abjectTelling_7 ⟨Nat.zero_le _, Nat.zero_le _⟩ (fun _ H locs hP hD hS => ?_)
  have hP : va_P (dC, dI) vwCl [((aX 0), .inr (3, [.ref (aX 1), .ref aR, .ref (aX 2), .ref (aX 3), .int Xreadings, .ref (aN 0), .ref (aT 0), .int o3.2, .int XlatestFault])), ((aN 0), .inr (2, [.int Ndeeds, .int Npeople, .int Ncatches, .ref (aN 1), .ref (aN 2), .ref (aN 3), .ref (aN 4), .ref (aN 5)])), ((aN 4), .inl (cyI, 4, .inl N_knownTo))] H := hP
  have hD : va_D A [((aX 0), .inr (3, [.ref (aX 1), .ref aR, .ref (aX 2), .ref (aX 3), .int Xreadings, .ref (aN 0), .ref (aT 0), .int o3.2, .int XlatestFault])), ((aN 0), .inr (2, [.int Ndeeds, .int Npeople, .int Ncatches, .ref (aN 1), .ref (aN 2), .ref (aN 3), .ref (aN 4), .ref (aN 5)])), ((aN 4), .inl (cyI, 4, .inl N_knownTo))] := hD
  refine lv_istore_n (lv' := [(2, .int o3.1), (0, .ref (aX 0)), (1, .int p1)]) hx hb dX3_abjectTelling_10 rfl hl (by decide) rfl (fun ls hl => ?_)
  refine lv_iload_n hx hb dX3_abjectTelling_11 rfl (lv_at hl 0 rfl) ?_
  refine lv_aload_n hx hb dX3_abjectTelling_12 rfl (lv_at hl 1 rfl) ?_
  refine lv_iload_n hx hb dX3_abjectTelling_13 rfl (lv_at hl 2 rfl) ?_
  obtain ⟨o5, hc6, h⟩ := ob h
  refine k_vi (As := [.int p1]) (rest := [.int o3.1]) ⟨hx, hb, hml, hown, hts⟩ (c_X3_plainTelling l dC dI cyI cyO aX aN aR aT H.size Xreadings o3.2 XlatestFault Ndeeds Npeople Ncatches N_knownTo p1 hc6) (cwV 1 hts gX3_abjectTelling_X3_plainTelling rfl rfl rfl (by decide +kernel) ⟨Nat.le_of_ble_eq_true rfl, Nat.le_of_ble_eq_true rfl⟩) hP hD hK hS hA [0, 1, 2] [] rfl rfl (by decide) (by decide) (by decide) 3 0 rfl rfl rfl rfl hl.1 rfl (Nat.le_of_ble_eq_true rfl) dX3_abjectTelling_14 ⟨Nat.zero_le _, Nat.zero_le _⟩ (fun _ H locs hP hD hS => ?_)
  have hP : va_P (dC, dI) vwCl [((aX 0), .inr (3, [.ref (aX 1), .ref aR, .ref (aX 2), .ref (aX 3), .int Xreadings, .ref (aN 0), .ref (aT 0), .int o5.2, .int XlatestFault])), ((aN 0), .inr (2, [.int Ndeeds, .int Npeople, .int Ncatches, .ref (aN 1), .ref (aN 2), .ref (aN 3), .ref (aN 4), .ref (aN 5)])), ((aN 4), .inl (cyI, 4, .inl N_knownTo))] H := hP
  have hD : va_D A [((aX 0), .inr (3, [.ref (aX 1), .ref aR, .ref (aX 2), .ref (aX 3), .int Xreadings, .ref (aN 0), .ref (aT 0), .int o5.2, .int XlatestFault])), ((aN 0), .inr (2, [.int Ndeeds, .int Npeople, .int Ncatches, .ref (aN 1), .ref (aN 2), .ref (aN 3), .ref (aN 4), .ref (aN 5)])), ((aN 4), .inl (cyI, 4, .inl N_knownTo))] := hD
  refine lv_iadd hx hb dX3_abjectTelling_17 ?_
  replace h := Option.some.inj h; subst h
  exact hret () H locs _ ls hP hD hS dX3_abjectTelling_18 rfl
set_option maxHeartbeats 4000000 in
set_option maxRecDepth 100000 in
theorem c_X3_tell (l : Launch) (dC : Nat → ClassId) (dI : Nat → Nat → Nat) (cyI cyO : ClassId) (aX : Nat → Nat) (aN : Nat → Nat) (aR : Nat) (aT : Nat → Nat) (sz : Nat) (Xreadings : Int32) (Xtrail : Int32) (XlatestFault : Int32) (Ndeeds : Int32) (Npeople : Int32) (Ncatches : Int32) (N_kindOf : Nat → Int32) (N_knownTo : Nat → Int32) (p1 : Int32) {o : Int32 × Int32}  (h : f_X3_tell Xtrail Npeople N_kindOf N_knownTo p1 = some o) : CtI l yX3_tell wsX3_tell { frames := 4, cells := 0, slots := 0, locals := 85 } (dC, dI) [(cyI, .int), (cyO, .object RX0)] [.ref (aX 0), .int p1] sz [((aX 0), .inr (3, [.ref (aX 1), .ref aR, .ref (aX 2), .ref (aX 3), .int Xreadings, .ref (aN 0), .ref (aT 0), .int Xtrail, .int XlatestFault])), ((aN 0), .inr (2, [.int Ndeeds, .int Npeople, .int Ncatches, .ref (aN 1), .ref (aN 2), .ref (aN 3), .ref (aN 4), .ref (aN 5)])), ((aN 2), .inl (cyI, 4, .inl N_kindOf)), ((aN 4), .inl (cyI, 4, .inl N_knownTo))] (fun (_ : Unit) => [((aX 0), .inr (3, [.ref (aX 1), .ref aR, .ref (aX 2), .ref (aX 3), .int Xreadings, .ref (aN 0), .ref (aT 0), .int o.2, .int XlatestFault])), ((aN 0), .inr (2, [.int Ndeeds, .int Npeople, .int Ncatches, .ref (aN 1), .ref (aN 2), .ref (aN 3), .ref (aN 4), .ref (aN 5)])), ((aN 2), .inl (cyI, 4, .inl N_kindOf)), ((aN 4), .inl (cyI, 4, .inl N_knownTo))]) o.1 := by
  refine CtI.of (cc := cX3_tell) (maxL := 2) (by decide) rfl (Nat.le_of_ble_eq_true rfl) ?_
  intro p e s m args below meth c A Q H locs hx hb hml hown hts hA hK hP hD hS hret ls hl
  have hown : s.vm.findClass RX3 = some m.cls := hown
  have hl : lv_has ls 2 [(0, .ref (aX 0)), (1, .int p1)] := hl
  unfold f_X3_tell at h
  have hiX2 : ∀ w ∈ u_ws RX2 TX2 8, w ∈ wsX3_tell := by decide +kernel
  have hiX3 : ∀ w ∈ u_ws RX3 TX3 9, w ∈ wsX3_tell := by decide +kernel
  have hf35 := hts (.fieldLink RX3 35 "TowerTell" "now" "LTowerTell$Tower;") (by decide +kernel)
  have hf74 := hts (.fieldLink RX3 74 "TowerTell$Tower" "kindOf" "[I") (by decide +kernel)
  refine lv_aload_n hx hb dX3_tell_0 rfl (lv_at hl 0 rfl) ?_
  refine va_get (D := (dC, dI)) (ci := 3) (v := .ref (aN 0)) (C := RX3) (T := TX3) (N := 9) hx hb hts hiX3 hown hK hP 0 rfl rfl 5 (by decide) hf35 (fun _ h9 => h9) rfl dX3_tell_1 ?_
  refine lv_iload_n hx hb dX3_tell_4 rfl (lv_at hl 1 rfl) ?_
  obtain ⟨o1, hc2, h⟩ := ob h
  refine k_vi (As := [.int p1]) (rest := []) ⟨hx, hb, hml, hown, hts⟩ (c_X2_isPerson l dC dI cyI cyO aN H.size Ndeeds Npeople Ncatches p1 hc2) (cwV 1 hts gX3_tell_X2_isPerson rfl rfl rfl (by decide +kernel) ⟨Nat.le_of_ble_eq_true rfl, Nat.le_of_ble_eq_true rfl⟩) hP hD hK hS hA [1] [0, 2, 3] rfl rfl (by decide) (by decide) (by decide) 2 0 rfl rfl rfl rfl hl.1 rfl (Nat.le_of_ble_eq_true rfl) dX3_tell_5 ⟨Nat.zero_le _, Nat.zero_le _⟩ (fun _ H locs hP hD hS => ?_)
  have hP : va_P (dC, dI) vwCl [((aX 0), .inr (3, [.ref (aX 1), .ref aR, .ref (aX 2), .ref (aX 3), .int Xreadings, .ref (aN 0), .ref (aT 0), .int Xtrail, .int XlatestFault])), ((aN 2), .inl (cyI, 4, .inl N_kindOf)), ((aN 4), .inl (cyI, 4, .inl N_knownTo)), ((aN 0), .inr (2, [.int Ndeeds, .int Npeople, .int Ncatches, .ref (aN 1), .ref (aN 2), .ref (aN 3), .ref (aN 4), .ref (aN 5)]))] H := hP
  have hD : va_D A [((aX 0), .inr (3, [.ref (aX 1), .ref aR, .ref (aX 2), .ref (aX 3), .int Xreadings, .ref (aN 0), .ref (aT 0), .int Xtrail, .int XlatestFault])), ((aN 2), .inl (cyI, 4, .inl N_kindOf)), ((aN 4), .inl (cyI, 4, .inl N_knownTo)), ((aN 0), .inr (2, [.int Ndeeds, .int Npeople, .int Ncatches, .ref (aN 1), .ref (aN 2), .ref (aN 3), .ref (aN 4), .ref (aN 5)]))] := hD
  refine lv_if_ne (tgt := 13) hx hb dX3_tell_8 (by decide) (fun c3 => ?_) (fun c3 => ?_)
  · replace h := it_f c3 h
    refine lv_aload_n hx hb dX3_tell_13 rfl (lv_at hl 0 rfl) ?_
    refine va_get (D := (dC, dI)) (ci := 3) (v := .ref (aN 0)) (C := RX3) (T := TX3) (N := 9) hx hb hts hiX3 hown hK hP 0 rfl rfl 5 (by decide) hf35 (fun _ h9 => h9) rfl dX3_tell_14 ?_
    refine va_get (D := (dC, dI)) (ci := 2) (v := .ref (aN 2)) (C := RX2) (T := TX2) (N := 8) hx hb hts hiX2 hown hK hP 3 rfl rfl 4 (by decide) hf74 (fun _ h9 => h9) rfl dX3_tell_17 ?_
    refine lv_iload_n hx hb dX3_tell_20 rfl (lv_at hl 1 rfl) ?_
    obtain ⟨e4, h⟩ := it_n h
    refine va_iald hx hb hK hP 1 0 rfl rfl (ix_in e4) dX3_tell_21 ?_
    by_cases c5 : (N_kindOf p1.toNatClampNeg) = 1
    · replace h := it_t c5 h
      refine lv_lookup (tgt := 54) (off := 32) hx hb dX3_tell_22 (by decide) (by rw [c5]; rfl) (by decide) ?_
      refine lv_aload_n hx hb dX3_tell_54 rfl (lv_at hl 0 rfl) ?_
      refine lv_iload_n hx hb dX3_tell_55 rfl (lv_at hl 1 rfl) ?_
      obtain ⟨o6, hc7, h⟩ := ob h
      refine k_vi (As := [.int p1]) (rest := []) ⟨hx, hb, hml, hown, hts⟩ (c_X3_proudTelling l dC dI cyI cyO aX aN aR aT H.size Xreadings Xtrail XlatestFault Ndeeds Npeople Ncatches N_knownTo p1 hc7) (cwV 1 hts gX3_tell_X3_proudTelling rfl rfl rfl (by decide +kernel) ⟨Nat.le_of_ble_eq_true rfl, Nat.le_of_ble_eq_true rfl⟩) hP hD hK hS hA [0, 3, 2] [1] rfl rfl (by decide) (by decide) (by decide) 3 0 rfl rfl rfl rfl hl.1 rfl (Nat.le_of_ble_eq_true rfl) dX3_tell_56 ⟨Nat.zero_le _, Nat.zero_le _⟩ (fun _ H locs hP hD hS => ?_)
      have hP : va_P (dC, dI) vwCl [((aN 2), .inl (cyI, 4, .inl N_kindOf)), ((aX 0), .inr (3, [.ref (aX 1), .ref aR, .ref (aX 2), .ref (aX 3), .int Xreadings, .ref (aN 0), .ref (aT 0), .int o6.2, .int XlatestFault])), ((aN 0), .inr (2, [.int Ndeeds, .int Npeople, .int Ncatches, .ref (aN 1), .ref (aN 2), .ref (aN 3), .ref (aN 4), .ref (aN 5)])), ((aN 4), .inl (cyI, 4, .inl N_knownTo))] H := hP
      have hD : va_D A [((aN 2), .inl (cyI, 4, .inl N_kindOf)), ((aX 0), .inr (3, [.ref (aX 1), .ref aR, .ref (aX 2), .ref (aX 3), .int Xreadings, .ref (aN 0), .ref (aT 0), .int o6.2, .int XlatestFault])), ((aN 0), .inr (2, [.int Ndeeds, .int Npeople, .int Ncatches, .ref (aN 1), .ref (aN 2), .ref (aN 3), .ref (aN 4), .ref (aN 5)])), ((aN 4), .inl (cyI, 4, .inl N_knownTo))] := hD
      replace h := Option.some.inj h; subst h
      have hP := hP.sub (ws' := [((aX 0), .inr (3, [.ref (aX 1), .ref aR, .ref (aX 2), .ref (aX 3), .int Xreadings, .ref (aN 0), .ref (aT 0), .int o6.2, .int XlatestFault])), ((aN 0), .inr (2, [.int Ndeeds, .int Npeople, .int Ncatches, .ref (aN 1), .ref (aN 2), .ref (aN 3), .ref (aN 4), .ref (aN 5)])), ((aN 2), .inl (cyI, 4, .inl N_kindOf)), ((aN 4), .inl (cyI, 4, .inl N_knownTo))]) [1, 2, 0, 3] rfl
      have hD := hD.sub (ws' := [((aX 0), .inr (3, [.ref (aX 1), .ref aR, .ref (aX 2), .ref (aX 3), .int Xreadings, .ref (aN 0), .ref (aT 0), .int o6.2, .int XlatestFault])), ((aN 0), .inr (2, [.int Ndeeds, .int Npeople, .int Ncatches, .ref (aN 1), .ref (aN 2), .ref (aN 3), .ref (aN 4), .ref (aN 5)])), ((aN 2), .inl (cyI, 4, .inl N_kindOf)), ((aN 4), .inl (cyI, 4, .inl N_knownTo))]) [1, 2, 0, 3] (by decide) rfl
      exact hret () H locs _ ls hP hD hS dX3_tell_59 rfl
    · replace h := it_f c5 h
      by_cases c8 : (N_kindOf p1.toNatClampNeg) = 2
      · replace h := it_t c8 h
        refine lv_lookup (tgt := 48) (off := 26) hx hb dX3_tell_22 (by decide) (by rw [c8]; rfl) (by decide) ?_
        refine lv_aload_n hx hb dX3_tell_48 rfl (lv_at hl 0 rfl) ?_
        refine lv_iload_n hx hb dX3_tell_49 rfl (lv_at hl 1 rfl) ?_
        obtain ⟨o9, hc10, h⟩ := ob h
        refine k_vi (As := [.int p1]) (rest := []) ⟨hx, hb, hml, hown, hts⟩ (c_X3_abjectTelling l dC dI cyI cyO aX aN aR aT H.size Xreadings Xtrail XlatestFault Ndeeds Npeople Ncatches N_knownTo p1 hc10) (cwV 1 hts gX3_tell_X3_abjectTelling rfl rfl rfl (by decide +kernel) ⟨Nat.le_of_ble_eq_true rfl, Nat.le_of_ble_eq_true rfl⟩) hP hD hK hS hA [0, 3, 2] [1] rfl rfl (by decide) (by decide) (by decide) 3 0 rfl rfl rfl rfl hl.1 rfl (Nat.le_of_ble_eq_true rfl) dX3_tell_50 ⟨Nat.zero_le _, Nat.zero_le _⟩ (fun _ H locs hP hD hS => ?_)
        have hP : va_P (dC, dI) vwCl [((aN 2), .inl (cyI, 4, .inl N_kindOf)), ((aX 0), .inr (3, [.ref (aX 1), .ref aR, .ref (aX 2), .ref (aX 3), .int Xreadings, .ref (aN 0), .ref (aT 0), .int o9.2, .int XlatestFault])), ((aN 0), .inr (2, [.int Ndeeds, .int Npeople, .int Ncatches, .ref (aN 1), .ref (aN 2), .ref (aN 3), .ref (aN 4), .ref (aN 5)])), ((aN 4), .inl (cyI, 4, .inl N_knownTo))] H := hP
        have hD : va_D A [((aN 2), .inl (cyI, 4, .inl N_kindOf)), ((aX 0), .inr (3, [.ref (aX 1), .ref aR, .ref (aX 2), .ref (aX 3), .int Xreadings, .ref (aN 0), .ref (aT 0), .int o9.2, .int XlatestFault])), ((aN 0), .inr (2, [.int Ndeeds, .int Npeople, .int Ncatches, .ref (aN 1), .ref (aN 2), .ref (aN 3), .ref (aN 4), .ref (aN 5)])), ((aN 4), .inl (cyI, 4, .inl N_knownTo))] := hD
        replace h := Option.some.inj h; subst h
        have hP := hP.sub (ws' := [((aX 0), .inr (3, [.ref (aX 1), .ref aR, .ref (aX 2), .ref (aX 3), .int Xreadings, .ref (aN 0), .ref (aT 0), .int o9.2, .int XlatestFault])), ((aN 0), .inr (2, [.int Ndeeds, .int Npeople, .int Ncatches, .ref (aN 1), .ref (aN 2), .ref (aN 3), .ref (aN 4), .ref (aN 5)])), ((aN 2), .inl (cyI, 4, .inl N_kindOf)), ((aN 4), .inl (cyI, 4, .inl N_knownTo))]) [1, 2, 0, 3] rfl
        have hD := hD.sub (ws' := [((aX 0), .inr (3, [.ref (aX 1), .ref aR, .ref (aX 2), .ref (aX 3), .int Xreadings, .ref (aN 0), .ref (aT 0), .int o9.2, .int XlatestFault])), ((aN 0), .inr (2, [.int Ndeeds, .int Npeople, .int Ncatches, .ref (aN 1), .ref (aN 2), .ref (aN 3), .ref (aN 4), .ref (aN 5)])), ((aN 2), .inl (cyI, 4, .inl N_kindOf)), ((aN 4), .inl (cyI, 4, .inl N_knownTo))]) [1, 2, 0, 3] (by decide) rfl
        exact hret () H locs _ ls hP hD hS dX3_tell_53 rfl
      · replace h := it_f c8 h
        refine lv_lookup (tgt := 60) (off := 38) hx hb dX3_tell_22 (by decide) (show Op.lookupswitch.offset [(1, 32), (2, 26)] 38 (Int32.toInt (N_kindOf p1.toNatClampNeg)) = 38 from by rw [lv_osw c5 (show (1 : Int32).toInt = 1 from rfl), lv_osw c8 (show (2 : Int32).toInt = 2 from rfl)]; rfl) (by decide) ?_
        refine lv_aload_n hx hb dX3_tell_60 rfl (lv_at hl 0 rfl) ?_
        refine lv_iload_n hx hb dX3_tell_61 rfl (lv_at hl 1 rfl) ?_
        obtain ⟨o11, hc12, h⟩ := ob h
        refine k_vi (As := [.int p1]) (rest := []) ⟨hx, hb, hml, hown, hts⟩ (c_X3_plainTelling l dC dI cyI cyO aX aN aR aT H.size Xreadings Xtrail XlatestFault Ndeeds Npeople Ncatches N_knownTo p1 hc12) (cwV 1 hts gX3_tell_X3_plainTelling rfl rfl rfl (by decide +kernel) ⟨Nat.le_of_ble_eq_true rfl, Nat.le_of_ble_eq_true rfl⟩) hP hD hK hS hA [0, 3, 2] [1] rfl rfl (by decide) (by decide) (by decide) 3 0 rfl rfl rfl rfl hl.1 rfl (Nat.le_of_ble_eq_true rfl) dX3_tell_62 ⟨Nat.zero_le _, Nat.zero_le _⟩ (fun _ H locs hP hD hS => ?_)
        have hP : va_P (dC, dI) vwCl [((aN 2), .inl (cyI, 4, .inl N_kindOf)), ((aX 0), .inr (3, [.ref (aX 1), .ref aR, .ref (aX 2), .ref (aX 3), .int Xreadings, .ref (aN 0), .ref (aT 0), .int o11.2, .int XlatestFault])), ((aN 0), .inr (2, [.int Ndeeds, .int Npeople, .int Ncatches, .ref (aN 1), .ref (aN 2), .ref (aN 3), .ref (aN 4), .ref (aN 5)])), ((aN 4), .inl (cyI, 4, .inl N_knownTo))] H := hP
        have hD : va_D A [((aN 2), .inl (cyI, 4, .inl N_kindOf)), ((aX 0), .inr (3, [.ref (aX 1), .ref aR, .ref (aX 2), .ref (aX 3), .int Xreadings, .ref (aN 0), .ref (aT 0), .int o11.2, .int XlatestFault])), ((aN 0), .inr (2, [.int Ndeeds, .int Npeople, .int Ncatches, .ref (aN 1), .ref (aN 2), .ref (aN 3), .ref (aN 4), .ref (aN 5)])), ((aN 4), .inl (cyI, 4, .inl N_knownTo))] := hD
        replace h := Option.some.inj h; subst h
        have hP := hP.sub (ws' := [((aX 0), .inr (3, [.ref (aX 1), .ref aR, .ref (aX 2), .ref (aX 3), .int Xreadings, .ref (aN 0), .ref (aT 0), .int o11.2, .int XlatestFault])), ((aN 0), .inr (2, [.int Ndeeds, .int Npeople, .int Ncatches, .ref (aN 1), .ref (aN 2), .ref (aN 3), .ref (aN 4), .ref (aN 5)])), ((aN 2), .inl (cyI, 4, .inl N_kindOf)), ((aN 4), .inl (cyI, 4, .inl N_knownTo))]) [1, 2, 0, 3] rfl
        have hD := hD.sub (ws' := [((aX 0), .inr (3, [.ref (aX 1), .ref aR, .ref (aX 2), .ref (aX 3), .int Xreadings, .ref (aN 0), .ref (aT 0), .int o11.2, .int XlatestFault])), ((aN 0), .inr (2, [.int Ndeeds, .int Npeople, .int Ncatches, .ref (aN 1), .ref (aN 2), .ref (aN 3), .ref (aN 4), .ref (aN 5)])), ((aN 2), .inl (cyI, 4, .inl N_kindOf)), ((aN 4), .inl (cyI, 4, .inl N_knownTo))]) [1, 2, 0, 3] (by decide) rfl
        exact hret () H locs _ ls hP hD hS dX3_tell_65 rfl
  · replace h := it_t c3 h
    refine lv_iconst (v := (-1)) hx hb dX3_tell_11 (by decide) ?_
    replace h := Option.some.inj h; subst h
    have hP := hP.sub (ws' := [((aX 0), .inr (3, [.ref (aX 1), .ref aR, .ref (aX 2), .ref (aX 3), .int Xreadings, .ref (aN 0), .ref (aT 0), .int Xtrail, .int XlatestFault])), ((aN 0), .inr (2, [.int Ndeeds, .int Npeople, .int Ncatches, .ref (aN 1), .ref (aN 2), .ref (aN 3), .ref (aN 4), .ref (aN 5)])), ((aN 2), .inl (cyI, 4, .inl N_kindOf)), ((aN 4), .inl (cyI, 4, .inl N_knownTo))]) [0, 3, 1, 2] rfl
    have hD := hD.sub (ws' := [((aX 0), .inr (3, [.ref (aX 1), .ref aR, .ref (aX 2), .ref (aX 3), .int Xreadings, .ref (aN 0), .ref (aT 0), .int Xtrail, .int XlatestFault])), ((aN 0), .inr (2, [.int Ndeeds, .int Npeople, .int Ncatches, .ref (aN 1), .ref (aN 2), .ref (aN 3), .ref (aN 4), .ref (aN 5)])), ((aN 2), .inl (cyI, 4, .inl N_kindOf)), ((aN 4), .inl (cyI, 4, .inl N_knownTo))]) [0, 3, 1, 2] (by decide) rfl
    exact hret () H locs _ ls hP hD hS dX3_tell_12 rfl
set_option maxHeartbeats 4000000 in
set_option maxRecDepth 100000 in
theorem c_X3_abjectGreeting (l : Launch) (dC : Nat → ClassId) (dI : Nat → Nat → Nat) (cyI cyO : ClassId) (aX : Nat → Nat) (aR : Nat) (aN : Nat → Nat) (aT : Nat → Nat) (sz : Nat) (Xreadings : Int32) (Xtrail : Int32) (XlatestFault : Int32)  {o : Int32 × Int32}  (h : f_X3_abjectGreeting Xtrail = some o) : CtI l yX3_abjectGreeting wsX3_abjectGreeting { frames := 1, cells := 0, slots := 0, locals := 21 } (dC, dI) [(cyI, .int), (cyO, .object RX0)] [.ref (aX 0)] sz [((aX 0), .inr (3, [.ref (aX 1), .ref aR, .ref (aX 2), .ref (aX 3), .int Xreadings, .ref (aN 0), .ref (aT 0), .int Xtrail, .int XlatestFault]))] (fun (_ : Unit) => [((aX 0), .inr (3, [.ref (aX 1), .ref aR, .ref (aX 2), .ref (aX 3), .int Xreadings, .ref (aN 0), .ref (aT 0), .int o.2, .int XlatestFault]))]) o.1 := by
  refine CtI.of (cc := cX3_abjectGreeting) (maxL := 1) (by decide) rfl (Nat.le_of_ble_eq_true rfl) ?_
  intro p e s m args below meth c A Q H locs hx hb hml hown hts hA hK hP hD hS hret ls hl
  have hown : s.vm.findClass RX3 = some m.cls := hown
  have hl : lv_has ls 1 [(0, .ref (aX 0))] := hl
  unfold f_X3_abjectGreeting at h
  refine lv_aload_n hx hb dX3_abjectGreeting_0 rfl (lv_at hl 0 rfl) ?_
  refine lv_iconst (v := 5) hx hb dX3_abjectGreeting_1 (by decide) ?_
  obtain ⟨o1, hc2, h⟩ := ob h
  refine k_vv (As := [.int 5]) (rest := []) ⟨hx, hb, hml, hown, hts⟩ (c_X3_leaveTrace l dC dI cyI cyO aX aR aN aT H.size Xreadings Xtrail XlatestFault 5 hc2) (cwV 1 hts gX3_abjectGreeting_X3_leaveTrace rfl rfl rfl (by decide +kernel) ⟨Nat.le_of_ble_eq_true rfl, Nat.le_of_ble_eq_true rfl⟩) hP hD hK hS hA [0] [] rfl rfl (by decide) (by decide) (by decide) 3 0 rfl rfl rfl rfl hl.1 rfl (Nat.le_of_ble_eq_true rfl) dX3_abjectGreeting_2 ⟨Nat.zero_le _, Nat.zero_le _⟩ (fun _ H locs hP hD hS => ?_)
  have hP : va_P (dC, dI) vwCl [((aX 0), .inr (3, [.ref (aX 1), .ref aR, .ref (aX 2), .ref (aX 3), .int Xreadings, .ref (aN 0), .ref (aT 0), .int o1, .int XlatestFault]))] H := hP
  have hD : va_D A [((aX 0), .inr (3, [.ref (aX 1), .ref aR, .ref (aX 2), .ref (aX 3), .int Xreadings, .ref (aN 0), .ref (aT 0), .int o1, .int XlatestFault]))] := hD
  refine lv_bipush (v := 80) hx hb dX3_abjectGreeting_5 (by decide) ?_
  replace h := Option.some.inj h; subst h
  exact hret () H locs _ ls hP hD hS dX3_abjectGreeting_7 rfl
set_option maxHeartbeats 4000000 in
set_option maxRecDepth 100000 in
theorem c_X3_lentGreeting (l : Launch) (dC : Nat → ClassId) (dI : Nat → Nat → Nat) (cyI cyO : ClassId) (aX : Nat → Nat) (aR : Nat) (aN : Nat → Nat) (aT : Nat → Nat) (sz : Nat) (Xreadings : Int32) (Xtrail : Int32) (XlatestFault : Int32) (p1 : Int32) {o : Int32 × Int32}  (h : f_X3_lentGreeting Xtrail p1 = some o) : CtI l yX3_lentGreeting wsX3_lentGreeting { frames := 1, cells := 0, slots := 0, locals := 21 } (dC, dI) [(cyI, .int), (cyO, .object RX0)] [.ref (aX 0), .int p1] sz [((aX 0), .inr (3, [.ref (aX 1), .ref aR, .ref (aX 2), .ref (aX 3), .int Xreadings, .ref (aN 0), .ref (aT 0), .int Xtrail, .int XlatestFault]))] (fun (_ : Unit) => [((aX 0), .inr (3, [.ref (aX 1), .ref aR, .ref (aX 2), .ref (aX 3), .int Xreadings, .ref (aN 0), .ref (aT 0), .int o.2, .int XlatestFault]))]) o.1 := by
  refine CtI.of (cc := cX3_lentGreeting) (maxL := 2) (by decide) rfl (Nat.le_of_ble_eq_true rfl) ?_
  intro p e s m args below meth c A Q H locs hx hb hml hown hts hA hK hP hD hS hret ls hl
  have hown : s.vm.findClass RX3 = some m.cls := hown
  have hl : lv_has ls 2 [(0, .ref (aX 0)), (1, .int p1)] := hl
  unfold f_X3_lentGreeting at h
  refine lv_aload_n hx hb dX3_lentGreeting_0 rfl (lv_at hl 0 rfl) ?_
  refine lv_iconst (v := 4) hx hb dX3_lentGreeting_1 (by decide) ?_
  obtain ⟨o1, hc2, h⟩ := ob h
  refine k_vv (As := [.int 4]) (rest := []) ⟨hx, hb, hml, hown, hts⟩ (c_X3_leaveTrace l dC dI cyI cyO aX aR aN aT H.size Xreadings Xtrail XlatestFault 4 hc2) (cwV 1 hts gX3_lentGreeting_X3_leaveTrace rfl rfl rfl (by decide +kernel) ⟨Nat.le_of_ble_eq_true rfl, Nat.le_of_ble_eq_true rfl⟩) hP hD hK hS hA [0] [] rfl rfl (by decide) (by decide) (by decide) 3 0 rfl rfl rfl rfl hl.1 rfl (Nat.le_of_ble_eq_true rfl) dX3_lentGreeting_2 ⟨Nat.zero_le _, Nat.zero_le _⟩ (fun _ H locs hP hD hS => ?_)
  have hP : va_P (dC, dI) vwCl [((aX 0), .inr (3, [.ref (aX 1), .ref aR, .ref (aX 2), .ref (aX 3), .int Xreadings, .ref (aN 0), .ref (aT 0), .int o1, .int XlatestFault]))] H := hP
  have hD : va_D A [((aX 0), .inr (3, [.ref (aX 1), .ref aR, .ref (aX 2), .ref (aX 3), .int Xreadings, .ref (aN 0), .ref (aT 0), .int o1, .int XlatestFault]))] := hD
  refine lv_iload_n hx hb dX3_lentGreeting_5 rfl (lv_at hl 1 rfl) ?_
  replace h := Option.some.inj h; subst h
  exact hret () H locs _ ls hP hD hS dX3_lentGreeting_6 rfl
set_option maxHeartbeats 4000000 in
set_option maxRecDepth 100000 in
theorem c_X3_greet (l : Launch) (dC : Nat → ClassId) (dI : Nat → Nat → Nat) (cyI cyO : ClassId) (aX : Nat → Nat) (aN : Nat → Nat) (aR : Nat) (aT : Nat → Nat) (sz : Nat) (Xreadings : Int32) (Xtrail : Int32) (XlatestFault : Int32) (Ndeeds : Int32) (Npeople : Int32) (Ncatches : Int32) (N_kindOf : Nat → Int32) (p1 : Int32) {o : Int32 × Int32}  (h : f_X3_greet Xtrail Npeople N_kindOf p1 = some o) : CtI l yX3_greet wsX3_greet { frames := 2, cells := 0, slots := 0, locals := 42 } (dC, dI) [(cyI, .int), (cyO, .object RX0)] [.ref (aX 0), .int p1] sz [((aX 0), .inr (3, [.ref (aX 1), .ref aR, .ref (aX 2), .ref (aX 3), .int Xreadings, .ref (aN 0), .ref (aT 0), .int Xtrail, .int XlatestFault])), ((aN 0), .inr (2, [.int Ndeeds, .int Npeople, .int Ncatches, .ref (aN 1), .ref (aN 2), .ref (aN 3), .ref (aN 4), .ref (aN 5)])), ((aN 2), .inl (cyI, 4, .inl N_kindOf))] (fun (_ : Unit) => [((aX 0), .inr (3, [.ref (aX 1), .ref aR, .ref (aX 2), .ref (aX 3), .int Xreadings, .ref (aN 0), .ref (aT 0), .int o.2, .int XlatestFault])), ((aN 0), .inr (2, [.int Ndeeds, .int Npeople, .int Ncatches, .ref (aN 1), .ref (aN 2), .ref (aN 3), .ref (aN 4), .ref (aN 5)])), ((aN 2), .inl (cyI, 4, .inl N_kindOf))]) o.1 := by
  refine CtI.of (cc := cX3_greet) (maxL := 2) (by decide) rfl (Nat.le_of_ble_eq_true rfl) ?_
  intro p e s m args below meth c A Q H locs hx hb hml hown hts hA hK hP hD hS hret ls hl
  have hown : s.vm.findClass RX3 = some m.cls := hown
  have hl : lv_has ls 2 [(0, .ref (aX 0)), (1, .int p1)] := hl
  unfold f_X3_greet at h
  have hiX2 : ∀ w ∈ u_ws RX2 TX2 8, w ∈ wsX3_greet := by decide +kernel
  have hiX3 : ∀ w ∈ u_ws RX3 TX3 9, w ∈ wsX3_greet := by decide +kernel
  have hf35 := hts (.fieldLink RX3 35 "TowerTell" "now" "LTowerTell$Tower;") (by decide +kernel)
  have hf74 := hts (.fieldLink RX3 74 "TowerTell$Tower" "kindOf" "[I") (by decide +kernel)
  refine lv_aload_n hx hb dX3_greet_0 rfl (lv_at hl 0 rfl) ?_
  refine va_get (D := (dC, dI)) (ci := 3) (v := .ref (aN 0)) (C := RX3) (T := TX3) (N := 9) hx hb hts hiX3 hown hK hP 0 rfl rfl 5 (by decide) hf35 (fun _ h9 => h9) rfl dX3_greet_1 ?_
  refine lv_iload_n hx hb dX3_greet_4 rfl (lv_at hl 1 rfl) ?_
  obtain ⟨o1, hc2, h⟩ := ob h
  refine k_vi (As := [.int p1]) (rest := []) ⟨hx, hb, hml, hown, hts⟩ (c_X2_isPerson l dC dI cyI cyO aN H.size Ndeeds Npeople Ncatches p1 hc2) (cwV 1 hts gX3_greet_X2_isPerson rfl rfl rfl (by decide +kernel) ⟨Nat.le_of_ble_eq_true rfl, Nat.le_of_ble_eq_true rfl⟩) hP hD hK hS hA [1] [0, 2] rfl rfl (by decide) (by decide) (by decide) 2 0 rfl rfl rfl rfl hl.1 rfl (Nat.le_of_ble_eq_true rfl) dX3_greet_5 ⟨Nat.zero_le _, Nat.zero_le _⟩ (fun _ H locs hP hD hS => ?_)
  have hP : va_P (dC, dI) vwCl [((aX 0), .inr (3, [.ref (aX 1), .ref aR, .ref (aX 2), .ref (aX 3), .int Xreadings, .ref (aN 0), .ref (aT 0), .int Xtrail, .int XlatestFault])), ((aN 2), .inl (cyI, 4, .inl N_kindOf)), ((aN 0), .inr (2, [.int Ndeeds, .int Npeople, .int Ncatches, .ref (aN 1), .ref (aN 2), .ref (aN 3), .ref (aN 4), .ref (aN 5)]))] H := hP
  have hD : va_D A [((aX 0), .inr (3, [.ref (aX 1), .ref aR, .ref (aX 2), .ref (aX 3), .int Xreadings, .ref (aN 0), .ref (aT 0), .int Xtrail, .int XlatestFault])), ((aN 2), .inl (cyI, 4, .inl N_kindOf)), ((aN 0), .inr (2, [.int Ndeeds, .int Npeople, .int Ncatches, .ref (aN 1), .ref (aN 2), .ref (aN 3), .ref (aN 4), .ref (aN 5)]))] := hD
  refine lv_if_ne (tgt := 13) hx hb dX3_greet_8 (by decide) (fun c3 => ?_) (fun c3 => ?_)
  · replace h := it_f c3 h
    refine lv_aload_n hx hb dX3_greet_13 rfl (lv_at hl 0 rfl) ?_
    refine va_get (D := (dC, dI)) (ci := 3) (v := .ref (aN 0)) (C := RX3) (T := TX3) (N := 9) hx hb hts hiX3 hown hK hP 0 rfl rfl 5 (by decide) hf35 (fun _ h9 => h9) rfl dX3_greet_14 ?_
    refine va_get (D := (dC, dI)) (ci := 2) (v := .ref (aN 2)) (C := RX2) (T := TX2) (N := 8) hx hb hts hiX2 hown hK hP 2 rfl rfl 4 (by decide) hf74 (fun _ h9 => h9) rfl dX3_greet_17 ?_
    refine lv_iload_n hx hb dX3_greet_20 rfl (lv_at hl 1 rfl) ?_
    obtain ⟨e4, h⟩ := it_n h
    refine va_iald hx hb hK hP 1 0 rfl rfl (ix_in e4) dX3_greet_21 ?_
    refine lv_iconst (v := 2) hx hb dX3_greet_22 (by decide) ?_
    refine lv_icmp_ne (tgt := 33) hx hb dX3_greet_23 (by decide) (fun c5 => ?_) (fun c5 => ?_)
    · replace h := it_f c5 h
      refine lv_aload_n hx hb dX3_greet_33 rfl (lv_at hl 0 rfl) ?_
      refine lv_iload_n hx hb dX3_greet_34 rfl (lv_at hl 1 rfl) ?_
      obtain ⟨o6, hc7, h⟩ := ob h
      refine k_vi (As := [.int p1]) (rest := []) ⟨hx, hb, hml, hown, hts⟩ (c_X3_lentGreeting l dC dI cyI cyO aX aR aN aT H.size Xreadings Xtrail XlatestFault p1 hc7) (cwV 1 hts gX3_greet_X3_lentGreeting rfl rfl rfl (by decide +kernel) ⟨Nat.le_of_ble_eq_true rfl, Nat.le_of_ble_eq_true rfl⟩) hP hD hK hS hA [0] [1, 2] rfl rfl (by decide) (by decide) (by decide) 3 0 rfl rfl rfl rfl hl.1 rfl (Nat.le_of_ble_eq_true rfl) dX3_greet_35 ⟨Nat.zero_le _, Nat.zero_le _⟩ (fun _ H locs hP hD hS => ?_)
      have hP : va_P (dC, dI) vwCl [((aN 2), .inl (cyI, 4, .inl N_kindOf)), ((aN 0), .inr (2, [.int Ndeeds, .int Npeople, .int Ncatches, .ref (aN 1), .ref (aN 2), .ref (aN 3), .ref (aN 4), .ref (aN 5)])), ((aX 0), .inr (3, [.ref (aX 1), .ref aR, .ref (aX 2), .ref (aX 3), .int Xreadings, .ref (aN 0), .ref (aT 0), .int o6.2, .int XlatestFault]))] H := hP
      have hD : va_D A [((aN 2), .inl (cyI, 4, .inl N_kindOf)), ((aN 0), .inr (2, [.int Ndeeds, .int Npeople, .int Ncatches, .ref (aN 1), .ref (aN 2), .ref (aN 3), .ref (aN 4), .ref (aN 5)])), ((aX 0), .inr (3, [.ref (aX 1), .ref aR, .ref (aX 2), .ref (aX 3), .int Xreadings, .ref (aN 0), .ref (aT 0), .int o6.2, .int XlatestFault]))] := hD
      replace h := Option.some.inj h; subst h
      have hP := hP.sub (ws' := [((aX 0), .inr (3, [.ref (aX 1), .ref aR, .ref (aX 2), .ref (aX 3), .int Xreadings, .ref (aN 0), .ref (aT 0), .int o6.2, .int XlatestFault])), ((aN 0), .inr (2, [.int Ndeeds, .int Npeople, .int Ncatches, .ref (aN 1), .ref (aN 2), .ref (aN 3), .ref (aN 4), .ref (aN 5)])), ((aN 2), .inl (cyI, 4, .inl N_kindOf))]) [2, 1, 0] rfl
      have hD := hD.sub (ws' := [((aX 0), .inr (3, [.ref (aX 1), .ref aR, .ref (aX 2), .ref (aX 3), .int Xreadings, .ref (aN 0), .ref (aT 0), .int o6.2, .int XlatestFault])), ((aN 0), .inr (2, [.int Ndeeds, .int Npeople, .int Ncatches, .ref (aN 1), .ref (aN 2), .ref (aN 3), .ref (aN 4), .ref (aN 5)])), ((aN 2), .inl (cyI, 4, .inl N_kindOf))]) [2, 1, 0] (by decide) rfl
      exact hret () H locs _ ls hP hD hS dX3_greet_38 rfl
    · replace h := it_t c5 h
      refine lv_aload_n hx hb dX3_greet_26 rfl (lv_at hl 0 rfl) ?_
      obtain ⟨o8, hc9, h⟩ := ob h
      refine k_vi (As := []) (rest := []) ⟨hx, hb, hml, hown, hts⟩ (c_X3_abjectGreeting l dC dI cyI cyO aX aR aN aT H.size Xreadings Xtrail XlatestFault hc9) (cwV 0 hts gX3_greet_X3_abjectGreeting rfl rfl rfl (by decide +kernel) ⟨Nat.le_of_ble_eq_true rfl, Nat.le_of_ble_eq_true rfl⟩) hP hD hK hS hA [0] [1, 2] rfl rfl (by decide) (by decide) (by decide) 3 0 rfl rfl rfl rfl hl.1 rfl (Nat.le_of_ble_eq_true rfl) dX3_greet_27 ⟨Nat.zero_le _, Nat.zero_le _⟩ (fun _ H locs hP hD hS => ?_)
      have hP : va_P (dC, dI) vwCl [((aN 2), .inl (cyI, 4, .inl N_kindOf)), ((aN 0), .inr (2, [.int Ndeeds, .int Npeople, .int Ncatches, .ref (aN 1), .ref (aN 2), .ref (aN 3), .ref (aN 4), .ref (aN 5)])), ((aX 0), .inr (3, [.ref (aX 1), .ref aR, .ref (aX 2), .ref (aX 3), .int Xreadings, .ref (aN 0), .ref (aT 0), .int o8.2, .int XlatestFault]))] H := hP
      have hD : va_D A [((aN 2), .inl (cyI, 4, .inl N_kindOf)), ((aN 0), .inr (2, [.int Ndeeds, .int Npeople, .int Ncatches, .ref (aN 1), .ref (aN 2), .ref (aN 3), .ref (aN 4), .ref (aN 5)])), ((aX 0), .inr (3, [.ref (aX 1), .ref aR, .ref (aX 2), .ref (aX 3), .int Xreadings, .ref (aN 0), .ref (aT 0), .int o8.2, .int XlatestFault]))] := hD
      refine lv_goto (tgt := 38) hx hb dX3_greet_30 (by decide) ?_
      replace h := Option.some.inj h; subst h
      have hP := hP.sub (ws' := [((aX 0), .inr (3, [.ref (aX 1), .ref aR, .ref (aX 2), .ref (aX 3), .int Xreadings, .ref (aN 0), .ref (aT 0), .int o8.2, .int XlatestFault])), ((aN 0), .inr (2, [.int Ndeeds, .int Npeople, .int Ncatches, .ref (aN 1), .ref (aN 2), .ref (aN 3), .ref (aN 4), .ref (aN 5)])), ((aN 2), .inl (cyI, 4, .inl N_kindOf))]) [2, 1, 0] rfl
      have hD := hD.sub (ws' := [((aX 0), .inr (3, [.ref (aX 1), .ref aR, .ref (aX 2), .ref (aX 3), .int Xreadings, .ref (aN 0), .ref (aT 0), .int o8.2, .int XlatestFault])), ((aN 0), .inr (2, [.int Ndeeds, .int Npeople, .int Ncatches, .ref (aN 1), .ref (aN 2), .ref (aN 3), .ref (aN 4), .ref (aN 5)])), ((aN 2), .inl (cyI, 4, .inl N_kindOf))]) [2, 1, 0] (by decide) rfl
      exact hret () H locs _ ls hP hD hS dX3_greet_38 rfl
  · replace h := it_t c3 h
    refine lv_iconst (v := (-1)) hx hb dX3_greet_11 (by decide) ?_
    replace h := Option.some.inj h; subst h
    have hP := hP.sub (ws' := [((aX 0), .inr (3, [.ref (aX 1), .ref aR, .ref (aX 2), .ref (aX 3), .int Xreadings, .ref (aN 0), .ref (aT 0), .int Xtrail, .int XlatestFault])), ((aN 0), .inr (2, [.int Ndeeds, .int Npeople, .int Ncatches, .ref (aN 1), .ref (aN 2), .ref (aN 3), .ref (aN 4), .ref (aN 5)])), ((aN 2), .inl (cyI, 4, .inl N_kindOf))]) [0, 2, 1] rfl
    have hD := hD.sub (ws' := [((aX 0), .inr (3, [.ref (aX 1), .ref aR, .ref (aX 2), .ref (aX 3), .int Xreadings, .ref (aN 0), .ref (aT 0), .int Xtrail, .int XlatestFault])), ((aN 0), .inr (2, [.int Ndeeds, .int Npeople, .int Ncatches, .ref (aN 1), .ref (aN 2), .ref (aN 3), .ref (aN 4), .ref (aN 5)])), ((aN 2), .inl (cyI, 4, .inl N_kindOf))]) [0, 2, 1] (by decide) rfl
    exact hret () H locs _ ls hP hD hS dX3_greet_12 rfl
set_option maxHeartbeats 4000000 in
set_option maxRecDepth 100000 in
theorem c_X3_as (l : Launch) (dC : Nat → ClassId) (dI : Nat → Nat → Nat) (cyI cyO : ClassId) (aX : Nat → Nat) (aN : Nat → Nat) (aR : Nat) (aT : Nat → Nat) (sz : Nat) (Xreadings : Int32) (Xtrail : Int32) (XlatestFault : Int32) (Ndeeds : Int32) (Npeople : Int32) (Ncatches : Int32) (N_kindOf : Nat → Int32) (p1 : Int32) (p2 : Int32) {o : Int32 × Int32}  (h : f_X3_as XlatestFault Npeople N_kindOf p1 p2 = some o) : CtI l yX3_as wsX3_as { frames := 1, cells := 0, slots := 0, locals := 21 } (dC, dI) [(cyI, .int), (cyO, .object RX0)] [.ref (aX 0), .int p1, .int p2] sz [((aX 0), .inr (3, [.ref (aX 1), .ref aR, .ref (aX 2), .ref (aX 3), .int Xreadings, .ref (aN 0), .ref (aT 0), .int Xtrail, .int XlatestFault])), ((aN 0), .inr (2, [.int Ndeeds, .int Npeople, .int Ncatches, .ref (aN 1), .ref (aN 2), .ref (aN 3), .ref (aN 4), .ref (aN 5)])), ((aN 2), .inl (cyI, 4, .inl N_kindOf))] (fun (_ : Unit) => [((aX 0), .inr (3, [.ref (aX 1), .ref aR, .ref (aX 2), .ref (aX 3), .int Xreadings, .ref (aN 0), .ref (aT 0), .int Xtrail, .int o.2])), ((aN 0), .inr (2, [.int Ndeeds, .int Npeople, .int Ncatches, .ref (aN 1), .ref (aN 2), .ref (aN 3), .ref (aN 4), .ref (aN 5)])), ((aN 2), .inl (cyI, 4, .inl N_kindOf))]) o.1 := by
  refine CtI.of (cc := cX3_as) (maxL := 3) (by decide) rfl (Nat.le_of_ble_eq_true rfl) ?_
  intro p e s m args below meth c A Q H locs hx hb hml hown hts hA hK hP hD hS hret ls hl
  have hown : s.vm.findClass RX3 = some m.cls := hown
  have hl : lv_has ls 3 [(0, .ref (aX 0)), (1, .int p1), (2, .int p2)] := hl
  unfold f_X3_as at h
  have hiX2 : ∀ w ∈ u_ws RX2 TX2 8, w ∈ wsX3_as := by decide +kernel
  have hiX3 : ∀ w ∈ u_ws RX3 TX3 9, w ∈ wsX3_as := by decide +kernel
  have hf35 := hts (.fieldLink RX3 35 "TowerTell" "now" "LTowerTell$Tower;") (by decide +kernel)
  have hf42 := hts (.fieldLink RX3 42 "TowerTell" "latestFault" "I") (by decide +kernel)
  have hf74 := hts (.fieldLink RX3 74 "TowerTell$Tower" "kindOf" "[I") (by decide +kernel)
  refine lv_aload_n hx hb dX3_as_0 rfl (lv_at hl 0 rfl) ?_
  refine lv_iconst (v := 0) hx hb dX3_as_1 (by decide) ?_
  refine va_put (D := (dC, dI)) (ci := 3) (v := .int 0) (ty := .int) (C := RX3) (T := TX3) (N := 9) hx hb hts hiX3 tyX3 tyX3_ok nmX3 hown hK hP hD hS 0 rfl rfl 8 (by decide) hf42 (fun _ h9 => h9) rfl (tyX3_ok 8 (by decide)) rfl rfl (Nat.le_of_ble_eq_true rfl) dX3_as_2 (fun H locs hP hD hS => ?_)
  have hP : va_P (dC, dI) vwCl [((aX 0), .inr (3, [.ref (aX 1), .ref aR, .ref (aX 2), .ref (aX 3), .int Xreadings, .ref (aN 0), .ref (aT 0), .int Xtrail, .int 0])), ((aN 0), .inr (2, [.int Ndeeds, .int Npeople, .int Ncatches, .ref (aN 1), .ref (aN 2), .ref (aN 3), .ref (aN 4), .ref (aN 5)])), ((aN 2), .inl (cyI, 4, .inl N_kindOf))] H := hP
  have hD : va_D A [((aX 0), .inr (3, [.ref (aX 1), .ref aR, .ref (aX 2), .ref (aX 3), .int Xreadings, .ref (aN 0), .ref (aT 0), .int Xtrail, .int 0])), ((aN 0), .inr (2, [.int Ndeeds, .int Npeople, .int Ncatches, .ref (aN 1), .ref (aN 2), .ref (aN 3), .ref (aN 4), .ref (aN 5)])), ((aN 2), .inl (cyI, 4, .inl N_kindOf))] := hD
  refine lv_aload_n hx hb dX3_as_5 rfl (lv_at hl 0 rfl) ?_
  refine va_get (D := (dC, dI)) (ci := 3) (v := .ref (aN 0)) (C := RX3) (T := TX3) (N := 9) hx hb hts hiX3 hown hK hP 0 rfl rfl 5 (by decide) hf35 (fun _ h9 => h9) rfl dX3_as_6 ?_
  refine lv_iload_n hx hb dX3_as_9 rfl (lv_at hl 1 rfl) ?_
  obtain ⟨o1, hc2, h⟩ := ob h
  refine k_vi (As := [.int p1]) (rest := []) ⟨hx, hb, hml, hown, hts⟩ (c_X2_isPerson l dC dI cyI cyO aN H.size Ndeeds Npeople Ncatches p1 hc2) (cwV 1 hts gX3_as_X2_isPerson rfl rfl rfl (by decide +kernel) ⟨Nat.le_of_ble_eq_true rfl, Nat.le_of_ble_eq_true rfl⟩) hP hD hK hS hA [1] [0, 2] rfl rfl (by decide) (by decide) (by decide) 2 0 rfl rfl rfl rfl hl.1 rfl (Nat.le_of_ble_eq_true rfl) dX3_as_10 ⟨Nat.zero_le _, Nat.zero_le _⟩ (fun _ H locs hP hD hS => ?_)
  have hP : va_P (dC, dI) vwCl [((aX 0), .inr (3, [.ref (aX 1), .ref aR, .ref (aX 2), .ref (aX 3), .int Xreadings, .ref (aN 0), .ref (aT 0), .int Xtrail, .int 0])), ((aN 2), .inl (cyI, 4, .inl N_kindOf)), ((aN 0), .inr (2, [.int Ndeeds, .int Npeople, .int Ncatches, .ref (aN 1), .ref (aN 2), .ref (aN 3), .ref (aN 4), .ref (aN 5)]))] H := hP
  have hD : va_D A [((aX 0), .inr (3, [.ref (aX 1), .ref aR, .ref (aX 2), .ref (aX 3), .int Xreadings, .ref (aN 0), .ref (aT 0), .int Xtrail, .int 0])), ((aN 2), .inl (cyI, 4, .inl N_kindOf)), ((aN 0), .inr (2, [.int Ndeeds, .int Npeople, .int Ncatches, .ref (aN 1), .ref (aN 2), .ref (aN 3), .ref (aN 4), .ref (aN 5)]))] := hD
  refine lv_if_ne (tgt := 18) hx hb dX3_as_13 (by decide) (fun c3 => ?_) (fun c3 => ?_)
  · replace h := it_f c3 h
    refine lv_iload_n hx hb dX3_as_18 rfl (lv_at hl 2 rfl) ?_
    refine lv_if_lt (tgt := 27) hx hb dX3_as_19 (by decide) (fun c4 => ?_) (fun c4 => ?_)
    · replace h := it_t c4 h
      refine lv_bipush (v := (-2)) hx hb dX3_as_27 (by decide) ?_
      replace h := Option.some.inj h; subst h
      have hP := hP.sub (ws' := [((aX 0), .inr (3, [.ref (aX 1), .ref aR, .ref (aX 2), .ref (aX 3), .int Xreadings, .ref (aN 0), .ref (aT 0), .int Xtrail, .int 0])), ((aN 0), .inr (2, [.int Ndeeds, .int Npeople, .int Ncatches, .ref (aN 1), .ref (aN 2), .ref (aN 3), .ref (aN 4), .ref (aN 5)])), ((aN 2), .inl (cyI, 4, .inl N_kindOf))]) [0, 2, 1] rfl
      have hD := hD.sub (ws' := [((aX 0), .inr (3, [.ref (aX 1), .ref aR, .ref (aX 2), .ref (aX 3), .int Xreadings, .ref (aN 0), .ref (aT 0), .int Xtrail, .int 0])), ((aN 0), .inr (2, [.int Ndeeds, .int Npeople, .int Ncatches, .ref (aN 1), .ref (aN 2), .ref (aN 3), .ref (aN 4), .ref (aN 5)])), ((aN 2), .inl (cyI, 4, .inl N_kindOf))]) [0, 2, 1] (by decide) rfl
      exact hret () H locs _ ls hP hD hS dX3_as_29 rfl
    · replace h := it_f c4 h
      refine lv_iload_n hx hb dX3_as_22 rfl (lv_at hl 2 rfl) ?_
      refine lv_iconst (v := 2) hx hb dX3_as_23 (by decide) ?_
      refine lv_icmp_le (tgt := 30) hx hb dX3_as_24 (by decide) (fun c5 => ?_) (fun c5 => ?_)
      · replace h := it_t c5 h
        refine lv_iload_n hx hb dX3_as_30 rfl (lv_at hl 2 rfl) ?_
        refine lv_aload_n hx hb dX3_as_31 rfl (lv_at hl 0 rfl) ?_
        refine va_get (D := (dC, dI)) (ci := 3) (v := .ref (aN 0)) (C := RX3) (T := TX3) (N := 9) hx hb hts hiX3 hown hK hP 0 rfl rfl 5 (by decide) hf35 (fun _ h9 => h9) rfl dX3_as_32 ?_
        refine va_get (D := (dC, dI)) (ci := 2) (v := .ref (aN 2)) (C := RX2) (T := TX2) (N := 8) hx hb hts hiX2 hown hK hP 2 rfl rfl 4 (by decide) hf74 (fun _ h9 => h9) rfl dX3_as_35 ?_
        refine lv_iload_n hx hb dX3_as_38 rfl (lv_at hl 1 rfl) ?_
        obtain ⟨e6, h⟩ := it_n h
        refine va_iald hx hb hK hP 1 0 rfl rfl (ix_in e6) dX3_as_39 ?_
        refine lv_icmp_gt (tgt := 47) hx hb dX3_as_40 (by decide) (fun c7 => ?_) (fun c7 => ?_)
        · replace h := it_t c7 h
          refine lv_aload_n hx hb dX3_as_47 rfl (lv_at hl 0 rfl) ?_
          refine lv_iconst (v := 2) hx hb dX3_as_48 (by decide) ?_
          obtain ⟨o8, hc9, h⟩ := ob h
          refine k_vi (As := [.int 2]) (rest := []) ⟨hx, hb, hml, hown, hts⟩ (c_X3_faulted l dC dI cyI cyO aX aR aN aT H.size Xreadings Xtrail 0 2 hc9) (cwV 1 hts gX3_as_X3_faulted rfl rfl rfl (by decide +kernel) ⟨Nat.le_of_ble_eq_true rfl, Nat.le_of_ble_eq_true rfl⟩) hP hD hK hS hA [0] [1, 2] rfl rfl (by decide) (by decide) (by decide) 3 0 rfl rfl rfl rfl hl.1 rfl (Nat.le_of_ble_eq_true rfl) dX3_as_49 ⟨Nat.zero_le _, Nat.zero_le _⟩ (fun _ H locs hP hD hS => ?_)
          have hP : va_P (dC, dI) vwCl [((aN 2), .inl (cyI, 4, .inl N_kindOf)), ((aN 0), .inr (2, [.int Ndeeds, .int Npeople, .int Ncatches, .ref (aN 1), .ref (aN 2), .ref (aN 3), .ref (aN 4), .ref (aN 5)])), ((aX 0), .inr (3, [.ref (aX 1), .ref aR, .ref (aX 2), .ref (aX 3), .int Xreadings, .ref (aN 0), .ref (aT 0), .int Xtrail, .int o8.2]))] H := hP
          have hD : va_D A [((aN 2), .inl (cyI, 4, .inl N_kindOf)), ((aN 0), .inr (2, [.int Ndeeds, .int Npeople, .int Ncatches, .ref (aN 1), .ref (aN 2), .ref (aN 3), .ref (aN 4), .ref (aN 5)])), ((aX 0), .inr (3, [.ref (aX 1), .ref aR, .ref (aX 2), .ref (aX 3), .int Xreadings, .ref (aN 0), .ref (aT 0), .int Xtrail, .int o8.2]))] := hD
          replace h := Option.some.inj h; subst h
          have hP := hP.sub (ws' := [((aX 0), .inr (3, [.ref (aX 1), .ref aR, .ref (aX 2), .ref (aX 3), .int Xreadings, .ref (aN 0), .ref (aT 0), .int Xtrail, .int o8.2])), ((aN 0), .inr (2, [.int Ndeeds, .int Npeople, .int Ncatches, .ref (aN 1), .ref (aN 2), .ref (aN 3), .ref (aN 4), .ref (aN 5)])), ((aN 2), .inl (cyI, 4, .inl N_kindOf))]) [2, 1, 0] rfl
          have hD := hD.sub (ws' := [((aX 0), .inr (3, [.ref (aX 1), .ref aR, .ref (aX 2), .ref (aX 3), .int Xreadings, .ref (aN 0), .ref (aT 0), .int Xtrail, .int o8.2])), ((aN 0), .inr (2, [.int Ndeeds, .int Npeople, .int Ncatches, .ref (aN 1), .ref (aN 2), .ref (aN 3), .ref (aN 4), .ref (aN 5)])), ((aN 2), .inl (cyI, 4, .inl N_kindOf))]) [2, 1, 0] (by decide) rfl
          exact hret () H locs _ ls hP hD hS dX3_as_52 rfl
        · replace h := it_f c7 h
          refine lv_iconst (v := 1) hx hb dX3_as_43 (by decide) ?_
          refine lv_goto (tgt := 52) hx hb dX3_as_44 (by decide) ?_
          replace h := Option.some.inj h; subst h
          have hP := hP.sub (ws' := [((aX 0), .inr (3, [.ref (aX 1), .ref aR, .ref (aX 2), .ref (aX 3), .int Xreadings, .ref (aN 0), .ref (aT 0), .int Xtrail, .int 0])), ((aN 0), .inr (2, [.int Ndeeds, .int Npeople, .int Ncatches, .ref (aN 1), .ref (aN 2), .ref (aN 3), .ref (aN 4), .ref (aN 5)])), ((aN 2), .inl (cyI, 4, .inl N_kindOf))]) [0, 2, 1] rfl
          have hD := hD.sub (ws' := [((aX 0), .inr (3, [.ref (aX 1), .ref aR, .ref (aX 2), .ref (aX 3), .int Xreadings, .ref (aN 0), .ref (aT 0), .int Xtrail, .int 0])), ((aN 0), .inr (2, [.int Ndeeds, .int Npeople, .int Ncatches, .ref (aN 1), .ref (aN 2), .ref (aN 3), .ref (aN 4), .ref (aN 5)])), ((aN 2), .inl (cyI, 4, .inl N_kindOf))]) [0, 2, 1] (by decide) rfl
          exact hret () H locs _ ls hP hD hS dX3_as_52 rfl
      · replace h := it_f c5 h
        refine lv_bipush (v := (-2)) hx hb dX3_as_27 (by decide) ?_
        replace h := Option.some.inj h; subst h
        have hP := hP.sub (ws' := [((aX 0), .inr (3, [.ref (aX 1), .ref aR, .ref (aX 2), .ref (aX 3), .int Xreadings, .ref (aN 0), .ref (aT 0), .int Xtrail, .int 0])), ((aN 0), .inr (2, [.int Ndeeds, .int Npeople, .int Ncatches, .ref (aN 1), .ref (aN 2), .ref (aN 3), .ref (aN 4), .ref (aN 5)])), ((aN 2), .inl (cyI, 4, .inl N_kindOf))]) [0, 2, 1] rfl
        have hD := hD.sub (ws' := [((aX 0), .inr (3, [.ref (aX 1), .ref aR, .ref (aX 2), .ref (aX 3), .int Xreadings, .ref (aN 0), .ref (aT 0), .int Xtrail, .int 0])), ((aN 0), .inr (2, [.int Ndeeds, .int Npeople, .int Ncatches, .ref (aN 1), .ref (aN 2), .ref (aN 3), .ref (aN 4), .ref (aN 5)])), ((aN 2), .inl (cyI, 4, .inl N_kindOf))]) [0, 2, 1] (by decide) rfl
        exact hret () H locs _ ls hP hD hS dX3_as_29 rfl
  · replace h := it_t c3 h
    refine lv_iconst (v := (-1)) hx hb dX3_as_16 (by decide) ?_
    replace h := Option.some.inj h; subst h
    have hP := hP.sub (ws' := [((aX 0), .inr (3, [.ref (aX 1), .ref aR, .ref (aX 2), .ref (aX 3), .int Xreadings, .ref (aN 0), .ref (aT 0), .int Xtrail, .int 0])), ((aN 0), .inr (2, [.int Ndeeds, .int Npeople, .int Ncatches, .ref (aN 1), .ref (aN 2), .ref (aN 3), .ref (aN 4), .ref (aN 5)])), ((aN 2), .inl (cyI, 4, .inl N_kindOf))]) [0, 2, 1] rfl
    have hD := hD.sub (ws' := [((aX 0), .inr (3, [.ref (aX 1), .ref aR, .ref (aX 2), .ref (aX 3), .int Xreadings, .ref (aN 0), .ref (aT 0), .int Xtrail, .int 0])), ((aN 0), .inr (2, [.int Ndeeds, .int Npeople, .int Ncatches, .ref (aN 1), .ref (aN 2), .ref (aN 3), .ref (aN 4), .ref (aN 5)])), ((aN 2), .inl (cyI, 4, .inl N_kindOf))]) [0, 2, 1] (by decide) rfl
    exact hret () H locs _ ls hP hD hS dX3_as_17 rfl
set_option maxHeartbeats 4000000 in
set_option maxRecDepth 100000 in
theorem c_X3_trace (l : Launch) (dC : Nat → ClassId) (dI : Nat → Nat → Nat) (cyI cyO : ClassId) (aX : Nat → Nat) (aR : Nat) (aN : Nat → Nat) (aT : Nat → Nat) (sz : Nat) (Xreadings : Int32) (Xtrail : Int32) (XlatestFault : Int32)  {o : Int32}  (h : f_X3_trace Xtrail = some o) : CtI l yX3_trace wsX3_trace { frames := 0, cells := 0, slots := 0, locals := 0 } (dC, dI) [(cyI, .int), (cyO, .object RX0)] [.ref (aX 0)] sz [((aX 0), .inr (3, [.ref (aX 1), .ref aR, .ref (aX 2), .ref (aX 3), .int Xreadings, .ref (aN 0), .ref (aT 0), .int Xtrail, .int XlatestFault]))] (fun (_ : Unit) => [((aX 0), .inr (3, [.ref (aX 1), .ref aR, .ref (aX 2), .ref (aX 3), .int Xreadings, .ref (aN 0), .ref (aT 0), .int Xtrail, .int XlatestFault]))]) o := by
  refine CtI.of (cc := cX3_trace) (maxL := 1) (by decide) rfl (Nat.le_of_ble_eq_true rfl) ?_
  intro p e s m args below meth c A Q H locs hx hb hml hown hts hA hK hP hD hS hret ls hl
  have hown : s.vm.findClass RX3 = some m.cls := hown
  have hl : lv_has ls 1 [(0, .ref (aX 0))] := hl
  unfold f_X3_trace at h
  have hiX3 : ∀ w ∈ u_ws RX3 TX3 9, w ∈ wsX3_trace := by decide +kernel
  have hf198 := hts (.fieldLink RX3 198 "TowerTell" "trail" "I") (by decide +kernel)
  refine lv_aload_n hx hb dX3_trace_0 rfl (lv_at hl 0 rfl) ?_
  refine va_get (D := (dC, dI)) (ci := 3) (v := .int Xtrail) (C := RX3) (T := TX3) (N := 9) hx hb hts hiX3 hown hK hP 0 rfl rfl 7 (by decide) hf198 (fun _ h9 => h9) rfl dX3_trace_1 ?_
  replace h := Option.some.inj h; subst h
  exact hret () H locs _ ls hP hD hS dX3_trace_4 rfl
set_option maxHeartbeats 4000000 in
set_option maxRecDepth 100000 in
theorem c_X3_fault (l : Launch) (dC : Nat → ClassId) (dI : Nat → Nat → Nat) (cyI cyO : ClassId) (aX : Nat → Nat) (aR : Nat) (aN : Nat → Nat) (aT : Nat → Nat) (sz : Nat) (Xreadings : Int32) (Xtrail : Int32) (XlatestFault : Int32)  {o : Int32}  (h : f_X3_fault XlatestFault = some o) : CtI l yX3_fault wsX3_fault { frames := 0, cells := 0, slots := 0, locals := 0 } (dC, dI) [(cyI, .int), (cyO, .object RX0)] [.ref (aX 0)] sz [((aX 0), .inr (3, [.ref (aX 1), .ref aR, .ref (aX 2), .ref (aX 3), .int Xreadings, .ref (aN 0), .ref (aT 0), .int Xtrail, .int XlatestFault]))] (fun (_ : Unit) => [((aX 0), .inr (3, [.ref (aX 1), .ref aR, .ref (aX 2), .ref (aX 3), .int Xreadings, .ref (aN 0), .ref (aT 0), .int Xtrail, .int XlatestFault]))]) o := by
  refine CtI.of (cc := cX3_fault) (maxL := 1) (by decide) rfl (Nat.le_of_ble_eq_true rfl) ?_
  intro p e s m args below meth c A Q H locs hx hb hml hown hts hA hK hP hD hS hret ls hl
  have hown : s.vm.findClass RX3 = some m.cls := hown
  have hl : lv_has ls 1 [(0, .ref (aX 0))] := hl
  unfold f_X3_fault at h
  have hiX3 : ∀ w ∈ u_ws RX3 TX3 9, w ∈ wsX3_fault := by decide +kernel
  have hf42 := hts (.fieldLink RX3 42 "TowerTell" "latestFault" "I") (by decide +kernel)
  refine lv_aload_n hx hb dX3_fault_0 rfl (lv_at hl 0 rfl) ?_
  refine va_get (D := (dC, dI)) (ci := 3) (v := .int XlatestFault) (C := RX3) (T := TX3) (N := 9) hx hb hts hiX3 hown hK hP 0 rfl rfl 8 (by decide) hf42 (fun _ h9 => h9) rfl dX3_fault_1 ?_
  replace h := Option.some.inj h; subst h
  exact hret () H locs _ ls hP hD hS dX3_fault_4 rfl
set_option maxHeartbeats 4000000 in
set_option maxRecDepth 100000 in
theorem c_X3_many (l : Launch) (dC : Nat → ClassId) (dI : Nat → Nat → Nat) (cyI cyO : ClassId) (aX : Nat → Nat) (aN : Nat → Nat) (aR : Nat) (aT : Nat → Nat) (sz : Nat) (Xreadings : Int32) (Xtrail : Int32) (XlatestFault : Int32) (Ndeeds : Int32) (Npeople : Int32) (Ncatches : Int32) (p1 : Int32) {o : Int32}  (h : f_X3_many Xreadings Ndeeds Npeople p1 = some o) : CtI l yX3_many wsX3_many { frames := 0, cells := 0, slots := 0, locals := 0 } (dC, dI) [(cyI, .int), (cyO, .object RX0)] [.ref (aX 0), .int p1] sz [((aX 0), .inr (3, [.ref (aX 1), .ref aR, .ref (aX 2), .ref (aX 3), .int Xreadings, .ref (aN 0), .ref (aT 0), .int Xtrail, .int XlatestFault])), ((aN 0), .inr (2, [.int Ndeeds, .int Npeople, .int Ncatches, .ref (aN 1), .ref (aN 2), .ref (aN 3), .ref (aN 4), .ref (aN 5)]))] (fun (_ : Unit) => [((aX 0), .inr (3, [.ref (aX 1), .ref aR, .ref (aX 2), .ref (aX 3), .int Xreadings, .ref (aN 0), .ref (aT 0), .int Xtrail, .int XlatestFault])), ((aN 0), .inr (2, [.int Ndeeds, .int Npeople, .int Ncatches, .ref (aN 1), .ref (aN 2), .ref (aN 3), .ref (aN 4), .ref (aN 5)]))]) o := by
  refine CtI.of (cc := cX3_many) (maxL := 2) (by decide) rfl (Nat.le_of_ble_eq_true rfl) ?_
  intro p e s m args below meth c A Q H locs hx hb hml hown hts hA hK hP hD hS hret ls hl
  have hown : s.vm.findClass RX3 = some m.cls := hown
  have hl : lv_has ls 2 [(0, .ref (aX 0)), (1, .int p1)] := hl
  unfold f_X3_many at h
  have hiX2 : ∀ w ∈ u_ws RX2 TX2 8, w ∈ wsX3_many := by decide +kernel
  have hiX3 : ∀ w ∈ u_ws RX3 TX3 9, w ∈ wsX3_many := by decide +kernel
  have hf35 := hts (.fieldLink RX3 35 "TowerTell" "now" "LTowerTell$Tower;") (by decide +kernel)
  have hf65 := hts (.fieldLink RX3 65 "TowerTell" "readings" "I") (by decide +kernel)
  have hf68 := hts (.fieldLink RX3 68 "TowerTell$Tower" "people" "I") (by decide +kernel)
  have hf139 := hts (.fieldLink RX3 139 "TowerTell$Tower" "deeds" "I") (by decide +kernel)
  refine lv_iload_n hx hb dX3_many_0 rfl (lv_at hl 1 rfl) ?_
  by_cases c1 : p1 = 0
  · replace h := it_t c1 h
    refine lv_tableIn (tgt := 28) (off := 27) hx hb dX3_many_1 (by rw [c1]; decide) (by rw [c1]; decide) (by rw [c1]; rfl) (by decide) ?_
    refine lv_aload_n hx hb dX3_many_28 rfl (lv_at hl 0 rfl) ?_
    refine va_get (D := (dC, dI)) (ci := 3) (v := .ref (aN 0)) (C := RX3) (T := TX3) (N := 9) hx hb hts hiX3 hown hK hP 0 rfl rfl 5 (by decide) hf35 (fun _ h9 => h9) rfl dX3_many_29 ?_
    refine va_get (D := (dC, dI)) (ci := 2) (v := .int Npeople) (C := RX2) (T := TX2) (N := 8) hx hb hts hiX2 hown hK hP 1 rfl rfl 1 (by decide) hf68 (fun _ h9 => h9) rfl dX3_many_32 ?_
    replace h := Option.some.inj h; subst h
    exact hret () H locs _ ls hP hD hS dX3_many_35 rfl
  · replace h := it_f c1 h
    by_cases c2 : p1 = 1
    · replace h := it_t c2 h
      refine lv_tableIn (tgt := 36) (off := 35) hx hb dX3_many_1 (by rw [c2]; decide) (by rw [c2]; decide) (by rw [c2]; rfl) (by decide) ?_
      refine lv_aload_n hx hb dX3_many_36 rfl (lv_at hl 0 rfl) ?_
      refine va_get (D := (dC, dI)) (ci := 3) (v := .ref (aN 0)) (C := RX3) (T := TX3) (N := 9) hx hb hts hiX3 hown hK hP 0 rfl rfl 5 (by decide) hf35 (fun _ h9 => h9) rfl dX3_many_37 ?_
      refine va_get (D := (dC, dI)) (ci := 2) (v := .int Ndeeds) (C := RX2) (T := TX2) (N := 8) hx hb hts hiX2 hown hK hP 1 rfl rfl 0 (by decide) hf139 (fun _ h9 => h9) rfl dX3_many_40 ?_
      replace h := Option.some.inj h; subst h
      exact hret () H locs _ ls hP hD hS dX3_many_43 rfl
    · replace h := it_f c2 h
      by_cases c3 : p1 = 2
      · replace h := it_t c3 h
        refine lv_tableIn (tgt := 44) (off := 43) hx hb dX3_many_1 (by rw [c3]; decide) (by rw [c3]; decide) (by rw [c3]; rfl) (by decide) ?_
        refine lv_aload_n hx hb dX3_many_44 rfl (lv_at hl 0 rfl) ?_
        refine va_get (D := (dC, dI)) (ci := 3) (v := .int Xreadings) (C := RX3) (T := TX3) (N := 9) hx hb hts hiX3 hown hK hP 0 rfl rfl 4 (by decide) hf65 (fun _ h9 => h9) rfl dX3_many_45 ?_
        replace h := Option.some.inj h; subst h
        exact hret () H locs _ ls hP hD hS dX3_many_48 rfl
      · replace h := it_f c3 h
        refine lv_tableOut (tgt := 49) hx hb dX3_many_1 (by have z0 := lv_neT c1 (show (0 : Int32).toInt = 0 from rfl); have z1 := lv_neT c2 (show (1 : Int32).toInt = 1 from rfl); have z2 := lv_neT c3 (show (2 : Int32).toInt = 2 from rfl); omega) (by decide) ?_
        refine lv_bipush (v := (-2)) hx hb dX3_many_49 (by decide) ?_
        replace h := Option.some.inj h; subst h
        exact hret () H locs _ ls hP hD hS dX3_many_51 rfl
set_option maxHeartbeats 4000000 in
set_option maxRecDepth 100000 in
theorem c_X3_copyS (l : Launch) (dC : Nat → ClassId) (dI : Nat → Nat → Nat) (cyI cyO : ClassId) (aX : Nat → Nat) (aS : Nat → Nat) (aR : Nat) (aN : Nat → Nat) (aT : Nat → Nat) (gS : Nat → Option Nat) (sz : Nat) (Xreadings : Int32) (Xtrail : Int32) (XlatestFault : Int32) (Slane : Int32) (Slength : Int32) (S_cells : Nat → Int32) (p1 : Int32) (p2 : Int32) (p3 : Int32) (p4 : Int32) (p5 : Int32) {o : Int32 × Int32 × (Nat → Int32)} (hg_p1 : vp_in p1 4 → gS p1.toNatClampNeg = some (aS 0)) (hg_p3 : vp_in p3 4 → gS p3.toNatClampNeg = some (aS 0)) (h : f_X3_copyS XlatestFault Slane Slength S_cells p1 p2 p3 p4 p5 = some o) : CtI l yX3_copy wsX3_copy { frames := 1, cells := 0, slots := 0, locals := 40 } (dC, dI) [(cyI, .int), (cyO, .object RX0)] [.ref (aX 0), .int p1, .int p2, .int p3, .int p4, .int p5] sz [((aX 0), .inr (3, [.ref (aX 1), .ref aR, .ref (aX 2), .ref (aX 3), .int Xreadings, .ref (aN 0), .ref (aT 0), .int Xtrail, .int XlatestFault])), ((aX 1), .inl (cyO, 4, .inr (.inr (.inr (.inr gS))))), ((aS 0), .inr (0, [.int Slane, .int Slength, .ref (aS 1)])), ((aS 1), .inl (cyI, 60, .inl S_cells))] (fun (_ : Unit) => [((aX 0), .inr (3, [.ref (aX 1), .ref aR, .ref (aX 2), .ref (aX 3), .int Xreadings, .ref (aN 0), .ref (aT 0), .int Xtrail, .int o.2.1])), ((aX 1), .inl (cyO, 4, .inr (.inr (.inr (.inr gS))))), ((aS 0), .inr (0, [.int Slane, .int Slength, .ref (aS 1)])), ((aS 1), .inl (cyI, 60, .inl o.2.2))]) o.1 := by
  refine CtI.of (cc := cX3_copy) (maxL := 8) (by decide) rfl (Nat.le_of_ble_eq_true rfl) ?_
  intro p e s m args below meth c A Q H locs hx hb hml hown hts hA hK hP hD hS hret ls hl
  have hown : s.vm.findClass RX3 = some m.cls := hown
  have hl : lv_has ls 8 [(0, .ref (aX 0)), (1, .int p1), (2, .int p2), (3, .int p3), (4, .int p4), (5, .int p5)] := hl
  unfold f_X3_copyS at h
  have hiX0 : ∀ w ∈ u_ws RX0 TX0 3, w ∈ wsX3_copy := by decide +kernel
  have hiX3 : ∀ w ∈ u_ws RX3 TX3 9, w ∈ wsX3_copy := by decide +kernel
  have hf13 := hts (.fieldLink RX3 13 "TowerTell" "sheets" "[LTowerTell$Sheet;") (by decide +kernel)
  have hf42 := hts (.fieldLink RX3 42 "TowerTell" "latestFault" "I") (by decide +kernel)
  have hf170 := hts (.fieldLink RX3 170 "TowerTell$Sheet" "cells" "[I") (by decide +kernel)
  have hf173 := hts (.fieldLink RX3 173 "TowerTell$Sheet" "lane" "I") (by decide +kernel)
  have hac1 := hts (.methodLink RX3 176 arraycopyName) (by decide +kernel)
  have hac2 := hts (.native arraycopyName) (by decide +kernel)
  have hac3 := hts (.static arraycopyName) (by decide +kernel)
  have hac4 := hts (.initialized "java/lang/System") (by decide +kernel)
  refine lv_aload_n hx hb dX3_copy_0 rfl (lv_at hl 0 rfl) ?_
  refine lv_iconst (v := 0) hx hb dX3_copy_1 (by decide) ?_
  refine va_put (D := (dC, dI)) (ci := 3) (v := .int 0) (ty := .int) (C := RX3) (T := TX3) (N := 9) hx hb hts hiX3 tyX3 tyX3_ok nmX3 hown hK hP hD hS 0 rfl rfl 8 (by decide) hf42 (fun _ h9 => h9) rfl (tyX3_ok 8 (by decide)) rfl rfl (Nat.le_of_ble_eq_true rfl) dX3_copy_2 (fun H locs hP hD hS => ?_)
  have hP : va_P (dC, dI) vwCl [((aX 0), .inr (3, [.ref (aX 1), .ref aR, .ref (aX 2), .ref (aX 3), .int Xreadings, .ref (aN 0), .ref (aT 0), .int Xtrail, .int 0])), ((aX 1), .inl (cyO, 4, .inr (.inr (.inr (.inr gS))))), ((aS 0), .inr (0, [.int Slane, .int Slength, .ref (aS 1)])), ((aS 1), .inl (cyI, 60, .inl S_cells))] H := hP
  have hD : va_D A [((aX 0), .inr (3, [.ref (aX 1), .ref aR, .ref (aX 2), .ref (aX 3), .int Xreadings, .ref (aN 0), .ref (aT 0), .int Xtrail, .int 0])), ((aX 1), .inl (cyO, 4, .inr (.inr (.inr (.inr gS))))), ((aS 0), .inr (0, [.int Slane, .int Slength, .ref (aS 1)])), ((aS 1), .inl (cyI, 60, .inl S_cells))] := hD
  refine lv_iload_n hx hb dX3_copy_5 rfl (lv_at hl 1 rfl) ?_
  obtain ⟨o1, hc2, h⟩ := ob h
  refine k_si (As := [.int p1]) (rest := []) ⟨hx, hb, hml, hown, hts⟩ (c_X3_isSheet l dC dI cyI cyO H.size p1 hc2) (va_cwS 1 hts gX3_copy_X3_isSheet rfl rfl rfl (by decide +kernel) ⟨Nat.le_of_ble_eq_true rfl, Nat.le_of_ble_eq_true rfl⟩) hP hD hK hS hA [] [0, 1, 2, 3] rfl rfl (by decide) (by decide) (by decide) rfl hl.1 rfl (Nat.le_of_ble_eq_true rfl) dX3_copy_6 ⟨Nat.zero_le _, Nat.zero_le _⟩ (fun _ H locs hP hD hS => ?_)
  have hP : va_P (dC, dI) vwCl [((aX 0), .inr (3, [.ref (aX 1), .ref aR, .ref (aX 2), .ref (aX 3), .int Xreadings, .ref (aN 0), .ref (aT 0), .int Xtrail, .int 0])), ((aX 1), .inl (cyO, 4, .inr (.inr (.inr (.inr gS))))), ((aS 0), .inr (0, [.int Slane, .int Slength, .ref (aS 1)])), ((aS 1), .inl (cyI, 60, .inl S_cells))] H := hP
  have hD : va_D A [((aX 0), .inr (3, [.ref (aX 1), .ref aR, .ref (aX 2), .ref (aX 3), .int Xreadings, .ref (aN 0), .ref (aT 0), .int Xtrail, .int 0])), ((aX 1), .inl (cyO, 4, .inr (.inr (.inr (.inr gS))))), ((aS 0), .inr (0, [.int Slane, .int Slength, .ref (aS 1)])), ((aS 1), .inl (cyI, 60, .inl S_cells))] := hD
  refine lv_if_eq (tgt := 19) hx hb dX3_copy_9 (by decide) (fun c3 => ?_) (fun c3 => ?_)
  · replace h := it_t c3 h
    refine lv_iconst (v := (-1)) hx hb dX3_copy_19 (by decide) ?_
    replace h := Option.some.inj h; subst h
    exact hret () H locs _ ls hP hD hS dX3_copy_20 rfl
  · replace h := it_f c3 h
    refine lv_iload_n hx hb dX3_copy_12 rfl (lv_at hl 3 rfl) ?_
    obtain ⟨o4, hc5, h⟩ := ob h
    refine k_si (As := [.int p3]) (rest := []) ⟨hx, hb, hml, hown, hts⟩ (c_X3_isSheet l dC dI cyI cyO H.size p3 hc5) (va_cwS 1 hts gX3_copy_X3_isSheet rfl rfl rfl (by decide +kernel) ⟨Nat.le_of_ble_eq_true rfl, Nat.le_of_ble_eq_true rfl⟩) hP hD hK hS hA [] [0, 1, 2, 3] rfl rfl (by decide) (by decide) (by decide) rfl hl.1 rfl (Nat.le_of_ble_eq_true rfl) dX3_copy_13 ⟨Nat.zero_le _, Nat.zero_le _⟩ (fun _ H locs hP hD hS => ?_)
    have hP : va_P (dC, dI) vwCl [((aX 0), .inr (3, [.ref (aX 1), .ref aR, .ref (aX 2), .ref (aX 3), .int Xreadings, .ref (aN 0), .ref (aT 0), .int Xtrail, .int 0])), ((aX 1), .inl (cyO, 4, .inr (.inr (.inr (.inr gS))))), ((aS 0), .inr (0, [.int Slane, .int Slength, .ref (aS 1)])), ((aS 1), .inl (cyI, 60, .inl S_cells))] H := hP
    have hD : va_D A [((aX 0), .inr (3, [.ref (aX 1), .ref aR, .ref (aX 2), .ref (aX 3), .int Xreadings, .ref (aN 0), .ref (aT 0), .int Xtrail, .int 0])), ((aX 1), .inl (cyO, 4, .inr (.inr (.inr (.inr gS))))), ((aS 0), .inr (0, [.int Slane, .int Slength, .ref (aS 1)])), ((aS 1), .inl (cyI, 60, .inl S_cells))] := hD
    refine lv_if_ne (tgt := 21) hx hb dX3_copy_16 (by decide) (fun c6 => ?_) (fun c6 => ?_)
    · replace h := it_f c6 h
      refine lv_aload_n hx hb dX3_copy_21 rfl (lv_at hl 0 rfl) ?_
      refine va_get (D := (dC, dI)) (ci := 3) (v := .ref (aX 1)) (C := RX3) (T := TX3) (N := 9) hx hb hts hiX3 hown hK hP 0 rfl rfl 0 (by decide) hf13 (fun _ h9 => h9) rfl dX3_copy_22 ?_
      refine lv_iload_n hx hb dX3_copy_25 rfl (lv_at hl 1 rfl) ?_
      obtain ⟨e7, h⟩ := it_n h
      refine k_ald hx hb hK hP 1 1 rfl rfl (ix_in e7) (hg_p1 (ix_in e7)) dX3_copy_26 ?_
      refine lv_astore (lv' := [(6, .ref (aS 0)), (0, .ref (aX 0)), (1, .int p1), (2, .int p2), (3, .int p3), (4, .int p4), (5, .int p5)]) hx hb dX3_copy_27 hl (by decide) rfl (fun ls hl => ?_)
      refine lv_aload_n hx hb dX3_copy_29 rfl (lv_at hl 1 rfl) ?_
      refine va_get (D := (dC, dI)) (ci := 3) (v := .ref (aX 1)) (C := RX3) (T := TX3) (N := 9) hx hb hts hiX3 hown hK hP 0 rfl rfl 0 (by decide) hf13 (fun _ h9 => h9) rfl dX3_copy_30 ?_
      refine lv_iload_n hx hb dX3_copy_33 rfl (lv_at hl 4 rfl) ?_
      obtain ⟨e8, h⟩ := it_n h
      refine k_ald hx hb hK hP 1 1 rfl rfl (ix_in e8) (hg_p3 (ix_in e8)) dX3_copy_34 ?_
      refine lv_astore (lv' := [(7, .ref (aS 0)), (6, .ref (aS 0)), (0, .ref (aX 0)), (1, .int p1), (2, .int p2), (3, .int p3), (4, .int p4), (5, .int p5)]) hx hb dX3_copy_35 hl (by decide) rfl (fun ls hl => ?_)
      refine lv_aload hx hb dX3_copy_37 (lv_at hl 1 rfl) ?_
      obtain ⟨o9, hc10, h⟩ := ob h
      refine k_vi (As := []) (rest := []) ⟨hx, hb, hml, hown, hts⟩ (c_X0_isBare l dC dI cyI cyO aS H.size Slane Slength hc10) (cwV 0 hts gX3_copy_X0_isBare rfl rfl rfl (by decide +kernel) ⟨Nat.le_of_ble_eq_true rfl, Nat.le_of_ble_eq_true rfl⟩) hP hD hK hS hA [2] [0, 1, 3] rfl rfl (by decide) (by decide) (by decide) 0 0 rfl rfl rfl rfl hl.1 rfl (Nat.le_of_ble_eq_true rfl) dX3_copy_39 ⟨Nat.zero_le _, Nat.zero_le _⟩ (fun _ H locs hP hD hS => ?_)
      have hP : va_P (dC, dI) vwCl [((aX 0), .inr (3, [.ref (aX 1), .ref aR, .ref (aX 2), .ref (aX 3), .int Xreadings, .ref (aN 0), .ref (aT 0), .int Xtrail, .int 0])), ((aX 1), .inl (cyO, 4, .inr (.inr (.inr (.inr gS))))), ((aS 1), .inl (cyI, 60, .inl S_cells)), ((aS 0), .inr (0, [.int Slane, .int Slength, .ref (aS 1)]))] H := hP
      have hD : va_D A [((aX 0), .inr (3, [.ref (aX 1), .ref aR, .ref (aX 2), .ref (aX 3), .int Xreadings, .ref (aN 0), .ref (aT 0), .int Xtrail, .int 0])), ((aX 1), .inl (cyO, 4, .inr (.inr (.inr (.inr gS))))), ((aS 1), .inl (cyI, 60, .inl S_cells)), ((aS 0), .inr (0, [.int Slane, .int Slength, .ref (aS 1)]))] := hD
      refine lv_if_ne (tgt := 53) hx hb dX3_copy_42 (by decide) (fun c11 => ?_) (fun c11 => ?_)
      · replace h := it_f c11 h
        refine lv_aload_n hx hb dX3_copy_53 rfl (lv_at hl 2 rfl) ?_
        refine lv_iconst (v := 1) hx hb dX3_copy_54 (by decide) ?_
        obtain ⟨o12, hc13, h⟩ := ob h
        refine k_vi (As := [.int 1]) (rest := []) ⟨hx, hb, hml, hown, hts⟩ (c_X3_faulted l dC dI cyI cyO aX aR aN aT H.size Xreadings Xtrail 0 1 hc13) (cwV 1 hts gX3_copy_X3_faulted rfl rfl rfl (by decide +kernel) ⟨Nat.le_of_ble_eq_true rfl, Nat.le_of_ble_eq_true rfl⟩) hP hD hK hS hA [0] [1, 2, 3] rfl rfl (by decide) (by decide) (by decide) 3 0 rfl rfl rfl rfl hl.1 rfl (Nat.le_of_ble_eq_true rfl) dX3_copy_55 ⟨Nat.zero_le _, Nat.zero_le _⟩ (fun _ H locs hP hD hS => ?_)
        have hP : va_P (dC, dI) vwCl [((aX 1), .inl (cyO, 4, .inr (.inr (.inr (.inr gS))))), ((aS 1), .inl (cyI, 60, .inl S_cells)), ((aS 0), .inr (0, [.int Slane, .int Slength, .ref (aS 1)])), ((aX 0), .inr (3, [.ref (aX 1), .ref aR, .ref (aX 2), .ref (aX 3), .int Xreadings, .ref (aN 0), .ref (aT 0), .int Xtrail, .int o12.2]))] H := hP
        have hD : va_D A [((aX 1), .inl (cyO, 4, .inr (.inr (.inr (.inr gS))))), ((aS 1), .inl (cyI, 60, .inl S_cells)), ((aS 0), .inr (0, [.int Slane, .int Slength, .ref (aS 1)])), ((aX 0), .inr (3, [.ref (aX 1), .ref aR, .ref (aX 2), .ref (aX 3), .int Xreadings, .ref (aN 0), .ref (aT 0), .int Xtrail, .int o12.2]))] := hD
        replace h := Option.some.inj h; subst h
        have hP := hP.sub (ws' := [((aX 0), .inr (3, [.ref (aX 1), .ref aR, .ref (aX 2), .ref (aX 3), .int Xreadings, .ref (aN 0), .ref (aT 0), .int Xtrail, .int o12.2])), ((aX 1), .inl (cyO, 4, .inr (.inr (.inr (.inr gS))))), ((aS 0), .inr (0, [.int Slane, .int Slength, .ref (aS 1)])), ((aS 1), .inl (cyI, 60, .inl S_cells))]) [3, 0, 2, 1] rfl
        have hD := hD.sub (ws' := [((aX 0), .inr (3, [.ref (aX 1), .ref aR, .ref (aX 2), .ref (aX 3), .int Xreadings, .ref (aN 0), .ref (aT 0), .int Xtrail, .int o12.2])), ((aX 1), .inl (cyO, 4, .inr (.inr (.inr (.inr gS))))), ((aS 0), .inr (0, [.int Slane, .int Slength, .ref (aS 1)])), ((aS 1), .inl (cyI, 60, .inl S_cells))]) [3, 0, 2, 1] (by decide) rfl
        exact hret () H locs _ ls hP hD hS dX3_copy_58 rfl
      · replace h := it_t c11 h
        refine lv_aload hx hb dX3_copy_45 (lv_at hl 0 rfl) ?_
        obtain ⟨o14, hc15, h⟩ := ob h
        refine k_vi (As := []) (rest := []) ⟨hx, hb, hml, hown, hts⟩ (c_X0_isBare l dC dI cyI cyO aS H.size Slane Slength hc15) (cwV 0 hts gX3_copy_X0_isBare rfl rfl rfl (by decide +kernel) ⟨Nat.le_of_ble_eq_true rfl, Nat.le_of_ble_eq_true rfl⟩) hP hD hK hS hA [3] [0, 1, 2] rfl rfl (by decide) (by decide) (by decide) 0 0 rfl rfl rfl rfl hl.1 rfl (Nat.le_of_ble_eq_true rfl) dX3_copy_47 ⟨Nat.zero_le _, Nat.zero_le _⟩ (fun _ H locs hP hD hS => ?_)
        have hP : va_P (dC, dI) vwCl [((aX 0), .inr (3, [.ref (aX 1), .ref aR, .ref (aX 2), .ref (aX 3), .int Xreadings, .ref (aN 0), .ref (aT 0), .int Xtrail, .int 0])), ((aX 1), .inl (cyO, 4, .inr (.inr (.inr (.inr gS))))), ((aS 1), .inl (cyI, 60, .inl S_cells)), ((aS 0), .inr (0, [.int Slane, .int Slength, .ref (aS 1)]))] H := hP
        have hD : va_D A [((aX 0), .inr (3, [.ref (aX 1), .ref aR, .ref (aX 2), .ref (aX 3), .int Xreadings, .ref (aN 0), .ref (aT 0), .int Xtrail, .int 0])), ((aX 1), .inl (cyO, 4, .inr (.inr (.inr (.inr gS))))), ((aS 1), .inl (cyI, 60, .inl S_cells)), ((aS 0), .inr (0, [.int Slane, .int Slength, .ref (aS 1)]))] := hD
        refine lv_if_eq (tgt := 59) hx hb dX3_copy_50 (by decide) (fun c16 => ?_) (fun c16 => ?_)
        · replace h := it_t c16 h
          refine lv_aload hx hb dX3_copy_59 (lv_at hl 1 rfl) ?_
          refine va_get (D := (dC, dI)) (ci := 0) (v := .int Slane) (C := RX0) (T := TX0) (N := 3) hx hb hts hiX0 hown hK hP 3 rfl rfl 0 (by decide) hf173 (fun _ h9 => h9) rfl dX3_copy_61 ?_
          refine lv_aload hx hb dX3_copy_64 (lv_at hl 0 rfl) ?_
          refine va_get (D := (dC, dI)) (ci := 0) (v := .int Slane) (C := RX0) (T := TX0) (N := 3) hx hb hts hiX0 hown hK hP 3 rfl rfl 0 (by decide) hf173 (fun _ h9 => h9) rfl dX3_copy_66 ?_
          refine lv_icmp_eq (tgt := 78) hx hb dX3_copy_69 (by decide) (fun c17 => ?_) (fun c17 => ?_)
          · replace h := it_t c17 h
            refine lv_aload hx hb dX3_copy_78 (lv_at hl 1 rfl) ?_
            refine lv_iload_n hx hb dX3_copy_80 rfl (lv_at hl 4 rfl) ?_
            refine lv_iload hx hb dX3_copy_81 (lv_at hl 7 rfl) ?_
            obtain ⟨o18, hc19, h⟩ := ob h
            refine k_vi (As := [.int p2, .int p5]) (rest := []) ⟨hx, hb, hml, hown, hts⟩ (c_X0_holds l dC dI cyI cyO aS H.size Slane Slength p2 p5 hc19) (cwV 2 hts gX3_copy_X0_holds rfl rfl rfl (by decide +kernel) ⟨Nat.le_of_ble_eq_true rfl, Nat.le_of_ble_eq_true rfl⟩) hP hD hK hS hA [3] [0, 1, 2] rfl rfl (by decide) (by decide) (by decide) 0 0 rfl rfl rfl rfl hl.1 rfl (Nat.le_of_ble_eq_true rfl) dX3_copy_83 ⟨Nat.zero_le _, Nat.zero_le _⟩ (fun _ H locs hP hD hS => ?_)
            have hP : va_P (dC, dI) vwCl [((aX 0), .inr (3, [.ref (aX 1), .ref aR, .ref (aX 2), .ref (aX 3), .int Xreadings, .ref (aN 0), .ref (aT 0), .int Xtrail, .int 0])), ((aX 1), .inl (cyO, 4, .inr (.inr (.inr (.inr gS))))), ((aS 1), .inl (cyI, 60, .inl S_cells)), ((aS 0), .inr (0, [.int Slane, .int Slength, .ref (aS 1)]))] H := hP
            have hD : va_D A [((aX 0), .inr (3, [.ref (aX 1), .ref aR, .ref (aX 2), .ref (aX 3), .int Xreadings, .ref (aN 0), .ref (aT 0), .int Xtrail, .int 0])), ((aX 1), .inl (cyO, 4, .inr (.inr (.inr (.inr gS))))), ((aS 1), .inl (cyI, 60, .inl S_cells)), ((aS 0), .inr (0, [.int Slane, .int Slength, .ref (aS 1)]))] := hD
            refine lv_if_eq (tgt := 101) hx hb dX3_copy_86 (by decide) (fun c20 => ?_) (fun c20 => ?_)
            · replace h := it_t c20 h
              refine lv_aload_n hx hb dX3_copy_101 rfl (lv_at hl 2 rfl) ?_
              refine lv_iconst (v := 3) hx hb dX3_copy_102 (by decide) ?_
              obtain ⟨o21, hc22, h⟩ := ob h
              refine k_vi (As := [.int 3]) (rest := []) ⟨hx, hb, hml, hown, hts⟩ (c_X3_faulted l dC dI cyI cyO aX aR aN aT H.size Xreadings Xtrail 0 3 hc22) (cwV 1 hts gX3_copy_X3_faulted rfl rfl rfl (by decide +kernel) ⟨Nat.le_of_ble_eq_true rfl, Nat.le_of_ble_eq_true rfl⟩) hP hD hK hS hA [0] [1, 2, 3] rfl rfl (by decide) (by decide) (by decide) 3 0 rfl rfl rfl rfl hl.1 rfl (Nat.le_of_ble_eq_true rfl) dX3_copy_103 ⟨Nat.zero_le _, Nat.zero_le _⟩ (fun _ H locs hP hD hS => ?_)
              have hP : va_P (dC, dI) vwCl [((aX 1), .inl (cyO, 4, .inr (.inr (.inr (.inr gS))))), ((aS 1), .inl (cyI, 60, .inl S_cells)), ((aS 0), .inr (0, [.int Slane, .int Slength, .ref (aS 1)])), ((aX 0), .inr (3, [.ref (aX 1), .ref aR, .ref (aX 2), .ref (aX 3), .int Xreadings, .ref (aN 0), .ref (aT 0), .int Xtrail, .int o21.2]))] H := hP
              have hD : va_D A [((aX 1), .inl (cyO, 4, .inr (.inr (.inr (.inr gS))))), ((aS 1), .inl (cyI, 60, .inl S_cells)), ((aS 0), .inr (0, [.int Slane, .int Slength, .ref (aS 1)])), ((aX 0), .inr (3, [.ref (aX 1), .ref aR, .ref (aX 2), .ref (aX 3), .int Xreadings, .ref (aN 0), .ref (aT 0), .int Xtrail, .int o21.2]))] := hD
              replace h := Option.some.inj h; subst h
              have hP := hP.sub (ws' := [((aX 0), .inr (3, [.ref (aX 1), .ref aR, .ref (aX 2), .ref (aX 3), .int Xreadings, .ref (aN 0), .ref (aT 0), .int Xtrail, .int o21.2])), ((aX 1), .inl (cyO, 4, .inr (.inr (.inr (.inr gS))))), ((aS 0), .inr (0, [.int Slane, .int Slength, .ref (aS 1)])), ((aS 1), .inl (cyI, 60, .inl S_cells))]) [3, 0, 2, 1] rfl
              have hD := hD.sub (ws' := [((aX 0), .inr (3, [.ref (aX 1), .ref aR, .ref (aX 2), .ref (aX 3), .int Xreadings, .ref (aN 0), .ref (aT 0), .int Xtrail, .int o21.2])), ((aX 1), .inl (cyO, 4, .inr (.inr (.inr (.inr gS))))), ((aS 0), .inr (0, [.int Slane, .int Slength, .ref (aS 1)])), ((aS 1), .inl (cyI, 60, .inl S_cells))]) [3, 0, 2, 1] (by decide) rfl
              exact hret () H locs _ ls hP hD hS dX3_copy_106 rfl
            · replace h := it_f c20 h
              refine lv_aload hx hb dX3_copy_89 (lv_at hl 0 rfl) ?_
              refine lv_iload hx hb dX3_copy_91 (lv_at hl 6 rfl) ?_
              refine lv_iload hx hb dX3_copy_93 (lv_at hl 7 rfl) ?_
              obtain ⟨o23, hc24, h⟩ := ob h
              refine k_vi (As := [.int p4, .int p5]) (rest := []) ⟨hx, hb, hml, hown, hts⟩ (c_X0_holds l dC dI cyI cyO aS H.size Slane Slength p4 p5 hc24) (cwV 2 hts gX3_copy_X0_holds rfl rfl rfl (by decide +kernel) ⟨Nat.le_of_ble_eq_true rfl, Nat.le_of_ble_eq_true rfl⟩) hP hD hK hS hA [3] [0, 1, 2] rfl rfl (by decide) (by decide) (by decide) 0 0 rfl rfl rfl rfl hl.1 rfl (Nat.le_of_ble_eq_true rfl) dX3_copy_95 ⟨Nat.zero_le _, Nat.zero_le _⟩ (fun _ H locs hP hD hS => ?_)
              have hP : va_P (dC, dI) vwCl [((aX 0), .inr (3, [.ref (aX 1), .ref aR, .ref (aX 2), .ref (aX 3), .int Xreadings, .ref (aN 0), .ref (aT 0), .int Xtrail, .int 0])), ((aX 1), .inl (cyO, 4, .inr (.inr (.inr (.inr gS))))), ((aS 1), .inl (cyI, 60, .inl S_cells)), ((aS 0), .inr (0, [.int Slane, .int Slength, .ref (aS 1)]))] H := hP
              have hD : va_D A [((aX 0), .inr (3, [.ref (aX 1), .ref aR, .ref (aX 2), .ref (aX 3), .int Xreadings, .ref (aN 0), .ref (aT 0), .int Xtrail, .int 0])), ((aX 1), .inl (cyO, 4, .inr (.inr (.inr (.inr gS))))), ((aS 1), .inl (cyI, 60, .inl S_cells)), ((aS 0), .inr (0, [.int Slane, .int Slength, .ref (aS 1)]))] := hD
              refine lv_if_ne (tgt := 107) hx hb dX3_copy_98 (by decide) (fun c25 => ?_) (fun c25 => ?_)
              · replace h := it_f c25 h
                refine lv_aload hx hb dX3_copy_107 (lv_at hl 1 rfl) ?_
                refine va_get (D := (dC, dI)) (ci := 0) (v := .ref (aS 1)) (C := RX0) (T := TX0) (N := 3) hx hb hts hiX0 hown hK hP 3 rfl rfl 2 (by decide) hf170 (fun _ h9 => h9) rfl dX3_copy_109 ?_
                refine lv_iload_n hx hb dX3_copy_112 rfl (lv_at hl 4 rfl) ?_
                refine lv_aload hx hb dX3_copy_113 (lv_at hl 0 rfl) ?_
                refine va_get (D := (dC, dI)) (ci := 0) (v := .ref (aS 1)) (C := RX0) (T := TX0) (N := 3) hx hb hts hiX0 hown hK hP 3 rfl rfl 2 (by decide) hf170 (fun _ h9 => h9) rfl dX3_copy_115 ?_
                refine lv_iload hx hb dX3_copy_118 (lv_at hl 6 rfl) ?_
                refine lv_iload hx hb dX3_copy_120 (lv_at hl 7 rfl) ?_
                obtain ⟨e26, h⟩ := it_n h
                obtain ⟨e27, h⟩ := it_n h
                obtain ⟨e28, h⟩ := it_n h
                obtain ⟨e29, h⟩ := it_n h
                obtain ⟨e30, h⟩ := it_n h
                refine va_copyi (a0 := (aS 1)) (ty := .int) hx hb (hml.trans hl.1.symm) hown hac1 hac2 hac3 hac4 hK hP hD hS 2 2 0 0 rfl rfl rfl rfl rfl e26 e27 e28 e29 e30 (fun _ _ => rfl) (Nat.le_of_ble_eq_true rfl) (Nat.le_of_ble_eq_true rfl) dX3_copy_122 (fun H locs hP hD hS => ?_)
                have hP : va_P (dC, dI) vwCl [((aX 0), .inr (3, [.ref (aX 1), .ref aR, .ref (aX 2), .ref (aX 3), .int Xreadings, .ref (aN 0), .ref (aT 0), .int Xtrail, .int 0])), ((aX 1), .inl (cyO, 4, .inr (.inr (.inr (.inr gS))))), ((aS 1), .inl (cyI, 60, .inl (va_cpy S_cells S_cells p2.toNatClampNeg p4.toNatClampNeg p5.toNatClampNeg))), ((aS 0), .inr (0, [.int Slane, .int Slength, .ref (aS 1)]))] H := hP
                have hD : va_D A [((aX 0), .inr (3, [.ref (aX 1), .ref aR, .ref (aX 2), .ref (aX 3), .int Xreadings, .ref (aN 0), .ref (aT 0), .int Xtrail, .int 0])), ((aX 1), .inl (cyO, 4, .inr (.inr (.inr (.inr gS))))), ((aS 1), .inl (cyI, 60, .inl (va_cpy S_cells S_cells p2.toNatClampNeg p4.toNatClampNeg p5.toNatClampNeg))), ((aS 0), .inr (0, [.int Slane, .int Slength, .ref (aS 1)]))] := hD
                refine lv_iload hx hb dX3_copy_125 (lv_at hl 7 rfl) ?_
                replace h := Option.some.inj h; subst h
                have hP := hP.sub (ws' := [((aX 0), .inr (3, [.ref (aX 1), .ref aR, .ref (aX 2), .ref (aX 3), .int Xreadings, .ref (aN 0), .ref (aT 0), .int Xtrail, .int 0])), ((aX 1), .inl (cyO, 4, .inr (.inr (.inr (.inr gS))))), ((aS 0), .inr (0, [.int Slane, .int Slength, .ref (aS 1)])), ((aS 1), .inl (cyI, 60, .inl (va_cpy S_cells S_cells p2.toNatClampNeg p4.toNatClampNeg p5.toNatClampNeg)))]) [0, 1, 3, 2] rfl
                have hD := hD.sub (ws' := [((aX 0), .inr (3, [.ref (aX 1), .ref aR, .ref (aX 2), .ref (aX 3), .int Xreadings, .ref (aN 0), .ref (aT 0), .int Xtrail, .int 0])), ((aX 1), .inl (cyO, 4, .inr (.inr (.inr (.inr gS))))), ((aS 0), .inr (0, [.int Slane, .int Slength, .ref (aS 1)])), ((aS 1), .inl (cyI, 60, .inl (va_cpy S_cells S_cells p2.toNatClampNeg p4.toNatClampNeg p5.toNatClampNeg)))]) [0, 1, 3, 2] (by decide) rfl
                exact hret () H locs _ ls hP hD hS dX3_copy_127 rfl
              · replace h := it_t c25 h
                refine lv_aload_n hx hb dX3_copy_101 rfl (lv_at hl 2 rfl) ?_
                refine lv_iconst (v := 3) hx hb dX3_copy_102 (by decide) ?_
                obtain ⟨o31, hc32, h⟩ := ob h
                refine k_vi (As := [.int 3]) (rest := []) ⟨hx, hb, hml, hown, hts⟩ (c_X3_faulted l dC dI cyI cyO aX aR aN aT H.size Xreadings Xtrail 0 3 hc32) (cwV 1 hts gX3_copy_X3_faulted rfl rfl rfl (by decide +kernel) ⟨Nat.le_of_ble_eq_true rfl, Nat.le_of_ble_eq_true rfl⟩) hP hD hK hS hA [0] [1, 2, 3] rfl rfl (by decide) (by decide) (by decide) 3 0 rfl rfl rfl rfl hl.1 rfl (Nat.le_of_ble_eq_true rfl) dX3_copy_103 ⟨Nat.zero_le _, Nat.zero_le _⟩ (fun _ H locs hP hD hS => ?_)
                have hP : va_P (dC, dI) vwCl [((aX 1), .inl (cyO, 4, .inr (.inr (.inr (.inr gS))))), ((aS 1), .inl (cyI, 60, .inl S_cells)), ((aS 0), .inr (0, [.int Slane, .int Slength, .ref (aS 1)])), ((aX 0), .inr (3, [.ref (aX 1), .ref aR, .ref (aX 2), .ref (aX 3), .int Xreadings, .ref (aN 0), .ref (aT 0), .int Xtrail, .int o31.2]))] H := hP
                have hD : va_D A [((aX 1), .inl (cyO, 4, .inr (.inr (.inr (.inr gS))))), ((aS 1), .inl (cyI, 60, .inl S_cells)), ((aS 0), .inr (0, [.int Slane, .int Slength, .ref (aS 1)])), ((aX 0), .inr (3, [.ref (aX 1), .ref aR, .ref (aX 2), .ref (aX 3), .int Xreadings, .ref (aN 0), .ref (aT 0), .int Xtrail, .int o31.2]))] := hD
                replace h := Option.some.inj h; subst h
                have hP := hP.sub (ws' := [((aX 0), .inr (3, [.ref (aX 1), .ref aR, .ref (aX 2), .ref (aX 3), .int Xreadings, .ref (aN 0), .ref (aT 0), .int Xtrail, .int o31.2])), ((aX 1), .inl (cyO, 4, .inr (.inr (.inr (.inr gS))))), ((aS 0), .inr (0, [.int Slane, .int Slength, .ref (aS 1)])), ((aS 1), .inl (cyI, 60, .inl S_cells))]) [3, 0, 2, 1] rfl
                have hD := hD.sub (ws' := [((aX 0), .inr (3, [.ref (aX 1), .ref aR, .ref (aX 2), .ref (aX 3), .int Xreadings, .ref (aN 0), .ref (aT 0), .int Xtrail, .int o31.2])), ((aX 1), .inl (cyO, 4, .inr (.inr (.inr (.inr gS))))), ((aS 0), .inr (0, [.int Slane, .int Slength, .ref (aS 1)])), ((aS 1), .inl (cyI, 60, .inl S_cells))]) [3, 0, 2, 1] (by decide) rfl
                exact hret () H locs _ ls hP hD hS dX3_copy_106 rfl
          · replace h := it_f c17 h
            refine lv_aload_n hx hb dX3_copy_72 rfl (lv_at hl 2 rfl) ?_
            refine lv_iconst (v := 2) hx hb dX3_copy_73 (by decide) ?_
            obtain ⟨o33, hc34, h⟩ := ob h
            refine k_vi (As := [.int 2]) (rest := []) ⟨hx, hb, hml, hown, hts⟩ (c_X3_faulted l dC dI cyI cyO aX aR aN aT H.size Xreadings Xtrail 0 2 hc34) (cwV 1 hts gX3_copy_X3_faulted rfl rfl rfl (by decide +kernel) ⟨Nat.le_of_ble_eq_true rfl, Nat.le_of_ble_eq_true rfl⟩) hP hD hK hS hA [0] [1, 2, 3] rfl rfl (by decide) (by decide) (by decide) 3 0 rfl rfl rfl rfl hl.1 rfl (Nat.le_of_ble_eq_true rfl) dX3_copy_74 ⟨Nat.zero_le _, Nat.zero_le _⟩ (fun _ H locs hP hD hS => ?_)
            have hP : va_P (dC, dI) vwCl [((aX 1), .inl (cyO, 4, .inr (.inr (.inr (.inr gS))))), ((aS 1), .inl (cyI, 60, .inl S_cells)), ((aS 0), .inr (0, [.int Slane, .int Slength, .ref (aS 1)])), ((aX 0), .inr (3, [.ref (aX 1), .ref aR, .ref (aX 2), .ref (aX 3), .int Xreadings, .ref (aN 0), .ref (aT 0), .int Xtrail, .int o33.2]))] H := hP
            have hD : va_D A [((aX 1), .inl (cyO, 4, .inr (.inr (.inr (.inr gS))))), ((aS 1), .inl (cyI, 60, .inl S_cells)), ((aS 0), .inr (0, [.int Slane, .int Slength, .ref (aS 1)])), ((aX 0), .inr (3, [.ref (aX 1), .ref aR, .ref (aX 2), .ref (aX 3), .int Xreadings, .ref (aN 0), .ref (aT 0), .int Xtrail, .int o33.2]))] := hD
            replace h := Option.some.inj h; subst h
            have hP := hP.sub (ws' := [((aX 0), .inr (3, [.ref (aX 1), .ref aR, .ref (aX 2), .ref (aX 3), .int Xreadings, .ref (aN 0), .ref (aT 0), .int Xtrail, .int o33.2])), ((aX 1), .inl (cyO, 4, .inr (.inr (.inr (.inr gS))))), ((aS 0), .inr (0, [.int Slane, .int Slength, .ref (aS 1)])), ((aS 1), .inl (cyI, 60, .inl S_cells))]) [3, 0, 2, 1] rfl
            have hD := hD.sub (ws' := [((aX 0), .inr (3, [.ref (aX 1), .ref aR, .ref (aX 2), .ref (aX 3), .int Xreadings, .ref (aN 0), .ref (aT 0), .int Xtrail, .int o33.2])), ((aX 1), .inl (cyO, 4, .inr (.inr (.inr (.inr gS))))), ((aS 0), .inr (0, [.int Slane, .int Slength, .ref (aS 1)])), ((aS 1), .inl (cyI, 60, .inl S_cells))]) [3, 0, 2, 1] (by decide) rfl
            exact hret () H locs _ ls hP hD hS dX3_copy_77 rfl
        · replace h := it_f c16 h
          refine lv_aload_n hx hb dX3_copy_53 rfl (lv_at hl 2 rfl) ?_
          refine lv_iconst (v := 1) hx hb dX3_copy_54 (by decide) ?_
          obtain ⟨o35, hc36, h⟩ := ob h
          refine k_vi (As := [.int 1]) (rest := []) ⟨hx, hb, hml, hown, hts⟩ (c_X3_faulted l dC dI cyI cyO aX aR aN aT H.size Xreadings Xtrail 0 1 hc36) (cwV 1 hts gX3_copy_X3_faulted rfl rfl rfl (by decide +kernel) ⟨Nat.le_of_ble_eq_true rfl, Nat.le_of_ble_eq_true rfl⟩) hP hD hK hS hA [0] [1, 2, 3] rfl rfl (by decide) (by decide) (by decide) 3 0 rfl rfl rfl rfl hl.1 rfl (Nat.le_of_ble_eq_true rfl) dX3_copy_55 ⟨Nat.zero_le _, Nat.zero_le _⟩ (fun _ H locs hP hD hS => ?_)
          have hP : va_P (dC, dI) vwCl [((aX 1), .inl (cyO, 4, .inr (.inr (.inr (.inr gS))))), ((aS 1), .inl (cyI, 60, .inl S_cells)), ((aS 0), .inr (0, [.int Slane, .int Slength, .ref (aS 1)])), ((aX 0), .inr (3, [.ref (aX 1), .ref aR, .ref (aX 2), .ref (aX 3), .int Xreadings, .ref (aN 0), .ref (aT 0), .int Xtrail, .int o35.2]))] H := hP
          have hD : va_D A [((aX 1), .inl (cyO, 4, .inr (.inr (.inr (.inr gS))))), ((aS 1), .inl (cyI, 60, .inl S_cells)), ((aS 0), .inr (0, [.int Slane, .int Slength, .ref (aS 1)])), ((aX 0), .inr (3, [.ref (aX 1), .ref aR, .ref (aX 2), .ref (aX 3), .int Xreadings, .ref (aN 0), .ref (aT 0), .int Xtrail, .int o35.2]))] := hD
          replace h := Option.some.inj h; subst h
          have hP := hP.sub (ws' := [((aX 0), .inr (3, [.ref (aX 1), .ref aR, .ref (aX 2), .ref (aX 3), .int Xreadings, .ref (aN 0), .ref (aT 0), .int Xtrail, .int o35.2])), ((aX 1), .inl (cyO, 4, .inr (.inr (.inr (.inr gS))))), ((aS 0), .inr (0, [.int Slane, .int Slength, .ref (aS 1)])), ((aS 1), .inl (cyI, 60, .inl S_cells))]) [3, 0, 2, 1] rfl
          have hD := hD.sub (ws' := [((aX 0), .inr (3, [.ref (aX 1), .ref aR, .ref (aX 2), .ref (aX 3), .int Xreadings, .ref (aN 0), .ref (aT 0), .int Xtrail, .int o35.2])), ((aX 1), .inl (cyO, 4, .inr (.inr (.inr (.inr gS))))), ((aS 0), .inr (0, [.int Slane, .int Slength, .ref (aS 1)])), ((aS 1), .inl (cyI, 60, .inl S_cells))]) [3, 0, 2, 1] (by decide) rfl
          exact hret () H locs _ ls hP hD hS dX3_copy_58 rfl
    · replace h := it_t c6 h
      refine lv_iconst (v := (-1)) hx hb dX3_copy_19 (by decide) ?_
      replace h := Option.some.inj h; subst h
      exact hret () H locs _ ls hP hD hS dX3_copy_20 rfl
