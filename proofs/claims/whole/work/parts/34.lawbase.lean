def R_law : String := "TowerTellLaw"
def lw_P (b : Addr) (xs : List Int32) (args : Array Value) (s : State) : Prop := args = #[.ref b] ∧ s.IntsAt b xs ∧ xs.length ≤ 384 ∧ (Jvm.Cond.and given_1 narrow_1).before args s = true
def lw_Q (_ : Array Value) (s : State) (o : Outcome) (t : State) : Prop := o = .returned (some (.int 1)) ∧ Framed s o t [] 600000 7302250
def lw_Z (below : List Frame) (a : Array Value) (s : State) : State → Prop := fun t => ∃ o, t.status = .running ∧ Ended t below o ∧ lw_Q a s o t
/-- the law's own end, with 1 on the stack, nothing written that was there before, its room as the claim has it -/
theorem lw_ret {p : Program} {l : Launch} {e : Env} {s : State} {m : MethodId} {below : List Frame} {meth : Method} {c : Code} {b : Nat} (hx : p.tables.exec = Jvm.exec) (hb : c.code = code) (hr : meth.sig.returnType = ret) (hlocks : meth.locks = false) {pc : Nat} {H : Heap} {ls : Array Slot} (hdg : decode code pc = .ok (.ireturn, 1)) : W p l e room_1 s m #[Value.ref b] below meth c H [] 600000 7302250 (lw_Z below #[Value.ref b] s) (F0 m pc ls [.int 1]) := by
  intro T hT X
  obtain ⟨fs, hret, hrun, hended, hW, hframe⟩ := X.leave (v := some (.int 1)) (hlocks := hlocks) (fun h => by rw [hr] at h; cases h)
  have hmeth' : T.vm.method? m = some meth := X.method'
  refine ⟨T.setFrames fs, ?_, .returned (some (.int 1)), hrun, hended, rfl, ⟨_, rfl⟩, hW, hframe⟩
  jvm_step X.here [X.here.top, hx, hb, hdg, hmeth', hr, ret, narrow_b1]
  (try refine ⟨rfl, ?_⟩); (try refine ⟨rfl, ?_⟩)
  first | (intro acts; rw [hret _ acts rfl rfl rfl]) | rw [hret _ _ rfl rfl rfl]
  exact Steps.refl _
/-- what holds at the law's entry: the machine, the code, the tables' words (any of lw_tbl by 'hts w (by decide +kernel)'), the script of L ints xs at the cell b, what the Statement gives of the start (any of its parts by flat_of_before) -/
def lw_At (p : Program) (s : State) (m : MethodId) (meth : Method) (c : Code) (b L : Nat) (xs : Nat → Int32) : Prop :=
  p.tables.exec = Jvm.exec ∧ c.code = code ∧ meth.sig.returnType = ret ∧ c.maxLocals = 4 ∧ s.vm.findClass R_law = some m.cls ∧ (∀ w ∈ lw_tbl, w.before #[Value.ref b] s = true) ∧ va_X b L xs s s.heap ∧ b < s.heap.size ∧ meth.locks = false ∧ (Jvm.Cond.and given_1 narrow_1).before #[Value.ref b] s = true
theorem inlX0 : ∀ w ∈ u_ws RX0 TX0 3, w ∈ lw_tbl := fun w h => (goodIn_r (u_ws RX0 TX0 3) [71, 73, 75] (by decide +kernel) (by decide +kernel) w h).1
theorem inlX1 : ∀ w ∈ u_ws RX1 TX1 4, w ∈ lw_tbl := fun w h => (goodIn_r (u_ws RX1 TX1 4) [89, 91, 93, 95] (by decide +kernel) (by decide +kernel) w h).1
theorem inlX2 : ∀ w ∈ u_ws RX2 TX2 8, w ∈ lw_tbl := fun w h => (goodIn_r (u_ws RX2 TX2 8) [119, 121, 123, 125, 127, 129, 131, 133] (by decide +kernel) (by decide +kernel) w h).1
theorem inlX3 : ∀ w ∈ u_ws RX3 TX3 9, w ∈ lw_tbl := fun w h => (goodIn_r (u_ws RX3 TX3 9) [145, 147, 149, 151, 153, 155, 157, 159, 161] (by decide +kernel) (by decide +kernel) w h).1
theorem inlX4 : ∀ w ∈ u_ws RX4 TX4 25, w ∈ lw_tbl := fun w h => (goodIn_r (u_ws RX4 TX4 25) [506, 508, 510, 512, 514, 516, 518, 520, 522, 524, 526, 528, 530, 532, 534, 536, 538, 540, 542, 544, 546, 548, 550, 552, 554] (by decide +kernel) (by decide +kernel) w h).1
/-! THE LAW: what holds at the head of its loop (wip/whole/gen_law.py) -/
def LH (p : Program) (l : Launch) (e : Env) (s : State) (m : MethodId) (below : List Frame) (meth : Method) (c : Code) (b L : Nat) (dC : Nat → ClassId) (dI : Nat → Nat → Nat) (cyI cyO : ClassId) (f : Nat) : Prop :=
  ∀ (i n q z : Nat) (T D : Nat → Nat) (tr fa : Int32) (aX : Nat → Nat) (aR cd : Nat) (aN aT : Nat → Nat) (sa : Nat → Nat → Nat) (gS : Nat → Option Nat) (aM : Nat → Nat) (X_readPerson : Nat → Int32) (X_readFloor : Nat → Int32) (Rfrom : Int32) (Rlength : Int32) (Rat : Int32) (Ncatches : Int32) (N_weightOf : Nat → Int32) (N_kindOf : Nat → Int32) (N_doneBy : Nat → Int32) (N_knownTo : Nat → Int32) (N_toldBy : Nat → Int32) (Tdeeds : Int32) (Tpeople : Int32) (Tcatches : Int32) (T_weightOf : Nat → Int32) (T_kindOf : Nat → Int32) (T_doneBy : Nat → Int32) (T_knownTo : Nat → Int32) (T_toldBy : Nat → Int32) (Sl : Nat → Int32) (Sn : Nat → Int32) (Sc : Nat → Nat → Int32) (Mat : Int32) (MreadDeeds : Int32) (MreadMany : Int32) (Mpairs : Int32) (Mcaught : Int32) (M_sorts : Nat → Int32) (M_sheetLong : Nat → Int32) (M_cells : Nat → Int32) (M_weightOf : Nat → Int32) (M_kind : Nat → Int32) (M_done : Nat → Int32) (M_knows : Nat → Int32) (M_told : Nat → Int32) (M_readWeight : Nat → Int32) (M_read : Nat → Int32) (M_then : Nat → Int32) (M_who : Nat → Int32) (M_what : Nat → Int32) (M_readWho : Nat → Int32) (M_readFloor : Nat → Int32), RT n q T D N_weightOf N_kindOf N_doneBy N_knownTo N_toldBy M_weightOf M_kind M_done M_knows M_told → RR q z X_readPerson X_readFloor M_readWho M_readFloor → RS Sl Sn Sc M_sorts M_sheetLong M_cells → ∀ k, k < 4 → gS k = some (sa k 0) → L < i + 6 * f → i ≤ 390 → ∀ (H : Heap) (locs : List Loc) (ls : Array Slot), va_P (dC, dI) vwCl ((wX aX aR cd aN aT sa gS cyI cyO (nI z) tr fa X_readPerson X_readFloor Rfrom Rlength Rat (nI n) (nI q) Ncatches N_weightOf N_kindOf N_doneBy N_knownTo N_toldBy Tdeeds Tpeople Tcatches T_weightOf T_kindOf T_doneBy T_knownTo T_toldBy Sl Sn Sc) ++ (wM aM cyI fa tr (nI n) (nI q) Mat MreadDeeds MreadMany Mpairs Mcaught (nI z) M_sorts M_sheetLong M_cells M_weightOf M_kind M_done M_knows M_told M_readWeight M_read M_then M_who M_what M_readWho M_readFloor)) H → va_D (fun q : Nat => s.heap.size ≤ q) ((wX aX aR cd aN aT sa gS cyI cyO (nI z) tr fa X_readPerson X_readFloor Rfrom Rlength Rat (nI n) (nI q) Ncatches N_weightOf N_kindOf N_doneBy N_knownTo N_toldBy Tdeeds Tpeople Tcatches T_weightOf T_kindOf T_doneBy T_knownTo T_toldBy Sl Sn Sc) ++ (wM aM cyI fa tr (nI n) (nI q) Mat MreadDeeds MreadMany Mpairs Mcaught (nI z) M_sorts M_sheetLong M_cells M_weightOf M_kind M_done M_knows M_told M_readWeight M_read M_then M_who M_what M_readWho M_readFloor)) → va_S (fun q : Nat => s.heap.size ≤ q) s.heap H locs → lv_has ls 4 [(0, .ref b), (1, .ref (aX 0)), (2, .ref (aM 0)), (3, .int (nI i))] → W p l e room_1 s m #[Value.ref b] below meth c H locs 42 718 (lw_Z below #[Value.ref b] s) (F0 m 18 ls [])
theorem sp_ex (p : Int32) : ∃ j, Sp p j := by
  rcases pk_ix p (n := 4) (by omega) with h | h | ⟨j, hj, e⟩
  · exact ⟨0, by omega, Or.inl (Or.inl h)⟩
  · exact ⟨0, by omega, Or.inl (Or.inr h)⟩
  · exact ⟨j, hj, Or.inr e⟩
theorem sp_g {p : Int32} {j : Nat} (h : Sp p j) {gS : Nat → Option Nat} {sa : Nat → Nat → Nat} (hg : ∀ k, k < 4 → gS k = some (sa k 0)) : vp_in p 4 → gS p.toNatClampNeg = some (sa j 0) := by
  intro hv
  rcases h.2 with (h0 | h0) | e
  · exact absurd (Or.inl h0) hv
  · rw [vp_in_iff] at hv
    rw [Int32.le_iff_toInt_le] at h0
    have a1 : (nI 4).toInt = 4 := by decide
    omega
  · rw [e, cl_n (by have := h.1; omega)]
    exact hg j h.1
theorem lgs (r : Int64) : lg_cmp r r = 0 := by
  unfold lg_cmp
  rw [if_neg (show ¬ r > r from Int64.lt_irrefl r), if_pos rfl]
section
variable {p : Program} {l : Launch} {e : Env} {R : Room} {s : State} {m : MethodId} {args : Array Value} {below : List Frame} {meth : Method} {c : Code} {H H0 : Heap} {locs : List Loc} {cells slots : Nat} {Q : State → Prop} {cc : ByteArray} {pc : Nat} {ls : Array Slot} {rest : List Value} {A : Nat → Prop}
theorem k_sld (hexec : p.tables.exec = Jvm.exec) (hb : c.code = cc) {b L : Nat} {xs : Nat → Int32} (hX : va_X b L xs s H0) (hbl : b < H0.size) (hbA : ¬ A b) (hS : va_S A H0 H locs) {i : Int32} (hin : vp_in i L) {a : Int32} (ha : xs i.toNatClampNeg = a) (hdg : decode cc pc = .ok (.iaload, 1))
    (kk : W p l e R s m args below meth c H locs cells slots Q (F0 m (pc + 1) ls (.int a :: rest))) : W p l e R s m args below meth c H locs cells slots Q (F0 m pc ls (.int i :: .ref b :: rest)) := by
  refine va_sld hexec hb hX hbl hbA hS hin hdg ?_
  rw [ha]
  exact kk
end
