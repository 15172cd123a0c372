def R_law : String := "TowerTellLaw"
def lw_P (b : Addr) (xs : List Int32) (args : Array Value) (s : State) : Prop := args = #[.ref b] ∧ s.IntsAt b xs ∧ xs.length ≤ 384 ∧ (Jvm.Cond.and given_1 narrow_1).before args s = true
def lw_Q (_ : Array Value) (s : State) (o : Outcome) (t : State) : Prop := o = .returned (some (.int 1)) ∧ Framed s o t [] 600000 7302250
def lw_Z (below : List Frame) (a : Array Value) (s : State) : State → Prop := fun t => ∃ o, t.status = .running ∧ Ended t below o ∧ lw_Q a s o t
/-- the law's own end, with 1 on the stack, nothing written that was there before, its room as the claim has it -/
theorem lw_ret {p : Program} {l : Launch} {e : Env} {s : State} {m : MethodId} {below : List Frame} {meth : Method} {c : Code} {b : Nat} (hx : p.tables.exec = Jvm.exec) (hb : c.code = code) (hr : meth.sig.returnType = ret) (hlocks : meth.locks = false) {pc : Nat} {H : Heap} {ls : Array Slot} (hdg : decode code pc = .ok (.ireturn, 1)) : W p l e room_1 s m #[Value.ref b] below meth c H [] 600000 7302250 (lw_Z below #[Value.ref b] s) (F0 m pc ls [.int 1]) := by
  intro T hT X
  obtain ⟨fs, hret, hrun, hended, hW, hframe⟩ := X.leave (v := some (.int 1)) (hlocks := hlocks) (fun h => by rw [hr] at h; cases h)
  have hmeth' : T.vm.method? m = some meth := X.method'
  refine ⟨T.setFrames fs, ?_, .returned (some (.int 1)), hrun, hended, rfl, ⟨_, rfl⟩, hW, hframe⟩
  jvm_step X.here [X.here.top, hx, hb, hdg, hmeth', hr, ret, narrow_b1]
  (try refine ⟨rfl, ?_⟩); (try refine ⟨rfl, ?_⟩)
  first | (intro acts; rw [hret _ acts rfl rfl rfl]) | rw [hret _ _ rfl rfl rfl]
  exact Steps.refl _
/-- what holds at the law's entry: the machine, the code, the tables' words (any of lw_tbl by 'hts w (by decide +kernel)'), the script of L ints xs at the cell b, what the Statement gives of the start (any of its parts by flat_of_before) -/
def lw_At (p : Program) (s : State) (m : MethodId) (meth : Method) (c : Code) (b L : Nat) (xs : Nat → Int32) : Prop :=
  p.tables.exec = Jvm.exec ∧ c.code = code ∧ meth.sig.returnType = ret ∧ c.maxLocals = 4 ∧ s.vm.findClass R_law = some m.cls ∧ (∀ w ∈ lw_tbl, w.before #[Value.ref b] s = true) ∧ va_X b L xs s s.heap ∧ b < s.heap.size ∧ meth.locks = false ∧ (Jvm.Cond.and given_1 narrow_1).before #[Value.ref b] s = true
theorem inlX0 : ∀ w ∈ u_ws RX0 TX0 3, w ∈ lw_tbl := fun w h => (goodIn_r (u_ws RX0 TX0 3) [71, 73, 75] (by decide +kernel) (by decide +kernel) w h).1
theorem inlX1 : ∀ w ∈ u_ws RX1 TX1 4, w ∈ lw_tbl := fun w h => (goodIn_r (u_ws RX1 TX1 4) [89, 91, 93, 95] (by decide +kernel) (by decide +kernel) w h).1
theorem inlX2 : ∀ w ∈ u_ws RX2 TX2 8, w ∈ lw_tbl := fun w h => (goodIn_r (u_ws RX2 TX2 8) [119, 121, 123, 125, 127, 129, 131, 133] (by decide +kernel) (by decide +kernel) w h).1
theorem inlX3 : ∀ w ∈ u_ws RX3 TX3 9, w ∈ lw_tbl := fun w h => (goodIn_r (u_ws RX3 TX3 9) [145, 147, 149, 151, 153, 155, 157, 159, 161] (by decide +kernel) (by decide +kernel) w h).1
theorem inlX4 : ∀ w ∈ u_ws RX4 TX4 25, w ∈ lw_tbl := fun w h => (goodIn_r (u_ws RX4 TX4 25) [506, 508, 510, 512, 514, 516, 518, 520, 522, 524, 526, 528, 530, 532, 534, 536, 538, 540, 542, 544, 546, 548, 550, 552, 554] (by decide +kernel) (by decide +kernel) w h).1
/-! THE LAW: what holds at the head of its loop (wip/whole/gen_law.py) -/
def LH (p : Program) (l : Launch) (e : Env) (s : State) (m : MethodId) (below : List Frame) (meth : Method) (c : Code) (b L : Nat) (dC : Nat → ClassId) (dI : Nat → Nat → Nat) (cyI cyO : ClassId) (f : Nat) : Prop :=
  ∀ (i n q z : Nat) (T D : Nat → Nat) (tr fa : Int32) (aX : Nat → Nat) (aR cd : Nat) (aN aT : Nat → Nat) (sa : Nat → Nat → Nat) (gS : Nat → Option Nat) (aM : Nat → Nat) (X_readPerson : Nat → Int32) (X_readFloor : Nat → Int32) (Rfrom : Int32) (Rlength : Int32) (Rat : Int32) (Ncatches : Int32) (N_weightOf : Nat → Int32) (N_kindOf : Nat → Int32) (N_doneBy : Nat → Int32) (N_knownTo : Nat → Int32) (N_toldBy : Nat → Int32) (Tdeeds : Int32) (Tpeople : Int32) (Tcatches : Int32) (T_weightOf : Nat → Int32) (T_kindOf : Nat → Int32) (T_doneBy : Nat → Int32) (T_knownTo : Nat → Int32) (T_toldBy : Nat → Int32) (Sl : Nat → Int32) (Sn : Nat → Int32) (Sc : Nat → Nat → Int32) (Mat : Int32) (MreadDeeds : Int32) (MreadMany : Int32) (Mpairs : Int32) (Mcaught : Int32) (M_sorts : Nat → Int32) (M_sheetLong : Nat → Int32) (M_cells : Nat → Int32) (M_weightOf : Nat → Int32) (M_kind : Nat → Int32) (M_done : Nat → Int32) (M_knows : Nat → Int32) (M_told : Nat → Int32) (M_readWeight : Nat → Int32) (M_read : Nat → Int32) (M_then : Nat → Int32) (M_who : Nat → Int32) (M_what : Nat → Int32) (M_readWho : Nat → Int32) (M_readFloor : Nat → Int32), (RT n q T D N_weightOf N_kindOf N_doneBy N_knownTo N_toldBy M_weightOf M_kind M_done M_knows M_told) → (RR q z X_readPerson X_readFloor M_readWho M_readFloor) → (RS Sl Sn Sc M_sorts M_sheetLong M_cells) → (∀ k, k < 4 → gS k = some (sa k 0)) → L < i + 6 * f → i ≤ 390 → ∀ (H : Heap) (locs : List Loc) (ls : Array Slot), va_P (dC, dI) vwCl ((wX aX aR cd aN aT sa gS cyI cyO (nI z) tr fa X_readPerson X_readFloor Rfrom Rlength Rat (nI n) (nI q) Ncatches N_weightOf N_kindOf N_doneBy N_knownTo N_toldBy Tdeeds Tpeople Tcatches T_weightOf T_kindOf T_doneBy T_knownTo T_toldBy Sl Sn Sc) ++ (wM aM cyI fa tr (nI n) (nI q) Mat MreadDeeds MreadMany Mpairs Mcaught (nI z) M_sorts M_sheetLong M_cells M_weightOf M_kind M_done M_knows M_told M_readWeight M_read M_then M_who M_what M_readWho M_readFloor)) H → va_D (fun q : Nat => s.heap.size ≤ q) ((wX aX aR cd aN aT sa gS cyI cyO (nI z) tr fa X_readPerson X_readFloor Rfrom Rlength Rat (nI n) (nI q) Ncatches N_weightOf N_kindOf N_doneBy N_knownTo N_toldBy Tdeeds Tpeople Tcatches T_weightOf T_kindOf T_doneBy T_knownTo T_toldBy Sl Sn Sc) ++ (wM aM cyI fa tr (nI n) (nI q) Mat MreadDeeds MreadMany Mpairs Mcaught (nI z) M_sorts M_sheetLong M_cells M_weightOf M_kind M_done M_knows M_told M_readWeight M_read M_then M_who M_what M_readWho M_readFloor)) → va_S (fun q : Nat => s.heap.size ≤ q) s.heap H locs → lv_has ls 4 [(0, .ref b), (1, .ref (aX 0)), (2, .ref (aM 0)), (3, .int (nI i))] → W p l e room_1 s m #[Value.ref b] below meth c H locs 42 718 (lw_Z below #[Value.ref b] s) (F0 m 18 ls [])
theorem sp_ex (p : Int32) : ∃ j, Sp p j := by
  rcases pk_ix p (n := 4) (by omega) with h | h | ⟨j, hj, e⟩
  · exact ⟨0, by omega, Or.inl (Or.inl h)⟩
  · exact ⟨0, by omega, Or.inl (Or.inr h)⟩
  · exact ⟨j, hj, Or.inr e⟩
theorem sp_g {p : Int32} {j : Nat} (h : Sp p j) {gS : Nat → Option Nat} {sa : Nat → Nat → Nat} (hg : ∀ k, k < 4 → gS k = some (sa k 0)) : vp_in p 4 → gS p.toNatClampNeg = some (sa j 0) := by
  intro hv
  rcases h.2 with (h0 | h0) | e
  · exact absurd (Or.inl h0) hv
  · rw [vp_in_iff] at hv
    rw [Int32.le_iff_toInt_le] at h0
    have a1 : (nI 4).toInt = 4 := by decide
    omega
  · rw [e, cl_n (by have := h.1; omega)]
    exact hg j h.1
theorem lgs (r : Int64) : lg_cmp r r = 0 := by
  unfold lg_cmp
  rw [if_neg (show ¬ r > r from fun h => Int64.lt_irrefl h), if_pos rfl]
section
variable {p : Program} {l : Launch} {e : Env} {R : Room} {s : State} {m : MethodId} {args : Array Value} {below : List Frame} {meth : Method} {c : Code} {H H0 : Heap} {locs : List Loc} {cells slots : Nat} {Q : State → Prop} {cc : ByteArray} {pc : Nat} {ls : Array Slot} {rest : List Value} {A : Nat → Prop}
theorem k_sld (hexec : p.tables.exec = Jvm.exec) (hb : c.code = cc) {b L : Nat} {xs : Nat → Int32} (hX : va_X b L xs s H0) (hbl : b < H0.size) (hbA : ¬ A b) (hS : va_S A H0 H locs) {i : Int32} (hin : vp_in i L) {a : Int32} (ha : xs i.toNatClampNeg = a) (hdg : decode cc pc = .ok (.iaload, 1))
    (kk : W p l e R s m args below meth c H locs cells slots Q (F0 m (pc + 1) ls (.int a :: rest))) : W p l e R s m args below meth c H locs cells slots Q (F0 m pc ls (.int i :: .ref b :: rest)) := by
  refine va_sld hexec hb hX hbl hbA hS hin hdg ?_
  rw [ha]
  exact kk
end
/-! a call whose cells come back to their places -/
def wput : va_W → List Nat → va_W → va_W
  | ws, i :: is, x :: xs => wput (ws.set i x) is xs
  | ws, _, _ => ws
theorem wput_in : ∀ (is : List Nat) (cs ws : va_W) (k : Nat) (q : Nat × va_E), is.length = cs.length → (wput ws is cs)[k]? = some q → q ∈ cs ∨ (k ∉ is ∧ ws[k]? = some q) := by
  intro is
  induction is with
  | nil =>
    intro cs ws k q hl h
    cases cs with
    | nil => exact Or.inr ⟨List.not_mem_nil, h⟩
    | cons x xs => cases hl
  | cons i is ih =>
    intro cs ws k q hl h
    cases cs with
    | nil => cases hl
    | cons x xs =>
      have hl2 : is.length = xs.length := by simpa using hl
      rcases ih xs (ws.set i x) k q hl2 h with h1 | ⟨h1, h2⟩
      · exact Or.inl (List.mem_cons_of_mem _ h1)
      · by_cases e : i = k
        · subst e
          rw [List.getElem?_set] at h2
          simp only [if_true] at h2
          split at h2
          · exact Or.inl (by rw [← Option.some.inj h2]; exact List.mem_cons_self)
          · cases h2
        · rw [List.getElem?_set, if_neg e] at h2
          exact Or.inr ⟨by simp only [List.mem_cons, not_or]; exact ⟨fun z => e z.symm, h1⟩, h2⟩
theorem wput_fst : ∀ (is : List Nat) (cs wc ws : va_W), is.map (fun i => (ws.map Prod.fst)[i]?) = wc.map (fun x => some x.1) → cs.map Prod.fst = wc.map Prod.fst → (wput ws is cs).map Prod.fst = ws.map Prod.fst := by
  intro is
  induction is with
  | nil => intro cs wc ws _ _; cases cs <;> rfl
  | cons i is ih =>
    intro cs wc ws h1 h2
    cases wc with
    | nil => cases h1
    | cons y ys =>
      cases cs with
      | nil => cases h2
      | cons x xs =>
        simp only [List.map_cons, List.cons.injEq] at h1 h2
        have e : (ws.set i x).map Prod.fst = ws.map Prod.fst := by
          rw [List.map_set]
          apply List.ext_getElem?
          intro k
          rw [List.getElem?_set]
          by_cases ek : i = k
          · subst ek
            rw [if_pos rfl, h1.1, h2.1]
            have hlt : i < (ws.map Prod.fst).length := (List.getElem?_eq_some_iff.mp h1.1).1
            rw [if_pos hlt]
          · rw [if_neg ek]
        show (wput (ws.set i x) is xs).map Prod.fst = _
        rw [ih xs ys (ws.set i x) (by rw [e]; exact h1.2) h2.2, e]
theorem va_D_fst {A : Nat → Prop} {ws ws' : va_W} (h : va_D A ws) (e : ws'.map Prod.fst = ws.map Prod.fst) : va_D A ws' := by
  have at' : ∀ (k : Nat) (q : Nat × va_E), ws'[k]? = some q → ∃ r, ws[k]? = some r ∧ r.1 = q.1 := fun k q hq => by
    have h1 : (ws'.map Prod.fst)[k]? = some q.1 := by rw [List.getElem?_map, hq]; rfl
    rw [e, List.getElem?_map] at h1
    cases hw : ws[k]? with
    | none => rw [hw] at h1; cases h1
    | some r => rw [hw] at h1; exact ⟨r, rfl, Option.some.inj h1⟩
  refine ⟨fun i j p q hi hj hpq => ?_, fun k q hk => ?_⟩
  · obtain ⟨r1, a1, a2⟩ := at' i p hi
    obtain ⟨r2, b1, b2⟩ := at' j q hj
    exact h.1 i j r1 r2 a1 b1 (by rw [a2, b2]; exact hpq)
  · obtain ⟨r, a1, a2⟩ := at' k q hk
    rw [← a2]; exact h.2 k r a1
/-! the same by a mask: one pass -/
def ids : Nat → List Bool → List Nat
  | _, [] => []
  | k, true :: bs => k :: ids (k + 1) bs
  | k, false :: bs => ids (k + 1) bs
def wpick : List Bool → va_W → va_W
  | true :: bs, w :: ws => w :: wpick bs ws
  | false :: bs, _ :: ws => wpick bs ws
  | _, _ => []
def wmk : List Bool → va_W → va_W → va_W
  | true :: bs, _ :: ws, x :: xs => x :: wmk bs ws xs
  | false :: bs, w :: ws, xs => w :: wmk bs ws xs
  | _, ws, _ => ws
theorem ids_pick : ∀ (bs : List Bool) (ws pre : va_W), (wpick bs ws).length = (ids pre.length bs).length → (ids pre.length bs).map (fun i => (pre ++ ws)[i]?) = (wpick bs ws).map some := by
  intro bs
  induction bs with
  | nil => intro ws pre _; cases ws <;> rfl
  | cons b0 bs ih =>
    intro ws pre h
    cases b0 with
    | true =>
      cases ws with
      | nil => exact absurd h (by show ¬ (0 = (ids (pre.length + 1) bs).length + 1); omega)
      | cons w ws =>
        have h2 : (wpick bs ws).length = (ids (pre.length + 1) bs).length := Nat.succ.inj h
        have e1 : (pre ++ [w]).length = pre.length + 1 := by simp
        have h3 := ih ws (pre ++ [w]) (by rw [e1]; exact h2)
        rw [e1, List.append_assoc] at h3
        show (pre ++ w :: ws)[pre.length]? :: (ids (pre.length + 1) bs).map (fun i => (pre ++ w :: ws)[i]?) = some w :: (wpick bs ws).map some
        have e2 : (pre ++ w :: ws)[pre.length]? = some w := by
          rw [List.getElem?_append_right (Nat.le_refl _), Nat.sub_self]; rfl
        rw [e2]
        exact congrArg (fun x => some w :: x) h3
    | false =>
      cases ws with
      | nil =>
        have h2 : 0 = (ids (pre.length + 1) bs).length := h
        have e0 : ids (pre.length + 1) bs = [] := List.length_eq_zero_iff.mp h2.symm
        show (ids (pre.length + 1) bs).map _ = []
        rw [e0]; rfl
      | cons w ws =>
        have e1 : (pre ++ [w]).length = pre.length + 1 := by simp
        have h3 := ih ws (pre ++ [w]) (by rw [e1]; exact h)
        rw [e1, List.append_assoc] at h3
        exact h3
theorem wput_mk : ∀ (bs : List Bool) (ws pre cs : va_W), (wpick bs ws).length = (ids pre.length bs).length → cs.length = (ids pre.length bs).length → wput (pre ++ ws) (ids pre.length bs) cs = pre ++ wmk bs ws cs := by
  intro bs
  induction bs with
  | nil => intro ws pre cs _ _; cases cs <;> rfl
  | cons b0 bs ih =>
    intro ws pre cs h hc
    cases b0 with
    | true =>
      cases ws with
      | nil => exact absurd h (by show ¬ (0 = (ids (pre.length + 1) bs).length + 1); omega)
      | cons w ws =>
        cases cs with
        | nil => exact absurd hc (by show ¬ (0 = (ids (pre.length + 1) bs).length + 1); omega)
        | cons x xs =>
          have h2 : (wpick bs ws).length = (ids (pre.length + 1) bs).length := Nat.succ.inj h
          have hc2 : xs.length = (ids (pre.length + 1) bs).length := Nat.succ.inj hc
          have e1 : (pre ++ [x]).length = pre.length + 1 := by simp
          have h3 := ih ws (pre ++ [x]) xs (by rw [e1]; exact h2) (by rw [e1]; exact hc2)
          rw [e1, List.append_assoc, List.append_assoc] at h3
          show wput ((pre ++ w :: ws).set pre.length x) (ids (pre.length + 1) bs) xs = pre ++ x :: wmk bs ws xs
          have e2 : (pre ++ w :: ws).set pre.length x = pre ++ ([x] ++ ws) := by
            rw [List.set_append_right _ _ (Nat.le_refl _), Nat.sub_self]; rfl
          rw [e2]
          exact h3
    | false =>
      cases ws with
      | nil =>
        have h2 : 0 = (ids (pre.length + 1) bs).length := h
        have e0 : ids (pre.length + 1) bs = [] := List.length_eq_zero_iff.mp h2.symm
        show wput (pre ++ []) (ids (pre.length + 1) bs) cs = pre ++ []
        rw [e0]; cases cs <;> rfl
      | cons w ws =>
        have e1 : (pre ++ [w]).length = pre.length + 1 := by simp
        have h3 := ih ws (pre ++ [w]) cs (by rw [e1]; exact h) (by rw [e1]; exact hc)
        rw [e1, List.append_assoc, List.append_assoc] at h3
        exact h3
section
variable {ι : Type} {l : Launch} {y : MethodName} {wl : List Cond} {rm : Room} {D : va_G} {tys : List (ClassId × FieldType)} {wc : va_W} {w1 : ι → va_W}
variable {p : Program} {e : Env} {R : Room} {s : State} {m : MethodId} {args : Array Value} {below : List Frame} {meth : Method} {c : Code} {H H0 H1 : Heap} {locs : List Loc} {cells slots : Nat} {Q : State → Prop}
variable {cc bytes : ByteArray} {nL maxL n index pc : Nat} {Ts : List Cond} {own C : String} {ret : Option FieldType} {ls : Array Slot} {st0 rest As : List Value} {b : Nat} {A : Nat → Prop} {ws : va_W}
theorem put_back (hP : va_P D vwCl ws H) (hD : va_D A ws) (isC : List Nat) (hC : isC.map (fun i => ws[i]?) = wc.map some) {w2 : va_W} (hw : w2.map Prod.fst = wc.map Prod.fst) (hk : ∀ q : Nat, q < H.size → ¬ va_A wc H.size q → H1[q]? = H[q]?) (hP1 : va_P D vwCl w2 H1) : va_P D vwCl (wput ws isC w2) H1 ∧ va_D A (wput ws isC w2) := by
  have hlen : isC.length = wc.length := by simpa using congrArg List.length hC
  have hlen2 : isC.length = w2.length := by rw [hlen]; simpa using (congrArg List.length hw).symm
  have hat : ∀ (k : Nat) (q : Nat × va_E), wc[k]? = some q → ∃ i, isC[k]? = some i ∧ ws[i]? = some q := fun k q hq => by
    have h1 : (isC.map (fun i => ws[i]?))[k]? = some (some q) := by rw [hC, List.getElem?_map, hq]; rfl
    rw [List.getElem?_map] at h1
    cases hi : isC[k]? with
    | none => rw [hi] at h1; cases h1
    | some i => rw [hi] at h1; exact ⟨i, rfl, Option.some.inj h1⟩
  constructor
  · intro k q hq
    rcases wput_in isC w2 ws k q hlen2 hq with h1 | ⟨h1, h2⟩
    · obtain ⟨j, hj⟩ := List.mem_iff_getElem?.mp h1
      exact hP1 j q hj
    · have hlt := (hP k q h2).lt
      refine (hP k q h2).kept (hk q.1 hlt (fun hA => ?_))
      rcases hA with ⟨k2, e2, h3⟩ | h3
      · obtain ⟨i, g1, g2⟩ := hat k2 (q.1, e2) h3
        have hij := hD.1 k i q (q.1, e2) h2 g2 rfl
        exact h1 (by rw [hij]; exact List.mem_of_getElem? g1)
      · omega
  · refine va_D_fst hD (wput_fst isC w2 wc ws ?_ hw)
    have h2 := congrArg (List.map (Option.map Prod.fst)) hC
    simpa [List.map_map, Function.comp_def, List.getElem?_map] using h2
theorem k_wi {r : Int32} (S : CallFix p m c cc nL s args Ts own) (hM : CtI l y wl rm D tys (.ref b :: As) H.size wc w1 r) (cw : CallW R s args own C index y bytes maxL ret wl rm 0 0 n)
    (hP : va_P D vwCl ws H) (hD : va_D A ws) (hK : va_K D vwCl tys s) (hS : va_S A H0 H locs) (hA : ∀ q : Nat, H0.size ≤ q → A q)
    (isC : List Nat) (hC : isC.map (fun i => ws[i]?) = wc.map some) (hw : ∀ u, (w1 u).map Prod.fst = wc.map Prod.fst) (hcn : va_nd isC = true)
    (ci qr : Nat) {fs : List Value} {q : vw_C} (hci : vwCl[ci]? = some q) (hqC : q.1 = C) (he : wc[qr]? = some (b, .inr (ci, fs)))
    (hAs : As.length = n) (hsize : ls.size = nL) (hst : st0 = As.reverse ++ .ref b :: rest) (hroom : (rest.map fun v => v.category).sum ≤ 8) (hdg : decode cc pc = .ok (.invokevirtual index, 3)) (hf : cells ≤ R.cells ∧ slots ≤ R.slots)
    (kk : ∀ (u : ι) (H1 : Heap) (locs1 : List Loc), va_P D vwCl (wput ws isC (w1 u)) H1 → va_D A (wput ws isC (w1 u)) → va_S A H0 H1 locs1 → W p l e R s m args below meth c H1 locs1 cells slots Q (F0 m (pc + 3) ls (.int r :: rest))) :
    W p l e R s m args below meth c H locs cells slots Q (F0 m pc ls st0) := by
  have hFc := va_free (wc := wc) hD hS hA isC hC
  refine va_calli (va_runV (As := As) (rest := rest) S hM cw ⟨k_blind, k_recv hK hP isC hC ci qr hci hqC he, k_pre hP hD hK isC hC hcn⟩ rfl hAs hsize hst (lv_room hroom) hdg hf) hS (fun q _ h => hFc q h) hFc (fun r2 u t H1 locs1 ht hvm hw2 hB hz1 hk1 hS1 => ?_)
  subst hw2
  obtain ⟨hP1, hK1, hD1⟩ := hB
  rw [ht] at hP1
  obtain ⟨hP2, hD2⟩ := put_back hP hD isC hC (hw u) hk1 hP1
  exact kk u H1 locs1 hP2 hD2 hS1
theorem k_wl {r : Int64} (S : CallFix p m c cc nL s args Ts own) (hM : CtL l y wl rm D tys (.ref b :: As) H.size wc w1 r) (cw : CallW R s args own C index y bytes maxL ret wl rm 0 0 n)
    (hP : va_P D vwCl ws H) (hD : va_D A ws) (hK : va_K D vwCl tys s) (hS : va_S A H0 H locs) (hA : ∀ q : Nat, H0.size ≤ q → A q)
    (isC : List Nat) (hC : isC.map (fun i => ws[i]?) = wc.map some) (hw : ∀ u, (w1 u).map Prod.fst = wc.map Prod.fst) (hcn : va_nd isC = true)
    (ci qr : Nat) {fs : List Value} {q : vw_C} (hci : vwCl[ci]? = some q) (hqC : q.1 = C) (he : wc[qr]? = some (b, .inr (ci, fs)))
    (hAs : As.length = n) (hsize : ls.size = nL) (hst : st0 = As.reverse ++ .ref b :: rest) (hroom : (rest.map fun v => v.category).sum ≤ 8) (hdg : decode cc pc = .ok (.invokevirtual index, 3)) (hf : cells ≤ R.cells ∧ slots ≤ R.slots)
    (kk : ∀ (u : ι) (H1 : Heap) (locs1 : List Loc), va_P D vwCl (wput ws isC (w1 u)) H1 → va_D A (wput ws isC (w1 u)) → va_S A H0 H1 locs1 → W p l e R s m args below meth c H1 locs1 cells slots Q (F0 m (pc + 3) ls (.long r :: rest))) :
    W p l e R s m args below meth c H locs cells slots Q (F0 m pc ls st0) := by
  have hFc := va_free (wc := wc) hD hS hA isC hC
  refine va_calll (va_runV (As := As) (rest := rest) S hM cw ⟨k_blind, k_recv hK hP isC hC ci qr hci hqC he, k_pre hP hD hK isC hC hcn⟩ rfl hAs hsize hst (lv_room hroom) hdg hf) hS (fun q _ h => hFc q h) hFc (fun r2 u t H1 locs1 ht hvm hw2 hB hz1 hk1 hS1 => ?_)
  subst hw2
  obtain ⟨hP1, hK1, hD1⟩ := hB
  rw [ht] at hP1
  obtain ⟨hP2, hD2⟩ := put_back hP hD isC hC (hw u) hk1 hP1
  exact kk u H1 locs1 hP2 hD2 hS1
theorem k_mi {r : Int32} (S : CallFix p m c cc nL s args Ts own) (hM : CtI l y wl rm D tys (.ref b :: As) H.size wc w1 r) (cw : CallW R s args own C index y bytes maxL ret wl rm 0 0 n)
    (hP : va_P D vwCl ws H) (hD : va_D A ws) (hK : va_K D vwCl tys s) (hS : va_S A H0 H locs) (hA : ∀ q : Nat, H0.size ≤ q → A q)
    (bs : List Bool) (hC : wpick bs ws = wc) (hn : wc.length = (ids 0 bs).length) (hw : ∀ u, (w1 u).map Prod.fst = wc.map Prod.fst) (hcn : va_nd (ids 0 bs) = true)
    (ci qr : Nat) {fs : List Value} {q : vw_C} (hci : vwCl[ci]? = some q) (hqC : q.1 = C) (he : wc[qr]? = some (b, .inr (ci, fs)))
    (hAs : As.length = n) (hsize : ls.size = nL) (hst : st0 = As.reverse ++ .ref b :: rest) (hroom : (rest.map fun v => v.category).sum ≤ 8) (hdg : decode cc pc = .ok (.invokevirtual index, 3)) (hf : cells ≤ R.cells ∧ slots ≤ R.slots)
    (kk : ∀ (u : ι) (H1 : Heap) (locs1 : List Loc), va_P D vwCl (wmk bs ws (w1 u)) H1 → va_D A (wmk bs ws (w1 u)) → va_S A H0 H1 locs1 → W p l e R s m args below meth c H1 locs1 cells slots Q (F0 m (pc + 3) ls (.int r :: rest))) :
    W p l e R s m args below meth c H locs cells slots Q (F0 m pc ls st0) := by
  have hn2 : (wpick bs ws).length = (ids (([] : va_W).length) bs).length := by rw [hC]; exact hn
  have hC2 : (ids 0 bs).map (fun i => ws[i]?) = wc.map some := by rw [← hC]; exact ids_pick bs ws [] hn2
  refine k_wi S hM cw hP hD hK hS hA (ids 0 bs) hC2 hw hcn ci qr hci hqC he hAs hsize hst hroom hdg hf (fun u H1 locs1 h1 h2 h3 => ?_)
  have e3 : wput ws (ids 0 bs) (w1 u) = wmk bs ws (w1 u) := wput_mk bs ws [] (w1 u) hn2 (by rw [← List.length_map (f := Prod.fst), hw u, List.length_map]; exact hn)
  rw [e3] at h1 h2
  exact kk u H1 locs1 h1 h2 h3
theorem k_ml {r : Int64} (S : CallFix p m c cc nL s args Ts own) (hM : CtL l y wl rm D tys (.ref b :: As) H.size wc w1 r) (cw : CallW R s args own C index y bytes maxL ret wl rm 0 0 n)
    (hP : va_P D vwCl ws H) (hD : va_D A ws) (hK : va_K D vwCl tys s) (hS : va_S A H0 H locs) (hA : ∀ q : Nat, H0.size ≤ q → A q)
    (bs : List Bool) (hC : wpick bs ws = wc) (hn : wc.length = (ids 0 bs).length) (hw : ∀ u, (w1 u).map Prod.fst = wc.map Prod.fst) (hcn : va_nd (ids 0 bs) = true)
    (ci qr : Nat) {fs : List Value} {q : vw_C} (hci : vwCl[ci]? = some q) (hqC : q.1 = C) (he : wc[qr]? = some (b, .inr (ci, fs)))
    (hAs : As.length = n) (hsize : ls.size = nL) (hst : st0 = As.reverse ++ .ref b :: rest) (hroom : (rest.map fun v => v.category).sum ≤ 8) (hdg : decode cc pc = .ok (.invokevirtual index, 3)) (hf : cells ≤ R.cells ∧ slots ≤ R.slots)
    (kk : ∀ (u : ι) (H1 : Heap) (locs1 : List Loc), va_P D vwCl (wmk bs ws (w1 u)) H1 → va_D A (wmk bs ws (w1 u)) → va_S A H0 H1 locs1 → W p l e R s m args below meth c H1 locs1 cells slots Q (F0 m (pc + 3) ls (.long r :: rest))) :
    W p l e R s m args below meth c H locs cells slots Q (F0 m pc ls st0) := by
  have hn2 : (wpick bs ws).length = (ids (([] : va_W).length) bs).length := by rw [hC]; exact hn
  have hC2 : (ids 0 bs).map (fun i => ws[i]?) = wc.map some := by rw [← hC]; exact ids_pick bs ws [] hn2
  refine k_wl S hM cw hP hD hK hS hA (ids 0 bs) hC2 hw hcn ci qr hci hqC he hAs hsize hst hroom hdg hf (fun u H1 locs1 h1 h2 h3 => ?_)
  have e3 : wput ws (ids 0 bs) (w1 u) = wmk bs ws (w1 u) := wput_mk bs ws [] (w1 u) hn2 (by rw [← List.length_map (f := Prod.fst), hw u, List.length_map]; exact hn)
  rw [e3] at h1 h2
  exact kk u H1 locs1 h1 h2 h3
end
