/-! BASE: small words for pure programs, contracts whose answer is told by a pure program, calls by such contracts -/
/-- an index stands in a row of n -/
def ix (i : Int32) (n : Nat) : Bool := decide (¬ (i < 0 ∨ n ≤ i.toNatClampNeg))
theorem ix_in {i : Int32} {n : Nat} (h : ix i n = true) : vp_in i n := by
  have h2 : ¬ (i < 0 ∨ n ≤ i.toNatClampNeg) := of_decide_eq_true h
  exact h2
/-- a number that a boolean may be -/
def bz (r : Int32) : Bool := r == 0 || r == 1
theorem bz_n {r : Int32} (h : bz r = true) : narrow .boolean (.int r) = .int r := by
  unfold bz at h
  rcases (Bool.or_eq_true_iff.mp h) with h | h
  · have e : r = 0 := by simpa using h
    subst e; rfl
  · have e : r = 1 := by simpa using h
    subst e; rfl
theorem bz_0 : narrow .boolean (.int 0) = .int 0 := rfl
theorem bz_1 : narrow .boolean (.int 1) = .int 1 := rfl
theorem it_t {α : Type} {c : Prop} {dc : Decidable c} {a b o : α} (hc : c) (h : (if c then a else b) = o) : a = o := by
  rw [if_pos hc] at h; exact h
theorem it_f {α : Type} {c : Prop} {dc : Decidable c} {a b o : α} (hc : ¬ c) (h : (if c then a else b) = o) : b = o := by
  rw [if_neg hc] at h; exact h
theorem it_n {α : Type} {c : Prop} {dc : Decidable c} {a : Option α} {o : α} (h : (if c then a else none) = some o) : c ∧ a = some o := by
  by_cases hc : c
  · rw [if_pos hc] at h; exact ⟨hc, h⟩
  · rw [if_neg hc] at h; cases h
theorem ob {α β : Type} {x : Option α} {k : α → Option β} {o : β} (h : x.bind k = some o) : ∃ a, x = some a ∧ k a = some o := by
  cases x with
  | none => cases h
  | some a => exact ⟨a, rfl, h⟩
/-- a loop of at most so many turns -/
def lpF {σ ρ : Type} (body : (σ → Option ρ) → σ → Option ρ) : Nat → σ → Option ρ
  | 0, _ => none
  | n + 1, x => body (lpF body n) x
theorem lpF_0 {σ ρ : Type} {body : (σ → Option ρ) → σ → Option ρ} {x : σ} {o : ρ} (h : lpF body 0 x = some o) : False := by cases h
section
variable {ι : Type}
/-- contracts: from the cells w0 the method ends with the answer r and the cells w1 -/
def CtI (l : Launch) (y : MethodName) (wl : List Cond) (rm : Room) (D : va_G) (tys : List (ClassId × FieldType)) (av : List Value) (sz : Nat) (w0 : va_W) (w1 : ι → va_W) (r : Int32) : Prop :=
  Met l y wl rm (va_Pc av (fun U => U.heap.size = sz ∧ va_P D vwCl w0 U.heap ∧ va_K D vwCl tys U ∧ va_D (fun _ => True) w0)) (va_Qi (fun (r' : Int32) (_ : ι) => r' = r) (fun u t => va_P D vwCl (w1 u) t.heap ∧ va_K D vwCl tys t ∧ va_D (va_A w0 sz) (w1 u)) (va_A w0 sz)) 0 0 (va_A w0 sz)
def CtL (l : Launch) (y : MethodName) (wl : List Cond) (rm : Room) (D : va_G) (tys : List (ClassId × FieldType)) (av : List Value) (sz : Nat) (w0 : va_W) (w1 : ι → va_W) (r : Int64) : Prop :=
  Met l y wl rm (va_Pc av (fun U => U.heap.size = sz ∧ va_P D vwCl w0 U.heap ∧ va_K D vwCl tys U ∧ va_D (fun _ => True) w0)) (va_Ql (fun (r' : Int64) (_ : ι) => r' = r) (fun u t => va_P D vwCl (w1 u) t.heap ∧ va_K D vwCl tys t ∧ va_D (va_A w0 sz) (w1 u)) (va_A w0 sz)) 0 0 (va_A w0 sz)
def CtV (l : Launch) (y : MethodName) (wl : List Cond) (rm : Room) (D : va_G) (tys : List (ClassId × FieldType)) (av : List Value) (sz : Nat) (w0 : va_W) (w1 : ι → va_W) : Prop :=
  Met l y wl rm (va_Pc av (fun U => U.heap.size = sz ∧ va_P D vwCl w0 U.heap ∧ va_K D vwCl tys U ∧ va_D (fun _ => True) w0)) (va_Qv (fun (_ : ι) => True) (fun u t => va_P D vwCl (w1 u) t.heap ∧ va_K D vwCl tys t ∧ va_D (va_A w0 sz) (w1 u)) (va_A w0 sz)) 0 0 (va_A w0 sz)
variable {l : Launch} {y : MethodName} {wl ws' : List Cond} {rm : Room} {D : va_G} {tys : List (ClassId × FieldType)} {av : List Value} {sz : Nat} {w0 : va_W} {w1 : ι → va_W} {cc : ByteArray} {maxL : Nat}
theorem CtI.of {r : Int32} {ty : FieldType} (hy : plainName y.cls = true) (hw : wl = Cond.code y cc maxL (some ty) :: ws') (hlen : (lg_sl av).length ≤ maxL)
    (body : ∀ (p : Program) (e : Env) (s : State) (m : MethodId) (args : Array Value) (below : List Frame) (meth : Method) (c : Code) (A : Nat → Prop) (Q : State → Prop) (H : Heap) (locs : List Loc), p.tables.exec = Jvm.exec → c.code = cc → c.maxLocals = maxL → s.vm.findClass y.cls = some m.cls → (∀ w ∈ wl, w.before args s = true) → (∀ q : Nat, s.heap.size ≤ q → A q) → va_K D vwCl tys s → va_P D vwCl w0 H → va_D A w0 → va_S A s.heap H locs →
      (∀ (u : ι) (H : Heap) (locs : List Loc) (pc : Nat) (ls : Array Slot), va_P D vwCl (w1 u) H → va_D A (w1 u) → va_S A s.heap H locs → decode cc pc = .ok (.ireturn, 1) → narrow ty (.int r) = .int r → W p l e rm s m args below meth c H locs 0 0 Q (F0 m pc ls [.int r])) →
      ∀ (ls : Array Slot), lv_has ls maxL (lv_args 0 av) → W p l e rm s m args below meth c H locs 0 0 Q (F0 m 0 ls [])) : CtI l y wl rm D tys av sz w0 w1 r := by
  refine Met.ofW (cc := cc) (maxL := maxL) (ret := some ty) hy hw ?_
  intro p e s m args below meth c s₁ B hml hv
  obtain ⟨rfl, hsz, hP, hK, hD0⟩ := hv
  subst hsz
  have hD := hD0.self (sz := s.heap.size)
  have hl := lv_entry av (n := maxL) hlen
  rw [lg_entry_eq]
  exact body p e s m _ below meth c (va_A w0 s.heap.size) _ s.heap [] B.exec B.bytes hml (findClass_of_methodNamed B.named) (atoms_spec B.pre) (fun q h => Or.inr h) hK hP hD va_S.rf
    (fun u H locs pc ls hP' hD' hS' hdg hn => W.zret B.exec B.bytes B.returns hn (fun t ht hW => ⟨⟨r, u, rfl, rfl, by rw [ht]; exact hP', va_K.moved hW.alike hK, hD'⟩, hS'.F ht⟩) hS'.2.2 hdg B.notSynchronized) _ hl
theorem CtL.of {r : Int64} (hy : plainName y.cls = true) (hw : wl = Cond.code y cc maxL (some .long) :: ws') (hlen : (lg_sl av).length ≤ maxL)
    (body : ∀ (p : Program) (e : Env) (s : State) (m : MethodId) (args : Array Value) (below : List Frame) (meth : Method) (c : Code) (A : Nat → Prop) (Q : State → Prop) (H : Heap) (locs : List Loc), p.tables.exec = Jvm.exec → c.code = cc → c.maxLocals = maxL → s.vm.findClass y.cls = some m.cls → (∀ w ∈ wl, w.before args s = true) → (∀ q : Nat, s.heap.size ≤ q → A q) → va_K D vwCl tys s → va_P D vwCl w0 H → va_D A w0 → va_S A s.heap H locs →
      (∀ (u : ι) (H : Heap) (locs : List Loc) (pc : Nat) (ls : Array Slot), va_P D vwCl (w1 u) H → va_D A (w1 u) → va_S A s.heap H locs → decode cc pc = .ok (.lreturn, 1) → W p l e rm s m args below meth c H locs 0 0 Q (F0 m pc ls [.long r])) →
      ∀ (ls : Array Slot), lv_has ls maxL (lv_args 0 av) → W p l e rm s m args below meth c H locs 0 0 Q (F0 m 0 ls [])) : CtL l y wl rm D tys av sz w0 w1 r := by
  refine Met.ofW (cc := cc) (maxL := maxL) (ret := some .long) hy hw ?_
  intro p e s m args below meth c s₁ B hml hv
  obtain ⟨rfl, hsz, hP, hK, hD0⟩ := hv
  subst hsz
  have hD := hD0.self (sz := s.heap.size)
  have hl := lv_entry av (n := maxL) hlen
  rw [lg_entry_eq]
  have hlocks := B.notSynchronized
  exact body p e s m _ below meth c (va_A w0 s.heap.size) _ s.heap [] B.exec B.bytes hml (findClass_of_methodNamed B.named) (atoms_spec B.pre) (fun q h => Or.inr h) hK hP hD va_S.rf
    (fun u H locs pc ls hP' hD' hS' hdg => W.lret B.exec B.bytes B.returns (fun t ht hW => ⟨⟨r, u, rfl, rfl, by rw [ht]; exact hP', va_K.moved hW.alike hK, hD'⟩, hS'.F ht⟩) hS'.2.2 hdg) _ hl
theorem CtV.of (hy : plainName y.cls = true) (hw : wl = Cond.code y cc maxL none :: ws') (hlen : (lg_sl av).length ≤ maxL)
    (body : ∀ (p : Program) (e : Env) (s : State) (m : MethodId) (args : Array Value) (below : List Frame) (meth : Method) (c : Code) (A : Nat → Prop) (Q : State → Prop) (H : Heap) (locs : List Loc), p.tables.exec = Jvm.exec → c.code = cc → c.maxLocals = maxL → s.vm.findClass y.cls = some m.cls → (∀ w ∈ wl, w.before args s = true) → (∀ q : Nat, s.heap.size ≤ q → A q) → va_K D vwCl tys s → va_P D vwCl w0 H → va_D A w0 → va_S A s.heap H locs →
      (∀ (u : ι) (H : Heap) (locs : List Loc) (pc : Nat) (ls : Array Slot), va_P D vwCl (w1 u) H → va_D A (w1 u) → va_S A s.heap H locs → decode cc pc = .ok (.return_, 1) → W p l e rm s m args below meth c H locs 0 0 Q (F0 m pc ls [])) →
      ∀ (ls : Array Slot), lv_has ls maxL (lv_args 0 av) → W p l e rm s m args below meth c H locs 0 0 Q (F0 m 0 ls [])) : CtV l y wl rm D tys av sz w0 w1 := by
  refine Met.ofW (cc := cc) (maxL := maxL) (ret := none) hy hw ?_
  intro p e s m args below meth c s₁ B hml hv
  obtain ⟨rfl, hsz, hP, hK, hD0⟩ := hv
  subst hsz
  have hD := hD0.self (sz := s.heap.size)
  have hl := lv_entry av (n := maxL) hlen
  rw [lg_entry_eq]
  have hlocks := B.notSynchronized
  exact body p e s m _ below meth c (va_A w0 s.heap.size) _ s.heap [] B.exec B.bytes hml (findClass_of_methodNamed B.named) (atoms_spec B.pre) (fun q h => Or.inr h) hK hP hD va_S.rf
    (fun u H locs pc ls hP' hD' hS' hdg => W.vret B.exec B.bytes B.returns (fun t ht hW => ⟨⟨u, rfl, trivial, by rw [ht]; exact hP', va_K.moved hW.alike hK, hD'⟩, hS'.F ht⟩) hS'.2.2 hdg) _ hl
end
section
variable {ι : Type} {l : Launch} {y : MethodName} {wl : List Cond} {rm : Room} {D : va_G} {tys : List (ClassId × FieldType)} {wc : va_W} {w1 : ι → va_W}
variable {p : Program} {e : Env} {R : Room} {s : State} {m : MethodId} {args : Array Value} {below : List Frame} {meth : Method} {c : Code} {H H0 : Heap} {locs : List Loc} {cells slots : Nat} {Q : State → Prop}
variable {cc bytes : ByteArray} {nL maxL n index pc : Nat} {Ts : List Cond} {own C : String} {ret : Option FieldType} {ls : Array Slot} {st0 rest As : List Value} {b : Nat} {A : Nat → Prop} {ws : va_W}
/-- what is left of a world when some of its cells go to a callee -/
def wrest (ws : va_W) (isR : List Nat) : va_W := isR.filterMap (fun i => ws[i]?)
theorem k_blind {wc : va_W} {av : List Value} {sz : Nat} : FrameBlind (va_Pc av (fun U => U.heap.size = sz ∧ va_P D vwCl wc U.heap ∧ va_K D vwCl tys U ∧ va_D (fun _ => True) wc)) :=
  fun a U g mk q => by
    obtain ⟨q0, q1, qP, qK, qD⟩ := q
    exact ⟨q0, q1, qP, va_K.moved (u := U) (U := U.calling g mk a) (Vm.Alike.refl U.vm) qK, qD⟩
theorem k_pre (hP : va_P D vwCl ws H) (hD : va_D A ws) (hK : va_K D vwCl tys s) (isC : List Nat) (hC : isC.map (fun i => ws[i]?) = wc.map some) (hcn : va_nd isC = true) {av : List Value} :
    ∀ U : State, U.heap = H → s.WarmedH U.vm → va_Pc av (fun U => U.heap.size = H.size ∧ va_P D vwCl wc U.heap ∧ va_K D vwCl tys U ∧ va_D (fun _ => True) wc) av.toArray U := by
  have hPc : va_P D vwCl wc H := hP.sub isC (by
    have h2 := congrArg (List.filterMap id) hC
    simpa [List.filterMap_map] using h2)
  have hDc := hD.sub isC hcn hC
  exact fun U hU hW => ⟨rfl, by rw [hU], by rw [hU]; exact hPc, va_K.moved hW.alike hK, hDc.weaken (fun _ _ _ _ => trivial)⟩
theorem k_recv (hK : va_K D vwCl tys s) (hP : va_P D vwCl ws H) (isC : List Nat) (hC : isC.map (fun i => ws[i]?) = wc.map some) (ci qr : Nat) {fs : List Value} {q : vw_C} (hci : vwCl[ci]? = some q) (hqC : q.1 = C) (he : wc[qr]? = some (b, .inr (ci, fs))) :
    ∃ cell : Cell, H[b]? = some cell ∧ cell.vm.isStatics = false ∧ s.vm.findClass C = some cell.cls := by
  have hPc : va_P D vwCl wc H := hP.sub isC (by
    have h2 := congrArg (List.filterMap id) hC
    simpa [List.filterMap_map] using h2)
  subst hqC
  exact va_recv hK hPc hci he
theorem k_vi {r : Int32} (S : CallFix p m c cc nL s args Ts own) (hM : CtI l y wl rm D tys (.ref b :: As) H.size wc w1 r) (cw : CallW R s args own C index y bytes maxL ret wl rm 0 0 n)
    (hP : va_P D vwCl ws H) (hD : va_D A ws) (hK : va_K D vwCl tys s) (hS : va_S A H0 H locs) (hA : ∀ q : Nat, H0.size ≤ q → A q)
    (isC isR : List Nat) (hC : isC.map (fun i => ws[i]?) = wc.map some) (hR : isR.map (fun i => ws[i]?) = (wrest ws isR).map some) (hcn : va_nd isC = true) (hn : va_nd isR = true) (hdis : ∀ i ∈ isR, i ∉ isC)
    (ci qr : Nat) {fs : List Value} {q : vw_C} (hci : vwCl[ci]? = some q) (hqC : q.1 = C) (he : wc[qr]? = some (b, .inr (ci, fs)))
    (hAs : As.length = n) (hsize : ls.size = nL) (hst : st0 = As.reverse ++ .ref b :: rest) (hroom : (rest.map fun v => v.category).sum ≤ 8) (hdg : decode cc pc = .ok (.invokevirtual index, 3)) (hf : cells ≤ R.cells ∧ slots ≤ R.slots)
    (kk : ∀ (u : ι) (H1 : Heap) (locs1 : List Loc), va_P D vwCl (wrest ws isR ++ w1 u) H1 → va_D A (wrest ws isR ++ w1 u) → va_S A H0 H1 locs1 → W p l e R s m args below meth c H1 locs1 cells slots Q (F0 m (pc + 3) ls (.int r :: rest))) :
    W p l e R s m args below meth c H locs cells slots Q (F0 m pc ls st0) := by
  have hFc := va_free (wc := wc) hD hS hA isC hC
  refine va_calli (va_runV (As := As) (rest := rest) S hM cw ⟨k_blind, k_recv hK hP isC hC ci qr hci hqC he, k_pre hP hD hK isC hC hcn⟩ rfl hAs hsize hst (lv_room hroom) hdg hf) hS (fun q _ h => hFc q h) hFc (fun r2 u t H1 locs1 ht hvm hw hB hz1 hk1 hS1 => ?_)
  subst hw
  obtain ⟨hP1, hK1, hD1⟩ := hB
  rw [ht] at hP1
  obtain ⟨hP2, hD2⟩ := va_join hP hD isC isR hC hR hn hdis hk1 hFc hP1 hD1
  exact kk u H1 locs1 hP2 hD2 hS1
theorem k_vl {r : Int64} (S : CallFix p m c cc nL s args Ts own) (hM : CtL l y wl rm D tys (.ref b :: As) H.size wc w1 r) (cw : CallW R s args own C index y bytes maxL ret wl rm 0 0 n)
    (hP : va_P D vwCl ws H) (hD : va_D A ws) (hK : va_K D vwCl tys s) (hS : va_S A H0 H locs) (hA : ∀ q : Nat, H0.size ≤ q → A q)
    (isC isR : List Nat) (hC : isC.map (fun i => ws[i]?) = wc.map some) (hR : isR.map (fun i => ws[i]?) = (wrest ws isR).map some) (hcn : va_nd isC = true) (hn : va_nd isR = true) (hdis : ∀ i ∈ isR, i ∉ isC)
    (ci qr : Nat) {fs : List Value} {q : vw_C} (hci : vwCl[ci]? = some q) (hqC : q.1 = C) (he : wc[qr]? = some (b, .inr (ci, fs)))
    (hAs : As.length = n) (hsize : ls.size = nL) (hst : st0 = As.reverse ++ .ref b :: rest) (hroom : (rest.map fun v => v.category).sum ≤ 8) (hdg : decode cc pc = .ok (.invokevirtual index, 3)) (hf : cells ≤ R.cells ∧ slots ≤ R.slots)
    (kk : ∀ (u : ι) (H1 : Heap) (locs1 : List Loc), va_P D vwCl (wrest ws isR ++ w1 u) H1 → va_D A (wrest ws isR ++ w1 u) → va_S A H0 H1 locs1 → W p l e R s m args below meth c H1 locs1 cells slots Q (F0 m (pc + 3) ls (.long r :: rest))) :
    W p l e R s m args below meth c H locs cells slots Q (F0 m pc ls st0) := by
  have hFc := va_free (wc := wc) hD hS hA isC hC
  refine va_calll (va_runV (As := As) (rest := rest) S hM cw ⟨k_blind, k_recv hK hP isC hC ci qr hci hqC he, k_pre hP hD hK isC hC hcn⟩ rfl hAs hsize hst (lv_room hroom) hdg hf) hS (fun q _ h => hFc q h) hFc (fun r2 u t H1 locs1 ht hvm hw hB hz1 hk1 hS1 => ?_)
  subst hw
  obtain ⟨hP1, hK1, hD1⟩ := hB
  rw [ht] at hP1
  obtain ⟨hP2, hD2⟩ := va_join hP hD isC isR hC hR hn hdis hk1 hFc hP1 hD1
  exact kk u H1 locs1 hP2 hD2 hS1
theorem k_vv (S : CallFix p m c cc nL s args Ts own) (hM : CtV l y wl rm D tys (.ref b :: As) H.size wc w1) (cw : CallW R s args own C index y bytes maxL ret wl rm 0 0 n)
    (hP : va_P D vwCl ws H) (hD : va_D A ws) (hK : va_K D vwCl tys s) (hS : va_S A H0 H locs) (hA : ∀ q : Nat, H0.size ≤ q → A q)
    (isC isR : List Nat) (hC : isC.map (fun i => ws[i]?) = wc.map some) (hR : isR.map (fun i => ws[i]?) = (wrest ws isR).map some) (hcn : va_nd isC = true) (hn : va_nd isR = true) (hdis : ∀ i ∈ isR, i ∉ isC)
    (ci qr : Nat) {fs : List Value} {q : vw_C} (hci : vwCl[ci]? = some q) (hqC : q.1 = C) (he : wc[qr]? = some (b, .inr (ci, fs)))
    (hAs : As.length = n) (hsize : ls.size = nL) (hst : st0 = As.reverse ++ .ref b :: rest) (hroom : (rest.map fun v => v.category).sum ≤ 8) (hdg : decode cc pc = .ok (.invokevirtual index, 3)) (hf : cells ≤ R.cells ∧ slots ≤ R.slots)
    (kk : ∀ (u : ι) (H1 : Heap) (locs1 : List Loc), va_P D vwCl (wrest ws isR ++ w1 u) H1 → va_D A (wrest ws isR ++ w1 u) → va_S A H0 H1 locs1 → W p l e R s m args below meth c H1 locs1 cells slots Q (F0 m (pc + 3) ls rest)) :
    W p l e R s m args below meth c H locs cells slots Q (F0 m pc ls st0) := by
  have hFc := va_free (wc := wc) hD hS hA isC hC
  refine va_callv (va_runV (As := As) (rest := rest) S hM cw ⟨k_blind, k_recv hK hP isC hC ci qr hci hqC he, k_pre hP hD hK isC hC hcn⟩ rfl hAs hsize hst (lv_room hroom) hdg hf) hS (fun q _ h => hFc q h) hFc (fun u t H1 locs1 ht hvm hw hB hz1 hk1 hS1 => ?_)
  obtain ⟨hP1, hK1, hD1⟩ := hB
  rw [ht] at hP1
  obtain ⟨hP2, hD2⟩ := va_join hP hD isC isR hC hR hn hdis hk1 hFc hP1 hD1
  exact kk u H1 locs1 hP2 hD2 hS1
theorem k_si {r : Int32} (S : CallFix p m c cc nL s args Ts own) (hM : CtI l y wl rm D tys As H.size wc w1 r) (cw : CallB R s args own index y bytes maxL ret wl rm 0 0 n ∧ (Cond.static y).before args s = true)
    (hP : va_P D vwCl ws H) (hD : va_D A ws) (hK : va_K D vwCl tys s) (hS : va_S A H0 H locs) (hA : ∀ q : Nat, H0.size ≤ q → A q)
    (isC isR : List Nat) (hC : isC.map (fun i => ws[i]?) = wc.map some) (hR : isR.map (fun i => ws[i]?) = (wrest ws isR).map some) (hcn : va_nd isC = true) (hn : va_nd isR = true) (hdis : ∀ i ∈ isR, i ∉ isC)
    (hAs : As.length = n) (hsize : ls.size = nL) (hst : st0 = As.reverse ++ rest) (hroom : (rest.map fun v => v.category).sum ≤ 8) (hdg : decode cc pc = .ok (.invokestatic index, 3)) (hf : cells ≤ R.cells ∧ slots ≤ R.slots)
    (kk : ∀ (u : ι) (H1 : Heap) (locs1 : List Loc), va_P D vwCl (wrest ws isR ++ w1 u) H1 → va_D A (wrest ws isR ++ w1 u) → va_S A H0 H1 locs1 → W p l e R s m args below meth c H1 locs1 cells slots Q (F0 m (pc + 3) ls (.int r :: rest))) :
    W p l e R s m args below meth c H locs cells slots Q (F0 m pc ls st0) := by
  have hFc := va_free (wc := wc) hD hS hA isC hC
  refine va_calli (va_runS (As := As) (rest := rest) S hM cw ⟨k_blind, k_pre hP hD hK isC hC hcn⟩ rfl hAs hsize hst (lv_room hroom) hdg hf) hS (fun q _ h => hFc q h) hFc (fun r2 u t H1 locs1 ht hvm hw hB hz1 hk1 hS1 => ?_)
  subst hw
  obtain ⟨hP1, hK1, hD1⟩ := hB
  rw [ht] at hP1
  obtain ⟨hP2, hD2⟩ := va_join hP hD isC isR hC hR hn hdis hk1 hFc hP1 hD1
  exact kk u H1 locs1 hP2 hD2 hS1
theorem k_sl {r : Int64} (S : CallFix p m c cc nL s args Ts own) (hM : CtL l y wl rm D tys As H.size wc w1 r) (cw : CallB R s args own index y bytes maxL ret wl rm 0 0 n ∧ (Cond.static y).before args s = true)
    (hP : va_P D vwCl ws H) (hD : va_D A ws) (hK : va_K D vwCl tys s) (hS : va_S A H0 H locs) (hA : ∀ q : Nat, H0.size ≤ q → A q)
    (isC isR : List Nat) (hC : isC.map (fun i => ws[i]?) = wc.map some) (hR : isR.map (fun i => ws[i]?) = (wrest ws isR).map some) (hcn : va_nd isC = true) (hn : va_nd isR = true) (hdis : ∀ i ∈ isR, i ∉ isC)
    (hAs : As.length = n) (hsize : ls.size = nL) (hst : st0 = As.reverse ++ rest) (hroom : (rest.map fun v => v.category).sum ≤ 8) (hdg : decode cc pc = .ok (.invokestatic index, 3)) (hf : cells ≤ R.cells ∧ slots ≤ R.slots)
    (kk : ∀ (u : ι) (H1 : Heap) (locs1 : List Loc), va_P D vwCl (wrest ws isR ++ w1 u) H1 → va_D A (wrest ws isR ++ w1 u) → va_S A H0 H1 locs1 → W p l e R s m args below meth c H1 locs1 cells slots Q (F0 m (pc + 3) ls (.long r :: rest))) :
    W p l e R s m args below meth c H locs cells slots Q (F0 m pc ls st0) := by
  have hFc := va_free (wc := wc) hD hS hA isC hC
  refine va_calll (va_runS (As := As) (rest := rest) S hM cw ⟨k_blind, k_pre hP hD hK isC hC hcn⟩ rfl hAs hsize hst (lv_room hroom) hdg hf) hS (fun q _ h => hFc q h) hFc (fun r2 u t H1 locs1 ht hvm hw hB hz1 hk1 hS1 => ?_)
  subst hw
  obtain ⟨hP1, hK1, hD1⟩ := hB
  rw [ht] at hP1
  obtain ⟨hP2, hD2⟩ := va_join hP hD isC isR hC hR hn hdis hk1 hFc hP1 hD1
  exact kk u H1 locs1 hP2 hD2 hS1
/-- a reference out of a row of which the place is known -/
theorem k_ald (hexec : p.tables.exec = Jvm.exec) (hb : c.code = cc) (hK : va_K D vwCl tys s) (hP : va_P D vwCl ws H) (q0 t0 : Nat) {a a' : Nat} {cA : ClassId} {C : String} {n : Nat} {f : Nat → Option Nat} (ha : ws[q0]? = some (a, .inl (cA, n, .inr (.inr (.inr (.inr f)))))) (ht : tys[t0]? = some (cA, .object C)) {i : Int32} (hin : vp_in i n) (he : f i.toNatClampNeg = some a') (hdg : decode cc pc = .ok (.aaload, 1))
    (kk : W p l e R s m args below meth c H locs cells slots Q (F0 m (pc + 1) ls (.ref a' :: rest))) : W p l e R s m args below meth c H locs cells slots Q (F0 m pc ls (.int i :: .ref a :: rest)) := by
  refine va_aldq hexec hb hK hP q0 t0 ha ht hin hdg ?_
  rw [he]
  exact kk
end
