/-! PURE 4: sheets -/
def RS (Sl Sn : Nat → Int32) (Sc : Nat → Nat → Int32) (so sl ce : Nat → Int32) : Prop :=
  ∀ k, k < 4 → ((Sl k = -1 ∧ so k = -9) ∨ ∃ l N, l < 3 ∧ N ≤ 60 ∧ Sl k = nI l ∧ so k = nI l ∧ Sn k = nI N ∧ sl k = nI N) ∧ ∀ i, i < 60 → Sc k i = ce (60 * k + i)
/-- a parameter names sheet j, or none -/
def Sp (p : Int32) (j : Nat) : Prop := j < 4 ∧ ((p < 0 ∨ nI 4 ≤ p) ∨ p = nI j)
theorem nI9 {l : Nat} (h : l < 3) : ¬ nI l = -9 := by
  rcases (show l = 0 ∨ l = 1 ∨ l = 2 by omega) with e | e | e <;> rw [e] <;> decide
theorem nIm {l : Nat} (h : l < 3) : ¬ nI l = -1 := by
  rcases (show l = 0 ∨ l = 1 ∨ l = 2 by omega) with e | e | e <;> rw [e] <;> decide
theorem ge4 {p : Int32} (h : nI 4 ≤ p) : 3 < p := by
  rw [Int32.lt_iff_toInt_lt]
  rw [Int32.le_iff_toInt_le] at h
  have a1 : (nI 4).toInt = 4 := by decide
  have a2 : (3 : Int32).toInt = 3 := by decide
  omega
theorem shX_n {p : Int32} (h : p < 0 ∨ nI 4 ≤ p) : f_X3_isSheet p = some 0 := by
  unfold f_X3_isSheet
  rcases h with h | h
  · rw [if_pos h]
  · rw [if_pos (show (4 : Int32) ≤ p from h), ite_self]
theorem shM_n {p : Int32} (h : p < 0 ∨ nI 4 ≤ p) : f_X4_isSheet p = some 0 := by
  unfold f_X4_isSheet
  rw [with_n (h.imp_right ge4)]
  rfl
theorem shX_y {j : Nat} (h : j < 4) : f_X3_isSheet (nI j) = some 1 := by
  rcases (show j = 0 ∨ j = 1 ∨ j = 2 ∨ j = 3 by omega) with e | e | e | e <;> rw [e] <;> decide
theorem shM_y {j : Nat} (h : j < 4) : f_X4_isSheet (nI j) = some 1 := by
  rcases (show j = 0 ∨ j = 1 ∨ j = 2 ∨ j = 3 by omega) with e | e | e | e <;> rw [e] <;> decide
theorem lane_e (p : Int32) : f_X4_isSort p = f_X3_isLane p := by
  unfold f_X4_isSort f_X3_isLane f_X4_within
  split
  · rfl
  split <;> rfl
/-- a lane is 0, 1 or 2, or is refused -/
theorem lane_c (p : Int32) : f_X3_isLane p = some 0 ∨ (f_X3_isLane p = some 1 ∧ ∃ l, l < 3 ∧ p = nI l) := by
  unfold f_X3_isLane
  by_cases c1 : p < 0
  · rw [if_pos c1]; exact Or.inl rfl
  by_cases c2 : 2 < p
  · rw [if_neg c1, if_pos c2]; exact Or.inl rfl
  · rw [if_neg c1, if_neg c2]
    obtain ⟨l, hl, e⟩ := nI_of2 (M := 2) (n := 2) (by decide) c1 (by rw [← i_nlt]; exact c2)
    exact Or.inr ⟨rfl, l, by omega, e⟩
theorem bare_n {l : Nat} (h : l < 3) : f_X0_isBare (nI l) = some 0 := by
  unfold f_X0_isBare; rw [if_neg (nIm h)]
theorem hold_c {N : Nat} (hN : N ≤ 60) (i m : Int32) : (∃ a b, i = nI a ∧ m = nI b ∧ a + b ≤ N ∧ f_X0_holds (nI N) i m = some 1) ∨ (f_X0_holds (nI N) i m = some 0 ∧ (i < 0 ∨ nI N < i ∨ m < 0 ∨ (nI N - i) < m)) := by
  unfold f_X0_holds
  by_cases c1 : i < 0
  · rw [if_pos c1]; exact Or.inr ⟨rfl, Or.inl c1⟩
  by_cases c2 : nI N < i
  · rw [if_neg c1, if_pos c2]; exact Or.inr ⟨rfl, Or.inr (Or.inl c2)⟩
  by_cases c3 : m < 0
  · rw [if_neg c1, if_neg c2, if_pos c3]; exact Or.inr ⟨rfl, Or.inr (Or.inr (Or.inl c3))⟩
  by_cases c4 : (nI N - i) < m
  · rw [if_neg c1, if_neg c2, if_neg c3, if_pos c4]; exact Or.inr ⟨rfl, Or.inr (Or.inr (Or.inr c4))⟩
  rw [if_neg c1, if_neg c2, if_neg c3, if_neg c4]
  obtain ⟨a, ha, rfl⟩ := nI_of2 (M := nI N) (n := N) (nI_toInt (by omega)) c1 (by rw [← i_nlt]; exact c2)
  obtain ⟨b, hb, rfl⟩ := nI_of c3
  rw [pk_sub ha, lt_n (by omega) (by omega)] at c4
  exact Or.inl ⟨a, b, rfl, rfl, by omega, rfl⟩
theorem mul60 (j x : Nat) : 60 * nI j + nI x = nI (60 * j + x) := by
  show nI 60 * nI j + nI x = _
  rw [pk_mul, nI_add]
section
variable {Sl Sn : Nat → Int32} {Sc : Nat → Nat → Int32} {so sl ce : Nat → Int32}
theorem against_n {j : Nat} (hj : j < 4) {so sl : Nat → Int32} (p2 p3 p4 : Int32) (h : so j = -9) : f_X4_against so sl (nI j) p2 p3 p4 = some 1 := by
  unfold f_X4_against
  simp only [ix_n (show j < 4 by omega) (by omega), cl_n (show j < 2147483648 by omega), if_true, h]
/-- the fault of cells of a sheet, taken as a row -/
theorem q_fault (h : RS Sl Sn Sc so sl ce) {j : Nat} (hj : j < 4) (la i m : Int32) : ∃ r, f_X0_faultOf (Sl j) (Sn j) la i m = some r ∧ f_X4_against so sl (nI j) la i m = some r ∧ (r = 0 → ∃ l N a b, l < 3 ∧ N ≤ 60 ∧ Sl j = nI l ∧ Sn j = nI N ∧ i = nI a ∧ m = nI b ∧ a + b ≤ N) := by
  rcases (h j hj).1 with ⟨e1, e2⟩ | ⟨l, N, hl, hN, e1, e2, e3, e4⟩
  · rw [against_n hj _ _ _ e2, e1]
    exact ⟨1, rfl, rfl, fun z => absurd z (by decide)⟩
  · unfold f_X0_faultOf f_X4_against
    simp only [ix_n (show j < 4 by omega) (by omega), cl_n (show j < 2147483648 by omega), if_true, e1, e2, e3, e4, bare_n hl, bsm, nI9 hl, if_false]
    by_cases c1 : nI l = la
    · rw [if_pos c1, if_pos c1]
      by_cases c2 : 0 ≤ m
      · rw [if_pos c2, if_pos c2]
        rcases hold_c hN i m with ⟨a, b, rfl, rfl, hab, e5⟩ | ⟨e5, h6⟩
        · rw [e5, bsm, if_neg (by decide), if_neg (nI_pos (by omega)), if_neg (by rw [lt_n (by omega) (by omega)]; omega), pk_sub (by omega), if_pos (by rw [le_n (by omega) (by omega)]; omega)]
          exact ⟨0, rfl, rfl, fun _ => ⟨l, N, a, b, hl, hN, rfl, rfl, rfl, rfl, hab⟩⟩
        · rw [e5, bsm, if_pos rfl]
          refine ⟨3, rfl, ?_, fun z => absurd z (by decide)⟩
          rcases h6 with h6 | h6 | h6 | h6
          · rw [if_pos h6]
          · rw [if_pos h6, ite_self]
          · exact absurd h6 (by rw [i_nlt]; exact c2)
          · rw [if_neg (show ¬ m ≤ nI N - i by rw [i_nle]; exact h6), ite_self, ite_self]
      · rw [if_neg c2, if_neg c2]
        exact ⟨4, rfl, rfl, fun z => absurd z (by decide)⟩
    · rw [if_neg c1, if_neg c1]
      exact ⟨2, rfl, rfl, fun z => absurd z (by decide)⟩
theorem RS.lane (h : RS Sl Sn Sc so sl ce) {j : Nat} (hj : j < 4) : (Sl j = -1 ∧ so j = -9) ∨ ∃ l N, l < 3 ∧ N ≤ 60 ∧ Sl j = nI l ∧ so j = nI l ∧ Sn j = nI N ∧ sl j = nI N := (h j hj).1
theorem va_up_s {α : Type} (f : Nat → α) (j : Nat) (x : α) : va_up f j x j = x := if_pos rfl
theorem va_up_o {α : Type} (f : Nat → α) {j i : Nat} (x : α) (h : i ≠ j) : va_up f j x i = f i := if_neg h
theorem va_up_i {α : Type} (f : Nat → α) (j : Nat) : va_up f j (f j) = f := by
  funext i
  by_cases e : i = j
  · rw [e, va_up_s]
  · rw [va_up_o _ _ e]
theorem q_lose (h : RS Sl Sn Sc so sl ce) {p1 : Int32} {j : Nat} (hp : Sp p1 j) : ∃ r l2 n2 so2, f_X3_lose (Sl j) (Sn j) p1 = some (r, l2, n2) ∧ f_X4_lose so p1 = some (r, so2) ∧ RS (va_up Sl j l2) (va_up Sn j n2) Sc so2 sl ce := by
  obtain ⟨hj, hp⟩ := hp
  unfold f_X3_lose f_X4_lose
  rcases hp with hp | rfl
  · rw [shX_n hp, shM_n hp]
    exact ⟨_, _, _, _, rfl, rfl, by rw [va_up_i, va_up_i]; exact h⟩
  rw [shX_y hj, shM_y hj]
  have fin : RS (va_up Sl j (-1)) (va_up Sn j 0) Sc (upd so j (-9)) sl ce := by
    intro k hk
    refine ⟨?_, (h k hk).2⟩
    by_cases e : k = j
    · subst e
      rw [va_up_s]
      exact Or.inl ⟨rfl, pk_us⟩
    · rw [va_up_o _ _ e, va_up_o _ _ e, pk_un e]
      exact (h k hk).1
  simp only [ix_n (show j < 4 by omega) (by omega), cl_n (show j < 2147483648 by omega), if_true, bsm, show ¬ ((1 : Int32) = 0) by decide, if_false, f_X0_drop]
  rcases h.lane hj with ⟨e1, e2⟩ | ⟨l, N, hl, hN, e1, e2, e3, e4⟩
  · rw [e1, e2]
    exact ⟨_, _, _, _, rfl, rfl, fin⟩
  · rw [e1, e2, bare_n hl, bsm, if_neg (nI9 hl)]
    exact ⟨_, _, _, _, rfl, rfl, fin⟩
theorem begin_l {la m : Int32} {l n : Int32} : ∀ r j fuel c, j + r = 60 → r < fuel → (∀ i, i < j → c i = 0) → ∃ c2, l_X0_begin_12 la m fuel (nI j, l, n, c) = some (l, n, c2) ∧ ∀ i, i < 60 → c2 i = 0 := by
  intro r
  induction r with
  | zero =>
    intro j fuel c hj hf hc
    obtain ⟨g, rfl⟩ : ∃ f, fuel = f + 1 := ⟨fuel - 1, by omega⟩
    rw [s_X0_begin_12]; unfold b_X0_begin_12
    rw [show j = 60 by omega, if_pos (by decide)]
    exact ⟨_, rfl, fun i hi => hc i (by omega)⟩
  | succ r ih =>
    intro j fuel c hj hf hc
    obtain ⟨g, rfl⟩ : ∃ f, fuel = f + 1 := ⟨fuel - 1, by omega⟩
    rw [s_X0_begin_12]; unfold b_X0_begin_12
    rw [if_neg (show ¬ (60 : Int32) ≤ nI j by show ¬ nI 60 ≤ nI j; rw [le_n (by omega) (by omega)]; omega), if_pos (ix_n (by omega) (by omega)), cl_n (by omega), n1]
    refine ih (j + 1) g _ (by omega) (by omega) (fun i hi => ?_)
    by_cases e : i = j
    · rw [e]; exact pk_us
    · rw [pk_un e]; exact hc i (by omega)
theorem sheetM_l {j : Nat} (hj : j < 4) {la m fa : Int32} {so sl ce : Nat → Int32} : ∀ r x fuel c, x + r = 60 → r < fuel → (∀ i, c i = if 60 * j ≤ i ∧ i < 60 * j + x then 0 else ce i) → ∃ c2, l_X4_sheet_57 (nI j) la m fuel (nI x, fa, so, sl, c) = some (1, fa, so, sl, c2) ∧ ∀ i, c2 i = if 60 * j ≤ i ∧ i < 60 * j + 60 then 0 else ce i := by
  intro r
  induction r with
  | zero =>
    intro x fuel c hx hf hc
    obtain ⟨g, rfl⟩ : ∃ f, fuel = f + 1 := ⟨fuel - 1, by omega⟩
    rw [s_X4_sheet_57]; unfold b_X4_sheet_57
    have e : x = 60 := by omega
    subst e
    rw [if_pos (by decide)]
    exact ⟨_, rfl, hc⟩
  | succ r ih =>
    intro x fuel c hx hf hc
    obtain ⟨g, rfl⟩ : ∃ f, fuel = f + 1 := ⟨fuel - 1, by omega⟩
    rw [s_X4_sheet_57]; unfold b_X4_sheet_57
    rw [if_neg (show ¬ (60 : Int32) ≤ nI x by show ¬ nI 60 ≤ nI x; rw [le_n (by omega) (by omega)]; omega), mul60, if_pos (ix_n (by omega) (by omega)), cl_n (by omega), n1]
    refine ih (x + 1) g _ (by omega) (by omega) (fun i => ?_)
    by_cases e : i = 60 * j + x
    · rw [e, pk_us, if_pos (by omega)]
    · rw [pk_un e, hc i]
      by_cases e2 : 60 * j ≤ i ∧ i < 60 * j + x
      · rw [if_pos e2, if_pos (by omega)]
      · rw [if_neg e2, if_neg (by omega)]
theorem q_sheet (h : RS Sl Sn Sc so sl ce) {p1 : Int32} {j : Nat} (hp : Sp p1 j) (fa p2 p3 : Int32) : ∃ r f2 l2 n2 c2 so2 sl2 ce2, f_X3_sheet fa (Sl j) (Sn j) (Sc j) p1 p2 p3 = some (r, f2, l2, n2, c2) ∧ f_X4_sheet fa so sl ce p1 p2 p3 = some (r, f2, so2, sl2, ce2) ∧ RS (va_up Sl j l2) (va_up Sn j n2) (va_up Sc j c2) so2 sl2 ce2 := by
  obtain ⟨hj, hp⟩ := hp
  have keep : RS (va_up Sl j (Sl j)) (va_up Sn j (Sn j)) (va_up Sc j (Sc j)) so sl ce := by rw [va_up_i, va_up_i, va_up_i]; exact h
  unfold f_X3_sheet f_X4_sheet
  rcases hp with hp | rfl
  · rw [shX_n hp, shM_n hp]
    exact ⟨_, _, _, _, _, _, _, _, rfl, rfl, keep⟩
  rw [shX_y hj, shM_y hj, lane_e]
  simp only [ix_n (show j < 4 by omega) (by omega), cl_n (show j < 2147483648 by omega), if_true, bsm, show ¬ ((1 : Int32) = 0) by decide, if_false]
  rcases lane_c p2 with e | ⟨e, l, hl, rfl⟩
  · rw [e]; exact ⟨_, _, _, _, _, _, _, _, rfl, rfl, keep⟩
  rw [e]
  simp only [bsm, show ¬ ((1 : Int32) = 0) by decide, if_false]
  by_cases c1 : p3 ≤ 60
  · by_cases c2 : 0 ≤ p3
    · simp only [if_pos c1, if_pos c2]
      obtain ⟨N, hN, rfl⟩ := nI_of2 (M := 60) (n := 60) (by decide) (by rw [i_nlt]; exact c2) c1
      unfold f_X0_begin
      obtain ⟨c2, e5, e6⟩ := begin_l (la := nI l) (m := nI N) (l := nI l) (n := nI N) 60 0 99 (Sc j) (by omega) (by omega) (fun i hi => absurd hi (by omega))
      obtain ⟨ce2, e7, e8⟩ := sheetM_l hj (la := nI l) (m := nI N) (fa := 0) (so := upd so j (nI l)) (sl := upd sl j (nI N)) (ce := ce) 60 0 99 ce (by omega) (by omega) (fun i => by rw [if_neg (by omega)])
      have e5' : l_X0_begin_12 (nI l) (nI N) 99 (0, nI l, nI N, Sc j) = _ := e5
      have e7' : l_X4_sheet_57 (nI j) (nI l) (nI N) 99 (0, 0, upd so j (nI l), upd sl j (nI N), ce) = _ := e7
      rw [e5', e7']
      refine ⟨_, _, _, _, _, _, _, _, rfl, rfl, fun k hk => ?_⟩
      by_cases e9 : k = j
      · subst e9
        simp only [va_up_s, pk_us]
        refine ⟨Or.inr ⟨l, N, hl, hN, rfl, rfl, rfl, rfl⟩, fun i hi => ?_⟩
        rw [e6 i hi, e8, if_pos (by omega)]
      · simp only [va_up_o _ _ e9, pk_un e9]
        refine ⟨(h k hk).1, fun i hi => ?_⟩
        rw [(h k hk).2 i hi, e8, if_neg (by omega)]
    · simp only [if_pos c1, if_neg c2]
      exact ⟨_, _, _, _, _, _, _, _, rfl, rfl, keep⟩
  · simp only [if_neg c1]
    exact ⟨_, _, _, _, _, _, _, _, rfl, rfl, keep⟩
theorem inN {N : Nat} (hN : N ≤ 60) (i : Int32) : (∃ x, x < N ∧ i = nI x ∧ f_X0_holds (nI N) i 1 = some 1 ∧ f_X4_within i 0 (nI N - 1) = some 1) ∨ (f_X0_holds (nI N) i 1 = some 0 ∧ f_X4_within i 0 (nI N - 1) = some 0) := by
  have hs : (nI N - 1).toInt = (N : Int) - 1 := pk_sub_toInt (a := N) (b := 1) (by omega) (by omega)
  rcases hold_c hN i 1 with ⟨a, b, rfl, e, hab, e5⟩ | ⟨e5, h6⟩
  · have hb : (1 : Int32) = nI 1 := by decide
    have hb1 : b < 2147483648 := by omega
    rw [hb, eq_n (by omega) hb1] at e
    subst e
    refine Or.inl ⟨a, by omega, rfl, e5, with_y (nI_pos (by omega)) ?_⟩
    rw [Int32.lt_iff_toInt_lt, hs, nI_toInt (by omega)]
    omega
  · refine Or.inr ⟨e5, with_n ?_⟩
    rcases h6 with h6 | h6 | h6 | h6
    · exact Or.inl h6
    · right
      rw [Int32.lt_iff_toInt_lt] at h6 ⊢
      rw [hs]; rw [nI_toInt (by omega)] at h6; omega
    · exact absurd h6 (by decide)
    · by_cases c1 : i < 0
      · exact Or.inl c1
      right
      by_cases c2 : nI N < i
      · rw [Int32.lt_iff_toInt_lt] at c2 ⊢
        rw [hs]; rw [nI_toInt (by omega)] at c2; omega
      obtain ⟨a, ha, rfl⟩ := nI_of2 (M := nI N) (n := N) (nI_toInt (by omega)) c1 (by rw [← i_nlt]; exact c2)
      have h7 : nI (N - a) < nI 1 := by rw [← pk_sub ha]; exact h6
      rw [lt_n (by omega) (by omega)] at h7
      rw [Int32.lt_iff_toInt_lt, hs, nI_toInt (by omega)]
      omega
theorem RS.setc (h : RS Sl Sn Sc so sl ce) {j x : Nat} (hj : j < 4) (hx : x < 60) (v : Int32) : RS Sl Sn (va_up Sc j (upd (Sc j) x v)) so sl (upd ce (60 * j + x) v) := by
  intro k hk
  refine ⟨(h k hk).1, fun i hi => ?_⟩
  by_cases e : k = j
  · subst e
    rw [va_up_s]
    by_cases e2 : i = x
    · rw [e2, pk_us, pk_us]
    · rw [pk_un e2, pk_un (by omega)]; exact (h k hk).2 i hi
  · rw [va_up_o _ _ e, pk_un (by omega)]; exact (h k hk).2 i hi
theorem q_put (h : RS Sl Sn Sc so sl ce) {p1 : Int32} {j : Nat} (hp : Sp p1 j) (fa p2 p3 : Int32) : ∃ r f2 c2 ce2, f_X3_put fa (Sl j) (Sn j) (Sc j) p1 p2 p3 = some (r, f2, c2) ∧ f_X4_put fa so sl ce p1 p2 p3 = some (r, f2, ce2) ∧ RS Sl Sn (va_up Sc j c2) so sl ce2 := by
  obtain ⟨hj, hp⟩ := hp
  have keep : RS Sl Sn (va_up Sc j (Sc j)) so sl ce := by rw [va_up_i]; exact h
  unfold f_X3_put f_X4_put
  rcases hp with hp | rfl
  · rw [shX_n hp, shM_n hp]
    exact ⟨_, _, _, _, rfl, rfl, keep⟩
  rw [shX_y hj, shM_y hj]
  simp only [ix_n (show j < 4 by omega) (by omega), cl_n (show j < 2147483648 by omega), if_true, bsm, show ¬ ((1 : Int32) = 0) by decide, if_false]
  rcases h.lane hj with ⟨e1, e2⟩ | ⟨l, N, hl, hN, e1, e2, e3, e4⟩
  · rw [e1, e2]
    exact ⟨_, _, _, _, rfl, rfl, keep⟩
  rw [e1, e2, e3, e4, bare_n hl]
  simp only [bsm, if_true, nI9 hl, if_false]
  rcases inN hN p2 with ⟨x, hx, rfl, e5, e6⟩ | ⟨e5, e6⟩
  · rw [e5, e6]
    unfold f_X0_write
    simp only [bsm, show ¬ ((1 : Int32) = 0) by decide, if_false, mul60, ix_n (show x < 60 by omega) (by omega), ix_n (show 60 * j + x < 240 by omega) (by omega), if_true, cl_n (show x < 2147483648 by omega), cl_n (show 60 * j + x < 2147483648 by omega)]
    split
    · exact ⟨_, _, _, _, rfl, rfl, h.setc hj (by omega) _⟩
    split
    · exact ⟨_, _, _, _, rfl, rfl, h.setc hj (by omega) _⟩
    · exact ⟨_, _, _, _, rfl, rfl, h.setc hj (by omega) _⟩
  · rw [e5, e6]
    exact ⟨_, _, _, _, rfl, rfl, keep⟩
theorem q_cell (h : RS Sl Sn Sc so sl ce) {p1 : Int32} {j : Nat} (hp : Sp p1 j) (fa p2 p3 : Int32) : ∃ r f2, f_X3_cell fa (Sl j) (Sn j) (Sc j) p1 p2 p3 = some (r, f2) ∧ f_X4_cell fa so sl ce p1 p2 p3 = some (r, f2) := by
  obtain ⟨hj, hp⟩ := hp
  unfold f_X3_cell f_X4_cell
  rcases hp with hp | rfl
  · rw [shX_n hp, shM_n hp]
    exact ⟨_, _, rfl, rfl⟩
  rw [shX_y hj, shM_y hj, lane_e]
  simp only [ix_n (show j < 4 by omega) (by omega), cl_n (show j < 2147483648 by omega), if_true, bsm, show ¬ ((1 : Int32) = 0) by decide, if_false]
  rcases lane_c p3 with e | ⟨e, l', hl', rfl⟩
  · rw [e]; exact ⟨_, _, rfl, rfl⟩
  rw [e]
  simp only [bsm, show ¬ ((1 : Int32) = 0) by decide, if_false]
  rcases h.lane hj with ⟨e1, e2⟩ | ⟨l, N, hl, hN, e1, e2, e3, e4⟩
  · rw [e1, e2]
    exact ⟨_, _, rfl, rfl⟩
  unfold f_X0_faultOf
  rw [e1, e2, e3, e4, bare_n hl]
  simp only [bsm, if_true, nI9 hl, if_false, show (0 : Int32) ≤ 1 by decide]
  by_cases c1 : nI l = nI l'
  · rw [if_pos c1, if_pos c1]
    rcases inN hN p2 with ⟨x, hx, rfl, e5, e6⟩ | ⟨e5, e6⟩
    · rw [e5, e6]
      simp only [bsm, show ¬ ((1 : Int32) = 0) by decide, if_false, mul60, ix_n (show x < 60 by omega) (by omega), ix_n (show 60 * j + x < 240 by omega) (by omega), if_true, cl_n (show x < 2147483648 by omega), cl_n (show 60 * j + x < 2147483648 by omega)]
      rw [(h j hj).2 x (by omega)]
      exact ⟨_, _, rfl, rfl⟩
    · rw [e5, e6]
      exact ⟨_, _, rfl, rfl⟩
  · rw [if_neg c1, if_neg c1]
    exact ⟨_, _, rfl, rfl⟩
end
