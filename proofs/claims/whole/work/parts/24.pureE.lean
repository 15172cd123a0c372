/-! PURE 5: copies, days -/
section
variable {Sl Sn : Nat → Int32} {Sc : Nat → Nat → Int32} {so sl ce : Nat → Int32}
theorem copyF {so sl : Nat → Int32} {k1 k2 a b m : Nat} {ce : Nat → Int32} (h1 : 60 * k1 + a + m ≤ 240) (h2 : 60 * k2 + b + m ≤ 240) (hv : 60 * k2 + b ≤ 60 * k1 + a ∨ 60 * k1 + a + m ≤ 60 * k2 + b) : ∀ r x fuel c, x + r = m → r < fuel → (∀ y, c y = if 60 * k2 + b ≤ y ∧ y < 60 * k2 + b + x then ce (60 * k1 + a + (y - (60 * k2 + b))) else ce y) → ∃ c2, l_X4_copy_166 so sl (nI k1) (nI a) (nI k2) (nI b) (nI m) fuel (0, nI x, 0, c) = some (nI m, 0, c2) ∧ ∀ y, c2 y = if 60 * k2 + b ≤ y ∧ y < 60 * k2 + b + m then ce (60 * k1 + a + (y - (60 * k2 + b))) else ce y := by
  intro r
  induction r with
  | zero =>
    intro x fuel c hx hf hc
    obtain ⟨g, rfl⟩ : ∃ f, fuel = f + 1 := ⟨fuel - 1, by omega⟩
    rw [s_X4_copy_166]; unfold b_X4_copy_166
    have e : x = m := by omega
    subst e
    rw [if_pos (by rw [le_n (by omega) (by omega)]; omega)]
    exact ⟨_, rfl, hc⟩
  | succ r ih =>
    intro x fuel c hx hf hc
    obtain ⟨g, rfl⟩ : ∃ f, fuel = f + 1 := ⟨fuel - 1, by omega⟩
    rw [s_X4_copy_166]; unfold b_X4_copy_166
    rw [if_neg (show ¬ nI m ≤ nI x by rw [le_n (by omega) (by omega)]; omega), if_pos rfl, mul60, mul60, nI_add, nI_add, if_pos (ix_n (show 60 * k1 + a + x < 240 by omega) (by omega)), if_pos (ix_n (show 60 * k2 + b + x < 240 by omega) (by omega)), cl_n (show 60 * k1 + a + x < 2147483648 by omega), cl_n (show 60 * k2 + b + x < 2147483648 by omega), n1]
    refine ih (x + 1) g _ (by omega) (by omega) (fun y => ?_)
    have e0 : c (60 * k1 + a + x) = ce (60 * k1 + a + x) := by rw [hc, if_neg (by omega)]
    by_cases e : y = 60 * k2 + b + x
    · rw [e, pk_us, e0, if_pos (by omega)]
      congr 1
      omega
    · rw [pk_un e, hc y]
      by_cases e2 : 60 * k2 + b ≤ y ∧ y < 60 * k2 + b + x
      · rw [if_pos e2, if_pos (by omega)]
      · rw [if_neg e2, if_neg (by omega)]
theorem copyB {so sl : Nat → Int32} {k1 k2 a b m : Nat} {ce : Nat → Int32} (h1 : 60 * k1 + a + m ≤ 240) (h2 : 60 * k2 + b + m ≤ 240) (hv : 60 * k1 + a ≤ 60 * k2 + b ∨ 60 * k2 + b + m ≤ 60 * k1 + a) : ∀ r x fuel c, x + r = m → r < fuel → (∀ y, c y = if 60 * k2 + b + m ≤ y + x ∧ y < 60 * k2 + b + m then ce (60 * k1 + a + (y - (60 * k2 + b))) else ce y) → ∃ c2, l_X4_copy_166 so sl (nI k1) (nI a) (nI k2) (nI b) (nI m) fuel (1, nI x, 0, c) = some (nI m, 0, c2) ∧ ∀ y, c2 y = if 60 * k2 + b ≤ y ∧ y < 60 * k2 + b + m then ce (60 * k1 + a + (y - (60 * k2 + b))) else ce y := by
  intro r
  induction r with
  | zero =>
    intro x fuel c hx hf hc
    obtain ⟨g, rfl⟩ : ∃ f, fuel = f + 1 := ⟨fuel - 1, by omega⟩
    rw [s_X4_copy_166]; unfold b_X4_copy_166
    have e : x = m := by omega
    subst e
    rw [if_pos (by rw [le_n (by omega) (by omega)]; omega)]
    refine ⟨_, rfl, fun y => ?_⟩
    rw [hc y]
    by_cases e2 : 60 * k2 + b ≤ y ∧ y < 60 * k2 + b + x
    · rw [if_pos e2, if_pos (by omega)]
    · rw [if_neg e2, if_neg (by omega)]
  | succ r ih =>
    intro x fuel c hx hf hc
    obtain ⟨g, rfl⟩ : ∃ f, fuel = f + 1 := ⟨fuel - 1, by omega⟩
    rw [s_X4_copy_166]; unfold b_X4_copy_166
    have em : (nI m - 1) - nI x = nI (m - 1 - x) := by
      show (nI m - nI 1) - nI x = _
      rw [pk_sub (by omega), pk_sub (by omega)]
    rw [if_neg (show ¬ nI m ≤ nI x by rw [le_n (by omega) (by omega)]; omega), if_neg (by decide), em, mul60, mul60, nI_add, nI_add, if_pos (ix_n (show 60 * k1 + a + (m - 1 - x) < 240 by omega) (by omega)), if_pos (ix_n (show 60 * k2 + b + (m - 1 - x) < 240 by omega) (by omega)), cl_n (show 60 * k1 + a + (m - 1 - x) < 2147483648 by omega), cl_n (show 60 * k2 + b + (m - 1 - x) < 2147483648 by omega), n1]
    refine ih (x + 1) g _ (by omega) (by omega) (fun y => ?_)
    have e0 : c (60 * k1 + a + (m - 1 - x)) = ce (60 * k1 + a + (m - 1 - x)) := by rw [hc, if_neg (by omega)]
    by_cases e : y = 60 * k2 + b + (m - 1 - x)
    · rw [e, pk_us, e0, if_pos (by omega)]
      congr 1
      omega
    · rw [pk_un e, hc y]
      by_cases e2 : 60 * k2 + b + m ≤ y + x ∧ y < 60 * k2 + b + m
      · rw [if_pos e2, if_pos (by omega)]
      · rw [if_neg e2, if_neg (by omega)]
theorem q_copy (h : RS Sl Sn Sc so sl ce) {p1 p3 : Int32} {j1 j2 : Nat} (hp1 : Sp p1 j1) (hp3 : Sp p3 j2) (fa p2 p4 p5 : Int32) : ∃ r f2 c2 ce2, f_X3_copy fa (Sl j1) (Sn j1) (Sc j1) (Sl j2) (Sn j2) (Sc j2) p1 p2 p3 p4 p5 = some (r, f2, c2) ∧ f_X4_copy fa so sl ce p1 p2 p3 p4 p5 = some (r, f2, ce2) ∧ RS Sl Sn (va_up Sc j2 c2) so sl ce2 := by
  obtain ⟨hj1, hp1⟩ := hp1
  obtain ⟨hj2, hp3⟩ := hp3
  have keep : RS Sl Sn (va_up Sc j2 (Sc j2)) so sl ce := by rw [va_up_i]; exact h
  unfold f_X3_copy f_X4_copy
  rcases hp1 with hp | rfl
  · rw [shX_n hp, shM_n hp]
    exact ⟨_, _, _, _, rfl, rfl, keep⟩
  rw [shX_y hj1, shM_y hj1]
  rcases hp3 with hp | rfl
  · rw [shX_n hp, shM_n hp]
    exact ⟨_, _, _, _, rfl, rfl, keep⟩
  rw [shX_y hj2, shM_y hj2]
  simp only [ix_n (show j1 < 4 by omega) (by omega), cl_n (show j1 < 2147483648 by omega), ix_n (show j2 < 4 by omega) (by omega), cl_n (show j2 < 2147483648 by omega), if_true, bsm, show ¬ ((1 : Int32) = 0) by decide, if_false]
  rcases h.lane hj1 with ⟨e1, e2⟩ | ⟨l1, N1, hl1, hN1, e1, e2, e3, e4⟩
  · rw [e1, e2]
    exact ⟨_, _, _, _, rfl, rfl, keep⟩
  rw [e1, e2, e3, e4, bare_n hl1]
  simp only [bsm, if_true, nI9 hl1, if_false]
  rcases h.lane hj2 with ⟨y1, y2⟩ | ⟨l2, N2, hl2, hN2, y1, y2, y3, y4⟩
  · rw [y1, y2]
    exact ⟨_, _, _, _, rfl, rfl, keep⟩
  rw [y1, y2, y3, y4, bare_n hl2]
  simp only [bsm, if_true, nI9 hl2, if_false]
  by_cases cl : nI l1 = nI l2
  rotate_left
  · rw [if_neg cl, if_neg cl]
    exact ⟨_, _, _, _, rfl, rfl, keep⟩
  rw [if_pos cl, if_pos cl]
  rcases hold_c hN1 p2 p5 with ⟨a, m, rfl, rfl, ham, x5⟩ | ⟨x5, h6⟩
  rotate_left
  · rw [x5]
    refine ⟨_, _, _, ce, rfl, ?_, keep⟩
    rcases h6 with h6 | h6 | h6 | h6 <;> simp only [h6, if_true, ite_self] <;> rfl
  rw [x5]
  rcases hold_c hN2 p4 (nI m) with ⟨b, m', rfl, em, hbm, x6⟩ | ⟨x6, h6⟩
  rotate_left
  · rw [x6]
    refine ⟨_, _, _, ce, rfl, ?_, keep⟩
    rcases h6 with h6 | h6 | h6 | h6
    · simp only [h6, if_true, ite_self]; rfl
    · simp only [h6, if_true, ite_self]; rfl
    · simp only [h6, if_true, ite_self]; rfl
    · have h7 : ¬ nI m ≤ nI N2 - p4 := by rw [i_nle]; exact h6
      simp only [h7, if_false, ite_self]; rfl
  rw [x6]
  have hm1 : m < 2147483648 := by omega
  have e : m' = m := by
    have z : nI m' = nI m := em.symm
    by_cases hm2 : m' < 2147483648
    · rw [eq_n hm2 hm1] at z; exact z
    · omega
  subst e
  simp only [bsm, show ¬ ((1 : Int32) = 0) by decide, if_false, nI_pos (show a < 2 ^ 31 by omega), nI_pos (show b < 2 ^ 31 by omega), nI_pos (show m' < 2 ^ 31 by omega), not_false_eq_true, if_true, cl_n (show a < 2147483648 by omega), cl_n (show b < 2147483648 by omega), cl_n (show m' < 2147483648 by omega)]
  rw [if_pos (show a + m' ≤ 60 by omega), if_pos (show b + m' ≤ 60 by omega), if_neg (show ¬ nI N1 < nI a by rw [lt_n (by omega) (by omega)]; omega), if_neg (show ¬ nI N2 < nI b by rw [lt_n (by omega) (by omega)]; omega), pk_sub (show a ≤ N1 by omega), pk_sub (show b ≤ N2 by omega), if_neg (show ¬ nI (N1 - a) < nI m' by rw [lt_n (by omega) (by omega)]; omega), if_pos (show nI m' ≤ nI (N2 - b) by rw [le_n (by omega) (by omega)]; omega)]
  have fin : ∀ c2, (∀ y, c2 y = if 60 * j2 + b ≤ y ∧ y < 60 * j2 + b + m' then ce (60 * j1 + a + (y - (60 * j2 + b))) else ce y) → RS Sl Sn (va_up Sc j2 (va_cpy (Sc j1) (Sc j2) a b m')) so sl c2 := by
    intro c2 hc k hk
    refine ⟨(h k hk).1, fun i hi => ?_⟩
    by_cases e9 : k = j2
    · subst e9
      rw [va_up_s, hc]
      by_cases e2 : b ≤ i ∧ i < b + m'
      · rw [pk_cpy_in e2.1 e2.2, if_pos (by omega), (h j1 hj1).2 _ (by omega)]
        congr 1
        omega
      · rw [pk_cpy_out (by omega), if_neg (by omega)]
        exact (h k hk).2 i hi
    · rw [va_up_o _ _ e9, hc, if_neg (by omega)]
      exact (h k hk).2 i hi
  have hd : j1 = j2 ∨ 60 * j1 + 60 ≤ 60 * j2 ∨ 60 * j2 + 60 ≤ 60 * j1 := by omega
  by_cases cb : b ≤ a
  · rw [if_pos (show nI b ≤ nI a by rw [le_n (by omega) (by omega)]; exact cb)]
    obtain ⟨c2, z1, z2⟩ := copyF (so := so) (sl := sl) (k1 := j1) (k2 := j2) (a := a) (b := b) (m := m') (ce := ce) (by omega) (by omega) (by omega) m' 0 99 ce (by omega) (by omega) (fun y => by rw [if_neg (by omega)])
    exact ⟨_, _, _, _, rfl, z1, fin c2 z2⟩
  · rw [if_neg (show ¬ nI b ≤ nI a by rw [le_n (by omega) (by omega)]; exact cb)]
    obtain ⟨c2, z1, z2⟩ := copyB (so := so) (sl := sl) (k1 := j1) (k2 := j2) (a := a) (b := b) (m := m') (ce := ce) (by omega) (by omega) (by omega) m' 0 99 ce (by omega) (by omega) (fun y => by rw [if_neg (by omega)])
    exact ⟨_, _, _, _, rfl, z1, fin c2 z2⟩
end
/-- days that are told: m pairs of people and deeds -/
def DY (n q m a : Nat) (P J : Nat → Nat) (c who what : Nat → Int32) : Prop := a + 2 * m ≤ 60 ∧ ∀ x, x < m → P x < q ∧ J x < n ∧ c (a + 2 * x) = nI (P x) ∧ c (a + 2 * x + 1) = nI (J x) ∧ who x = nI (P x) ∧ what x = nI (J x)
theorem two (m : Nat) : 2 * nI m = nI (2 * m) := by
  show nI 2 * nI m = _
  rw [pk_mul]
theorem n2 (a : Nat) : nI a + 2 = nI (a + 2) := by
  show nI a + nI 2 = _
  rw [nI_add]
section
variable {Sl Sn : Nat → Int32} {Sc : Nat → Nat → Int32} {so sl ce : Nat → Int32}
theorem lay_l (h : RS Sl Sn Sc so sl ce) {j n q m a : Nat} (hj : j < 4) (hn : n ≤ 6) (hq : q ≤ 4) (hm : m ≤ 20) (ha : a + 2 * m ≤ 60) {la s1 s2 : Int32} :
    ∀ r x fuel fa pr who what, x + r = m → r < fuel → (∀ y, y < x → ∃ P J, P < q ∧ J < n ∧ Sc j (a + 2 * y) = nI P ∧ Sc j (a + 2 * y + 1) = nI J ∧ who y = nI P ∧ what y = nI J) →
    ∃ r' pr2 who2 what2, l_X3_stopOfDays_40 (nI n) (nI q) s1 s2 (Sc j) la (nI a) (nI m) fuel (nI (a + 2 * x), fa) = some (r', fa) ∧ l_X4_layDays_38 (nI n) (nI q) so sl ce (nI j) la (nI a) (nI m) fuel (nI x, fa, pr, who, what) = some (r', fa, pr2, who2, what2) ∧ (r' = 0 → pr2 = nI m ∧ ∀ y, y < m → ∃ P J, P < q ∧ J < n ∧ Sc j (a + 2 * y) = nI P ∧ Sc j (a + 2 * y + 1) = nI J ∧ who2 y = nI P ∧ what2 y = nI J) := by
  intro r
  induction r with
  | zero =>
    intro x fuel fa pr who what hx hf hy
    obtain ⟨g, rfl⟩ : ∃ f, fuel = f + 1 := ⟨fuel - 1, by omega⟩
    have e : x = m := by omega
    subst e
    rw [s_X3_stopOfDays_40, s_X4_layDays_38]; unfold b_X3_stopOfDays_40 b_X4_layDays_38
    rw [two, nI_add, if_pos (by rw [le_n (by omega) (by omega)]; omega), if_pos (by rw [le_n (by omega) (by omega)]; omega)]
    exact ⟨_, _, _, _, rfl, rfl, fun _ => ⟨rfl, hy⟩⟩
  | succ r ih =>
    intro x fuel fa pr who what hx hf hy
    obtain ⟨g, rfl⟩ : ∃ f, fuel = f + 1 := ⟨fuel - 1, by omega⟩
    rw [s_X3_stopOfDays_40, s_X4_layDays_38]; unfold b_X3_stopOfDays_40 b_X4_layDays_38
    rw [two m, nI_add, if_neg (show ¬ nI (a + 2 * m) ≤ nI (a + 2 * x) by rw [le_n (by omega) (by omega)]; omega), if_neg (show ¬ nI m ≤ nI x by rw [le_n (by omega) (by omega)]; omega), two x, mul60, nI_add, n1, n1]
    rw [is_dX, is_dM, is_pM]
    simp only [ix_n (show a + 2 * x < 60 by omega) (by omega), ix_n (show a + 2 * x + 1 < 60 by omega) (by omega), ix_n (show 60 * j + a + 2 * x < 240 by omega) (by omega), ix_n (show 60 * j + a + 2 * x + 1 < 240 by omega) (by omega), ix_n (show x < 20 by omega) (by omega), if_true, cl_n (show a + 2 * x < 2147483648 by omega), cl_n (show a + 2 * x + 1 < 2147483648 by omega), cl_n (show 60 * j + a + 2 * x < 2147483648 by omega), cl_n (show 60 * j + a + 2 * x + 1 < 2147483648 by omega), cl_n (show x < 2147483648 by omega), pk_us]
    have c1 : ce (60 * j + a + 2 * x) = Sc j (a + 2 * x) := by rw [(h j hj).2 _ (by omega)]; congr 1; omega
    have c2 : ce (60 * j + a + 2 * x + 1) = Sc j (a + 2 * x + 1) := by rw [(h j hj).2 _ (by omega)]; congr 1; omega
    rw [c1, c2]
    rcases pk_ix (Sc j (a + 2 * x)) (n := q) (by omega) with h0 | h0 | ⟨P, hP, e1⟩
    · rw [isX_n (Or.inl h0)]; exact ⟨_, _, _, _, rfl, rfl, fun z => absurd z (by decide)⟩
    · rw [isX_n (Or.inr h0)]; exact ⟨_, _, _, _, rfl, rfl, fun z => absurd z (by decide)⟩
    rw [e1, isX_y hP (by omega)]
    rcases pk_ix (Sc j (a + 2 * x + 1)) (n := n) (by omega) with h0 | h0 | ⟨J, hJ, e2⟩
    · rw [isX_n (Or.inl h0)]; exact ⟨_, _, _, _, rfl, rfl, fun z => absurd z (by decide)⟩
    · rw [isX_n (Or.inr h0)]; exact ⟨_, _, _, _, rfl, rfl, fun z => absurd z (by decide)⟩
    rw [e2, isX_y hJ (by omega)]
    simp only [bsm, show ¬ ((1 : Int32) = 0) by decide, if_false]
    rw [n2, n1, show a + 2 * x + 2 = a + 2 * (x + 1) by omega]
    refine ih (x + 1) g fa pr _ _ (by omega) (by omega) (fun y hy2 => ?_)
    by_cases e : y = x
    · subst e
      exact ⟨P, J, hP, hJ, e1, e2, pk_us, pk_us⟩
    · rw [pk_un e, pk_un e]
      exact hy y (by omega)
theorem q_lay (h : RS Sl Sn Sc so sl ce) {j n q m : Nat} (hj : j < 4) (hn : n ≤ 6) (hq : q ≤ 4) (hm : m ≤ 20) (fa la i pr : Int32) (who what : Nat → Int32) :
    ∃ r f2 pr2 who2 what2, f_X3_stopOfDays fa (nI n) (nI q) (Sl j) (Sn j) (Sc j) la i (nI m) = some (r, f2) ∧ f_X4_layDays fa (nI n) (nI q) pr so sl ce who what (nI j) la i (nI m) = some (r, f2, pr2, who2, what2) ∧ (r = 0 → ∃ a P J, i = nI a ∧ pr2 = nI m ∧ DY n q m a P J (Sc j) who2 what2) := by
  unfold f_X3_stopOfDays f_X4_layDays
  obtain ⟨r, e1, e2, e3⟩ := q_fault h hj la i (2 * nI m)
  rw [e1, e2]
  simp only [bsm]
  by_cases hr : r = 0
  · obtain ⟨l, N, a, b, hl, hN, y1, y2, y3, y4, y5⟩ := e3 hr
    have e : 2 * m = b := by
      rw [two] at y4
      by_cases hb : b < 2147483648
      · rw [eq_n (by omega) hb] at y4; exact y4
      · omega
    subst e
    subst y3
    rw [if_pos hr, if_pos hr]
    by_cases hq0 : nI q = 0
    · rw [if_pos hq0, if_pos hq0]
      exact ⟨_, _, _, _, _, rfl, rfl, fun z => absurd z (by decide)⟩
    · rw [if_neg hq0, if_neg hq0]
      obtain ⟨r', pr2, who2, what2, z1, z2, z3⟩ := lay_l h (la := la) (s1 := Sl j) (s2 := Sn j) hj hn hq hm (show a + 2 * m ≤ 60 by omega) m 0 99 fa pr who what (by omega) (by omega) (fun y hy => absurd hy (by omega))
      refine ⟨r', fa, pr2, who2, what2, z1, z2, fun z => ?_⟩
      obtain ⟨z4, z5⟩ := z3 z
      refine ⟨a, fun x => (who2 x).toNatClampNeg, fun x => (what2 x).toNatClampNeg, rfl, z4, by omega, fun x hx => ?_⟩
      obtain ⟨P, J, hP, hJ, g1, g2, g3, g4⟩ := z5 x hx
      have g5 : (who2 x).toNatClampNeg = P := by rw [g3]; exact cl_n (by omega)
      have g6 : (what2 x).toNatClampNeg = J := by rw [g4]; exact cl_n (by omega)
      simp only [g5, g6]
      exact ⟨hP, hJ, g1, g2, g3, g4⟩
  · rw [if_neg hr, if_neg hr]
    unfold f_X3_faulted f_X4_fails
    refine ⟨_, _, _, _, _, rfl, rfl, fun z => absurd z ?_⟩
    have h1 : r = 1 ∨ r = 2 ∨ r = 3 ∨ r = 4 := by
      unfold f_X0_faultOf at e1
      have hb : ∃ o, f_X0_isBare (Sl j) = some o := by unfold f_X0_isBare; split <;> exact ⟨_, rfl⟩
      obtain ⟨o, eo⟩ := hb
      rw [eo, bsm] at e1
      split at e1
      · split at e1
        · split at e1
          · have hh : ∃ o, f_X0_holds (Sn j) i (2 * nI m) = some o := by
              unfold f_X0_holds; repeat' split
              all_goals exact ⟨_, rfl⟩
            obtain ⟨o2, eo2⟩ := hh
            rw [eo2, bsm] at e1
            split at e1
            · exact Or.inr (Or.inr (Or.inl (Option.some.inj e1).symm))
            · exact absurd (Option.some.inj e1).symm hr
          · exact Or.inr (Or.inr (Or.inr (Option.some.inj e1).symm))
        · exact Or.inr (Or.inl (Option.some.inj e1).symm)
      · exact Or.inl (Option.some.inj e1).symm
    rcases h1 with e | e | e | e <;> rw [e] <;> decide
end
section
variable {n q : Nat} {T D : Nat → Nat} {w k d kn t w' k' d' kn' t' : Nat → Int32}
theorem live_l {m a : Nat} {P J : Nat → Nat} {c who what told : Nat → Int32} (hd : DY n q m a P J c who what) : ∀ r x fuel ca T t t', x + r = m → r < fuel → RT n q T D w k d kn t w' k' d' kn' t' → m ≤ 20 →
    ∃ r' ca2 t2 t2' T2, l_X3_liveDays_3 (nI n) (nI q) w k d kn c (nI a) (nI m) fuel (nI x, ca, t) = some (r', ca2, t2) ∧ l_X4_goDays_11 (nI n) (nI q) (nI m) w' k' d' kn' told who what fuel (nI x, ca, t') = some (r', ca2, t2') ∧ RT n q T2 D w k d kn t2 w' k' d' kn' t2' := by
  have ha := hd.1
  intro r
  induction r with
  | zero =>
    intro x fuel ca T t t' hx hf h hm
    obtain ⟨g, rfl⟩ : ∃ f, fuel = f + 1 := ⟨fuel - 1, by omega⟩
    rw [s_X3_liveDays_3, s_X4_goDays_11]; unfold b_X3_liveDays_3 b_X4_goDays_11
    rw [if_pos (by rw [le_n (by omega) (by omega)]; omega), if_pos (by rw [le_n (by omega) (by omega)]; omega)]
    exact ⟨_, _, _, _, _, rfl, rfl, h⟩
  | succ r ih =>
    intro x fuel ca T t t' hx hf h hm
    have hq := h.2.1
    obtain ⟨g, rfl⟩ : ∃ f, fuel = f + 1 := ⟨fuel - 1, by omega⟩
    obtain ⟨hP, hJ, c1, c2, c3, c4⟩ := hd.2 x (by omega)
    rw [s_X3_liveDays_3, s_X4_goDays_11]; unfold b_X3_liveDays_3 b_X4_goDays_11
    rw [if_neg (show ¬ nI m ≤ nI x by rw [le_n (by omega) (by omega)]; omega), if_neg (show ¬ nI m ≤ nI x by rw [le_n (by omega) (by omega)]; omega), two, nI_add, n1]
    simp only [ix_n (show a + 2 * x < 60 by omega) (by omega), ix_n (show a + 2 * x + 1 < 60 by omega) (by omega), ix_n (show x < 20 by omega) (by omega), if_true, cl_n (show a + 2 * x < 2147483648 by omega), cl_n (show a + 2 * x + 1 < 2147483648 by omega), cl_n (show x < 2147483648 by omega), c1, c2, c3, c4, ix_n (show P x < 4 by omega) (by omega), cl_n (show P x < 2147483648 by omega), h.tM hP hJ, b01, h.told hP hJ, bsm]
    by_cases ht : T (P x) / 2 ^ J x % 2 = 1
    · simp only [ht, if_true, show ¬ ((1 : Int32) = 0) by decide, if_false]
      exact ⟨_, _, _, _, _, rfl, rfl, h⟩
    · simp only [ht, if_false, if_true]
      obtain ⟨e, t2, t2', T2, he, hx1, hm1, hR, -⟩ := h.hear hP hJ ht ca
      rw [hx1, hm1]
      simp only [bsm, n1]
      rcases he with e0 | e0
      · subst e0
        rw [if_pos rfl]
        exact ih (x + 1) g _ _ _ _ (by omega) (by omega) hR hm
      · subst e0
        rw [if_neg (by decide)]
        exact ih (x + 1) g _ _ _ _ (by omega) (by omega) hR hm
theorem q_live (h : RT n q T D w k d kn t w' k' d' kn' t') {m a : Nat} {P J : Nat → Nat} {c who what : Nat → Int32} (hd : DY n q m a P J c who what) (hm : m ≤ 20) (cau : Int32) (th : Nat → Int32) :
    ∃ r ca2 t2 t2' T2, f_X3_liveDays (nI n) (nI q) 0 w k d kn t c (nI a) (nI m) = some (r, ca2, t2) ∧ f_X4_goDays (nI n) (nI q) (nI m) cau w' k' d' kn' t' th who what = some (r, ca2, t2') ∧ RT n q T2 D w k d kn t2 w' k' d' kn' t2' := by
  unfold f_X3_liveDays f_X4_goDays
  obtain ⟨th2, e1, e2⟩ := asNow_e h.2.1 t' th
  rw [e1, bsm]
  exact live_l hd m 0 99 0 T t th2 (by omega) (by omega) (h.then e2) hm
/-- the highest floor -/
theorem high_l (h : RT n q T D w k d kn t w' k' d' kn' t') {ca p : Int32} : ∀ r x fuel acc, x + r = q → r < fuel → ∃ r', l_X2_highestFloor_4 (nI n) (nI q) w k t fuel (acc, nI x) = some r' ∧ l_X4_tellDays_18 (nI n) (nI q) ca w' k' t' p fuel (acc, nI x) = some r' := by
  have hq := h.2.1
  intro r
  induction r with
  | zero =>
    intro x fuel acc hx hf
    obtain ⟨g, rfl⟩ : ∃ f, fuel = f + 1 := ⟨fuel - 1, by omega⟩
    rw [s_X2_highestFloor_4, s_X4_tellDays_18]; unfold b_X2_highestFloor_4 b_X4_tellDays_18
    rw [if_pos (by rw [le_n (by omega) (by omega)]; omega), if_pos (by rw [le_n (by omega) (by omega)]; omega)]
    exact ⟨_, rfl, rfl⟩
  | succ r ih =>
    intro x fuel acc hx hf
    obtain ⟨g, rfl⟩ : ∃ f, fuel = f + 1 := ⟨fuel - 1, by omega⟩
    rw [s_X2_highestFloor_4, s_X4_tellDays_18]; unfold b_X2_highestFloor_4 b_X4_tellDays_18
    rw [if_neg (show ¬ nI q ≤ nI x by rw [le_n (by omega) (by omega)]; omega), if_neg (show ¬ nI q ≤ nI x by rw [le_n (by omega) (by omega)]; omega), h.oX (show x < q by omega), if_pos (ix_n (show x < 4 by omega) (by omega)), cl_n (show x < 2147483648 by omega), h.oM (show x < q by omega)]
    simp only [bsm, n1]
    by_cases c : acc < Fl (k x) w (T x) n
    · rw [if_pos c, if_neg (show ¬ Fl (k x) w (T x) n ≤ acc by rw [i_nle]; exact c)]
      exact ih (x + 1) g _ (by omega) (by omega)
    · rw [if_neg c, if_pos (show Fl (k x) w (T x) n ≤ acc by rw [← i_nlt]; exact c)]
      exact ih (x + 1) g _ (by omega) (by omega)
/-- a question about days: 0, 1, 2, 10 .. 13, 20 .. 23, or refused by both -/
theorem ask_c (p : Int32) : (f_X3_isQuestion p = some 0 ∧ f_X4_within p 0 2 = some 0 ∧ f_X4_within p 10 13 = some 0 ∧ f_X4_within p 20 23 = some 0) ∨ (f_X3_isQuestion p = some 1 ∧ ((f_X4_within p 0 2 = some 1 ∧ (p = 0 ∨ p = 1 ∨ p = 2)) ∨ (f_X4_within p 0 2 = some 0 ∧ f_X4_within p 10 13 = some 1 ∧ ∃ x, x < 4 ∧ p = nI (10 + x)) ∨ (f_X4_within p 0 2 = some 0 ∧ f_X4_within p 10 13 = some 0 ∧ f_X4_within p 20 23 = some 1 ∧ ∃ x, x < 4 ∧ p = nI (20 + x)))) := by
  rcases pk_ix p (n := 24) (by omega) with h0 | h0 | ⟨x, hx, rfl⟩
  · left
    have a : ∀ c : Int32, 0 ≤ c → p < c := fun c hc => by
      rw [Int32.lt_iff_toInt_lt] at h0 ⊢
      rw [Int32.le_iff_toInt_le] at hc
      omega
    refine ⟨?_, with_n (Or.inl h0), with_n (Or.inl (a 10 (by decide))), with_n (Or.inl (a 20 (by decide)))⟩
    unfold f_X3_isQuestion
    rw [if_pos h0, if_pos (a 10 (by decide)), if_pos (a 20 (by decide))]
  · left
    have a : ∀ c : Int32, c ≤ 23 → c < p := fun c hc => by
      rw [Int32.le_iff_toInt_le] at h0 hc
      rw [Int32.lt_iff_toInt_lt]
      have a1 : (nI 24).toInt = 24 := by decide
      have a2 : (23 : Int32).toInt = 23 := by decide
      omega
    have b : ∀ c : Int32, c ≤ 23 → ¬ p < c := fun c hc h => by
      have := a c hc
      rw [Int32.lt_iff_toInt_lt] at h this
      omega
    refine ⟨?_, with_n (Or.inr (a 2 (by decide))), with_n (Or.inr (a 13 (by decide))), with_n (Or.inr (a 23 (by decide)))⟩
    unfold f_X3_isQuestion
    rw [if_neg (b 0 (by decide)), if_neg (show ¬ p ≤ 2 by rw [i_nle]; exact a 2 (by decide)), if_neg (b 10 (by decide)), if_neg (b 14 (by decide)), if_neg (b 20 (by decide)), if_pos (show (24 : Int32) ≤ p from h0)]
  · have hh : ∀ x, x < 24 → (f_X3_isQuestion (nI x) = some 0 ∧ f_X4_within (nI x) 0 2 = some 0 ∧ f_X4_within (nI x) 10 13 = some 0 ∧ f_X4_within (nI x) 20 23 = some 0) ∨ (f_X3_isQuestion (nI x) = some 1 ∧ ((f_X4_within (nI x) 0 2 = some 1 ∧ x < 3) ∨ (f_X4_within (nI x) 0 2 = some 0 ∧ f_X4_within (nI x) 10 13 = some 1 ∧ 10 ≤ x ∧ x < 14) ∨ (f_X4_within (nI x) 0 2 = some 0 ∧ f_X4_within (nI x) 10 13 = some 0 ∧ f_X4_within (nI x) 20 23 = some 1 ∧ 20 ≤ x))) := by decide +kernel
    rcases hh x hx with h1 | ⟨h1, ⟨h2, h3⟩ | ⟨h2, h3, h4, h5⟩ | ⟨h2, h3, h4, h5⟩⟩
    · exact Or.inl h1
    · refine Or.inr ⟨h1, Or.inl ⟨h2, ?_⟩⟩
      rcases (show x = 0 ∨ x = 1 ∨ x = 2 by omega) with e | e | e
      · subst e; exact Or.inl (by decide)
      · subst e; exact Or.inr (Or.inl (by decide))
      · subst e; exact Or.inr (Or.inr (by decide))
    · exact Or.inr ⟨h1, Or.inr (Or.inl ⟨h2, h3, x - 10, by omega, by congr 1; omega⟩)⟩
    · exact Or.inr ⟨h1, Or.inr (Or.inr ⟨h2, h3, h4, x - 20, by omega, by congr 1; omega⟩)⟩
theorem ten : ∀ x, x < 4 → nI (10 + x) - 10 = nI x ∧ nI (10 + x) - nI (10 + x) / 10 * 10 = nI x ∧ nI (10 + x) < 20 ∧ ¬ nI (10 + x) = 0 ∧ ¬ nI (10 + x) = 2 ∧ ¬ 20 ≤ nI (10 + x) ∧ ¬ nI (10 + x) = 1 := by decide +kernel
theorem twenty : ∀ x, x < 4 → nI (20 + x) - 20 = nI x ∧ nI (20 + x) - nI (20 + x) / 10 * 10 = nI x ∧ ¬ nI (20 + x) < 20 ∧ ¬ nI (20 + x) = 0 ∧ ¬ nI (20 + x) = 2 ∧ 20 ≤ nI (20 + x) ∧ ¬ nI (20 + x) = 1 := by decide +kernel
theorem q_answer (h : RT n q T D w k d kn t w' k' d' kn' t') (ca : Int32) {p : Int32} (hp : p = 0 ∨ p = 2 ∨ (∃ x, x < 4 ∧ p = nI (10 + x)) ∨ ∃ x, x < 4 ∧ p = nI (20 + x)) : ∃ r, f_X3_answerOfTrial (nI n) (nI q) ca w k t p = some r ∧ f_X4_tellDays (nI n) (nI q) ca w' k' t' p = some r := by
  have hq := h.2.1
  unfold f_X3_answerOfTrial f_X4_tellDays
  rw [is_pM]
  rcases hp with rfl | rfl | ⟨x, hx, rfl⟩ | ⟨x, hx, rfl⟩
  · exact ⟨_, rfl, rfl⟩
  · rw [if_neg (by decide), if_pos rfl, if_neg (by decide), if_pos rfl]
    unfold f_X2_highestFloor
    obtain ⟨r, e1, e2⟩ := high_l h (ca := ca) (p := 2) q 0 99 0 (by omega) (by omega)
    have e1' : l_X2_highestFloor_4 (nI n) (nI q) w k t 99 (0, 0) = some r := e1
    rw [e1']
    exact ⟨r, rfl, e2⟩
  · obtain ⟨a1, a2, a3, a4, a5, a6, -⟩ := ten x hx
    rw [a1, a2]
    simp only [a3, a4, a5, a6, if_true, if_false]
    rcases Nat.lt_or_ge x q with hxq | hxq
    · rw [isX_y hxq (by omega)]
      simp only [bsm, show ¬ ((1 : Int32) = 0) by decide, if_false, ix_n (show x < 4 by omega) (by omega), if_true, cl_n (show x < 2147483648 by omega), h.oX hxq, h.oM hxq]
      exact ⟨_, rfl, rfl⟩
    · rw [isX_n (Or.inr (by rw [le_n (by omega) (by omega)]; exact hxq))]
      exact ⟨_, rfl, rfl⟩
  · obtain ⟨a1, a2, a3, a4, a5, a6, -⟩ := twenty x hx
    rw [a1, a2]
    simp only [a3, a4, a5, a6, if_true, if_false]
    rcases Nat.lt_or_ge x q with hxq | hxq
    · rw [isX_y hxq (by omega)]
      simp only [bsm, show ¬ ((1 : Int32) = 0) by decide, if_false, ix_n (show x < 4 by omega) (by omega), if_true, cl_n (show x < 2147483648 by omega), (h.2.2.2 x hxq).2.2.1.2.1, (h.2.2.2 x hxq).2.2.1.2.2]
      exact ⟨_, rfl, rfl⟩
    · rw [isX_n (Or.inr (by rw [le_n (by omega) (by omega)]; exact hxq))]
      exact ⟨_, rfl, rfl⟩
end
