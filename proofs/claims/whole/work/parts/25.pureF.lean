/-! PURE 6: days, and guesses by days -/
theorem len_c (p : Int32) : (f_X3_isDaysLength p = some 0 ∧ f_X4_within p 0 20 = some 0) ∨ (f_X3_isDaysLength p = some 1 ∧ f_X4_within p 0 20 = some 1 ∧ ∃ m, m ≤ 20 ∧ p = nI m) := by
  unfold f_X3_isDaysLength
  by_cases c1 : p < 0
  · rw [if_pos c1, with_n (Or.inl c1)]; exact Or.inl ⟨rfl, rfl⟩
  by_cases c2 : 20 < p
  · rw [if_neg c1, if_pos c2, with_n (Or.inr c2)]; exact Or.inl ⟨rfl, rfl⟩
  · rw [if_neg c1, if_neg c2, with_y c1 c2]
    obtain ⟨m, hm, e⟩ := nI_of2 (M := 20) (n := 20) (by decide) c1 (by rw [← i_nlt]; exact c2)
    exact Or.inr ⟨rfl, rfl, m, hm, e⟩
theorem row_c (p2 p4 : Int32) : (f_X3_isLane p2 = some 0 ∧ f_X4_isRow p2 p4 = some 0) ∨ (f_X3_isLane p2 = some 1 ∧ f_X3_isDaysLength p4 = some 0 ∧ f_X4_isRow p2 p4 = some 0) ∨ (f_X3_isLane p2 = some 1 ∧ f_X3_isDaysLength p4 = some 1 ∧ f_X4_isRow p2 p4 = some 1 ∧ ∃ m, m ≤ 20 ∧ p4 = nI m) := by
  unfold f_X4_isRow
  rw [lane_e]
  rcases lane_c p2 with e | ⟨e, -⟩
  · rw [e]; exact Or.inl ⟨rfl, rfl⟩
  · rw [e]
    rcases len_c p4 with ⟨e1, e2⟩ | ⟨e1, e2, h⟩
    · rw [e1, e2]; exact Or.inr (Or.inl ⟨rfl, rfl, rfl⟩)
    · rw [e1, e2]; exact Or.inr (Or.inr ⟨rfl, rfl, rfl, h⟩)
section
variable {n q : Nat} {T D : Nat → Nat} {w k d kn t w' k' d' kn' t' : Nat → Int32}
theorem bec (a b c : Int32) (Tw Tk Td Tn Tt : Nat → Int32) (x y : Int32) (w k d kn t : Nat → Int32) : ∃ w2 k2 d2 kn2 t2, f_X2_become a b c Tw Tk Td Tn Tt x y w k d kn t = some (x, y, 0, w2, k2, d2, kn2, t2) ∧ (∀ i, i < 6 → w2 i = w i) ∧ ∀ i, i < 4 → k2 i = k i ∧ d2 i = d i ∧ kn2 i = kn i ∧ t2 i = t i := by
  refine ⟨_, _, _, _, _, rfl, fun i hi => ?_, fun i hi => ?_⟩
  · rw [show (0 : Int32).toNatClampNeg = 0 by decide, show (6 : Int32).toNatClampNeg = 6 by decide, pk_cpy_in (by omega) (by omega)]
    congr 1; omega
  · rw [show (0 : Int32).toNatClampNeg = 0 by decide, show (4 : Int32).toNatClampNeg = 4 by decide]
    simp only [pk_cpy_in (show 0 ≤ i by omega) (show i < 0 + 4 by omega), Nat.zero_add, Nat.sub_zero]
    exact ⟨trivial, trivial, trivial, trivial⟩
theorem RT.left (h : RT n q T D w k d kn t w' k' d' kn' t') {w2 k2 d2 kn2 t2 : Nat → Int32} (hw : ∀ i, i < 6 → w2 i = w i) (hk : ∀ i, i < 4 → k2 i = k i ∧ d2 i = d i ∧ kn2 i = kn i ∧ t2 i = t i) : RT n q T D w2 k2 d2 kn2 t2 w' k' d' kn' t' := by
  have hn := h.1
  have hq := h.2.1
  refine ⟨h.1, h.2.1, fun i hi => by rw [hw i (by omega)]; exact h.2.2.1 i hi, fun i hi => ?_⟩
  obtain ⟨a1, a2, a3, a4⟩ := hk i (by omega)
  rw [a1, a2, a3, a4]
  exact h.2.2.2 i hi
theorem RT.setw (h : RT n q T D w k d kn t w' k' d' kn' t') {w3 : Nat → Int32} (j : Nat) (v : Int32) (hw : ∀ i, i < n → i ≠ j → w3 i = w' i) : RT n q T D (upd w j v) k d kn t (upd w3 j v) k' d' kn' t' := by
  refine ⟨h.1, h.2.1, fun i hi => ?_, h.2.2.2⟩
  by_cases e : i = j
  · rw [e, pk_us, pk_us]
  · rw [pk_un e, pk_un e, hw i hi e]; exact h.2.2.1 i hi
theorem RT.setk (h : RT n q T D w k d kn t w' k' d' kn' t') {k3 : Nat → Int32} (j : Nat) {v : Int32} (hv : v = 0 ∨ v = 1 ∨ v = 2) (hw : ∀ i, i < q → i ≠ j → k3 i = k' i) : RT n q T D w (upd k j v) d kn t w' (upd k3 j v) d' kn' t' := by
  refine ⟨h.1, h.2.1, h.2.2.1, fun i hi => ?_⟩
  obtain ⟨a1, a2⟩ := h.2.2.2 i hi
  refine ⟨?_, a2⟩
  by_cases e : i = j
  · rw [e, pk_us, pk_us]; exact ⟨rfl, hv⟩
  · rw [pk_un e, pk_un e, hw i hi e]; exact a1
theorem RT.setn (h : RT n q T D w k d kn t w' k' d' kn' t') {n3 : Nat → Int32} (j : Nat) (v : Int32) (hw : ∀ i, i < q → i ≠ j → n3 i = kn' i) : RT n q T D w k d (upd kn j v) t w' k' d' (upd n3 j v) t' := by
  refine ⟨h.1, h.2.1, h.2.2.1, fun i hi => ?_⟩
  obtain ⟨a1, a2, a3⟩ := h.2.2.2 i hi
  refine ⟨a1, ?_, a3⟩
  by_cases e : i = j
  · rw [e, pk_us, pk_us]
  · rw [pk_un e, pk_un e, hw i hi e]; exact a2
theorem so_l {m : Nat} {rp rf rp' rf' : Nat → Int32} (hr : RR q m rp rf rp' rf') (h : RT n q T D w k d kn t w' k' d' kn' t') {pr : Int32} {told who what : Nat → Int32} {ca : Int32} : ∀ r x fuel, x + r = m → r < fuel → ∃ r', l_X3_readingsAreSo_2 (nI m) rp rf (nI n) w k t fuel (nI x) = some r' ∧ l_X4_areSo_13 (nI n) (nI q) pr (nI m) w' k' d' kn' told who what rp' rf' fuel (nI x, ca, t') = some (r', ca, t') := by
  have hm := hr.1
  have hq := h.2.1
  intro r
  induction r with
  | zero =>
    intro x fuel hx hf
    obtain ⟨g, rfl⟩ : ∃ f, fuel = f + 1 := ⟨fuel - 1, by omega⟩
    rw [s_X3_readingsAreSo_2, s_X4_areSo_13]; unfold b_X3_readingsAreSo_2 b_X4_areSo_13
    rw [if_pos (by rw [le_n (by omega) (by omega)]; omega), if_pos (by rw [le_n (by omega) (by omega)]; omega)]
    exact ⟨_, rfl, rfl⟩
  | succ r ih =>
    intro x fuel hx hf
    obtain ⟨g, rfl⟩ : ∃ f, fuel = f + 1 := ⟨fuel - 1, by omega⟩
    obtain ⟨e1, e2, j, hj, e3⟩ := hr.2 x (by omega)
    rw [s_X3_readingsAreSo_2, s_X4_areSo_13]; unfold b_X3_readingsAreSo_2 b_X4_areSo_13
    rw [if_neg (show ¬ nI m ≤ nI x by rw [le_n (by omega) (by omega)]; omega), if_neg (show ¬ nI m ≤ nI x by rw [le_n (by omega) (by omega)]; omega)]
    simp only [ix_n (show x < 8 by omega) (by omega), if_true, cl_n (show x < 2147483648 by omega), ← e1, ← e2, e3, ix_n (show j < 4 by omega) (by omega), cl_n (show j < 2147483648 by omega), h.oX hj, h.oM hj, bsm, n1]
    split
    · exact ih (x + 1) g (by omega) (by omega)
    · exact ⟨_, rfl, rfl⟩
/-- one guess: the days, then the readings -/
theorem q_guess (h : RT n q T D w k d kn t w' k' d' kn' t') {m a : Nat} {P J : Nat → Nat} {c who what : Nat → Int32} (hd : DY n q m a P J c who what) (hm : m ≤ 20) {z : Nat} {rp rf rp' rf' : Nat → Int32} (hr : RR q z rp rf rp' rf') (cau : Int32) (th : Nat → Int32) :
    ∃ r ca2 t2 so ca3 th3, f_X3_liveDays (nI n) (nI q) 0 w k d kn t c (nI a) (nI m) = some (r, ca2, t2) ∧ (r = -9 → f_X3_readingsAreSo (nI z) rp rf (nI n) w k t2 = some so) ∧ (¬ r = -9 → so = 0) ∧ f_X4_areSo (nI n) (nI q) (nI m) cau (nI z) w' k' d' kn' t' th who what rp' rf' = some (so, ca3, th3) := by
  obtain ⟨r, ca2, t2, t2', T2, e1, e2, hR⟩ := q_live h hd hm cau th
  unfold f_X4_areSo
  rw [e2, bsm]
  by_cases hr9 : r = -9
  · have hz := hr.1
    obtain ⟨so, e3, e4⟩ := so_l hr hR (pr := nI m) (told := t') (who := who) (what := what) (ca := ca2) z 0 99 (by omega) (by omega)
    refine ⟨r, ca2, t2, so, ca2, t2', e1, fun _ => e3, fun z => absurd hr9 z, ?_⟩
    show (if r = -9 then _ else _) = _
    rw [if_pos hr9]
    exact e4
  · refine ⟨r, ca2, t2, 0, ca2, t2', e1, fun z => absurd z hr9, fun _ => rfl, ?_⟩
    show (if r = -9 then _ else _) = _
    rw [if_neg hr9]
section
variable {Sl Sn : Nat → Int32} {Sc : Nat → Nat → Int32} {so sl ce : Nat → Int32}
theorem q_days (h : RT n q T D w k d kn t w' k' d' kn' t') (hs : RS Sl Sn Sc so sl ce) {p1 : Int32} {j : Nat} (hp : Sp p1 j) (fa : Int32) (Ta Tb Tc : Int32) (Tw Tk Td Tn Tt : Nat → Int32) (pr cau : Int32) (th who what : Nat → Int32) (p2 p3 p4 p5 : Int32) :
    ∃ o o', f_X3_days fa (nI n) (nI q) w k d kn t Ta Tb Tc Tw Tk Td Tn Tt (Sl j) (Sn j) (Sc j) p1 p2 p3 p4 p5 = some o ∧ f_X4_days fa (nI n) (nI q) pr cau so sl ce w' k' d' kn' t' th who what p1 p2 p3 p4 p5 = some o' ∧ o.1 = o'.1 ∧ o.2.1 = o'.2.1 := by
  have hn := h.1
  have hq := h.2.1
  obtain ⟨hj, hp⟩ := hp
  unfold f_X3_days f_X4_days
  rcases hp with hp | rfl
  · rw [shX_n hp, shM_n hp]
    exact ⟨_, _, rfl, rfl, rfl, rfl⟩
  rw [shX_y hj, shM_y hj]
  rcases row_c p2 p4 with ⟨e1, e2⟩ | ⟨e1, e3, e2⟩ | ⟨e1, e3, e2, m, hm, rfl⟩
  · rw [e1, e2]; exact ⟨_, _, rfl, rfl, rfl, rfl⟩
  · rw [e1, e2, e3]; exact ⟨_, _, rfl, rfl, rfl, rfl⟩
  rw [e1, e2, e3]
  simp only [bsm, show ¬ ((1 : Int32) = 0) by decide, if_false, ix_n (show j < 4 by omega) (by omega), if_true]
  obtain ⟨r, f2, pr2, who2, what2, y1, y2, y3⟩ := q_lay hs hj hn hq hm 0 p2 p3 pr who what
  obtain ⟨w2, k2, d2, kn2, t2, z1, z2, z3⟩ := bec Ta Tb Tc Tw Tk Td Tn Tt (nI n) (nI q) w k d kn t
  have h2 := h.left z2 z3
  rw [y1, y2, z1]
  simp only [bsm]
  -- the common end of the three roads of the model
  have fin : p5 = 0 ∨ p5 = 1 ∨ p5 = 2 ∨ (∃ x, x < 4 ∧ p5 = nI (10 + x)) ∨ (∃ x, x < 4 ∧ p5 = nI (20 + x)) →
      ∃ o o', (if r = 0 then ((f_X3_liveDays (nI n) (nI q) 0 w2 k2 d2 kn2 t2 (Sc j) p3 (nI m)).bind fun o20 => (if p5 = 1 then (some (o20.1, f2, nI n, nI q, o20.2.1, w2, k2, d2, kn2, o20.2.2)) else (if o20.1 = (-9) then ((f_X3_answerOfTrial (nI n) (nI q) o20.2.1 w2 k2 o20.2.2 p5).bind fun o24 => (some (o24, f2, nI n, nI q, o20.2.1, w2, k2, d2, kn2, o20.2.2))) else (some (((-100) - o20.1), f2, nI n, nI q, o20.2.1, w2, k2, d2, kn2, o20.2.2))))) else (some (r, f2, Ta, Tb, Tc, Tw, Tk, Td, Tn, Tt))) = some o ∧
      (if r = 0 then ((f_X4_goDays (nI n) (nI q) pr2 cau w' k' d' kn' t' th who2 what2).bind fun o37 => (if p5 = 1 then (some (o37.1, f2, pr2, o37.2.1, o37.2.2, who2, what2)) else (if o37.1 = (-9) then ((f_X4_tellDays (nI n) (nI q) o37.2.1 w' k' o37.2.2 p5).bind fun o41 => (some (o41, f2, pr2, o37.2.1, o37.2.2, who2, what2))) else (some (((-100) - o37.1), f2, pr2, o37.2.1, o37.2.2, who2, what2))))) else (some (r, f2, pr2, cau, th, who2, what2))) = some o' ∧ o.1 = o'.1 ∧ o.2.1 = o'.2.1 := by
    intro hp5
    by_cases hr : r = 0
    · rw [if_pos hr, if_pos hr]
      obtain ⟨a, P, J, rfl, rfl, hd⟩ := y3 hr
      obtain ⟨r2, ca2, t3, t3', T3, g1, g2, hR⟩ := q_live h2 hd hm cau th
      rw [g1, g2]
      simp only [bsm]
      by_cases c1 : p5 = 1
      · rw [if_pos c1, if_pos c1]; exact ⟨_, _, rfl, rfl, rfl, rfl⟩
      rw [if_neg c1, if_neg c1]
      by_cases c2 : r2 = -9
      · rw [if_pos c2, if_pos c2]
        obtain ⟨o, x1, x2⟩ := q_answer hR ca2 (p := p5) (by
          rcases hp5 with e | e | e | e | e
          · exact Or.inl e
          · exact absurd e c1
          · exact Or.inr (Or.inl e)
          · exact Or.inr (Or.inr (Or.inl e))
          · exact Or.inr (Or.inr (Or.inr e)))
        rw [x1, x2]
        exact ⟨_, _, rfl, rfl, rfl, rfl⟩
      · rw [if_neg c2, if_neg c2]; exact ⟨_, _, rfl, rfl, rfl, rfl⟩
    · rw [if_neg hr, if_neg hr]; exact ⟨_, _, rfl, rfl, rfl, rfl⟩
  rcases ask_c p5 with ⟨q1, q2, q3, q4⟩ | ⟨q1, ⟨q2, q3⟩ | ⟨q2, q3, q4⟩ | ⟨q2, q3, q4, q5⟩⟩
  · rw [q1, q2, q3, q4]; exact ⟨_, _, rfl, rfl, rfl, rfl⟩
  · rw [q1, q2]
    simp only [bsm, show ¬ ((1 : Int32) = 0) by decide, if_false]
    refine fin ?_
    rcases q3 with e | e | e
    · exact Or.inl e
    · exact Or.inr (Or.inl e)
    · exact Or.inr (Or.inr (Or.inl e))
  · rw [q1, q2, q3]
    simp only [bsm, show ¬ ((1 : Int32) = 0) by decide, if_false, if_true]
    exact fin (Or.inr (Or.inr (Or.inr (Or.inl q4))))
  · rw [q1, q2, q3, q4]
    simp only [bsm, show ¬ ((1 : Int32) = 0) by decide, if_false, if_true]
    exact fin (Or.inr (Or.inr (Or.inr (Or.inr q5))))
/-- what stops a guess, in both -/
theorem q_stop (hs : RS Sl Sn Sc so sl ce) (hn : n ≤ 6) (hq : q ≤ 4) {p2 : Int32} {j : Nat} (hp : Sp p2 j) (fa o1 p3 p4 p5 pr : Int32) (who what : Nat → Int32) :
    ∃ r f2 pr2 who2 what2, f_X3_stopOfGuess fa (nI n) (nI q) (Sl j) (Sn j) (Sc j) o1 p2 p3 p4 p5 = some (r, f2) ∧ f_X4_lay fa (nI n) (nI q) pr so sl ce who what o1 p2 p3 p4 p5 = some (r, f2, pr2, who2, what2) ∧ (r = 0 → ¬ o1 = 0 ∧ p2 = nI j ∧ ∃ m a P J, m ≤ 20 ∧ p5 = nI m ∧ p4 = nI a ∧ pr2 = nI m ∧ DY n q m a P J (Sc j) who2 what2) := by
  obtain ⟨hj, hp⟩ := hp
  unfold f_X3_stopOfGuess f_X4_lay
  by_cases c1 : o1 = 0
  · rw [if_pos c1, if_pos c1]; exact ⟨_, _, _, _, _, rfl, rfl, fun z => absurd z (by decide)⟩
  rw [if_neg c1, if_neg c1]
  rcases hp with hp | rfl
  · rw [shX_n hp, shM_n hp]
    exact ⟨_, _, _, _, _, rfl, rfl, fun z => absurd z (by decide)⟩
  rw [shX_y hj, shM_y hj]
  rcases row_c p3 p5 with ⟨e1, e2⟩ | ⟨e1, e3, e2⟩ | ⟨e1, e3, e2, m, hm, rfl⟩
  · rw [e1, e2]; exact ⟨_, _, _, _, _, rfl, rfl, fun z => absurd z (by decide)⟩
  · rw [e1, e2, e3]; exact ⟨_, _, _, _, _, rfl, rfl, fun z => absurd z (by decide)⟩
  rw [e1, e2, e3]
  simp only [bsm, show ¬ ((1 : Int32) = 0) by decide, if_false, ix_n (show j < 4 by omega) (by omega), if_true]
  obtain ⟨r, f2, pr2, who2, what2, y1, y2, y3⟩ := q_lay hs hj hn hq hm 0 p3 p4 pr who what
  rw [y1, y2]
  refine ⟨_, _, _, _, _, rfl, rfl, fun z => ⟨c1, trivial, ?_⟩⟩
  obtain ⟨a, P, J, b1, b2, b3⟩ := y3 z
  exact ⟨m, a, P, J, hm, rfl, b1, b2, b3⟩
end
end
