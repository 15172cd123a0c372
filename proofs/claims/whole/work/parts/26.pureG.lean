/-! PURE 7: guesses (by wip/whole/gen_guess.py) -/
section
variable {n q : Nat} {T D : Nat → Nat} {w k d kn t w' k' d' kn' t' : Nat → Int32}
theorem weights_l (h : RT n q T D w k d kn t w' k' d' kn' t') {z : Nat} {rp rf rp' rf' : Nat → Int32} (hr : RR q z rp rf rp' rf') {m a : Nat} {P J : Nat → Nat} {c who what : Nat → Int32} (hd : DY n q m a P J c who what) (hm : m ≤ 20) {jd j : Nat} (hjd : jd < n) (hj : j < 4) {s1 s2 p3 fa was : Int32} {so sl ce : Nat → Int32} :
    ∀ r v fuel acc Ta Tb Tc Tw Tk Td Tn Tt cau W3 th, v + r = 10 → r < fuel → (∀ i, i < n → i ≠ jd → W3 i = w' i) →
    ∃ o o', l_X3_weights_34 (nI z) rp rf (nI n) (nI q) w k d kn t s1 s2 c (nI jd) (nI j) p3 (nI a) (nI m) fuel (acc, nI v, fa, Ta, Tb, Tc, Tw, Tk, Td, Tn, Tt) = some o ∧ l_X4_weights_39 (nI n) (nI q) (nI z) so sl ce k' d' kn' t' rp' rf' (nI jd) (nI j) p3 (nI a) (nI m) fuel (was, acc, nI v, fa, nI m, cau, W3, th, who, what) = some o' ∧ o.1 = o'.1 ∧ o.2.1 = o'.2.1 ∧ (∀ i, i < n → i ≠ jd → o'.2.2.2.2.1 i = w' i) ∧ o'.2.2.2.2.1 jd = was := by
  have hn := h.1
  have hq := h.2.1
  intro r
  induction r with
  | zero =>
    intro v fuel acc Ta Tb Tc Tw Tk Td Tn Tt cau W3 th hv hf hW
    obtain ⟨g, rfl⟩ : ∃ f, fuel = f + 1 := ⟨fuel - 1, by omega⟩
    have e : v = 10 := by omega
    subst e
    rw [s_X3_weights_34, s_X4_weights_39]; unfold b_X3_weights_34 b_X4_weights_39
    rw [if_pos (show (9 : Int32) < nI 10 by decide), if_pos (show (9 : Int32) < nI 10 by decide), if_pos (ix_n (show jd < 6 by omega) (by omega)), cl_n (show jd < 2147483648 by omega)]
    exact ⟨_, _, rfl, rfl, rfl, rfl, fun i hi hne => (pk_un (f := W3) (x := was) hne).trans (hW i hi hne), pk_us⟩
  | succ r ih =>
    intro v fuel acc Ta Tb Tc Tw Tk Td Tn Tt cau W3 th hv hf hW
    obtain ⟨g, rfl⟩ : ∃ f, fuel = f + 1 := ⟨fuel - 1, by omega⟩
    rw [s_X3_weights_34, s_X4_weights_39]; unfold b_X3_weights_34 b_X4_weights_39
    rw [if_neg (show ¬ (9 : Int32) < nI v by show ¬ nI 9 < nI v; rw [lt_n (by omega) (by omega)]; omega), if_neg (show ¬ (9 : Int32) < nI v by show ¬ nI 9 < nI v; rw [lt_n (by omega) (by omega)]; omega)]
    obtain ⟨w2, k2, d2, kn2, t2, z1, z2, z3⟩ := bec Ta Tb Tc Tw Tk Td Tn Tt (nI n) (nI q) w k d kn t
    rw [z1]
    simp only [bsm, ix_n (show jd < 6 by omega) (by omega), ix_n (show j < 4 by omega) (by omega), if_true, cl_n (show jd < 2147483648 by omega)]
    have h2 := (h.left z2 z3).setw jd (nI v) hW
    obtain ⟨r2, ca2, t3, sv, ca3, th3, g1, g2, g3, g4⟩ := q_guess h2 hd hm hr cau th
    rw [g1, g4]
    simp only [bsm]
    have hW2 : ∀ i, i < n → i ≠ jd → upd W3 jd (nI v) i = w' i := fun i hi hne => by rw [pk_un hne]; exact hW i hi hne
    by_cases hr9 : r2 = -9
    · rw [if_pos hr9, g2 hr9]
      simp only [bsm]
      by_cases hs0 : sv = 0
      · rw [if_pos hs0, if_pos hs0, or0, n1]
        exact ih (v + 1) g _ _ _ _ _ _ _ _ _ _ _ _ (by omega) (by omega) hW2
      · rw [if_neg hs0, if_neg hs0, n1]
        exact ih (v + 1) g _ _ _ _ _ _ _ _ _ _ _ _ (by omega) (by omega) hW2
    · rw [if_neg hr9, if_pos (g3 hr9), or0, n1]
      exact ih (v + 1) g _ _ _ _ _ _ _ _ _ _ _ _ (by omega) (by omega) hW2
theorem q_weights (h : RT n q T D w k d kn t w' k' d' kn' t') {Sl Sn : Nat → Int32} {Sc : Nat → Nat → Int32} {so sl ce : Nat → Int32} (hs : RS Sl Sn Sc so sl ce) {z : Nat} {rp rf rp' rf' : Nat → Int32} (hr : RR q z rp rf rp' rf') {p2 : Int32} {j : Nat} (hp : Sp p2 j) (fa : Int32) (Ta Tb Tc : Int32) (Tw Tk Td Tn Tt : Nat → Int32) (pr cau : Int32) (th who what : Nat → Int32) (p1 p3 p4 p5 : Int32) :
    ∃ o o', f_X3_weights (nI z) fa rp rf (nI n) (nI q) w k d kn t Ta Tb Tc Tw Tk Td Tn Tt (Sl j) (Sn j) (Sc j) p1 p2 p3 p4 p5 = some o ∧ f_X4_weights fa (nI n) (nI q) pr cau (nI z) so sl ce w' k' d' kn' t' th who what rp' rf' p1 p2 p3 p4 p5 = some o' ∧ o.1 = o'.1 ∧ o.2.1 = o'.2.1 ∧ RT n q T D w k d kn t o'.2.2.2.2.1 k' d' kn' t' := by
  have hn := h.1
  have hq := h.2.1
  unfold f_X3_weights f_X4_weights
  rw [is_dX, is_dM]
  have hgo : ∃ o1, f_X2_isPerson (nI n) p1 = some o1 ∧ (¬ o1 = 0 → ∃ jd, jd < n ∧ p1 = nI jd) := by
    rcases pk_ix p1 (n := n) (by omega) with h0 | h0 | ⟨jd, hjd, e⟩
    · exact ⟨0, isX_n (Or.inl h0), fun z => absurd rfl z⟩
    · exact ⟨0, isX_n (Or.inr h0), fun z => absurd rfl z⟩
    · exact ⟨1, by rw [e]; exact isX_y hjd (by omega), fun _ => ⟨jd, hjd, e⟩⟩
  obtain ⟨o1, e1, e2⟩ := hgo
  rw [e1]
  simp only [bsm]
  obtain ⟨r, f2, pr2, who2, what2, y1, y2, y3⟩ := q_stop hs hn hq hp fa o1 p3 p4 p5 pr who what
  rw [y1, y2]
  simp only [bsm]
  by_cases hr0 : r = 0
  · obtain ⟨a1, a2, m, a, P, J, hm, a3, a4, a5, hd⟩ := y3 hr0
    obtain ⟨jd, hjd, a6⟩ := e2 a1
    subst a6; subst a2; subst a3; subst a4; subst a5
    rw [if_pos hr0, if_pos hr0, if_pos (ix_n (show jd < 6 by omega) (by omega)), cl_n (show jd < 2147483648 by omega)]
    obtain ⟨o, o', x1, x2, x3, x4, x5, x6⟩ := weights_l h hr hd hm hjd hp.1 (s1 := Sl j) (s2 := Sn j) (p3 := p3) (fa := f2) (was := w' jd) (so := so) (sl := sl) (ce := ce) 9 1 99 0 Ta Tb Tc Tw Tk Td Tn Tt cau w' th (by omega) (by omega) (fun _ _ _ => rfl)
    refine ⟨o, o', x1, x2, x3, x4, ?_⟩
    have hall : ∀ i, i < n → o'.2.2.2.2.1 i = w' i := fun i hi => by
      by_cases e : i = jd
      · rw [e]; exact x6
      · exact x5 i hi e
    exact ⟨h.1, h.2.1, fun i hi => by rw [hall i hi]; exact h.2.2.1 i hi, h.2.2.2⟩
  · rw [if_neg hr0, if_neg hr0]
    exact ⟨_, _, rfl, rfl, rfl, rfl, h⟩

theorem kinds_l (h : RT n q T D w k d kn t w' k' d' kn' t') {z : Nat} {rp rf rp' rf' : Nat → Int32} (hr : RR q z rp rf rp' rf') {m a : Nat} {P J : Nat → Nat} {c who what : Nat → Int32} (hd : DY n q m a P J c who what) (hm : m ≤ 20) {jd j : Nat} (hjd : jd < q) (hj : j < 4) {s1 s2 p3 fa was : Int32} {so sl ce : Nat → Int32} :
    ∀ r v fuel acc Ta Tb Tc Tw Tk Td Tn Tt cau W3 th, v + r = 3 → r < fuel → (∀ i, i < q → i ≠ jd → W3 i = k' i) →
    ∃ o o', l_X3_kinds_34 (nI z) rp rf (nI n) (nI q) w k d kn t s1 s2 c (nI jd) (nI j) p3 (nI a) (nI m) fuel (acc, nI v, fa, Ta, Tb, Tc, Tw, Tk, Td, Tn, Tt) = some o ∧ l_X4_kinds_39 (nI n) (nI q) (nI z) so sl ce w' d' kn' t' rp' rf' (nI jd) (nI j) p3 (nI a) (nI m) fuel (was, acc, nI v, fa, nI m, cau, W3, th, who, what) = some o' ∧ o.1 = o'.1 ∧ o.2.1 = o'.2.1 ∧ (∀ i, i < q → i ≠ jd → o'.2.2.2.2.1 i = k' i) ∧ o'.2.2.2.2.1 jd = was := by
  have hn := h.1
  have hq := h.2.1
  intro r
  induction r with
  | zero =>
    intro v fuel acc Ta Tb Tc Tw Tk Td Tn Tt cau W3 th hv hf hW
    obtain ⟨g, rfl⟩ : ∃ f, fuel = f + 1 := ⟨fuel - 1, by omega⟩
    have e : v = 3 := by omega
    subst e
    rw [s_X3_kinds_34, s_X4_kinds_39]; unfold b_X3_kinds_34 b_X4_kinds_39
    rw [if_pos (show (2 : Int32) < nI 3 by decide), if_pos (show (3 : Int32) ≤ nI 3 by decide), if_pos (ix_n (show jd < 4 by omega) (by omega)), cl_n (show jd < 2147483648 by omega)]
    exact ⟨_, _, rfl, rfl, rfl, rfl, fun i hi hne => (pk_un (f := W3) (x := was) hne).trans (hW i hi hne), pk_us⟩
  | succ r ih =>
    intro v fuel acc Ta Tb Tc Tw Tk Td Tn Tt cau W3 th hv hf hW
    obtain ⟨g, rfl⟩ : ∃ f, fuel = f + 1 := ⟨fuel - 1, by omega⟩
    rw [s_X3_kinds_34, s_X4_kinds_39]; unfold b_X3_kinds_34 b_X4_kinds_39
    rw [if_neg (show ¬ (2 : Int32) < nI v by show ¬ nI 2 < nI v; rw [lt_n (by omega) (by omega)]; omega), if_neg (show ¬ (3 : Int32) ≤ nI v by show ¬ nI 3 ≤ nI v; rw [le_n (by omega) (by omega)]; omega)]
    obtain ⟨w2, k2, d2, kn2, t2, z1, z2, z3⟩ := bec Ta Tb Tc Tw Tk Td Tn Tt (nI n) (nI q) w k d kn t
    rw [z1]
    simp only [bsm, ix_n (show jd < 4 by omega) (by omega), ix_n (show j < 4 by omega) (by omega), if_true, cl_n (show jd < 2147483648 by omega)]
    have h2 := (h.left z2 z3).setk jd (v := nI v) (by rcases (show v = 0 ∨ v = 1 ∨ v = 2 by omega) with e | e | e <;> rw [e] <;> decide) hW
    obtain ⟨r2, ca2, t3, sv, ca3, th3, g1, g2, g3, g4⟩ := q_guess h2 hd hm hr cau th
    rw [g1, g4]
    simp only [bsm]
    have hW2 : ∀ i, i < q → i ≠ jd → upd W3 jd (nI v) i = k' i := fun i hi hne => by rw [pk_un hne]; exact hW i hi hne
    by_cases hr9 : r2 = -9
    · rw [if_pos hr9, g2 hr9]
      simp only [bsm]
      by_cases hs0 : sv = 0
      · rw [if_pos hs0, if_pos hs0, or0, n1]
        exact ih (v + 1) g _ _ _ _ _ _ _ _ _ _ _ _ (by omega) (by omega) hW2
      · rw [if_neg hs0, if_neg hs0, n1]
        exact ih (v + 1) g _ _ _ _ _ _ _ _ _ _ _ _ (by omega) (by omega) hW2
    · rw [if_neg hr9, if_pos (g3 hr9), or0, n1]
      exact ih (v + 1) g _ _ _ _ _ _ _ _ _ _ _ _ (by omega) (by omega) hW2
theorem q_kinds (h : RT n q T D w k d kn t w' k' d' kn' t') {Sl Sn : Nat → Int32} {Sc : Nat → Nat → Int32} {so sl ce : Nat → Int32} (hs : RS Sl Sn Sc so sl ce) {z : Nat} {rp rf rp' rf' : Nat → Int32} (hr : RR q z rp rf rp' rf') {p2 : Int32} {j : Nat} (hp : Sp p2 j) (fa : Int32) (Ta Tb Tc : Int32) (Tw Tk Td Tn Tt : Nat → Int32) (pr cau : Int32) (th who what : Nat → Int32) (p1 p3 p4 p5 : Int32) :
    ∃ o o', f_X3_kinds (nI z) fa rp rf (nI n) (nI q) w k d kn t Ta Tb Tc Tw Tk Td Tn Tt (Sl j) (Sn j) (Sc j) p1 p2 p3 p4 p5 = some o ∧ f_X4_kinds fa (nI n) (nI q) pr cau (nI z) so sl ce w' k' d' kn' t' th who what rp' rf' p1 p2 p3 p4 p5 = some o' ∧ o.1 = o'.1 ∧ o.2.1 = o'.2.1 ∧ RT n q T D w k d kn t w' o'.2.2.2.2.1 d' kn' t' := by
  have hn := h.1
  have hq := h.2.1
  unfold f_X3_kinds f_X4_kinds
  rw [is_pM]
  have hgo : ∃ o1, f_X2_isPerson (nI q) p1 = some o1 ∧ (¬ o1 = 0 → ∃ jd, jd < q ∧ p1 = nI jd) := by
    rcases pk_ix p1 (n := q) (by omega) with h0 | h0 | ⟨jd, hjd, e⟩
    · exact ⟨0, isX_n (Or.inl h0), fun z => absurd rfl z⟩
    · exact ⟨0, isX_n (Or.inr h0), fun z => absurd rfl z⟩
    · exact ⟨1, by rw [e]; exact isX_y hjd (by omega), fun _ => ⟨jd, hjd, e⟩⟩
  obtain ⟨o1, e1, e2⟩ := hgo
  rw [e1]
  simp only [bsm]
  obtain ⟨r, f2, pr2, who2, what2, y1, y2, y3⟩ := q_stop hs hn hq hp fa o1 p3 p4 p5 pr who what
  rw [y1, y2]
  simp only [bsm]
  by_cases hr0 : r = 0
  · obtain ⟨a1, a2, m, a, P, J, hm, a3, a4, a5, hd⟩ := y3 hr0
    obtain ⟨jd, hjd, a6⟩ := e2 a1
    subst a6; subst a2; subst a3; subst a4; subst a5
    rw [if_pos hr0, if_pos hr0, if_pos (ix_n (show jd < 4 by omega) (by omega)), cl_n (show jd < 2147483648 by omega)]
    obtain ⟨o, o', x1, x2, x3, x4, x5, x6⟩ := kinds_l h hr hd hm hjd hp.1 (s1 := Sl j) (s2 := Sn j) (p3 := p3) (fa := f2) (was := k' jd) (so := so) (sl := sl) (ce := ce) 3 0 99 0 Ta Tb Tc Tw Tk Td Tn Tt cau k' th (by omega) (by omega) (fun _ _ _ => rfl)
    refine ⟨o, o', x1, x2, x3, x4, ?_⟩
    have hall : ∀ i, i < q → o'.2.2.2.2.1 i = k' i := fun i hi => by
      by_cases e : i = jd
      · rw [e]; exact x6
      · exact x5 i hi e
    exact ⟨h.1, h.2.1, h.2.2.1, fun i hi => by rw [hall i hi]; exact h.2.2.2 i hi⟩
  · rw [if_neg hr0, if_neg hr0]
    exact ⟨_, _, rfl, rfl, rfl, rfl, h⟩

theorem knew_l (h : RT n q T D w k d kn t w' k' d' kn' t') {z : Nat} {rp rf rp' rf' : Nat → Int32} (hr : RR q z rp rf rp' rf') {m a : Nat} {P J : Nat → Nat} {c who what : Nat → Int32} (hd : DY n q m a P J c who what) (hm : m ≤ 20) {jd j : Nat} (hjd : jd < q) (hj : j < 4) {s1 s2 p3 fa was : Int32} {so sl ce : Nat → Int32} :
    ∀ r v fuel acc Ta Tb Tc Tw Tk Td Tn Tt cau W3 th, v + r = 5 → r < fuel → (∀ i, i < q → i ≠ jd → W3 i = kn' i) →
    ∃ o o', l_X3_knew_34 (nI z) rp rf (nI n) (nI q) w k d kn t s1 s2 c (nI jd) (nI j) p3 (nI a) (nI m) fuel (acc, nI v, fa, Ta, Tb, Tc, Tw, Tk, Td, Tn, Tt) = some o ∧ l_X4_knew_39 (nI n) (nI q) (nI z) so sl ce w' k' d' t' rp' rf' (nI jd) (nI j) p3 (nI a) (nI m) fuel (was, acc, nI v, fa, nI m, cau, W3, th, who, what) = some o' ∧ o.1 = o'.1 ∧ o.2.1 = o'.2.1 ∧ (∀ i, i < q → i ≠ jd → o'.2.2.2.2.1 i = kn' i) ∧ o'.2.2.2.2.1 jd = was := by
  have hn := h.1
  have hq := h.2.1
  intro r
  induction r with
  | zero =>
    intro v fuel acc Ta Tb Tc Tw Tk Td Tn Tt cau W3 th hv hf hW
    obtain ⟨g, rfl⟩ : ∃ f, fuel = f + 1 := ⟨fuel - 1, by omega⟩
    have e : v = 5 := by omega
    subst e
    rw [s_X3_knew_34, s_X4_knew_39]; unfold b_X3_knew_34 b_X4_knew_39
    rw [if_pos (show (4 : Int32) < nI 5 by decide), if_pos (show (4 : Int32) < nI 5 by decide), if_pos (ix_n (show jd < 4 by omega) (by omega)), cl_n (show jd < 2147483648 by omega)]
    exact ⟨_, _, rfl, rfl, rfl, rfl, fun i hi hne => (pk_un (f := W3) (x := was) hne).trans (hW i hi hne), pk_us⟩
  | succ r ih =>
    intro v fuel acc Ta Tb Tc Tw Tk Td Tn Tt cau W3 th hv hf hW
    obtain ⟨g, rfl⟩ : ∃ f, fuel = f + 1 := ⟨fuel - 1, by omega⟩
    rw [s_X3_knew_34, s_X4_knew_39]; unfold b_X3_knew_34 b_X4_knew_39
    rw [if_neg (show ¬ (4 : Int32) < nI v by show ¬ nI 4 < nI v; rw [lt_n (by omega) (by omega)]; omega), if_neg (show ¬ (4 : Int32) < nI v by show ¬ nI 4 < nI v; rw [lt_n (by omega) (by omega)]; omega)]
    obtain ⟨w2, k2, d2, kn2, t2, z1, z2, z3⟩ := bec Ta Tb Tc Tw Tk Td Tn Tt (nI n) (nI q) w k d kn t
    rw [z1]
    simp only [bsm, ix_n (show jd < 4 by omega) (by omega), ix_n (show j < 4 by omega) (by omega), if_true, cl_n (show jd < 2147483648 by omega)]
    have h2 := (h.left z2 z3).setn jd (nI v) hW
    obtain ⟨r2, ca2, t3, sv, ca3, th3, g1, g2, g3, g4⟩ := q_guess h2 hd hm hr cau th
    rw [g1, g4]
    simp only [bsm]
    have hW2 : ∀ i, i < q → i ≠ jd → upd W3 jd (nI v) i = kn' i := fun i hi hne => by rw [pk_un hne]; exact hW i hi hne
    by_cases hr9 : r2 = -9
    · rw [if_pos hr9, g2 hr9]
      simp only [bsm]
      by_cases hs0 : sv = 0
      · rw [if_pos hs0, if_pos hs0, or0, n1]
        exact ih (v + 1) g _ _ _ _ _ _ _ _ _ _ _ _ (by omega) (by omega) hW2
      · rw [if_neg hs0, if_neg hs0, n1]
        exact ih (v + 1) g _ _ _ _ _ _ _ _ _ _ _ _ (by omega) (by omega) hW2
    · rw [if_neg hr9, if_pos (g3 hr9), or0, n1]
      exact ih (v + 1) g _ _ _ _ _ _ _ _ _ _ _ _ (by omega) (by omega) hW2
theorem q_knew (h : RT n q T D w k d kn t w' k' d' kn' t') {Sl Sn : Nat → Int32} {Sc : Nat → Nat → Int32} {so sl ce : Nat → Int32} (hs : RS Sl Sn Sc so sl ce) {z : Nat} {rp rf rp' rf' : Nat → Int32} (hr : RR q z rp rf rp' rf') {p2 : Int32} {j : Nat} (hp : Sp p2 j) (fa : Int32) (Ta Tb Tc : Int32) (Tw Tk Td Tn Tt : Nat → Int32) (pr cau : Int32) (th who what : Nat → Int32) (p1 p3 p4 p5 : Int32) :
    ∃ o o', f_X3_knew (nI z) fa rp rf (nI n) (nI q) w k d kn t Ta Tb Tc Tw Tk Td Tn Tt (Sl j) (Sn j) (Sc j) p1 p2 p3 p4 p5 = some o ∧ f_X4_knew fa (nI n) (nI q) pr cau (nI z) so sl ce w' k' d' kn' t' th who what rp' rf' p1 p2 p3 p4 p5 = some o' ∧ o.1 = o'.1 ∧ o.2.1 = o'.2.1 ∧ RT n q T D w k d kn t w' k' d' o'.2.2.2.2.1 t' := by
  have hn := h.1
  have hq := h.2.1
  unfold f_X3_knew f_X4_knew
  rw [is_pM]
  have hgo : ∃ o1, f_X2_isPerson (nI q) p1 = some o1 ∧ (¬ o1 = 0 → ∃ jd, jd < q ∧ p1 = nI jd) := by
    rcases pk_ix p1 (n := q) (by omega) with h0 | h0 | ⟨jd, hjd, e⟩
    · exact ⟨0, isX_n (Or.inl h0), fun z => absurd rfl z⟩
    · exact ⟨0, isX_n (Or.inr h0), fun z => absurd rfl z⟩
    · exact ⟨1, by rw [e]; exact isX_y hjd (by omega), fun _ => ⟨jd, hjd, e⟩⟩
  obtain ⟨o1, e1, e2⟩ := hgo
  rw [e1]
  simp only [bsm]
  obtain ⟨r, f2, pr2, who2, what2, y1, y2, y3⟩ := q_stop hs hn hq hp fa o1 p3 p4 p5 pr who what
  rw [y1, y2]
  simp only [bsm]
  by_cases hr0 : r = 0
  · obtain ⟨a1, a2, m, a, P, J, hm, a3, a4, a5, hd⟩ := y3 hr0
    obtain ⟨jd, hjd, a6⟩ := e2 a1
    subst a6; subst a2; subst a3; subst a4; subst a5
    rw [if_pos hr0, if_pos hr0, if_pos (ix_n (show jd < 4 by omega) (by omega)), cl_n (show jd < 2147483648 by omega)]
    obtain ⟨o, o', x1, x2, x3, x4, x5, x6⟩ := knew_l h hr hd hm hjd hp.1 (s1 := Sl j) (s2 := Sn j) (p3 := p3) (fa := f2) (was := kn' jd) (so := so) (sl := sl) (ce := ce) 5 0 99 0 Ta Tb Tc Tw Tk Td Tn Tt cau kn' th (by omega) (by omega) (fun _ _ _ => rfl)
    refine ⟨o, o', x1, x2, x3, x4, ?_⟩
    have hall : ∀ i, i < q → o'.2.2.2.2.1 i = kn' i := fun i hi => by
      by_cases e : i = jd
      · rw [e]; exact x6
      · exact x5 i hi e
    exact ⟨h.1, h.2.1, h.2.2.1, fun i hi => by rw [hall i hi]; exact h.2.2.2 i hi⟩
  · rw [if_neg hr0, if_neg hr0]
    exact ⟨_, _, rfl, rfl, rfl, rfl, h⟩
end
