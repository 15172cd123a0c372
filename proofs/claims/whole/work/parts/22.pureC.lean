/-! PURE 3: safe, odds, readings, telling of people -/
def Hs (T E : Nat) : Nat → Nat
  | 0 => 0
  | m + 1 => if T / 2 ^ m % 2 = 1 then Hs T E m else if E / 2 ^ m % 2 = 1 then Hs T E m ||| 2 ^ m else Hs T E m
theorem Hs_lt (T E : Nat) : ∀ m, Hs T E m < 2 ^ m := by
  intro m
  induction m with
  | zero => simp [Hs]
  | succ m ih =>
    have h1 : Hs T E m < 2 ^ (m + 1) := Nat.lt_of_lt_of_le ih (Nat.pow_le_pow_right (by omega) (by omega))
    have h2 : 2 ^ m < 2 ^ (m + 1) := Nat.pow_lt_pow_right (by omega) (by omega)
    simp only [Hs]
    split
    · exact h1
    split
    · exact Nat.or_lt_two_pow h1 h2
    · exact h1
theorem Hs_a : ∀ n, n < 7 → ∀ T, T < 2 ^ n → ((1 <<< (nI n &&& 31)) - 1) &&& (nI T ^^^ (-1)) = nI (Hs T (2 ^ n - 1) n) := by decide +kernel
theorem Hs_b : ∀ n, n < 7 → ∀ T, T < 2 ^ n → ∀ E, E < 2 ^ n → (((1 <<< (nI n &&& 31)) - 1) &&& (nI T ^^^ (-1))) &&& nI E = nI (Hs T E n) := by decide +kernel
theorem all_bit : ∀ n, n < 7 → ∀ j, j < n → (2 ^ n - 1) / 2 ^ j % 2 = 1 := by decide +kernel
theorem p64 {j : Nat} (h : j ≤ 6) {x : Nat} (hx : x < 2 ^ j) : x < 64 := Nat.lt_of_lt_of_le hx (pow_le j (by omega))
section
variable {n q : Nat} {T D : Nat → Nat} {w k d kn t w' k' d' kn' t' : Nat → Int32}
theorem wbc_0 (h : RT n q T D w k d kn t w' k' d' kn' t') {p j : Nat} (hp : p < q) (hj : j < n) (hd : D p / 2 ^ j % 2 = 1 ∨ ¬ Seen n q T w k kn p) : f_X2_wouldBeCaught (nI n) (nI q) w k d kn t (nI p) (nI j) = some 0 := by
  have hq := h.2.1
  unfold f_X2_wouldBeCaught
  rw [if_pos (ix_n (by omega) (by omega)), cl_n (by omega), h.dX hp hj]
  simp only [b01]
  by_cases e : D p / 2 ^ j % 2 = 1
  · rw [if_pos e]
  · rw [if_neg e]
    exact seenX_n h hp q 0 99 (by omega) (by omega) (fun ⟨i, _, h1, h2⟩ => (hd.resolve_left e) ⟨i, h1, h2⟩)
theorem wbc_1 (h : RT n q T D w k d kn t w' k' d' kn' t') {p j : Nat} (hp : p < q) (hj : j < n) (hd : ¬ D p / 2 ^ j % 2 = 1) (hs : Seen n q T w k kn p) : f_X2_wouldBeCaught (nI n) (nI q) w k d kn t (nI p) (nI j) = some 1 := by
  have hq := h.2.1
  unfold f_X2_wouldBeCaught
  rw [if_pos (ix_n (by omega) (by omega)), cl_n (by omega), h.dX hp hj]
  simp only [b01]
  rw [if_neg hd]
  obtain ⟨i, h1, h2⟩ := hs
  exact seenX_y h hp q 0 99 (by omega) (by omega) ⟨i, by omega, h1, h2⟩
theorem safe_l (h : RT n q T D w k d kn t w' k' d' kn' t') {p : Nat} (hp : p < q) {E : Nat} (hE : ∀ j, j < n → (E / 2 ^ j % 2 = 1 ↔ (D p / 2 ^ j % 2 = 1 ∨ ¬ Seen n q T w k kn p))) : ∀ m j fuel, j + m = n → m < fuel → l_X3_safe_17 (nI n) (nI q) w k d kn t (nI p) fuel (nI (Hs (T p) E j), nI j) = some (nI (Hs (T p) E n)) := by
  have hn := h.1
  intro m
  induction m with
  | zero =>
    intro j fuel hj hf
    obtain ⟨g, rfl⟩ : ∃ f, fuel = f + 1 := ⟨fuel - 1, by omega⟩
    rw [s_X3_safe_17]; unfold b_X3_safe_17
    rw [if_pos (by rw [le_n (by omega) (by omega)]; omega), show j = n by omega]
  | succ m ih =>
    intro j fuel hj hf
    obtain ⟨g, rfl⟩ : ∃ f, fuel = f + 1 := ⟨fuel - 1, by omega⟩
    have h2 := ih (j + 1) g (by omega) (by omega)
    simp only [Hs] at h2
    rw [s_X3_safe_17]; unfold b_X3_safe_17
    rw [if_neg (show ¬ nI n ≤ nI j by rw [le_n (by omega) (by omega)]; omega), h.told hp (by omega), n1]
    simp only [bsm]
    by_cases ht : T p / 2 ^ j % 2 = 1
    · simp only [ht, if_true, show ¬ ((1 : Int32) = 0) by decide, if_false] at h2 ⊢
      exact h2
    · simp only [ht, if_false, if_true] at h2 ⊢
      by_cases he : E / 2 ^ j % 2 = 1
      · rw [wbc_0 h hp (by omega) ((hE j (by omega)).mp he), bsm, if_pos rfl, or_n _ (p64 (by omega) (Hs_lt _ _ _)) j (by omega)]
        rw [if_pos he] at h2
        exact h2
      · have h3 : ¬ (D p / 2 ^ j % 2 = 1 ∨ ¬ Seen n q T w k kn p) := fun z => he ((hE j (by omega)).mpr z)
        rw [wbc_1 h hp (by omega) (fun z => h3 (Or.inl z)) (Classical.byContradiction fun z => h3 (Or.inr z)), bsm, if_neg (by decide)]
        rw [if_neg he] at h2
        exact h2
theorem q_safe (h : RT n q T D w k d kn t w' k' d' kn' t') (th : Nat → Int32) (p1 : Int32) : ∃ r th2, f_X3_safe (nI n) (nI q) w k d kn t p1 = some r ∧ f_X4_safe (nI n) (nI q) w' k' d' kn' t' th p1 = some (r, th2) := by
  have hn := h.1
  have hq := h.2.1
  unfold f_X3_safe f_X4_safe
  rw [is_pM]
  rcases pk_ix p1 (n := q) (by omega) with h0 | h0 | ⟨i, hi, rfl⟩
  · rw [isX_n (Or.inl h0)]; exact ⟨_, _, rfl, rfl⟩
  · rw [isX_n (Or.inr h0)]; exact ⟨_, _, rfl, rfl⟩
  obtain ⟨th2, e1, e2⟩ := asNow_e hq t' th
  have h2 := h.then e2
  have t1 := (h.2.2.2 i hi).2.2.1
  rw [isX_y hi (by omega), e1]
  simp only [bsm, ix_n (show i < 4 by omega) (by omega), cl_n (show i < 2147483648 by omega), if_true, show ¬ ((1 : Int32) = 0) by decide, if_false]
  rw [t1.2.2, (h.2.2.2 i hi).2.2.2.2.2]
  by_cases hs : Seen n q T w k kn i
  · rw [known_y h2 hi hs, Hs_b n (by omega) _ t1.1 _ (h.Dn i)]
    refine ⟨_, th2, safe_l h hi (E := D i % 2 ^ n) (fun j hj => ?_) n 0 99 (by omega) (by omega), rfl⟩
    rw [bit_mod n (by omega) _ (h.2.2.2 i hi).2.2.2.1 j hj]
    exact ⟨Or.inl, fun z => z.resolve_right (fun y => y hs)⟩
  · rw [known_n h2 hi hs, Hs_a n (by omega) _ t1.1]
    refine ⟨_, th2, safe_l h hi (E := 2 ^ n - 1) (fun j hj => ?_) n 0 99 (by omega) (by omega), rfl⟩
    exact ⟨fun _ => Or.inr hs, fun _ => all_bit n (by omega) j hj⟩
/-- odds -/
theorem pop_6 : ∀ s, s < 64 → ∃ e, e < 7 ∧ f_J6_bitCount_0f7a4 (nI s) = some (nI e) := by
  intro s hs
  have h : (List.range 64).all (fun s => (List.range 7).any (fun e => decide (f_J6_bitCount_0f7a4 (nI s) = some (nI e)))) = true := by decide +kernel
  have h1 := List.all_eq_true.mp h s (List.mem_range.mpr hs)
  obtain ⟨e, he, h2⟩ := List.any_eq_true.mp h1
  exact ⟨e, List.mem_range.mp he, of_decide_eq_true h2⟩
theorem odds_c : ∀ u, u < 66 → ∀ e, e < 7 → ∀ z, z < 2 → l_X3_odds_93 0 0 (fun _ => 0) (fun _ => 0) (fun _ => 0) 0 0 (nI z) 99 (nI u, 1 <<< (nI e &&& 31)) = f_X4_inLeastTerms (nI u).toInt64 ((1 : Int64) <<< ((nI e).toInt64 &&& 63)) (nI z) ∧ (f_X4_inLeastTerms (nI u).toInt64 ((1 : Int64) <<< ((nI e).toInt64 &&& 63)) (nI z)).isSome = true := by decide +kernel
theorem odds_p (a b : Int32) (w k d : Nat → Int32) (p1 p2 p3 : Int32) : l_X3_odds_93 a b w k d p1 p2 p3 = l_X3_odds_93 0 0 (fun _ => 0) (fun _ => 0) (fun _ => 0) 0 0 p3 := rfl
theorem odds_t (h : RT n q T D w k d kn t w' k' d' kn' t') {i : Nat} (hi : i < q) {f p3 : Int32} {e : Nat} (he : f_X4_size (nI (D i % 2 ^ n)) = some (nI e)) {c : Nat} : ∀ m s fuel, s + m = 2 ^ n → m < fuel → D i % 2 ^ n < s → l_X4_odds_31 (nI n) (nI q) w' k' d' (nI i) f p3 fuel (nI c, nI s) = f_X4_inLeastTerms (nI c).toInt64 ((1 : Int64) <<< ((nI e).toInt64 &&& 63)) p3 := by
  have h64 := pow_le n (by have := h.1; omega)
  have hn := h.1
  have hq := h.2.1
  intro m
  induction m with
  | zero =>
    intro s fuel hs hf _
    obtain ⟨g, rfl⟩ : ∃ f, fuel = f + 1 := ⟨fuel - 1, by omega⟩
    rw [s_X4_odds_31]; unfold b_X4_odds_31
    rw [shl_n n (by omega), if_pos (show nI (2 ^ n) ≤ nI s by rw [le_n (by omega) (by omega)]; omega), if_pos (ix_n (by omega) (by omega)), cl_n (by omega), (h.2.2.2 i hi).2.2.2.2.2, he, bsm]
    generalize f_X4_inLeastTerms _ _ _ = x
    cases x <;> rfl
  | succ m ih =>
    intro s fuel hs hf ha
    obtain ⟨g, rfl⟩ : ∃ f, fuel = f + 1 := ⟨fuel - 1, by omega⟩
    rw [s_X4_odds_31]; unfold b_X4_odds_31
    rw [shl_n n (by omega), if_neg (show ¬ nI (2 ^ n) ≤ nI s by rw [le_n (by omega) (by omega)]; omega), h.isT hi, within_no (h.D64 hi) (by omega) ha, bsm, if_pos rfl, add0, n1]
    exact ih (s + 1) g (by omega) (by omega) (by omega)
theorem odds_l (h : RT n q T D w k d kn t w' k' d' kn' t') {i : Nat} (hi : i < q) {f p3 lo : Int32} {e : Nat} (he : f_X4_size (nI (D i % 2 ^ n)) = some (nI e)) : ∀ m s fuel c, s + m = D i % 2 ^ n + 1 → 2 ^ n + 2 ≤ s + fuel → c ≤ s → ∃ c2, c2 < 66 ∧ l_X3_odds_53 (nI n) (nI q) w k d (nI i) f p3 fuel (nI (D i % 2 ^ n), nI c, lo, nI s) = l_X3_odds_93 (nI n) (nI q) w k d (nI i) f p3 99 (nI c2, lo) ∧ l_X4_odds_31 (nI n) (nI q) w' k' d' (nI i) f p3 fuel (nI c, nI s) = f_X4_inLeastTerms (nI c2).toInt64 ((1 : Int64) <<< ((nI e).toInt64 &&& 63)) p3 := by
  have h64 := pow_le n (by have := h.1; omega)
  have hn := h.1
  have hD := h.D64 hi
  have hDn := h.Dn i
  intro m
  induction m with
  | zero =>
    intro s fuel c hs hf hc
    obtain ⟨g, rfl⟩ : ∃ f, fuel = f + 1 := ⟨fuel - 1, by omega⟩
    refine ⟨c, by omega, ?_, odds_t h hi he (2 ^ n - s) s (g + 1) (by omega) (by omega) (by omega)⟩
    rw [s_X3_odds_53]; unfold b_X3_odds_53
    rw [if_pos (show nI (D i % 2 ^ n) < nI s by rw [lt_n (by omega) (by omega)]; omega)]
  | succ m ih =>
    intro s fuel c hs hf hc
    obtain ⟨g, rfl⟩ : ∃ f, fuel = f + 1 := ⟨fuel - 1, by omega⟩
    rw [s_X3_odds_53, s_X4_odds_31]; unfold b_X3_odds_53 b_X4_odds_31
    rw [shl_n n (by omega), if_neg (show ¬ nI (D i % 2 ^ n) < nI s by rw [lt_n (by omega) (by omega)]; omega), if_neg (show ¬ nI (2 ^ n) ≤ nI s by rw [le_n (by omega) (by omega)]; omega), h.isT hi, h.fX hi (by omega), h.fM hi (by omega)]
    have hw : ∃ o, f_X3_isWithin (nI s) (nI (D i % 2 ^ n)) = some o := by unfold f_X3_isWithin; split <;> exact ⟨_, rfl⟩
    obtain ⟨o, eo⟩ := hw
    rw [eo]
    simp only [bsm, add0, n1]
    split
    · exact ih (s + 1) g c (by omega) (by omega) (by omega)
    split
    · exact ih (s + 1) g c (by omega) (by omega) (by omega)
    · exact ih (s + 1) g (c + 1) (by omega) (by omega) (by omega)
theorem q_odds (h : RT n q T D w k d kn t w' k' d' kn' t') (p1 p2 p3 : Int32) : ∃ r, f_X3_odds (nI n) (nI q) w k d p1 p2 p3 = some r ∧ f_X4_odds (nI n) (nI q) w' k' d' p1 p2 p3 = some r := by
  have hn := h.1
  have hq := h.2.1
  have h64 := pow_le n (by omega)
  unfold f_X3_odds f_X4_odds
  rw [is_pM]
  rcases pk_ix p1 (n := q) (by omega) with h0 | h0 | ⟨i, hi, rfl⟩
  · rw [isX_n (Or.inl h0)]; exact ⟨_, rfl, rfl⟩
  · rw [isX_n (Or.inr h0)]; exact ⟨_, rfl, rfl⟩
  rw [isX_y hi (by omega), h.truths hi]
  simp only [bsm, show ¬ ((1 : Int32) = 0) by decide, if_false]
  by_cases c2 : p2 < 0
  · rw [if_pos c2, if_pos c2]; exact ⟨_, rfl, rfl⟩
  rw [if_neg c2, if_neg c2]
  rcases pk_ix p3 (n := 2) (by omega) with h0 | h0 | ⟨z, hz, rfl⟩
  · rw [if_pos h0, with_n (Or.inl h0)]; exact ⟨_, rfl, rfl⟩
  · have h1 : (1 : Int32) < p3 := by
      rw [Int32.lt_iff_toInt_lt]
      rw [Int32.le_iff_toInt_le] at h0
      have a1 : (nI 2).toInt = 2 := by decide
      have a2 : (1 : Int32).toInt = 1 := by decide
      omega
    rw [with_n (Or.inr h1), if_neg (show ¬ p3 ≤ 1 by rw [i_nle]; exact h1), ite_self]; exact ⟨_, rfl, rfl⟩
  have y1 : ¬ nI z < 0 := nI_pos (by omega)
  have y2 : ¬ (1 : Int32) < nI z := by
    show ¬ nI 1 < nI z
    rw [lt_n (by omega) (by omega)]; omega
  rw [if_neg y1, if_pos (show nI z ≤ 1 by rw [← i_nlt]; exact y2), with_y y1 y2]
  obtain ⟨e, he, e1⟩ := pop_6 (D i % 2 ^ n) (h.D64 hi)
  rw [e1]
  simp only [bsm, show ¬ ((1 : Int32) = 0) by decide, if_false]
  obtain ⟨c, hc, x1, x2⟩ := odds_l h hi (f := p2) (p3 := nI z) (lo := 1 <<< (nI e &&& 31)) (by rw [pop_e _ (h.D64 hi)]; exact e1) _ 0 99 0 (Nat.zero_add _) (by omega) (by omega)
  obtain ⟨x3, x4⟩ := odds_c c hc e he z hz
  have x1' : l_X3_odds_53 (nI n) (nI q) w k d (nI i) p2 (nI z) 99 (nI (D i % 2 ^ n), 0, 1 <<< (nI e &&& 31), 0) = _ := x1
  have x2' : l_X4_odds_31 (nI n) (nI q) w' k' d' (nI i) p2 (nI z) 99 (0, 0) = _ := x2
  rw [x1', x2', odds_p, x3]
  generalize f_X4_inLeastTerms _ _ _ = x at x4
  cases x with
  | none => cases x4
  | some r => exact ⟨r, rfl, rfl⟩
/-- readings -/
def RR (q m : Nat) (rp rf rp' rf' : Nat → Int32) : Prop := m ≤ 8 ∧ ∀ i, i < m → rp i = rp' i ∧ rf i = rf' i ∧ ∃ j, j < q ∧ rp i = nI j
theorem q_reading (h : RT n q T D w k d kn t w' k' d' kn' t') {m : Nat} {rp rf rp' rf' : Nat → Int32} (hr : RR q m rp rf rp' rf') (p1 p2 : Int32) : ∃ r m2 rp2 rf2 rp2' rf2', f_X3_reading (nI m) rp rf (nI q) p1 p2 = some (r, nI m2, rp2, rf2) ∧ f_X4_reading (nI q) (nI m) rp' rf' p1 p2 = some (r, nI m2, rp2', rf2') ∧ RR q m2 rp2 rf2 rp2' rf2' := by
  have hq := h.2.1
  have hm := hr.1
  unfold f_X3_reading f_X4_reading
  rw [is_pM]
  rcases pk_ix p1 (n := q) (by omega) with h0 | h0 | ⟨i, hi, rfl⟩
  · rw [isX_n (Or.inl h0)]; exact ⟨_, _, _, _, _, _, rfl, rfl, hr⟩
  · rw [isX_n (Or.inr h0)]; exact ⟨_, _, _, _, _, _, rfl, rfl, hr⟩
  rw [isX_y hi (by omega)]
  simp only [bsm, show ¬ ((1 : Int32) = 0) by decide, if_false]
  by_cases c1 : p2 < 0
  · rw [if_pos c1, with_n (Or.inl c1)]; exact ⟨_, _, _, _, _, _, rfl, rfl, hr⟩
  by_cases c2 : 99 < p2
  · rw [if_neg c1, if_neg (show ¬ p2 ≤ 99 by rw [i_nle]; exact c2), with_n (Or.inr c2)]; exact ⟨_, _, _, _, _, _, rfl, rfl, hr⟩
  rw [if_neg c1, if_pos (show p2 ≤ 99 by rw [← i_nlt]; exact c2), with_y c1 c2]
  simp only [bsm, show ¬ ((1 : Int32) = 0) by decide, if_false]
  by_cases c3 : m < 8
  · rw [if_pos (show nI m < 8 by show nI m < nI 8; rw [lt_n (by omega) (by omega)]; exact c3), if_neg (show ¬ nI m = 8 by show ¬ nI m = nI 8; rw [eq_n (by omega) (by omega)]; omega)]
    simp only [ix_n c3 (by omega), if_true, cl_n (show m < 2147483648 by omega), n1]
    refine ⟨_, m + 1, _, _, _, _, rfl, rfl, by omega, fun x hx => ?_⟩
    by_cases e : x = m
    · subst e
      simp only [upd, if_true]
      exact ⟨trivial, trivial, i, hi, rfl⟩
    · simp only [upd, if_neg e]
      exact hr.2 x (by omega)
  · have e : m = 8 := by omega
    subst e
    rw [if_neg (show ¬ nI 8 < 8 by decide), if_pos (show nI 8 = 8 by decide)]
    exact ⟨_, _, _, _, _, _, rfl, rfl, hr⟩
theorem q_back {m : Nat} {rp rf rp' rf' : Nat → Int32} (hr : RR q m rp rf rp' rf') (p1 : Int32) : ∃ r m2, f_X3_back (nI m) p1 = some (r, nI m2) ∧ f_X4_back (nI m) p1 = some (r, nI m2) ∧ RR q m2 rp rf rp' rf' := by
  have hm := hr.1
  unfold f_X3_back f_X4_back
  by_cases c1 : p1 < 0
  · rw [if_pos c1, with_n (Or.inl c1)]; exact ⟨_, _, rfl, rfl, hr⟩
  by_cases c2 : nI m < p1
  · rw [if_neg c1, if_neg (show ¬ p1 ≤ nI m by rw [i_nle]; exact c2), with_n (Or.inr c2)]; exact ⟨_, _, rfl, rfl, hr⟩
  · have c3 : p1 ≤ nI m := by rw [← i_nlt]; exact c2
    rw [if_neg c1, if_pos c3, with_y c1 c2]
    obtain ⟨j, hj, rfl⟩ := nI_of2 (M := nI m) (n := m) (nI_toInt (by omega)) c1 c3
    rw [pk_sub hj]
    exact ⟨_, m - j, rfl, rfl, by omega, fun x hx => hr.2 x (by omega)⟩
theorem dbl (x : Int32) : (x + 100) + x = 2 * x + 100 := by
  apply Int32.toBitVec_inj.mp
  apply BitVec.eq_of_toNat_eq
  simp [BitVec.toNat_add, BitVec.toNat_mul]
  omega
theorem q_tell (h : RT n q T D w k d kn t w' k' d' kn' t') (tr p1 : Int32) : ∃ r tr2, f_X3_tell tr (nI q) k kn p1 = some (r, tr2) ∧ f_X4_tell tr (nI q) k' kn' p1 = some (r, tr2) := by
  have hq := h.2.1
  unfold f_X3_tell f_X4_tell
  rw [is_pM]
  rcases pk_ix p1 (n := q) (by omega) with h0 | h0 | ⟨i, hi, rfl⟩
  · rw [isX_n (Or.inl h0)]; exact ⟨_, _, rfl, rfl⟩
  · rw [isX_n (Or.inr h0)]; exact ⟨_, _, rfl, rfl⟩
  obtain ⟨⟨e1, -⟩, e2, -⟩ := h.2.2.2 i hi
  rw [isX_y hi (by omega)]
  simp only [f_X3_proudTelling, f_X3_plainTelling, f_X3_abjectTelling, f_X3_leaveTrace, f_X4_begins, bsm, ix_n (show i < 4 by omega) (by omega), cl_n (show i < 2147483648 by omega), if_true, show ¬ ((1 : Int32) = 0) by decide, if_false, ← e1, ← e2, dbl]
  split
  · exact ⟨_, _, rfl, rfl⟩
  split
  · exact ⟨_, _, rfl, rfl⟩
  · exact ⟨_, _, rfl, rfl⟩
theorem q_greet (h : RT n q T D w k d kn t w' k' d' kn' t') (tr p1 : Int32) : ∃ r tr2, f_X3_greet tr (nI q) k p1 = some (r, tr2) ∧ f_X4_greet tr (nI q) k' p1 = some (r, tr2) := by
  have hq := h.2.1
  unfold f_X3_greet f_X4_greet
  rw [is_pM]
  rcases pk_ix p1 (n := q) (by omega) with h0 | h0 | ⟨i, hi, rfl⟩
  · rw [isX_n (Or.inl h0)]; exact ⟨_, _, rfl, rfl⟩
  · rw [isX_n (Or.inr h0)]; exact ⟨_, _, rfl, rfl⟩
  obtain ⟨⟨e1, -⟩, -⟩ := h.2.2.2 i hi
  rw [isX_y hi (by omega)]
  simp only [f_X3_abjectGreeting, f_X3_lentGreeting, f_X3_leaveTrace, f_X4_begins, bsm, ix_n (show i < 4 by omega) (by omega), cl_n (show i < 2147483648 by omega), if_true, show ¬ ((1 : Int32) = 0) by decide, if_false, ← e1]
  by_cases c : k i = 2
  · simp only [c, if_true]; exact ⟨_, _, rfl, rfl⟩
  · simp only [c, if_false]; exact ⟨_, _, rfl, rfl⟩
theorem q_as (h : RT n q T D w k d kn t w' k' d' kn' t') (fa p1 p2 : Int32) : ∃ r f2, f_X3_as fa (nI q) k p1 p2 = some (r, f2) ∧ f_X4_as fa (nI q) k' p1 p2 = some (r, f2) := by
  have hq := h.2.1
  unfold f_X3_as f_X4_as
  rw [is_pM]
  rcases pk_ix p1 (n := q) (by omega) with h0 | h0 | ⟨i, hi, rfl⟩
  · rw [isX_n (Or.inl h0)]; exact ⟨_, _, rfl, rfl⟩
  · rw [isX_n (Or.inr h0)]; exact ⟨_, _, rfl, rfl⟩
  obtain ⟨⟨e1, -⟩, -⟩ := h.2.2.2 i hi
  rw [isX_y hi (by omega)]
  simp only [bsm, ix_n (show i < 4 by omega) (by omega), cl_n (show i < 2147483648 by omega), if_true, show ¬ ((1 : Int32) = 0) by decide, if_false, ← e1]
  by_cases c1 : p2 < 0
  · rw [if_pos c1, with_n (Or.inl c1)]; exact ⟨_, _, rfl, rfl⟩
  by_cases c2 : 2 < p2
  · rw [if_neg c1, if_neg (show ¬ p2 ≤ 2 by rw [i_nle]; exact c2), with_n (Or.inr c2)]; exact ⟨_, _, rfl, rfl⟩
  rw [if_neg c1, if_pos (show p2 ≤ 2 by rw [← i_nlt]; exact c2), with_y c1 c2]
  simp only [bsm, show ¬ ((1 : Int32) = 0) by decide, if_false]
  split
  · exact ⟨_, _, rfl, rfl⟩
  · exact ⟨_, _, rfl, rfl⟩
theorem q_many (n q m : Nat) (p1 : Int32) : ∃ r, f_X3_many (nI m) (nI n) (nI q) p1 = some r ∧ f_X4_many (nI n) (nI q) (nI m) p1 = some r := by
  unfold f_X3_many f_X4_many
  split
  · exact ⟨_, rfl, rfl⟩
  split
  · exact ⟨_, rfl, rfl⟩
  split
  · exact ⟨_, rfl, rfl⟩
  · exact ⟨_, rfl, rfl⟩
end
