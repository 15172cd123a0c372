/-! PURE 2: the calls on the tower that is now -/
theorem i_nlt {a b : Int32} : (¬ a < b) = (b ≤ a) := propext Int32.not_lt
theorem i_nle {a b : Int32} : (¬ a ≤ b) = (b < a) := propext Int32.not_le
theorem with_y {v a b : Int32} (h1 : ¬ v < a) (h2 : ¬ b < v) : f_X4_within v a b = some 1 := by
  unfold f_X4_within; rw [if_neg h1, if_neg h2]
theorem with_n {v a b : Int32} (h : v < a ∨ b < v) : f_X4_within v a b = some 0 := by
  unfold f_X4_within
  rcases h with h | h
  · rw [if_pos h]
  · rw [if_pos h, ite_self]
theorem or0 (x : Int32) : x ||| 0 = x := by
  apply Int32.toBitVec_inj.mp
  simp
section
variable {n q : Nat} {T D : Nat → Nat} {w k d kn t w' k' d' kn' t' : Nat → Int32}
theorem RT.truths (h : RT n q T D w k d kn t w' k' d' kn' t') {i : Nat} (hi : i < q) : f_X2_truthsOf (nI n) d (nI i) = some (nI (D i % 2 ^ n)) := by
  have hq := h.2.1
  have hn := h.1
  obtain ⟨-, -, -, h1, h2, -⟩ := h.2.2.2 i hi
  unfold f_X2_truthsOf
  rw [if_pos (ix_n (by omega) (by omega)), cl_n (by omega), h2, msk_n n (by omega) _ h1]
theorem RT.D64 (h : RT n q T D w k d kn t w' k' d' kn' t') {i : Nat} (hi : i < q) : D i % 2 ^ n < 64 := Nat.lt_of_le_of_lt (Nat.mod_le _ _) (h.2.2.2 i hi).2.2.2.1
theorem RT.Dn (h : RT n q T D w k d kn t w' k' d' kn' t') (i : Nat) : D i % 2 ^ n < 2 ^ n := Nat.mod_lt _ (Nat.pos_of_ne_zero (by simp))
theorem q_ofPerson (h : RT n q T D w k d kn t w' k' d' kn' t') (p1 p2 : Int32) : ∃ r, f_X3_ofPerson (nI n) (nI q) w k d kn t p1 p2 = some r ∧ f_X4_ofPerson (nI n) (nI q) w' k' d' kn' t' p1 p2 = some r := by
  have hq := h.2.1
  unfold f_X3_ofPerson f_X4_ofPerson
  rw [is_pM]
  rcases pk_ix p1 (n := q) (by omega) with h0 | h0 | ⟨j, hj, rfl⟩
  · rw [isX_n (Or.inl h0)]; exact ⟨_, rfl, rfl⟩
  · rw [isX_n (Or.inr h0)]; exact ⟨_, rfl, rfl⟩
  · obtain ⟨⟨e1, -⟩, e2, ⟨-, e3, e4⟩, -, -, e6⟩ := h.2.2.2 j hj
    rw [isX_y hj (by omega), h.truths hj, h.oX hj]
    simp only [Option.bind_some, ix_n (show j < 4 by omega) (by omega), cl_n (show j < 2147483648 by omega), if_true, h.oM hj, show ¬ ((1 : Int32) = 0) by decide, if_false]
    rw [← e1, ← e2, e3, e4, e6]
    split
    · exact ⟨_, rfl, rfl⟩
    split
    · exact ⟨_, rfl, rfl⟩
    split
    · exact ⟨_, rfl, rfl⟩
    split
    · exact ⟨_, rfl, rfl⟩
    split
    · exact ⟨_, rfl, rfl⟩
    · exact ⟨_, rfl, rfl⟩
theorem q_weight (h : RT n q T D w k d kn t w' k' d' kn' t') (p1 : Int32) : ∃ r, f_X3_weight (nI n) w p1 = some r ∧ f_X4_weight (nI n) w' p1 = some r := by
  have hn := h.1
  unfold f_X3_weight f_X4_weight
  rw [is_dX, is_dM]
  rcases pk_ix p1 (n := n) (by omega) with h0 | h0 | ⟨j, hj, rfl⟩
  · rw [isX_n (Or.inl h0)]; exact ⟨_, rfl, rfl⟩
  · rw [isX_n (Or.inr h0)]; exact ⟨_, rfl, rfl⟩
  · rw [isX_y hj (by omega)]
    simp only [Option.bind_some, ix_n (show j < 6 by omega) (by omega), cl_n (show j < 2147483648 by omega), if_true, show ¬ ((1 : Int32) = 0) by decide, if_false, h.2.2.1 j hj]
    exact ⟨_, rfl, rfl⟩
theorem q_weigh (h : RT n q T D w k d kn t w' k' d' kn' t') (p1 p2 : Int32) : ∃ r w2 w2', f_X3_weigh (nI n) w p1 p2 = some (r, w2) ∧ f_X4_weigh (nI n) w' p1 p2 = some (r, w2') ∧ RT n q T D w2 k d kn t w2' k' d' kn' t' := by
  have hn := h.1
  unfold f_X3_weigh f_X4_weigh
  rw [is_dX, is_dM]
  rcases pk_ix p1 (n := n) (by omega) with h0 | h0 | ⟨j, hj, rfl⟩
  · rw [isX_n (Or.inl h0)]; exact ⟨_, _, _, rfl, rfl, h⟩
  · rw [isX_n (Or.inr h0)]; exact ⟨_, _, _, rfl, rfl, h⟩
  · rw [isX_y hj (by omega)]
    simp only [Option.bind_some, ix_n (show j < 6 by omega) (by omega), cl_n (show j < 2147483648 by omega), if_true, show ¬ ((1 : Int32) = 0) by decide, if_false]
    by_cases c1 : p2 < 1
    · rw [if_pos c1, with_n (Or.inl c1)]; exact ⟨_, _, _, rfl, rfl, h⟩
    by_cases c2 : 9 < p2
    · rw [if_neg c1, if_neg (by rw [i_nle]; exact c2), with_n (Or.inr c2)]; exact ⟨_, _, _, rfl, rfl, h⟩
    · rw [if_neg c1, if_pos (by rw [← i_nlt]; exact c2), with_y c1 c2]
      refine ⟨_, _, _, rfl, by rw [h.2.2.1 j hj]; rfl, h.1, h.2.1, fun i hi => ?_, h.2.2.2⟩
      by_cases e : i = j
      · rw [e]; simp only [upd, if_true]
      · simp only [upd, if_neg e]; exact h.2.2.1 i hi
theorem q_storeys (h : RT n q T D w k d kn t w' k' d' kn' t') (p1 p2 : Int32) : ∃ r, f_X3_storeys (nI n) (nI q) w k p1 p2 = some r ∧ f_X4_storeys (nI n) (nI q) w' k' p1 p2 = some r := by
  have hn := h.1
  have hq := h.2.1
  unfold f_X3_storeys f_X4_storeys
  rw [is_dX, is_dM, is_pM]
  rcases pk_ix p1 (n := q) (by omega) with h0 | h0 | ⟨i, hi, rfl⟩
  · rw [isX_n (Or.inl h0)]; exact ⟨_, rfl, rfl⟩
  · rw [isX_n (Or.inr h0)]; exact ⟨_, rfl, rfl⟩
  rw [isX_y hi (by omega)]
  rcases pk_ix p2 (n := n) (by omega) with h0 | h0 | ⟨j, hj, rfl⟩
  · rw [isX_n (Or.inl h0)]; exact ⟨_, rfl, rfl⟩
  · rw [isX_n (Or.inr h0)]; exact ⟨_, rfl, rfl⟩
  rw [isX_y hj (by omega), riseX (by omega) (by omega)]
  obtain ⟨⟨e1, e2⟩, -⟩ := h.2.2.2 i hi
  rw [riseM (by omega) (by omega) (by rw [← e1]; exact e2), ← e1, h.2.2.1 j hj]
  exact ⟨_, rfl, rfl⟩
theorem RT.then (h : RT n q T D w k d kn t w' k' d' kn' t') {t2 : Nat → Int32} (ht : ∀ i, i < q → t2 i = t' i) : RT n q T D w k d kn t w' k' d' kn' t2 :=
  ⟨h.1, h.2.1, h.2.2.1, fun i hi => by obtain ⟨a, b, ⟨c1, c2, c3⟩, e⟩ := h.2.2.2 i hi; exact ⟨a, b, ⟨c1, c2, by rw [ht i hi]; exact c3⟩, e⟩⟩
theorem asNow_l (hq : q ≤ 4) {told : Nat → Int32} : ∀ m j fuel th, j + m = q → m < fuel → (∀ i, i < j → th i = told i) → ∃ th2, l_X4_asNow_2 (nI q) told fuel (nI j, th) = some th2 ∧ ∀ i, i < q → th2 i = told i := by
  intro m
  induction m with
  | zero =>
    intro j fuel th hj hf ht
    obtain ⟨f, rfl⟩ : ∃ f, fuel = f + 1 := ⟨fuel - 1, by omega⟩
    rw [s_X4_asNow_2]
    unfold b_X4_asNow_2
    rw [if_pos (by rw [le_n (by omega) (by omega)]; omega)]
    exact ⟨_, rfl, fun i hi => ht i (by omega)⟩
  | succ m ih =>
    intro j fuel th hj hf ht
    obtain ⟨f, rfl⟩ : ∃ f, fuel = f + 1 := ⟨fuel - 1, by omega⟩
    rw [s_X4_asNow_2]
    unfold b_X4_asNow_2
    rw [if_neg (by rw [le_n (by omega) (by omega)]; omega), if_pos (ix_n (by omega) (by omega)), if_pos (ix_n (by omega) (by omega)), cl_n (by omega), n1]
    refine ih (j + 1) f _ (by omega) (by omega) (fun i hi => ?_)
    by_cases e : i = j
    · rw [e]; simp only [upd, if_true]
    · simp only [upd, if_neg e]; exact ht i (by omega)
theorem asNow_e (hq : q ≤ 4) (told th : Nat → Int32) : ∃ th2, f_X4_asNow (nI q) told th = some th2 ∧ ∀ i, i < q → th2 i = told i := by
  unfold f_X4_asNow
  exact asNow_l hq q 0 99 th (by omega) (by omega) (fun i hi => absurd hi (by omega))
theorem q_say (h : RT n q T D w k d kn t w' k' d' kn' t') (c : Int32) (th : Nat → Int32) (p1 p2 : Int32) : ∃ r c2 t2 t2' th2 T2, f_X3_say (nI n) (nI q) c w k d kn t p1 p2 = some (r, c2, t2) ∧ f_X4_say (nI n) (nI q) w' k' d' kn' t' th p1 p2 = some (r, t2', th2) ∧ RT n q T2 D w k d kn t2 w' k' d' kn' t2' := by
  have hn := h.1
  have hq := h.2.1
  unfold f_X3_say f_X4_say
  rw [is_dX, is_dM, is_pM]
  rcases pk_ix p1 (n := q) (by omega) with h0 | h0 | ⟨i, hi, rfl⟩
  · rw [isX_n (Or.inl h0)]; exact ⟨_, _, _, _, _, _, rfl, rfl, h⟩
  · rw [isX_n (Or.inr h0)]; exact ⟨_, _, _, _, _, _, rfl, rfl, h⟩
  rw [isX_y hi (by omega)]
  rcases pk_ix p2 (n := n) (by omega) with h0 | h0 | ⟨j, hj, rfl⟩
  · rw [isX_n (Or.inl h0)]; exact ⟨_, _, _, _, _, _, rfl, rfl, h⟩
  · rw [isX_n (Or.inr h0)]; exact ⟨_, _, _, _, _, _, rfl, rfl, h⟩
  rw [isX_y hj (by omega), h.told hi hj]
  simp only [Option.bind_some, ix_n (show i < 4 by omega) (by omega), cl_n (show i < 2147483648 by omega), if_true, show ¬ ((1 : Int32) = 0) by decide, if_false, h.tM hi hj, b01]
  by_cases ht : T i / 2 ^ j % 2 = 1
  · simp only [ht, if_true, show ¬ ((1 : Int32) = 0) by decide, if_false]
    exact ⟨_, _, _, _, _, _, rfl, rfl, h⟩
  · simp only [ht, if_false, if_true]
    obtain ⟨th2, e1, e2⟩ := asNow_e hq t' th
    have h2 := h.then e2
    obtain ⟨e, t2, t2', T2, -, hx, hm, hR, hk⟩ := h2.hear hi hj ht c
    rw [e1, hx]
    simp only [Option.bind_some]
    rw [hm]
    simp only [Option.bind_some]
    have hu : ∀ i2, i2 < q → (upd t' i (t2' i)) i2 = t2' i2 := fun i2 hi2 => by
      by_cases e3 : i2 = i
      · rw [e3]; simp only [upd, if_true]
      · simp only [upd, if_neg e3]; rw [hk i2 e3, e2 i2 hi2]
    have hR2 := hR.then hu
    rw [hR2.oX hi, hR2.oM hi]
    exact ⟨_, _, _, _, _, _, rfl, rfl, hR2⟩
theorem q_hush (h : RT n q T D w k d kn t w' k' d' kn' t') (p1 : Int32) : ∃ r t2 t2' T2, f_X3_hush (nI n) (nI q) w k t p1 = some (r, t2) ∧ f_X4_hush (nI n) (nI q) w' k' t' p1 = some (r, t2') ∧ RT n q T2 D w k d kn t2 w' k' d' kn' t2' := by
  have hn := h.1
  have hq := h.2.1
  unfold f_X3_hush f_X4_hush
  rw [is_pM]
  rcases pk_ix p1 (n := q) (by omega) with h0 | h0 | ⟨i, hi, rfl⟩
  · rw [isX_n (Or.inl h0)]; exact ⟨_, _, _, _, rfl, rfl, h⟩
  · rw [isX_n (Or.inr h0)]; exact ⟨_, _, _, _, rfl, rfl, h⟩
  rw [isX_y hi (by omega), h.oX hi]
  simp only [Option.bind_some, ix_n (show i < 4 by omega) (by omega), cl_n (show i < 2147483648 by omega), if_true, show ¬ ((1 : Int32) = 0) by decide, if_false, h.oM hi]
  exact ⟨_, _, _, _, rfl, rfl, h.put (s := 0) i (Nat.pos_of_ne_zero (by simp))⟩
theorem landing_l (h : RT n q T D w k d kn t w' k' d' kn' t') {f : Int32} : ∀ m j fuel acc, j + m = q → m < fuel → ∃ r, l_X3_landing_24 (nI n) (nI q) w k t f fuel (acc, nI j) = some r ∧ l_X4_landing_21 (nI n) (nI q) w' k' t' f fuel (acc, nI j) = some r := by
  have hq := h.2.1
  intro m
  induction m with
  | zero =>
    intro j fuel acc hj hf
    obtain ⟨f, rfl⟩ : ∃ f, fuel = f + 1 := ⟨fuel - 1, by omega⟩
    rw [s_X3_landing_24, s_X4_landing_21]
    unfold b_X3_landing_24 b_X4_landing_21
    rw [if_pos (by rw [le_n (by omega) (by omega)]; omega), if_pos (by rw [le_n (by omega) (by omega)]; omega)]
    exact ⟨_, rfl, rfl⟩
  | succ m ih =>
    intro j fuel acc hj hf
    obtain ⟨f, rfl⟩ : ∃ f, fuel = f + 1 := ⟨fuel - 1, by omega⟩
    rw [s_X3_landing_24, s_X4_landing_21]
    unfold b_X3_landing_24 b_X4_landing_21
    rw [if_neg (by rw [le_n (by omega) (by omega)]; omega), if_neg (by rw [le_n (by omega) (by omega)]; omega), h.oX (by omega), if_pos (ix_n (by omega) (by omega)), cl_n (by omega), h.oM (by omega)]
    simp only [Option.bind_some, n1, or0]
    split
    · exact ih (j + 1) f _ (by omega) (by omega)
    · exact ih (j + 1) f _ (by omega) (by omega)
theorem q_landing (h : RT n q T D w k d kn t w' k' d' kn' t') (p1 : Int32) : ∃ r, f_X3_landing (nI n) (nI q) w k t p1 = some r ∧ f_X4_landing (nI n) (nI q) w' k' t' p1 = some r := by
  have hq := h.2.1
  unfold f_X3_landing f_X4_landing
  split
  · exact ⟨_, rfl, rfl⟩
  split
  · exact landing_l h q 0 99 0 (by omega) (by omega)
  · exact ⟨_, rfl, rfl⟩
theorem sub_no : ∀ a, a < 64 → ∀ s, s < 64 → a < s → ¬ (nI s &&& (nI a ^^^ (-1))) = 0 := by decide +kernel
theorem pop_e : ∀ s, s < 64 → f_X4_size (nI s) = f_J6_bitCount_0f7a4 (nI s) := by decide +kernel
theorem pop_s : ∀ s, s < 64 → (f_J6_bitCount_0f7a4 (nI s)).isSome = true := by decide +kernel
theorem pop_x : ∃ c : Nat → Int32, ∀ s, s < 64 → f_J6_bitCount_0f7a4 (nI s) = some (c s) ∧ f_X4_size (nI s) = some (c s) := by
  refine ⟨fun s => (f_J6_bitCount_0f7a4 (nI s)).getD 0, fun s hs => ?_⟩
  have h1 := pop_s s hs
  show f_J6_bitCount_0f7a4 (nI s) = some ((f_J6_bitCount_0f7a4 (nI s)).getD 0) ∧ f_X4_size (nI s) = some ((f_J6_bitCount_0f7a4 (nI s)).getD 0)
  rw [pop_e s hs]
  generalize f_J6_bitCount_0f7a4 (nI s) = x at h1
  cases x with
  | none => cases h1
  | some c => exact ⟨rfl, rfl⟩
theorem shl_n : ∀ n, n < 7 → (1 <<< (nI n &&& 31) : Int32) = nI (2 ^ n) := by decide +kernel
theorem RT.isT (h : RT n q T D w k d kn t w' k' d' kn' t') {i : Nat} (hi : i < q) (s : Int32) : f_X4_isTruths d' (nI i) s = f_X3_isWithin s (nI (D i % 2 ^ n)) := by
  have hq := h.2.1
  unfold f_X4_isTruths f_X3_isWithin
  rw [if_pos (ix_n (by omega) (by omega)), cl_n (by omega), (h.2.2.2 i hi).2.2.2.2.2]
theorem within_no {a s : Nat} (ha : a < 64) (hs : s < 64) (h : a < s) : f_X3_isWithin (nI s) (nI a) = some 0 := by
  unfold f_X3_isWithin
  rw [if_neg (sub_no a ha s hs h)]
/-- behind the last set of truths the model finds no more -/
theorem way_t (h : RT n q T D w k d kn t w' k' d' kn' t') {i : Nat} (hi : i < q) {f acc : Int32} : ∀ m s fuel, s + m = 2 ^ n → m < fuel → D i % 2 ^ n < s → l_X4_way_23 (nI n) (nI q) w' k' d' (nI i) f fuel (acc, nI s) = some acc := by
  have h64 := pow_le n (by have := h.1; omega)
  have hn := h.1
  intro m
  induction m with
  | zero =>
    intro s fuel hs hf _
    obtain ⟨g, rfl⟩ : ∃ f, fuel = f + 1 := ⟨fuel - 1, by omega⟩
    rw [s_X4_way_23]; unfold b_X4_way_23
    rw [shl_n n (by omega), if_pos (by rw [le_n (by omega) (by omega)]; omega)]
  | succ m ih =>
    intro s fuel hs hf ha
    obtain ⟨g, rfl⟩ : ∃ f, fuel = f + 1 := ⟨fuel - 1, by omega⟩
    rw [s_X4_way_23]; unfold b_X4_way_23
    rw [shl_n n (by omega), if_neg (by rw [le_n (by omega) (by omega)]; omega), h.isT hi, within_no (h.D64 hi) (by omega) ha]
    simp only [Option.bind_some, if_true, n1]
    exact ih (s + 1) g (by omega) (by omega) (by omega)
theorem bsm {α β : Type} (a : α) (f : α → Option β) : (some a).bind f = f a := by
  induction (0 : Nat) with
  | zero => rfl
  | succ _ _ => rfl
theorem way_l (h : RT n q T D w k d kn t w' k' d' kn' t') {i : Nat} (hi : i < q) {f : Int32} : ∀ m s fuel acc, s + m = D i % 2 ^ n + 1 → 2 ^ n + 2 ≤ s + fuel → (acc = -9 ∨ ∃ a, a < 64 ∧ acc = nI a) → ∃ r, l_X3_way_36 (nI n) (nI q) w k d (nI i) f fuel (nI (D i % 2 ^ n), acc, nI s) = some r ∧ l_X4_way_23 (nI n) (nI q) w' k' d' (nI i) f fuel (acc, nI s) = some r := by
  have h64 := pow_le n (by have := h.1; omega)
  have hn := h.1
  have hD := h.D64 hi
  have hDn := h.Dn i
  obtain ⟨pc, hpc⟩ := pop_x
  intro m
  induction m with
  | zero =>
    intro s fuel acc hs hf ha
    obtain ⟨g, rfl⟩ : ∃ f, fuel = f + 1 := ⟨fuel - 1, by omega⟩
    refine ⟨acc, ?_, way_t h hi (2 ^ n - s) s (g + 1) (by omega) (by omega) (by omega)⟩
    rw [s_X3_way_36]; unfold b_X3_way_36
    rw [if_pos (by rw [lt_n (by omega) (by omega)]; omega)]
  | succ m ih =>
    intro s fuel acc hs hf ha
    obtain ⟨g, rfl⟩ : ∃ f, fuel = f + 1 := ⟨fuel - 1, by omega⟩
    rw [s_X3_way_36, s_X4_way_23]; unfold b_X3_way_36 b_X4_way_23
    generalize f_J6_bitCount_0f7a4 = J at hpc ⊢
    generalize f_X4_size = Z at hpc ⊢
    rw [shl_n n (by omega), if_neg (show ¬ nI (D i % 2 ^ n) < nI s by rw [lt_n (by omega) (by omega)]; omega), if_neg (show ¬ nI (2 ^ n) ≤ nI s by rw [le_n (by omega) (by omega)]; omega), h.isT hi, h.fX hi (by omega), h.fM hi (by omega), (hpc s (by omega)).1, (hpc s (by omega)).2]
    have go : ∀ acc2, (acc2 = -9 ∨ ∃ a, a < 64 ∧ acc2 = nI a) → ∃ r, l_X3_way_36 (nI n) (nI q) w k d (nI i) f g (nI (D i % 2 ^ n), acc2, nI s + 1) = some r ∧ l_X4_way_23 (nI n) (nI q) w' k' d' (nI i) f g (acc2, nI s + 1) = some r := fun acc2 h2 => by
      rw [n1]; exact ih (s + 1) g acc2 (by omega) (by omega) h2
    have hw : ∃ o, f_X3_isWithin (nI s) (nI (D i % 2 ^ n)) = some o := by unfold f_X3_isWithin; split <;> exact ⟨_, rfl⟩
    obtain ⟨o, eo⟩ := hw
    rw [eo]
    simp only [bsm]
    split
    · exact go _ ha
    split
    · split
      · exact go _ (Or.inr ⟨s, by omega, rfl⟩)
      · rename_i hne
        obtain ⟨a, ha1, rfl⟩ : ∃ a, a < 64 ∧ acc = nI a := ha.resolve_left hne
        rw [(hpc a ha1).1, (hpc a ha1).2]
        simp only [bsm]
        split
        · exact go _ ha
        · exact go _ (Or.inr ⟨s, by omega, rfl⟩)
    · exact go _ ha
theorem q_way (h : RT n q T D w k d kn t w' k' d' kn' t') (p1 p2 : Int32) : ∃ r, f_X3_way (nI n) (nI q) w k d p1 p2 = some r ∧ f_X4_way (nI n) (nI q) w' k' d' p1 p2 = some r := by
  have hn := h.1
  have hq := h.2.1
  have h64 := pow_le n (by omega)
  unfold f_X3_way f_X4_way
  rw [is_pM]
  rcases pk_ix p1 (n := q) (by omega) with h0 | h0 | ⟨i, hi, rfl⟩
  · rw [isX_n (Or.inl h0)]; exact ⟨_, rfl, rfl⟩
  · rw [isX_n (Or.inr h0)]; exact ⟨_, rfl, rfl⟩
  rw [isX_y hi (by omega), h.truths hi]
  simp only [Option.bind_some, show ¬ ((1 : Int32) = 0) by decide, if_false]
  split
  · exact way_l h hi _ 0 99 (-9) (Nat.zero_add _) (by omega) (Or.inl rfl)
  · exact ⟨_, rfl, rfl⟩
theorem kept_t (h : RT n q T D w k d kn t w' k' d' kn' t') {i : Nat} (hi : i < q) {f acc : Int32} : ∀ m s fuel, s + m = 2 ^ n → m < fuel → D i % 2 ^ n < s → l_X4_kept_23 (nI n) (nI q) w' k' d' (nI i) f fuel (acc, nI s) = some acc := by
  have h64 := pow_le n (by have := h.1; omega)
  have hn := h.1
  intro m
  induction m with
  | zero =>
    intro s fuel hs hf _
    obtain ⟨g, rfl⟩ : ∃ f, fuel = f + 1 := ⟨fuel - 1, by omega⟩
    rw [s_X4_kept_23]; unfold b_X4_kept_23
    rw [shl_n n (by omega), if_pos (by rw [le_n (by omega) (by omega)]; omega)]
  | succ m ih =>
    intro s fuel hs hf ha
    obtain ⟨g, rfl⟩ : ∃ f, fuel = f + 1 := ⟨fuel - 1, by omega⟩
    rw [s_X4_kept_23]; unfold b_X4_kept_23
    rw [shl_n n (by omega), if_neg (by rw [le_n (by omega) (by omega)]; omega), h.isT hi, within_no (h.D64 hi) (by omega) ha]
    simp only [Option.bind_some, if_true, n1]
    exact ih (s + 1) g (by omega) (by omega) (by omega)
theorem kept_l (h : RT n q T D w k d kn t w' k' d' kn' t') {i : Nat} (hi : i < q) {f : Int32} : ∀ m s fuel acc, s + m = D i % 2 ^ n + 1 → 2 ^ n + 2 ≤ s + fuel → ∃ r, l_X3_kept_36 (nI n) (nI q) w k d (nI i) f fuel (nI (D i % 2 ^ n), acc, nI s) = some r ∧ l_X4_kept_23 (nI n) (nI q) w' k' d' (nI i) f fuel (acc, nI s) = some r := by
  have h64 := pow_le n (by have := h.1; omega)
  have hn := h.1
  have hD := h.D64 hi
  have hDn := h.Dn i
  intro m
  induction m with
  | zero =>
    intro s fuel acc hs hf
    obtain ⟨g, rfl⟩ : ∃ f, fuel = f + 1 := ⟨fuel - 1, by omega⟩
    refine ⟨acc, ?_, kept_t h hi (2 ^ n - s) s (g + 1) (by omega) (by omega) (by omega)⟩
    rw [s_X3_kept_36]; unfold b_X3_kept_36
    rw [if_pos (by rw [lt_n (by omega) (by omega)]; omega)]
  | succ m ih =>
    intro s fuel acc hs hf
    obtain ⟨g, rfl⟩ : ∃ f, fuel = f + 1 := ⟨fuel - 1, by omega⟩
    rw [s_X3_kept_36, s_X4_kept_23]; unfold b_X3_kept_36 b_X4_kept_23
    rw [shl_n n (by omega), if_neg (show ¬ nI (D i % 2 ^ n) < nI s by rw [lt_n (by omega) (by omega)]; omega), if_neg (show ¬ nI (2 ^ n) ≤ nI s by rw [le_n (by omega) (by omega)]; omega), h.isT hi, h.fX hi (by omega), h.fM hi (by omega)]
    have go : ∀ acc2, ∃ r, l_X3_kept_36 (nI n) (nI q) w k d (nI i) f g (nI (D i % 2 ^ n), acc2, nI s + 1) = some r ∧ l_X4_kept_23 (nI n) (nI q) w' k' d' (nI i) f g (acc2, nI s + 1) = some r := fun acc2 => by
      rw [n1]; exact ih (s + 1) g acc2 (by omega) (by omega)
    have hw : ∃ o, f_X3_isWithin (nI s) (nI (D i % 2 ^ n)) = some o := by unfold f_X3_isWithin; split <;> exact ⟨_, rfl⟩
    obtain ⟨o, eo⟩ := hw
    rw [eo]
    simp only [Option.bind_some]
    split
    · exact go _
    split
    · split
      · exact go _
      · exact go _
    · exact go _
theorem q_kept (h : RT n q T D w k d kn t w' k' d' kn' t') (p1 p2 : Int32) : ∃ r, f_X3_kept (nI n) (nI q) w k d p1 p2 = some r ∧ f_X4_kept (nI n) (nI q) w' k' d' p1 p2 = some r := by
  have hn := h.1
  have hq := h.2.1
  have h64 := pow_le n (by omega)
  unfold f_X3_kept f_X4_kept
  rw [is_pM]
  rcases pk_ix p1 (n := q) (by omega) with h0 | h0 | ⟨i, hi, rfl⟩
  · rw [isX_n (Or.inl h0)]; exact ⟨_, rfl, rfl⟩
  · rw [isX_n (Or.inr h0)]; exact ⟨_, rfl, rfl⟩
  rw [isX_y hi (by omega), h.truths hi]
  simp only [Option.bind_some, show ¬ ((1 : Int32) = 0) by decide, if_false]
  split
  · exact kept_l h hi _ 0 99 (-9) (Nat.zero_add _) (by omega)
  · exact ⟨_, rfl, rfl⟩
theorem q_roof (h : RT n q T D w k d kn t w' k' d' kn' t') (p1 : Int32) : ∃ r, f_X3_roof (nI n) (nI q) w k d p1 = some r ∧ f_X4_roof (nI n) (nI q) w' k' d' p1 = some r := by
  have hn := h.1
  have hq := h.2.1
  unfold f_X3_roof f_X4_roof
  rw [is_pM]
  rcases pk_ix p1 (n := q) (by omega) with h0 | h0 | ⟨i, hi, rfl⟩
  · rw [isX_n (Or.inl h0)]; exact ⟨_, rfl, rfl⟩
  · rw [isX_n (Or.inr h0)]; exact ⟨_, rfl, rfl⟩
  rw [isX_y hi (by omega), h.truths hi]
  simp only [Option.bind_some, ix_n (show i < 4 by omega) (by omega), cl_n (show i < 2147483648 by omega), if_true, show ¬ ((1 : Int32) = 0) by decide, if_false, (h.2.2.2 i hi).2.2.2.2.2, h.fX hi (h.D64 hi), h.fM hi (h.D64 hi)]
  exact ⟨_, rfl, rfl⟩
end
