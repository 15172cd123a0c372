/-! PURE 1: numbers, floors, who is caught -/
theorem ix_n {a n : Nat} (h : a < n) (hn : n < 2147483648) : ix (nI a) n = true := by
  have e : (nI a).toNatClampNeg = a := nI_clamp (by omega)
  unfold ix
  rw [e]
  have h0 : ¬ nI a < 0 := nI_pos (by omega)
  simp [h0]
  omega
theorem cl_n {a : Nat} (h : a < 2147483648) : (nI a).toNatClampNeg = a := nI_clamp (by omega)
theorem le_n {a b : Nat} (ha : a < 2147483648) (hb : b < 2147483648) : (nI a ≤ nI b) = (a ≤ b) := propext (nI_leI (by omega) (by omega))
theorem lt_n {a b : Nat} (ha : a < 2147483648) (hb : b < 2147483648) : (nI a < nI b) = (a < b) := propext (nI_ltI (by omega) (by omega))
theorem eq_n {a b : Nat} (ha : a < 2147483648) (hb : b < 2147483648) : (nI a = nI b) = (a = b) := propext (nI_eq (by omega) (by omega))
theorem n1 (a : Nat) : nI a + 1 = nI (a + 1) := nI_1 a
theorem add0 (x : Int32) : x + 0 = x := by
  apply Int32.toBitVec_inj.mp
  simp
theorem bit_n : ∀ D, D < 64 → ∀ j, j < 6 → ((nI D >>> (nI j &&& 31)) &&& 1) = nI (D / 2 ^ j % 2) := by decide +kernel
theorem or_n : ∀ D, D < 64 → ∀ j, j < 6 → (nI D ||| (1 <<< (nI j &&& 31))) = nI (D ||| 2 ^ j) := by decide +kernel
theorem or_lt : ∀ n, n < 7 → ∀ D, D < 2 ^ n → ∀ j, j < n → D ||| 2 ^ j < 2 ^ n := by decide +kernel
theorem msk_n : ∀ n, n < 7 → ∀ D, D < 64 → (nI D &&& ((1 <<< (nI n &&& 31)) - 1)) = nI (D % 2 ^ n) := by decide +kernel
theorem bit_mod : ∀ n, n < 7 → ∀ D, D < 64 → ∀ j, j < n → D % 2 ^ n / 2 ^ j % 2 = D / 2 ^ j % 2 := by decide +kernel
theorem pow_le : ∀ n, n < 7 → 2 ^ n ≤ 64 := by decide +kernel
theorem b01 {x : Nat} : (nI (x % 2) = 1) = (x % 2 = 1) := by
  show (nI (x % 2) = nI 1) = _
  exact eq_n (by omega) (by omega)
theorem b00 {x : Nat} : (nI (x % 2) = 0) = ¬ (x % 2 = 1) := by
  show (nI (x % 2) = nI 0) = _
  rw [eq_n (by omega) (by omega)]
  apply propext
  omega
/-- what one rises by -/
def sto (kd w : Int32) : Int32 := if kd = 1 then w - 1 else if kd = 2 then 2 * w else w
/-- the floor by a set of deeds -/
def Fl (kd : Int32) (w : Nat → Int32) (s : Nat) : Nat → Int32
  | 0 => 0
  | n + 1 => Fl kd w s n + (if s / 2 ^ n % 2 = 1 then sto kd (w n) else 0)
theorem Fl_congr {kd : Int32} {w w' : Nat → Int32} {s : Nat} : ∀ n, (∀ i, i < n → w i = w' i) → Fl kd w s n = Fl kd w' s n := by
  intro n
  induction n with
  | zero => intro _; rfl
  | succ n ih =>
    intro h
    simp only [Fl]
    rw [ih (fun i hi => h i (by omega)), h n (by omega)]
theorem riseX {w k : Nat → Int32} {p d : Nat} (hp : p < 4) (hd : d < 6) : f_X2_rise w k (nI p) (nI d) = some (sto (k p) (w d)) := by
  unfold f_X2_rise sto
  simp only [ix_n hp (by omega), ix_n hd (by omega), cl_n (show p < 2147483648 by omega), cl_n (show d < 2147483648 by omega), if_true]
  split
  · rfl
  · split <;> rfl
theorem riseM {w k : Nat → Int32} {p d : Nat} (hp : p < 4) (hd : d < 6) (hk : k p = 0 ∨ k p = 1 ∨ k p = 2) : f_X4_storeysOf w k (nI p) (nI d) = some (sto (k p) (w d)) := by
  unfold f_X4_storeysOf sto
  simp only [ix_n hp (by omega), ix_n hd (by omega), cl_n (show p < 2147483648 by omega), cl_n (show d < 2147483648 by omega), if_true]
  rcases hk with e | e | e <;> rw [e] <;> rfl
theorem floX_l {w k : Nat → Int32} {n p s : Nat} (hn : n ≤ 6) (hp : p < 4) (hs : s < 64) : ∀ m j fuel, j + m = n → m < fuel → l_X2_floorBy_5 (nI n) w k (nI p) (nI s) fuel (Fl (k p) w s j, nI j) = some (Fl (k p) w s n) := by
  intro m
  induction m with
  | zero =>
    intro j fuel hj hf
    obtain ⟨f, rfl⟩ : ∃ f, fuel = f + 1 := ⟨fuel - 1, by omega⟩
    rw [s_X2_floorBy_5]
    unfold b_X2_floorBy_5
    have e : j = n := by omega
    subst e
    rw [if_pos (by rw [le_n (by omega) (by omega)]; omega)]
  | succ m ih =>
    intro j fuel hj hf
    obtain ⟨f, rfl⟩ : ∃ f, fuel = f + 1 := ⟨fuel - 1, by omega⟩
    rw [s_X2_floorBy_5]
    unfold b_X2_floorBy_5
    rw [if_neg (by rw [le_n (by omega) (by omega)]; omega), bit_n s hs j (by omega), riseX hp (by omega)]
    have h2 := ih (j + 1) f (by omega) (by omega)
    simp only [Fl] at h2
    simp only [b01, Option.bind_some, n1]
    by_cases hb : s / 2 ^ j % 2 = 1
    · rw [if_pos hb] at h2 ⊢
      exact h2
    · rw [if_neg hb, add0] at h2
      rw [if_neg hb]
      exact h2
theorem floX {w k : Nat → Int32} {n p s : Nat} (hn : n ≤ 6) (hp : p < 4) (hs : s < 64) : f_X2_floorBy (nI n) w k (nI p) (nI s) = some (Fl (k p) w s n) := by
  unfold f_X2_floorBy
  exact floX_l hn hp hs n 0 99 (by omega) (by omega)
theorem floM_l {w k : Nat → Int32} {n p s : Nat} (hn : n ≤ 6) (hp : p < 4) (hs : s < 64) (hk : k p = 0 ∨ k p = 1 ∨ k p = 2) : ∀ m j fuel, j + m = n → m < fuel → l_X4_floorBy_5 (nI n) w k (nI p) (nI s) fuel (Fl (k p) w s j, nI j) = some (Fl (k p) w s n) := by
  intro m
  induction m with
  | zero =>
    intro j fuel hj hf
    obtain ⟨f, rfl⟩ : ∃ f, fuel = f + 1 := ⟨fuel - 1, by omega⟩
    rw [s_X4_floorBy_5]
    unfold b_X4_floorBy_5
    have e : j = n := by omega
    subst e
    rw [if_pos (by rw [le_n (by omega) (by omega)]; omega)]
  | succ m ih =>
    intro j fuel hj hf
    obtain ⟨f, rfl⟩ : ∃ f, fuel = f + 1 := ⟨fuel - 1, by omega⟩
    rw [s_X4_floorBy_5]
    unfold b_X4_floorBy_5
    rw [if_neg (by rw [le_n (by omega) (by omega)]; omega), bit_n s hs j (by omega), riseM hp (by omega) hk]
    have h2 := ih (j + 1) f (by omega) (by omega)
    simp only [Fl] at h2
    simp only [b01, Option.bind_some, n1]
    by_cases hb : s / 2 ^ j % 2 = 1
    · rw [if_pos hb] at h2 ⊢
      exact h2
    · rw [if_neg hb] at h2 ⊢
      exact h2
theorem floM {w k : Nat → Int32} {n p s : Nat} (hn : n ≤ 6) (hp : p < 4) (hs : s < 64) (hk : k p = 0 ∨ k p = 1 ∨ k p = 2) : f_X4_floorBy (nI n) w k (nI p) (nI s) = some (Fl (k p) w s n) := by
  unfold f_X4_floorBy
  exact floM_l hn hp hs hk n 0 99 (by omega) (by omega)
theorem isX_y {q j : Nat} (h : j < q) (hq : q ≤ 64) : f_X2_isPerson (nI q) (nI j) = some 1 := by
  unfold f_X2_isPerson
  rw [if_neg (nI_pos (by omega)), if_neg (by rw [le_n (by omega) (by omega)]; omega)]
theorem isX_n {q : Nat} {p : Int32} (h : p < 0 ∨ nI q ≤ p) : f_X2_isPerson (nI q) p = some 0 := by
  unfold f_X2_isPerson
  rcases h with h | h
  · rw [if_pos h]
  · rw [if_pos h, ite_self]
theorem is_dX : f_X2_isDeed = f_X2_isPerson := rfl
theorem is_dM : f_X4_isDeed = f_X2_isPerson := rfl
theorem is_pM : f_X4_isPerson = f_X2_isPerson := rfl
/-- the two towers hold the same: n deeds, q people; sets of what each has told and done -/
def RT (n q : Nat) (T D : Nat → Nat) (w k d kn t w' k' d' kn' t' : Nat → Int32) : Prop :=
  n ≤ 6 ∧ q ≤ 4 ∧ (∀ i, i < n → w i = w' i) ∧ ∀ i, i < q → (k i = k' i ∧ (k i = 0 ∨ k i = 1 ∨ k i = 2)) ∧ kn i = kn' i ∧ (T i < 2 ^ n ∧ t i = nI (T i) ∧ t' i = nI (T i)) ∧ (D i < 64 ∧ d i = nI (D i) ∧ d' i = nI (D i % 2 ^ n))
section
variable {n q : Nat} {T D : Nat → Nat} {w k d kn t w' k' d' kn' t' : Nat → Int32}
theorem RT.T64 (h : RT n q T D w k d kn t w' k' d' kn' t') {i : Nat} (hi : i < q) : T i < 64 := Nat.lt_of_lt_of_le (h.2.2.2 i hi).2.2.1.1 (pow_le n (by have := h.1; omega))
theorem RT.fX (h : RT n q T D w k d kn t w' k' d' kn' t') {i : Nat} (hi : i < q) {s : Nat} (hs : s < 64) : f_X2_floorBy (nI n) w k (nI i) (nI s) = some (Fl (k i) w s n) := floX h.1 (by have := h.2.1; omega) hs
theorem RT.fM (h : RT n q T D w k d kn t w' k' d' kn' t') {i : Nat} (hi : i < q) {s : Nat} (hs : s < 64) : f_X4_floorBy (nI n) w' k' (nI i) (nI s) = some (Fl (k i) w s n) := by
  obtain ⟨⟨e1, e2⟩, -⟩ := h.2.2.2 i hi
  rw [floM h.1 (by have := h.2.1; omega) hs (by rw [← e1]; exact e2), ← e1, Fl_congr n (fun i hi => (h.2.2.1 i hi).symm)]
theorem RT.oX (h : RT n q T D w k d kn t w' k' d' kn' t') {i : Nat} (hi : i < q) : f_X2_floorOf (nI n) w k t (nI i) = some (Fl (k i) w (T i) n) := by
  have hq := h.2.1
  unfold f_X2_floorOf
  rw [if_pos (ix_n (by omega) (by omega)), cl_n (by omega), (h.2.2.2 i hi).2.2.1.2.1, h.fX hi (h.T64 hi)]
  rfl
theorem RT.oM (h : RT n q T D w k d kn t w' k' d' kn' t') {i : Nat} (hi : i < q) : f_X4_floorBy (nI n) w' k' (nI i) (t' i) = some (Fl (k i) w (T i) n) := by
  rw [(h.2.2.2 i hi).2.2.1.2.2, h.fM hi (h.T64 hi)]
/-- another one who knows p is on p's floor -/
def Seen (n q : Nat) (T : Nat → Nat) (w k kn : Nat → Int32) (p : Nat) : Prop := ∃ i, i < q ∧ i ≠ p ∧ kn i = nI p ∧ Fl (k i) w (T i) n = Fl (k p) w (T p) n
theorem seenX_y (h : RT n q T D w k d kn t w' k' d' kn' t') {p : Nat} (hp : p < q) {x : Int32} : ∀ m j fuel, j + m = q → m < fuel → (∃ i, j ≤ i ∧ i < q ∧ i ≠ p ∧ kn i = nI p ∧ Fl (k i) w (T i) n = Fl (k p) w (T p) n) → l_X2_wouldBeCaught_18 (nI n) (nI q) w k d kn t (nI p) x fuel (nI j) = some 1 := by
  have hq := h.2.1
  intro m
  induction m with
  | zero => rintro j fuel hj - ⟨i, h1, h2, -⟩; omega
  | succ m ih =>
    rintro j fuel hj hf ⟨i, h1, h2, h3, h4, h5⟩
    obtain ⟨f, rfl⟩ : ∃ f, fuel = f + 1 := ⟨fuel - 1, by omega⟩
    rw [s_X2_wouldBeCaught_18]
    unfold b_X2_wouldBeCaught_18
    have go : j ≠ i → l_X2_wouldBeCaught_18 (nI n) (nI q) w k d kn t (nI p) x f (nI j + 1) = some 1 := fun hne => by
      rw [n1]; exact ih (j + 1) f (by omega) (by omega) ⟨i, by omega, h2, h3, h4, h5⟩
    rw [if_neg (by rw [le_n (by omega) (by omega)]; omega)]
    by_cases hjp : j = p
    · rw [if_pos (by rw [hjp])]; exact go (by omega)
    rw [if_neg (by rw [eq_n (by omega) (by omega)]; exact hjp), if_pos (ix_n (by omega) (by omega)), cl_n (by omega)]
    by_cases hk : kn j = nI p
    · rw [if_pos hk, h.oX (by omega), h.oX hp]
      simp only [Option.bind_some]
      by_cases hfl : Fl (k j) w (T j) n = Fl (k p) w (T p) n
      · rw [if_pos hfl]
      · rw [if_neg hfl]; exact go (fun e => hfl (by rw [e]; exact h5))
    · rw [if_neg hk]; exact go (fun e => hk (by rw [e]; exact h4))
theorem seenX_n (h : RT n q T D w k d kn t w' k' d' kn' t') {p : Nat} (hp : p < q) {x : Int32} : ∀ m j fuel, j + m = q → m < fuel → (¬ ∃ i, j ≤ i ∧ i < q ∧ i ≠ p ∧ kn i = nI p ∧ Fl (k i) w (T i) n = Fl (k p) w (T p) n) → l_X2_wouldBeCaught_18 (nI n) (nI q) w k d kn t (nI p) x fuel (nI j) = some 0 := by
  have hq := h.2.1
  intro m
  induction m with
  | zero =>
    intro j fuel hj hf _
    obtain ⟨f, rfl⟩ : ∃ f, fuel = f + 1 := ⟨fuel - 1, by omega⟩
    rw [s_X2_wouldBeCaught_18]
    unfold b_X2_wouldBeCaught_18
    rw [if_pos (by rw [le_n (by omega) (by omega)]; omega)]
  | succ m ih =>
    intro j fuel hj hf hno
    obtain ⟨f, rfl⟩ : ∃ f, fuel = f + 1 := ⟨fuel - 1, by omega⟩
    rw [s_X2_wouldBeCaught_18]
    unfold b_X2_wouldBeCaught_18
    have go : l_X2_wouldBeCaught_18 (nI n) (nI q) w k d kn t (nI p) x f (nI j + 1) = some 0 := by
      rw [n1]; exact ih (j + 1) f (by omega) (by omega) (fun ⟨i, h1, h2⟩ => hno ⟨i, by omega, h2⟩)
    rw [if_neg (by rw [le_n (by omega) (by omega)]; omega)]
    by_cases hjp : j = p
    · rw [if_pos (by rw [hjp])]; exact go
    rw [if_neg (by rw [eq_n (by omega) (by omega)]; exact hjp), if_pos (ix_n (by omega) (by omega)), cl_n (by omega)]
    by_cases hk : kn j = nI p
    · rw [if_pos hk, h.oX (by omega), h.oX hp]
      simp only [Option.bind_some]
      by_cases hfl : Fl (k j) w (T j) n = Fl (k p) w (T p) n
      · exact absurd ⟨j, Nat.le_refl _, by omega, hjp, hk, hfl⟩ hno
      · rw [if_neg hfl]; exact go
    · rw [if_neg hk]; exact go
theorem seenM_y (h : RT n q T D w k d kn t w' k' d' kn' t') {p : Nat} (hp : p < q) : ∀ m j fuel, j + m = q → m < fuel → (∃ i, j ≤ i ∧ i < q ∧ i ≠ p ∧ kn i = nI p ∧ Fl (k i) w (T i) n = Fl (k p) w (T p) n) → l_X4_isKnown_14 (nI n) (nI q) w' k' kn' t' (nI p) fuel (Fl (k p) w (T p) n, nI j) = some 1 := by
  have hq := h.2.1
  intro m
  induction m with
  | zero => rintro j fuel hj - ⟨i, h1, h2, -⟩; omega
  | succ m ih =>
    rintro j fuel hj hf ⟨i, h1, h2, h3, h4, h5⟩
    obtain ⟨f, rfl⟩ : ∃ f, fuel = f + 1 := ⟨fuel - 1, by omega⟩
    rw [s_X4_isKnown_14]
    unfold b_X4_isKnown_14
    have go : j ≠ i → l_X4_isKnown_14 (nI n) (nI q) w' k' kn' t' (nI p) f (Fl (k p) w (T p) n, nI j + 1) = some 1 := fun hne => by
      rw [n1]; exact ih (j + 1) f (by omega) (by omega) ⟨i, by omega, h2, h3, h4, h5⟩
    rw [if_neg (by rw [le_n (by omega) (by omega)]; omega)]
    by_cases hjp : j = p
    · rw [if_pos (by rw [hjp])]; exact go (by omega)
    rw [if_neg (by rw [eq_n (by omega) (by omega)]; exact hjp), if_pos (ix_n (by omega) (by omega)), cl_n (by omega), ← (h.2.2.2 j (by omega)).2.1]
    by_cases hk : kn j = nI p
    · rw [if_pos hk, if_pos (ix_n (by omega) (by omega)), h.oM (by omega)]
      simp only [Option.bind_some]
      by_cases hfl : Fl (k j) w (T j) n = Fl (k p) w (T p) n
      · rw [if_pos hfl]
      · rw [if_neg hfl]; exact go (fun e => hfl (by rw [e]; exact h5))
    · rw [if_neg hk]; exact go (fun e => hk (by rw [e]; exact h4))
theorem seenM_n (h : RT n q T D w k d kn t w' k' d' kn' t') {p : Nat} (hp : p < q) : ∀ m j fuel, j + m = q → m < fuel → (¬ ∃ i, j ≤ i ∧ i < q ∧ i ≠ p ∧ kn i = nI p ∧ Fl (k i) w (T i) n = Fl (k p) w (T p) n) → l_X4_isKnown_14 (nI n) (nI q) w' k' kn' t' (nI p) fuel (Fl (k p) w (T p) n, nI j) = some 0 := by
  have hq := h.2.1
  intro m
  induction m with
  | zero =>
    intro j fuel hj hf _
    obtain ⟨f, rfl⟩ : ∃ f, fuel = f + 1 := ⟨fuel - 1, by omega⟩
    rw [s_X4_isKnown_14]
    unfold b_X4_isKnown_14
    rw [if_pos (by rw [le_n (by omega) (by omega)]; omega)]
  | succ m ih =>
    intro j fuel hj hf hno
    obtain ⟨f, rfl⟩ : ∃ f, fuel = f + 1 := ⟨fuel - 1, by omega⟩
    rw [s_X4_isKnown_14]
    unfold b_X4_isKnown_14
    have go : l_X4_isKnown_14 (nI n) (nI q) w' k' kn' t' (nI p) f (Fl (k p) w (T p) n, nI j + 1) = some 0 := by
      rw [n1]; exact ih (j + 1) f (by omega) (by omega) (fun ⟨i, h1, h2⟩ => hno ⟨i, by omega, h2⟩)
    rw [if_neg (by rw [le_n (by omega) (by omega)]; omega)]
    by_cases hjp : j = p
    · rw [if_pos (by rw [hjp])]; exact go
    rw [if_neg (by rw [eq_n (by omega) (by omega)]; exact hjp), if_pos (ix_n (by omega) (by omega)), cl_n (by omega), ← (h.2.2.2 j (by omega)).2.1]
    by_cases hk : kn j = nI p
    · rw [if_pos hk, if_pos (ix_n (by omega) (by omega)), h.oM (by omega)]
      simp only [Option.bind_some]
      by_cases hfl : Fl (k j) w (T j) n = Fl (k p) w (T p) n
      · exact absurd ⟨j, Nat.le_refl _, by omega, hjp, hk, hfl⟩ hno
      · rw [if_neg hfl]; exact go
    · rw [if_neg hk]; exact go
theorem known_y (h : RT n q T D w k d kn t w' k' d' kn' t') {p : Nat} (hp : p < q) (hs : Seen n q T w k kn p) : f_X4_isKnown (nI n) (nI q) w' k' kn' t' (nI p) = some 1 := by
  have hq := h.2.1
  unfold f_X4_isKnown
  rw [if_pos (ix_n (by omega) (by omega)), cl_n (by omega), h.oM hp]
  obtain ⟨i, h1, h2⟩ := hs
  exact seenM_y h hp q 0 99 (by omega) (by omega) ⟨i, by omega, h1, h2⟩
theorem known_n (h : RT n q T D w k d kn t w' k' d' kn' t') {p : Nat} (hp : p < q) (hs : ¬ Seen n q T w k kn p) : f_X4_isKnown (nI n) (nI q) w' k' kn' t' (nI p) = some 0 := by
  have hq := h.2.1
  unfold f_X4_isKnown
  rw [if_pos (ix_n (by omega) (by omega)), cl_n (by omega), h.oM hp]
  exact seenM_n h hp q 0 99 (by omega) (by omega) (fun ⟨i, _, h1, h2⟩ => hs ⟨i, h1, h2⟩)
/-- done, by class and model -/
theorem RT.dX (h : RT n q T D w k d kn t w' k' d' kn' t') {p j : Nat} (hp : p < q) (hj : j < n) : ((d p >>> (nI j &&& 31)) &&& 1) = nI (D p / 2 ^ j % 2) := by
  obtain ⟨-, -, -, h1, h2, -⟩ := h.2.2.2 p hp
  rw [h2, bit_n _ h1 j (by have := h.1; omega)]
theorem RT.dM (h : RT n q T D w k d kn t w' k' d' kn' t') {p j : Nat} (hp : p < q) (hj : j < n) : ((d' p >>> (nI j &&& 31)) &&& 1) = nI (D p / 2 ^ j % 2) := by
  obtain ⟨-, -, -, h1, -, h2⟩ := h.2.2.2 p hp
  have hn := h.1
  rw [h2, bit_n _ (Nat.lt_of_le_of_lt (Nat.mod_le _ _) h1) j (by omega), bit_mod n (by omega) _ h1 j hj]
theorem RT.tX (h : RT n q T D w k d kn t w' k' d' kn' t') {p j : Nat} (hp : p < q) (hj : j < n) : ((t p >>> (nI j &&& 31)) &&& 1) = nI (T p / 2 ^ j % 2) := by
  rw [(h.2.2.2 p hp).2.2.1.2.1, bit_n _ (h.T64 hp) j (by have := h.1; omega)]
theorem RT.tM (h : RT n q T D w k d kn t w' k' d' kn' t') {p j : Nat} (hp : p < q) (hj : j < n) : ((t' p >>> (nI j &&& 31)) &&& 1) = nI (T p / 2 ^ j % 2) := by
  rw [(h.2.2.2 p hp).2.2.1.2.2, bit_n _ (h.T64 hp) j (by have := h.1; omega)]
theorem RT.told (h : RT n q T D w k d kn t w' k' d' kn' t') {p j : Nat} (hp : p < q) (hj : j < n) : f_X2_hasTold t (nI p) (nI j) = some (if T p / 2 ^ j % 2 = 1 then 1 else 0) := by
  have hq := h.2.1
  unfold f_X2_hasTold
  rw [if_pos (ix_n (by omega) (by omega)), cl_n (by omega), h.tX hp hj]
  simp only [b01]
  split <;> rfl
/-- a new set of what p has told, in both -/
theorem RT.put (h : RT n q T D w k d kn t w' k' d' kn' t') (p : Nat) {s : Nat} (hs : s < 2 ^ n) : RT n q (fun i => if i = p then s else T i) D w k d kn (upd t p (nI s)) w' k' d' kn' (upd t' p (nI s)) := by
  refine ⟨h.1, h.2.1, h.2.2.1, fun i hi => ?_⟩
  obtain ⟨h1, h2, h3, h4⟩ := h.2.2.2 i hi
  refine ⟨h1, h2, ?_, h4⟩
  by_cases e : i = p
  · subst e
    simp only [upd, if_true]
    exact ⟨hs, trivial, trivial⟩
  · simp only [upd, if_neg e]
    exact h3
theorem RT.hear (h : RT n q T D w k d kn t w' k' d' kn' t') {p j : Nat} (hp : p < q) (hj : j < n) (hnt : ¬ T p / 2 ^ j % 2 = 1) (c : Int32) :
    ∃ (e : Int32) (t2 t2' : Nat → Int32) (T2 : Nat → Nat), (e = 0 ∨ e = 1) ∧ f_X2_hear (nI n) (nI q) c w k d kn t (nI p) (nI j) = some (c + e, t2) ∧ f_X4_tells (nI n) (nI q) w' k' d' kn' t' (nI p) (nI j) = some (e, t2') ∧ RT n q T2 D w k d kn t2 w' k' d' kn' t2' ∧ (∀ i, i ≠ p → t2' i = t' i) := by
  have hq := h.2.1
  have hn := h.1
  have ip : ix (nI p) 4 = true := ix_n (by omega) (by omega)
  have cp : (nI p).toNatClampNeg = p := cl_n (by omega)
  have t1 := (h.2.2.2 p hp).2.2.1
  have hor : T p ||| 2 ^ j < 2 ^ n := or_lt n (by omega) _ t1.1 j hj
  have ho1 : (t p ||| (1 <<< (nI j &&& 31))) = nI (T p ||| 2 ^ j) := by rw [t1.2.1, or_n _ (h.T64 hp) j (by omega)]
  have ho2 : (t' p ||| (1 <<< (nI j &&& 31))) = nI (T p ||| 2 ^ j) := by rw [t1.2.2, or_n _ (h.T64 hp) j (by omega)]
  have fin : ∀ (x : Int32), x = 0 → f_X2_wouldBeCaught (nI n) (nI q) w k d kn t (nI p) (nI j) = some x → f_X2_hear (nI n) (nI q) c w k d kn t (nI p) (nI j) = some (c + 0, upd t p (nI (T p ||| 2 ^ j))) := fun x ex hx => by
    unfold f_X2_hear
    rw [hx, add0]
    simp only [Option.bind_some, ex, if_true, ip, cp, ho1]
  by_cases hd : D p / 2 ^ j % 2 = 1
  · refine ⟨0, _, _, _, Or.inl rfl, fin 0 rfl ?_, ?_, h.put p hor, fun i hi => pk_un hi⟩
    · unfold f_X2_wouldBeCaught
      rw [if_pos ip, cp, h.dX hp hj]
      simp only [b01]
      rw [if_pos hd]
    · unfold f_X4_tells
      rw [if_pos ip, cp, h.dM hp hj]
      simp only [b00]
      rw [if_neg (fun q => q hd), if_pos ip, if_pos ip, ho2]
  · by_cases hs : Seen n q T w k kn p
    · have hw : f_X2_wouldBeCaught (nI n) (nI q) w k d kn t (nI p) (nI j) = some 1 := by
        unfold f_X2_wouldBeCaught
        rw [if_pos ip, cp, h.dX hp hj]
        simp only [b01]
        rw [if_neg hd]
        obtain ⟨i, h1, h2⟩ := hs
        exact seenX_y h hp q 0 99 (by omega) (by omega) ⟨i, by omega, h1, h2⟩
      refine ⟨1, upd t p 0, upd t' p 0, _, Or.inr rfl, ?_, ?_, h.put (s := 0) p (Nat.pos_of_ne_zero (by simp)), fun i hi => pk_un hi⟩
      · unfold f_X2_hear
        rw [hw]
        simp only [Option.bind_some, ip, if_true, cp]
        rfl
      · unfold f_X4_tells
        rw [if_pos ip, cp, h.dM hp hj]
        simp only [b00]
        rw [if_pos hd, known_y h hp hs]
        simp only [Option.bind_some, ip, if_true]
        rfl
    · have hw : f_X2_wouldBeCaught (nI n) (nI q) w k d kn t (nI p) (nI j) = some 0 := by
        unfold f_X2_wouldBeCaught
        rw [if_pos ip, cp, h.dX hp hj]
        simp only [b01]
        rw [if_neg hd]
        exact seenX_n h hp q 0 99 (by omega) (by omega) (fun ⟨i, _, h1, h2⟩ => hs ⟨i, h1, h2⟩)
      refine ⟨0, _, _, _, Or.inl rfl, fin 0 rfl hw, ?_, h.put p hor, fun i hi => pk_un hi⟩
      unfold f_X4_tells
      rw [if_pos ip, cp, h.dM hp hj]
      simp only [b00]
      rw [if_pos hd, known_n h hp hs]
      simp only [Option.bind_some, ip, if_true, ho2]
end
