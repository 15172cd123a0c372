/-! PURE 8: a tower by a text -/
theorem sub_self32 (x : Int32) : x - x = 0 := by
  apply Int32.toBitVec_inj.mp
  simp
section
variable {a b x B : Nat} {c ce : Nat → Int32}
/-- the text: b codes from a on in the class's row, from B on in the model's -/
def TX (a b B : Nat) (c ce : Nat → Int32) : Prop := a + b ≤ 60 ∧ B + b ≤ 240 ∧ ∀ y, y < b → c (a + y) = ce (B + y)
theorem tk1 (h : TX a b B c ce) (hx : x < b) {L : Int32} (e : c (a + x) = L) : f_X1_taken (nI a) (nI b) (nI x) c L L = some (0, nI (x + 1)) := by
  have h1 := h.1
  unfold f_X1_taken
  rw [if_neg (show ¬ nI b ≤ nI x by rw [le_n (by omega) (by omega)]; omega), nI_add, cl_n (show a + x < 2147483648 by omega), e, if_neg (show ¬ L < L by rw [i_nlt]; exact Int32.le_refl L), if_pos (Int32.le_refl L), sub_self32, n1]
  simp only [ix_n (show a + x < 60 by omega) (by omega), if_true]
theorem tk0 (h : TX a b B c ce) (hb : x ≤ b) {L : Int32} (e : x < b → ¬ c (a + x) = L) : f_X1_taken (nI a) (nI b) (nI x) c L L = some (-1, nI x) := by
  have h1 := h.1
  unfold f_X1_taken
  by_cases hx : x < b
  · rw [if_neg (show ¬ nI b ≤ nI x by rw [le_n (by omega) (by omega)]; omega), nI_add, cl_n (show a + x < 2147483648 by omega)]
    simp only [ix_n (show a + x < 60 by omega) (by omega), if_true]
    by_cases c1 : c (a + x) < L
    · rw [if_pos c1]
    · rw [if_neg c1, if_neg]
      intro c2
      exact e hx (Int32.le_antisymm c2 (by rw [← i_nlt]; exact c1))
  · rw [if_pos (show nI b ≤ nI x by rw [le_n (by omega) (by omega)]; omega)]
theorem sg1 (h : TX a b B c ce) (hx : x < b) {L : Int32} (e : c (a + x) = L) : f_X4_isSign (nI (B + x)) ce (nI (B + b)) L = some (1, nI (B + (x + 1))) := by
  have h2 := h.2.1
  unfold f_X4_isSign
  rw [if_neg (show ¬ nI (B + b) ≤ nI (B + x) by rw [le_n (by omega) (by omega)]; omega), if_pos (ix_n (by omega) (by omega)), cl_n (by omega), ← h.2.2 x hx, if_pos e, n1]
  rfl
theorem sg0 (h : TX a b B c ce) (hb : x ≤ b) {L : Int32} (e : x < b → ¬ c (a + x) = L) : f_X4_isSign (nI (B + x)) ce (nI (B + b)) L = some (0, nI (B + x)) := by
  have h2 := h.2.1
  unfold f_X4_isSign
  by_cases hx : x < b
  · rw [if_neg (show ¬ nI (B + b) ≤ nI (B + x) by rw [le_n (by omega) (by omega)]; omega), if_pos (ix_n (by omega) (by omega)), cl_n (by omega), ← h.2.2 x hx, if_neg (e hx)]
  · rw [if_pos (show nI (B + b) ≤ nI (B + x) by rw [le_n (by omega) (by omega)]; omega)]
theorem tk_sg (h : TX a b B c ce) (hb : x ≤ b) (L : Int32) : (x < b ∧ f_X1_taken (nI a) (nI b) (nI x) c L L = some (0, nI (x + 1)) ∧ f_X4_isSign (nI (B + x)) ce (nI (B + b)) L = some (1, nI (B + (x + 1)))) ∨ (f_X1_taken (nI a) (nI b) (nI x) c L L = some (-1, nI x) ∧ f_X4_isSign (nI (B + x)) ce (nI (B + b)) L = some (0, nI (B + x))) := by
  by_cases e : x < b ∧ c (a + x) = L
  · exact Or.inl ⟨e.1, tk1 h e.1 e.2, sg1 h e.1 e.2⟩
  · exact Or.inr ⟨tk0 h hb (fun z y => e ⟨z, y⟩), sg0 h hb (fun z y => e ⟨z, y⟩)⟩
theorem tk_dg (h : TX a b B c ce) (hb : x ≤ b) {L H l' h' : Int32} (l u : Nat) (e1 : L = nI (48 + l)) (e2 : H = nI (48 + u)) (e3 : l' = nI l) (e4 : h' = nI u) (hlu : l ≤ u) (hu : u < 10) :
    (∃ v, l ≤ v ∧ v ≤ u ∧ x < b ∧ f_X1_taken (nI a) (nI b) (nI x) c L H = some (nI (v - l), nI (x + 1)) ∧ f_X4_digit (nI (B + x)) ce (nI (B + b)) l' h' = some (nI v, nI (B + (x + 1)))) ∨ (f_X1_taken (nI a) (nI b) (nI x) c L H = some (-1, nI x) ∧ f_X4_digit (nI (B + x)) ce (nI (B + b)) l' h' = some (-9, nI (B + x))) := by
  subst e1; subst e2; subst e3; subst e4
  have h1 := h.1
  have h2 := h.2.1
  unfold f_X1_taken f_X4_digit
  have q1 : (48 : Int32) + nI l = nI (48 + l) := nI_add 48 l
  have q2 : (48 : Int32) + nI u = nI (48 + u) := nI_add 48 u
  rw [q1, q2]
  by_cases hx : x < b
  · rw [if_neg (show ¬ nI b ≤ nI x by rw [le_n (by omega) (by omega)]; omega), if_neg (show ¬ nI (B + b) ≤ nI (B + x) by rw [le_n (by omega) (by omega)]; omega), nI_add, n1, n1, show nI (B + x + 1) - 1 = nI (B + x) from nI_pred _]
    simp only [ix_n (show a + x < 60 by omega) (by omega), ix_n (show B + x < 240 by omega) (by omega), if_true, cl_n (show a + x < 2147483648 by omega), cl_n (show B + x < 2147483648 by omega), ← h.2.2 x hx]
    by_cases c1 : c (a + x) < nI (48 + l)
    · rw [if_pos c1, with_n (Or.inl c1)]
      exact Or.inr ⟨rfl, rfl⟩
    by_cases c2 : nI (48 + u) < c (a + x)
    · rw [if_neg c1, if_neg (show ¬ c (a + x) ≤ nI (48 + u) by rw [i_nle]; exact c2), with_n (Or.inr c2)]
      exact Or.inr ⟨rfl, rfl⟩
    · rw [if_neg c1, if_pos (show c (a + x) ≤ nI (48 + u) by rw [← i_nlt]; exact c2), with_y c1 c2]
      have c0 : ¬ c (a + x) < 0 := by
        intro z
        rw [Int32.lt_iff_toInt_lt] at z c1
        rw [nI_toInt (by omega)] at c1
        have z0 : (0 : Int32).toInt = 0 := by decide
        omega
      obtain ⟨v, hv, e⟩ := nI_of2 (M := nI (48 + u)) (n := 48 + u) (nI_toInt (by omega)) c0 (by rw [← i_nlt]; exact c2)
      rw [e, lt_n (by omega) (by omega)] at c1
      rw [e]
      refine Or.inl ⟨v - 48, by omega, by omega, hx, ?_, ?_⟩
      · rw [pk_sub (by omega), show v - (48 + l) = v - 48 - l by omega]
      · simp only [bsm, show ¬ ((1 : Int32) = 0) by decide, if_false]
        rw [show nI v - 48 = nI (v - 48) from pk_sub (a := v) (b := 48) (by omega)]
        rfl
  · rw [if_pos (show nI b ≤ nI x by rw [le_n (by omega) (by omega)]; omega), if_pos (show nI (B + b) ≤ nI (B + x) by rw [le_n (by omega) (by omega)]; omega)]
    exact Or.inr ⟨rfl, rfl⟩
/-- deeds read so far, in both -/
def PD (e : Nat) (w rw : Nat → Int32) : Prop := ∀ i, i < e → w i = rw i
/-- people read so far, in both -/
def PP (p : Nat) (k d kn t rd : Nat → Int32) : Prop := ∀ i, i < p → (k i = 0 ∨ k i = 1 ∨ k i = 2) ∧ rd (3 * i) = k i ∧ (∃ v, v < 64 ∧ d i = nI v ∧ rd (3 * i + 1) = nI v) ∧ rd (3 * i + 2) = kn i ∧ t i = 0
theorem ge0 {v : Nat} (h : v < 2147483648) : (0 : Int32) ≤ nI v := nI_pos' (by omega)
theorem nm9 {v : Nat} (h : v < 10) : ¬ nI v = -9 := by
  have hh : ∀ v, v < 10 → ¬ nI v = -9 := by decide +kernel
  exact hh v h
theorem deed_q (h : TX a b B c ce) (hb : x ≤ b) {e : Nat} (he : e < 6) {w rw : Nat → Int32} (hp : PD e w rw) :
    (∃ y w2 rw2 s, y ≤ b ∧ f_X1_readsDeed (nI a) (nI b) (nI x) (nI e) w c = some (1, nI y, nI (e + 1), w2) ∧ f_X4_isSign (nI (B + x)) ce (nI (B + b)) 45 = some (1, s) ∧ f_X4_readDeed s (nI e) ce rw (nI (B + b)) = some (1, nI (B + y), nI (e + 1), rw2) ∧ PD (e + 1) w2 rw2) ∨
    (f_X1_readsDeed (nI a) (nI b) (nI x) (nI e) w c = some (0, nI x, nI e, w) ∧ f_X4_isSign (nI (B + x)) ce (nI (B + b)) 45 = some (0, nI (B + x))) ∨
    (∃ y rw2 s, y ≤ b ∧ f_X1_readsDeed (nI a) (nI b) (nI x) (nI e) w c = some (0, nI y, nI e, w) ∧ f_X4_isSign (nI (B + x)) ce (nI (B + b)) 45 = some (1, s) ∧ f_X4_readDeed s (nI e) ce rw (nI (B + b)) = some (0, nI (B + y), nI (e + 1), rw2)) := by
  unfold f_X1_readsDeed
  rcases tk_sg h hb 45 with ⟨hx, e1, e2⟩ | ⟨e1, e2⟩
  · rw [e1, e2]
    simp only [bsm, show (0 : Int32) ≤ 0 by decide, if_true]
    unfold f_X4_readDeed
    rcases tk_dg h (show x + 1 ≤ b by omega) (L := 49) (H := 57) (l' := 1) (h' := 9) 1 9 rfl rfl rfl rfl (by omega) (by omega) with ⟨v, hv1, hv2, hx1, e3, e4⟩ | ⟨e3, e4⟩
    · left
      rw [e3]
      simp only [bsm, if_pos (ge0 (show v - 1 < 2147483648 by omega))]
      refine ⟨x + 1 + 1, upd w e (nI v), upd rw e (nI v), _, by omega, ?_, rfl, ?_, fun i hi => ?_⟩
      · unfold f_X2_addDeed
        rw [if_neg (show ¬ (6 : Int32) ≤ nI e by show ¬ nI 6 ≤ nI e; rw [le_n (by omega) (by omega)]; omega), if_pos (ix_n he (by omega)), cl_n (by omega), n1, n1, show v - 1 + 1 = v by omega]
        rfl
      · rw [e4]
        simp only [bsm, ix_n he (by omega), if_true, n1, show nI (e + 1) - 1 = nI e from nI_pred e, cl_n (show e < 2147483648 by omega), pk_us, if_neg (nm9 (show v < 10 by omega))]
      · by_cases ei : i = e
        · rw [ei, pk_us, pk_us]
        · rw [pk_un ei, pk_un ei]; exact hp i (by omega)
    · right; right
      rw [e3]
      simp only [bsm, if_neg (show ¬ (0 : Int32) ≤ -1 by decide)]
      refine ⟨x + 1, upd rw e (-9), nI (B + (x + 1)), by omega, rfl, rfl, ?_⟩
      rw [e4]
      simp only [bsm, ix_n he (by omega), if_true, n1, show nI (e + 1) - 1 = nI e from nI_pred e, cl_n (show e < 2147483648 by omega), pk_us]
  · right; left
    rw [e1]
    simp only [bsm, if_neg (show ¬ (0 : Int32) ≤ -1 by decide)]
    exact ⟨trivial, e2⟩
theorem kind_q (h : TX a b B c ce) (hb : x ≤ b) : (∃ v, v < 3 ∧ x < b ∧ f_X1_takenKind (nI a) (nI b) (nI x) c = some (nI v, nI (x + 1)) ∧ ((v = 0 ∧ c (a + x) = 112) ∨ (v = 1 ∧ c (a + x) = 114) ∨ (v = 2 ∧ c (a + x) = 97))) ∨ (f_X1_takenKind (nI a) (nI b) (nI x) c = some (-1, nI x) ∧ (x < b → ¬ c (a + x) = 112 ∧ ¬ c (a + x) = 114 ∧ ¬ c (a + x) = 97)) := by
  unfold f_X1_takenKind
  by_cases c1 : x < b ∧ c (a + x) = 112
  · rw [tk1 h c1.1 c1.2]
    exact Or.inl ⟨0, by omega, c1.1, rfl, Or.inl ⟨rfl, c1.2⟩⟩
  rw [tk0 h hb (fun z y => c1 ⟨z, y⟩)]
  simp only [bsm, if_neg (show ¬ (-1 : Int32) = 0 by decide)]
  by_cases c2 : x < b ∧ c (a + x) = 114
  · rw [tk1 h c2.1 c2.2]
    exact Or.inl ⟨1, by omega, c2.1, rfl, Or.inr (Or.inl ⟨rfl, c2.2⟩)⟩
  rw [tk0 h hb (fun z y => c2 ⟨z, y⟩)]
  simp only [bsm, if_neg (show ¬ (-1 : Int32) = 0 by decide)]
  by_cases c3 : x < b ∧ c (a + x) = 97
  · rw [tk1 h c3.1 c3.2]
    exact Or.inl ⟨2, by omega, c3.1, rfl, Or.inr (Or.inr ⟨rfl, c3.2⟩)⟩
  rw [tk0 h hb (fun z y => c3 ⟨z, y⟩)]
  exact Or.inr ⟨rfl, fun z => ⟨fun y => c1 ⟨z, y⟩, fun y => c2 ⟨z, y⟩, fun y => c3 ⟨z, y⟩⟩⟩
theorem thr (p : Nat) : 3 * nI p = nI (3 * p) := by
  show nI 3 * nI p = _
  rw [pk_mul]
theorem add_q {p : Nat} (hp : p < 4) {k d kn t : Nat → Int32} {x1 x2 x3 : Int32} : f_X2_addPerson (nI p) k d kn t x1 x2 x3 = some (nI (p + 1), upd k p x1, upd d p x2, upd kn p x3, upd t p 0) := by
  unfold f_X2_addPerson
  rw [if_neg (show ¬ (4 : Int32) ≤ nI p by show ¬ nI 4 ≤ nI p; rw [le_n (by omega) (by omega)]; omega), n1]
  simp only [ix_n hp (by omega), if_true, cl_n (show p < 2147483648 by omega)]
theorem PP.add {p : Nat} {k d kn t rd : Nat → Int32} (h : PP p k d kn t rd) {κ v u : Nat} (hk : κ < 3) (hv : v < 64) : PP (p + 1) (upd k p (nI κ)) (upd d p (nI v)) (upd kn p (nI u)) (upd t p 0) (upd (upd (upd rd (3 * p) (nI κ)) (3 * p + 1) (nI v)) (3 * p + 2) (nI u)) := by
  intro i hi
  by_cases e : i = p
  · subst e
    simp only [pk_us, pk_un (show 3 * i ≠ 3 * i + 2 by omega), pk_un (show 3 * i ≠ 3 * i + 1 by omega), pk_un (show 3 * i + 1 ≠ 3 * i + 2 by omega)]
    refine ⟨?_, trivial, ⟨v, hv, rfl, rfl⟩, trivial, trivial⟩
    rcases (show κ = 0 ∨ κ = 1 ∨ κ = 2 by omega) with e | e | e <;> rw [e] <;> decide
  · simp only [pk_un e, pk_un (show 3 * i ≠ 3 * p + 2 by omega), pk_un (show 3 * i ≠ 3 * p + 1 by omega), pk_un (show 3 * i ≠ 3 * p by omega), pk_un (show 3 * i + 1 ≠ 3 * p + 2 by omega), pk_un (show 3 * i + 1 ≠ 3 * p + 1 by omega), pk_un (show 3 * i + 1 ≠ 3 * p by omega), pk_un (show 3 * i + 2 ≠ 3 * p + 2 by omega), pk_un (show 3 * i + 2 ≠ 3 * p + 1 by omega), pk_un (show 3 * i + 2 ≠ 3 * p by omega)]
    exact h i (by omega)
/-- the end of a person, behind its letter, in both -/
theorem rest_q (h : TX a b B c ce) (hb : x ≤ b) {p : Nat} (hp : p < 4) {k d kn t rd : Nat → Int32} (hP : PP p k d kn t rd) {κ : Nat} (hκ : κ < 3) {y0 : Int32} (hy0 : y0 + 1 = nI (B + x)) :
    ∃ y, y ≤ b ∧ ((∃ k2 d2 kn2 t2 rd2, ((f_X1_taken (nI a) (nI b) (nI x) c 48 54).bind fun o7 => (if 0 ≤ o7.1 then (if o7.1 = 6 then ((f_X1_taken (nI a) (nI b) o7.2 c 48 51).bind fun o19 => (if 0 ≤ o19.1 then ((f_X1_taken (nI a) (nI b) o19.2 c 48 52).bind fun o22 => (if 0 ≤ o22.1 then ((f_X2_addPerson (nI p) k d kn t (nI κ) ((10 * o7.1) + o19.1) o22.1).bind fun o25 => (some ((1 : Int32), o22.2, o25.1, o25.2.1, o25.2.2.1, o25.2.2.2.1, o25.2.2.2.2))) else (some (0, o22.2, nI p, k, d, kn, t)))) else (some (0, o19.2, nI p, k, d, kn, t)))) else ((f_X1_taken (nI a) (nI b) o7.2 c 48 57).bind fun o11 => (if 0 ≤ o11.1 then ((f_X1_taken (nI a) (nI b) o11.2 c 48 52).bind fun o14 => (if 0 ≤ o14.1 then ((f_X2_addPerson (nI p) k d kn t (nI κ) ((10 * o7.1) + o11.1) o14.1).bind fun o17 => (some (1, o14.2, o17.1, o17.2.1, o17.2.2.1, o17.2.2.2.1, o17.2.2.2.2))) else (some (0, o14.2, nI p, k, d, kn, t)))) else (some (0, o11.2, nI p, k, d, kn, t))))) else (some (0, o7.2, nI p, k, d, kn, t)))) = some (1, nI y, nI (p + 1), k2, d2, kn2, t2) ∧ j_X4_readPerson_66 ce (nI (B + b)) (nI (3 * p)) (nI (3 * p)) (nI κ) y0 (nI p) rd = some (1, nI (B + y), nI (p + 1), rd2) ∧ PP (p + 1) k2 d2 kn2 t2 rd2) ∨
     (((f_X1_taken (nI a) (nI b) (nI x) c 48 54).bind fun o7 => (if 0 ≤ o7.1 then (if o7.1 = 6 then ((f_X1_taken (nI a) (nI b) o7.2 c 48 51).bind fun o19 => (if 0 ≤ o19.1 then ((f_X1_taken (nI a) (nI b) o19.2 c 48 52).bind fun o22 => (if 0 ≤ o22.1 then ((f_X2_addPerson (nI p) k d kn t (nI κ) ((10 * o7.1) + o19.1) o22.1).bind fun o25 => (some ((1 : Int32), o22.2, o25.1, o25.2.1, o25.2.2.1, o25.2.2.2.1, o25.2.2.2.2))) else (some (0, o22.2, nI p, k, d, kn, t)))) else (some (0, o19.2, nI p, k, d, kn, t)))) else ((f_X1_taken (nI a) (nI b) o7.2 c 48 57).bind fun o11 => (if 0 ≤ o11.1 then ((f_X1_taken (nI a) (nI b) o11.2 c 48 52).bind fun o14 => (if 0 ≤ o14.1 then ((f_X2_addPerson (nI p) k d kn t (nI κ) ((10 * o7.1) + o11.1) o14.1).bind fun o17 => (some (1, o14.2, o17.1, o17.2.1, o17.2.2.1, o17.2.2.2.1, o17.2.2.2.2))) else (some (0, o14.2, nI p, k, d, kn, t)))) else (some (0, o11.2, nI p, k, d, kn, t))))) else (some (0, o7.2, nI p, k, d, kn, t)))) = some (0, nI y, nI p, k, d, kn, t) ∧ ∃ m2 rd2, j_X4_readPerson_66 ce (nI (B + b)) (nI (3 * p)) (nI (3 * p)) (nI κ) y0 (nI p) rd = some (0, nI (B + y), m2, rd2))) := by
  have hκ9 : ¬ nI κ = -9 := nI9 hκ
  have t1 : nI (3 * p) + 1 = nI (3 * p + 1) := n1 _
  have t2 : nI (3 * p) + 2 = nI (3 * p + 2) := n2 _
  have fin : ∀ (u v x2 : Nat), u < 7 → v < 10 → (u = 6 → v < 4) → nI (10 * u + v) = 10 * nI u + nI v ∧ 10 * u + v < 64 := fun u v x2 hu hv h6 => by
    refine ⟨?_, by omega⟩
    show _ = nI 10 * nI u + nI v
    rw [pk_mul, nI_add]
  unfold j_X4_readPerson_66
  simp only [ix_n (show 3 * p < 12 by omega) (by omega), ix_n (show 3 * p + 1 < 12 by omega) (by omega), ix_n (show 3 * p + 2 < 12 by omega) (by omega), t1, t2, if_true, cl_n (show 3 * p < 2147483648 by omega), cl_n (show 3 * p + 1 < 2147483648 by omega), cl_n (show 3 * p + 2 < 2147483648 by omega), pk_us, hκ9, if_false, hy0]
  rcases tk_dg h hb (L := 48) (H := 54) (l' := 0) (h' := 6) 0 6 rfl rfl rfl rfl (by omega) (by omega) with ⟨u, hu1, hu2, hx1, e1, e2⟩ | ⟨e1, e2⟩
  · rw [e1, e2]
    simp only [bsm, Nat.sub_zero, if_pos (ge0 (show u < 2147483648 by omega)), if_neg (nm9 (show u < 10 by omega))]
    by_cases h6 : u = 6
    · have h6' : nI u = 6 := by rw [h6]; rfl
      rw [if_pos h6', if_pos h6']
      rcases tk_dg h (show x + 1 ≤ b by omega) (L := 48) (H := 51) (l' := 0) (h' := 3) 0 3 rfl rfl rfl rfl (by omega) (by omega) with ⟨v, hv1, hv2, hx2, e3, e4⟩ | ⟨e3, e4⟩
      · rw [e3, e4]
        simp only [bsm, Nat.sub_zero, if_pos (ge0 (show v < 2147483648 by omega)), if_neg (nm9 (show v < 10 by omega))]
        obtain ⟨f1, f2⟩ := fin u v 0 (by omega) (by omega) (fun _ => by omega)
        rw [← f1]
        rcases tk_dg h (show x + 1 + 1 ≤ b by omega) (L := 48) (H := 52) (l' := 0) (h' := 4) 0 4 rfl rfl rfl rfl (by omega) (by omega) with ⟨r, hr1, hr2, hx3, e5, e6⟩ | ⟨e5, e6⟩
        · rw [e5, e6]
          simp only [bsm, Nat.sub_zero, if_pos (ge0 (show r < 2147483648 by omega)), pk_us, if_neg (nm9 (show r < 10 by omega)), add_q hp, n1]
          exact ⟨x + 1 + 1 + 1, by omega, Or.inl ⟨_, _, _, _, _, rfl, rfl, hP.add hκ f2⟩⟩
        · rw [e5, e6]
          simp only [bsm, if_neg (show ¬ (0 : Int32) ≤ -1 by decide), pk_us, n1]
          exact ⟨x + 1 + 1, by omega, Or.inr ⟨rfl, _, _, rfl⟩⟩
      · rw [e3, e4]
        simp only [bsm, if_neg (show ¬ (0 : Int32) ≤ -1 by decide), if_true]
        exact ⟨x + 1, by omega, Or.inr ⟨rfl, _, _, rfl⟩⟩
    · have h6' : ¬ nI u = 6 := by
        show ¬ nI u = nI 6
        rw [eq_n (by omega) (by omega)]; exact h6
      rw [if_neg h6', if_neg h6']
      rcases tk_dg h (show x + 1 ≤ b by omega) (L := 48) (H := 57) (l' := 0) (h' := 9) 0 9 rfl rfl rfl rfl (by omega) (by omega) with ⟨v, hv1, hv2, hx2, e3, e4⟩ | ⟨e3, e4⟩
      · rw [e3, e4]
        simp only [bsm, Nat.sub_zero, if_pos (ge0 (show v < 2147483648 by omega)), if_neg (nm9 (show v < 10 by omega))]
        obtain ⟨f1, f2⟩ := fin u v 0 (by omega) (by omega) (fun z => absurd z h6)
        rw [← f1]
        rcases tk_dg h (show x + 1 + 1 ≤ b by omega) (L := 48) (H := 52) (l' := 0) (h' := 4) 0 4 rfl rfl rfl rfl (by omega) (by omega) with ⟨r, hr1, hr2, hx3, e5, e6⟩ | ⟨e5, e6⟩
        · rw [e5, e6]
          simp only [bsm, Nat.sub_zero, if_pos (ge0 (show r < 2147483648 by omega)), pk_us, if_neg (nm9 (show r < 10 by omega)), add_q hp, n1]
          exact ⟨x + 1 + 1 + 1, by omega, Or.inl ⟨_, _, _, _, _, rfl, rfl, hP.add hκ f2⟩⟩
        · rw [e5, e6]
          simp only [bsm, if_neg (show ¬ (0 : Int32) ≤ -1 by decide), pk_us, n1]
          exact ⟨x + 1 + 1, by omega, Or.inr ⟨rfl, _, _, rfl⟩⟩
      · rw [e3, e4]
        simp only [bsm, if_neg (show ¬ (0 : Int32) ≤ -1 by decide), if_true]
        exact ⟨x + 1, by omega, Or.inr ⟨rfl, _, _, rfl⟩⟩
  · rw [e1, e2]
    simp only [bsm, if_neg (show ¬ (0 : Int32) ≤ -1 by decide), if_true]
    exact ⟨x, hb, Or.inr ⟨rfl, _, _, rfl⟩⟩
end
