/-! PURE 9: people, the whole text, the tower -/
section
variable {a b x B : Nat} {c ce : Nat → Int32}
theorem person_q (h : TX a b B c ce) (hb : x ≤ b) {p : Nat} (hp : p < 4) {k d kn t rd : Nat → Int32} (hP : PP p k d kn t rd) :
    ∃ y, y ≤ b ∧ ((∃ s k2 d2 kn2 t2 rd2, f_X1_readsPerson (nI a) (nI b) (nI x) (nI p) k d kn t c = some (1, nI y, nI (p + 1), k2, d2, kn2, t2) ∧ f_X4_isSign (nI (B + x)) ce (nI (B + b)) 44 = some (1, s) ∧ f_X4_readPerson s (nI p) ce rd (nI (B + b)) = some (1, nI (B + y), nI (p + 1), rd2) ∧ PP (p + 1) k2 d2 kn2 t2 rd2) ∨
      (f_X1_readsPerson (nI a) (nI b) (nI x) (nI p) k d kn t c = some (0, nI y, nI p, k, d, kn, t) ∧ (f_X4_isSign (nI (B + x)) ce (nI (B + b)) 44 = some (0, nI (B + y)) ∨ ∃ s m2 rd2, f_X4_isSign (nI (B + x)) ce (nI (B + b)) 44 = some (1, s) ∧ f_X4_readPerson s (nI p) ce rd (nI (B + b)) = some (0, nI (B + y), m2, rd2)))) := by
  have h1 := h.1
  have h2 := h.2.1
  unfold f_X1_readsPerson
  rcases tk_sg h hb 44 with ⟨hx, e1, e2⟩ | ⟨e1, e2⟩
  · rw [e1, e2]
    simp only [bsm, show (0 : Int32) ≤ 0 by decide, if_true]
    rcases kind_q h (x := x + 1) (by omega) with ⟨κ, hκ, hx1, e3, e4⟩ | ⟨e3, e4⟩
    · rw [e3]
      simp only [bsm, if_pos (ge0 (show κ < 2147483648 by omega))]
      have e5 : f_X4_readPerson (nI (B + (x + 1))) (nI p) ce rd (nI (B + b)) = j_X4_readPerson_66 ce (nI (B + b)) (nI (3 * p)) (nI (3 * p)) (nI κ) (nI (B + (x + 1))) (nI p) rd := by
        unfold f_X4_readPerson
        rw [if_neg (show ¬ nI (B + b) ≤ nI (B + (x + 1)) by rw [le_n (by omega) (by omega)]; omega), if_pos (ix_n (show B + (x + 1) < 240 by omega) (by omega)), cl_n (show B + (x + 1) < 2147483648 by omega), ← h.2.2 (x + 1) hx1, thr]
        unfold j_X4_readPerson_28
        rcases e4 with ⟨e6, e7⟩ | ⟨e6, e7⟩ | ⟨e6, e7⟩
        · rw [e7, e6, if_pos rfl]; rfl
        · rw [e7, e6, if_neg (by decide), if_pos rfl]; rfl
        · rw [e7, e6, if_neg (by decide), if_neg (by decide), if_pos rfl]; rfl
      obtain ⟨y, hy, hq⟩ := rest_q h (x := x + 1 + 1) (by omega) hp hP hκ (y0 := nI (B + (x + 1))) (n1 _)
      refine ⟨y, hy, ?_⟩
      rcases hq with ⟨k2, d2, kn2, t2, rd2, g1, g2, g3⟩ | ⟨g1, m2, rd2, g2⟩
      · exact Or.inl ⟨_, k2, d2, kn2, t2, rd2, g1, rfl, by rw [e5]; exact g2, g3⟩
      · exact Or.inr ⟨g1, Or.inr ⟨_, m2, rd2, rfl, by rw [e5]; exact g2⟩⟩
    · rw [e3]
      simp only [bsm, if_neg (show ¬ (0 : Int32) ≤ -1 by decide)]
      refine ⟨x + 1, by omega, Or.inr ⟨rfl, Or.inr ⟨_, nI p, upd rd (3 * p) (-9), rfl, ?_⟩⟩⟩
      have e5 : ∀ z : Int32, ¬ z = 112 → ¬ z = 114 → ¬ z = 97 → j_X4_readPerson_28 ce (nI (B + b)) (nI (3 * p)) z (nI (B + (x + 1))) (nI p) rd = some (0, nI (B + (x + 1)), nI p, upd rd (3 * p) (-9)) := fun z z1 z2 z3 => by
        unfold j_X4_readPerson_28
        rw [if_neg z1, if_neg z2, if_neg z3]
        unfold j_X4_readPerson_66
        simp only [ix_n (show 3 * p < 12 by omega) (by omega), if_true, cl_n (show 3 * p < 2147483648 by omega), pk_us]
      unfold f_X4_readPerson
      rw [thr]
      by_cases hx1 : x + 1 < b
      · rw [if_neg (show ¬ nI (B + b) ≤ nI (B + (x + 1)) by rw [le_n (by omega) (by omega)]; omega), if_pos (ix_n (show B + (x + 1) < 240 by omega) (by omega)), cl_n (show B + (x + 1) < 2147483648 by omega), ← h.2.2 (x + 1) hx1]
        obtain ⟨z1, z2, z3⟩ := e4 hx1
        exact e5 _ z1 z2 z3
      · rw [if_pos (show nI (B + b) ≤ nI (B + (x + 1)) by rw [le_n (by omega) (by omega)]; omega)]
        exact e5 0 (by decide) (by decide) (by decide)
  · rw [e1]
    simp only [bsm, if_neg (show ¬ (0 : Int32) ≤ -1 by decide)]
    exact ⟨x, hb, Or.inr ⟨rfl, Or.inl e2⟩⟩
/-- how a text is read to its end, in both -/
def PO (b B : Nat) (X : Option (Int32 × Int32 × Int32 × Int32 × (Nat → Int32) × (Nat → Int32) × (Nat → Int32) × (Nat → Int32) × (Nat → Int32))) (Y : Option (Int32 × Int32 × Int32 × Int32 × (Nat → Int32) × (Nat → Int32))) : Prop :=
  ∃ y, y ≤ b ∧ ((∃ e p w k d kn t rw rd, X = some (1, nI y, nI e, nI p, w, k, d, kn, t) ∧ Y = some (1, nI (B + y), nI e, nI p, rw, rd) ∧ e ≤ 6 ∧ p ≤ 4 ∧ PD e w rw ∧ PP p k d kn t rd) ∨ ∃ o o', X = some o ∧ Y = some o' ∧ o.1 = 0 ∧ o'.1 = 0 ∧ o.2.1 = nI y ∧ o'.2.1 = nI (B + y))
theorem people_l (h : TX a b B c ce) {e : Nat} (he : e ≤ 6) {w rw : Nat → Int32} (hD : PD e w rw) : ∀ r p x k d kn t rd f1 f2, p + r = 4 → 1 ≤ p → r < f1 → r < f2 → x ≤ b → PP p k d kn t rd → PO b B (l_X1_readsText_66 (nI a) (nI b) c f1 (nI p, nI x, nI e, nI p, w, k, d, kn, t)) (l_X4_readTower_71 ce (nI (B + b)) f2 (nI (B + x), nI e, nI p, rw, rd)) := by
  have h1 := h.1
  have h2 := h.2.1
  -- the end: are all codes taken?
  have fin : ∀ p x k d kn t rd, p ≤ 4 → x ≤ b → PP p k d kn t rd → PO b B (if nI x = nI b then (some ((1 : Int32), nI x, nI e, nI p, w, k, d, kn, t)) else (some (0, nI x, nI e, nI p, w, k, d, kn, t))) (if nI (B + x) = nI (B + b) then (some ((1 : Int32), nI (B + x), nI e, nI p, rw, rd)) else (some (0, nI (B + x), nI e, nI p, rw, rd))) := by
    intro p x k d kn t rd hp hx hP
    refine ⟨x, hx, ?_⟩
    by_cases ex : x = b
    · rw [if_pos (by rw [ex]), if_pos (by rw [ex])]
      exact Or.inl ⟨e, p, w, k, d, kn, t, rw, rd, rfl, rfl, he, hp, hD, hP⟩
    · rw [if_neg (by rw [eq_n (by omega) (by omega)]; exact ex), if_neg (by rw [eq_n (by omega) (by omega)]; omega)]
      exact Or.inr ⟨_, _, rfl, rfl, rfl, rfl, rfl, rfl⟩
  intro r
  induction r with
  | zero =>
    intro p x k d kn t rd f1 f2 hp hp1 hf1 hf2 hx hP
    obtain ⟨g1, rfl⟩ : ∃ f, f1 = f + 1 := ⟨f1 - 1, by omega⟩
    obtain ⟨g2, rfl⟩ : ∃ f, f2 = f + 1 := ⟨f2 - 1, by omega⟩
    rw [s_X1_readsText_66, s_X4_readTower_71]; unfold b_X1_readsText_66 b_X4_readTower_71
    have ep : p = 4 := by omega
    subst ep
    rw [if_pos (show (4 : Int32) ≤ nI 4 by decide), if_neg (show ¬ nI 4 = 0 by decide), if_pos (show (4 : Int32) ≤ nI 4 by decide)]
    exact fin 4 x k d kn t rd (by omega) hx hP
  | succ r ih =>
    intro p x k d kn t rd f1 f2 hp hp1 hf1 hf2 hx hP
    obtain ⟨g1, rfl⟩ : ∃ f, f1 = f + 1 := ⟨f1 - 1, by omega⟩
    obtain ⟨g2, rfl⟩ : ∃ f, f2 = f + 1 := ⟨f2 - 1, by omega⟩
    rw [s_X1_readsText_66, s_X4_readTower_71]; unfold b_X1_readsText_66 b_X4_readTower_71
    have c4 : ¬ (4 : Int32) ≤ nI p := by
      show ¬ nI 4 ≤ nI p
      rw [le_n (by omega) (by omega)]; omega
    rw [if_neg c4, if_neg (show ¬ nI p = 0 by show ¬ nI p = nI 0; rw [eq_n (by omega) (by omega)]; omega), if_neg c4]
    by_cases cx : x < b
    · rw [if_neg (show ¬ nI b ≤ nI x by rw [le_n (by omega) (by omega)]; omega), if_neg (show ¬ nI (B + b) ≤ nI (B + x) by rw [le_n (by omega) (by omega)]; omega)]
      obtain ⟨y, hy, hq⟩ := person_q h hx (show p < 4 by omega) hP
      rcases hq with ⟨s, k2, d2, kn2, t2, rd2, q1, q2, q3, q4⟩ | ⟨q1, q2 | ⟨s, m2, rd2, q2, q3⟩⟩
      · rw [q1, q2]
        simp only [bsm, if_neg (show ¬ (1 : Int32) = 0 by decide)]
        rw [q3]
        simp only [bsm, if_neg (show ¬ (1 : Int32) = 0 by decide), n1]
        exact ih (p + 1) y _ _ _ _ _ g1 g2 (by omega) (by omega) (by omega) (by omega) hy q4
      · rw [q1, q2]
        exact ⟨y, hy, Or.inr ⟨_, _, rfl, rfl, rfl, rfl, rfl, rfl⟩⟩
      · rw [q1, q2]
        simp only [bsm, if_neg (show ¬ (1 : Int32) = 0 by decide)]
        rw [q3]
        exact ⟨y, hy, Or.inr ⟨_, _, rfl, rfl, rfl, rfl, rfl, rfl⟩⟩
    · rw [if_pos (show nI b ≤ nI x by rw [le_n (by omega) (by omega)]; omega), if_pos (show nI (B + b) ≤ nI (B + x) by rw [le_n (by omega) (by omega)]; omega)]
      exact fin p x k d kn t rd (by omega) hx hP
/-- the first person, and the others -/
theorem people_s (h : TX a b B c ce) {e : Nat} (he : e ≤ 6) {w rw : Nat → Int32} (hD : PD e w rw) (hx : x ≤ b) {k d kn t rd : Nat → Int32} :
    PO b B ((f_X1_readsPerson (nI a) (nI b) (nI x) 0 k d kn t c).bind fun o8 => (if o8.1 = 0 then (some (0, o8.2.1, nI e, o8.2.2.1, w, o8.2.2.2.1, o8.2.2.2.2.1, o8.2.2.2.2.2.1, o8.2.2.2.2.2.2)) else (l_X1_readsText_66 (nI a) (nI b) c 99 (1, o8.2.1, nI e, o8.2.2.1, w, o8.2.2.2.1, o8.2.2.2.2.1, o8.2.2.2.2.2.1, o8.2.2.2.2.2.2))))
      (l_X4_readTower_71 ce (nI (B + b)) 99 (nI (B + x), nI e, 0, rw, rd)) := by
  have hP0 : PP 0 k d kn t rd := fun i hi => absurd hi (by omega)
  obtain ⟨y, hy, hq⟩ := person_q h hx (show 0 < 4 by omega) hP0
  have z0 : nI 0 = 0 := rfl
  rw [z0] at hq
  rw [show (99 : Nat) = 98 + 1 from rfl, s_X4_readTower_71]
  unfold b_X4_readTower_71
  rw [if_pos (show (0 : Int32) = 0 from rfl)]
  rcases hq with ⟨s, k2, d2, kn2, t2, rd2, q1, q2, q3, q4⟩ | ⟨q1, q2 | ⟨s, m2, rd2, q2, q3⟩⟩
  · rw [q1, q2]
    simp only [bsm, if_neg (show ¬ (1 : Int32) = 0 by decide)]
    rw [q3]
    simp only [bsm, if_neg (show ¬ (1 : Int32) = 0 by decide)]
    exact people_l h he hD 3 1 y _ _ _ _ _ (98 + 1) 98 (by omega) (by omega) (by omega) (by omega) hy q4
  · rw [q1, q2]
    exact ⟨y, hy, Or.inr ⟨_, _, rfl, rfl, rfl, rfl, rfl, rfl⟩⟩
  · rw [q1, q2]
    simp only [bsm, if_neg (show ¬ (1 : Int32) = 0 by decide)]
    rw [q3]
    exact ⟨y, hy, Or.inr ⟨_, _, rfl, rfl, rfl, rfl, rfl, rfl⟩⟩
theorem next_q (h : TX a b B c ce) (hx : x ≤ b) {e : Nat} (he : e < 6) {w rw : Nat → Int32} (hp : PD e w rw) : (f_X1_nextIs (nI a) (nI b) (nI x) c 45 = some 1 ∧ ∃ s, f_X4_isSign (nI (B + x)) ce (nI (B + b)) 45 = some (1, s)) ∨ (f_X1_nextIs (nI a) (nI b) (nI x) c 45 = some 0 ∧ f_X4_isSign (nI (B + x)) ce (nI (B + b)) 45 = some (0, nI (B + x))) := by
  have h1 := h.1
  unfold f_X1_nextIs
  by_cases cx : x < b
  · rw [if_neg (show ¬ nI b ≤ nI x by rw [le_n (by omega) (by omega)]; omega), nI_add, if_pos (ix_n (show a + x < 60 by omega) (by omega)), cl_n (show a + x < 2147483648 by omega)]
    by_cases c1 : c (a + x) = 45
    · rw [if_pos c1]
      exact Or.inl ⟨rfl, _, sg1 h cx c1⟩
    · rw [if_neg c1]
      exact Or.inr ⟨rfl, sg0 h hx (fun _ => c1)⟩
  · rw [if_pos (show nI b ≤ nI x by rw [le_n (by omega) (by omega)]; omega)]
    exact Or.inr ⟨rfl, sg0 h hx (fun z => absurd z cx)⟩
theorem deeds_l (h : TX a b B c ce) {k d kn t rd : Nat → Int32} : ∀ r e x w rw f1 f2, e + r = 6 → 1 ≤ e → r < f1 → r < f2 → x ≤ b → PD e w rw → PO b B (l_X1_readsText_23 (nI a) (nI b) c f1 (nI e, nI x, nI e, 0, w, k, d, kn, t)) (l_X4_readTower_42 ce (nI (B + b)) f2 (nI (B + x), nI e, 0, rw, rd)) := by
  intro r
  induction r with
  | zero =>
    intro e x w rw f1 f2 he he1 hf1 hf2 hx hD
    obtain ⟨g1, rfl⟩ : ∃ f, f1 = f + 1 := ⟨f1 - 1, by omega⟩
    obtain ⟨g2, rfl⟩ : ∃ f, f2 = f + 1 := ⟨f2 - 1, by omega⟩
    rw [s_X1_readsText_23, s_X4_readTower_42]; unfold b_X1_readsText_23 b_X4_readTower_42
    have ep : e = 6 := by omega
    subst ep
    rw [if_pos (show (6 : Int32) ≤ nI 6 by decide), if_pos (show (6 : Int32) ≤ nI 6 by decide)]
    exact people_s h (by omega) hD hx
  | succ r ih =>
    intro e x w rw f1 f2 he he1 hf1 hf2 hx hD
    obtain ⟨g1, rfl⟩ : ∃ f, f1 = f + 1 := ⟨f1 - 1, by omega⟩
    obtain ⟨g2, rfl⟩ : ∃ f, f2 = f + 1 := ⟨f2 - 1, by omega⟩
    rw [s_X1_readsText_23, s_X4_readTower_42]; unfold b_X1_readsText_23 b_X4_readTower_42
    have c6 : ¬ (6 : Int32) ≤ nI e := by
      show ¬ nI 6 ≤ nI e
      rw [le_n (by omega) (by omega)]; omega
    rw [if_neg c6, if_neg c6]
    rcases next_q h hx (show e < 6 by omega) hD with ⟨n1', s0, n2'⟩ | ⟨n1', n2'⟩
    · rcases deed_q h hx (show e < 6 by omega) hD with ⟨y, w2, rw2, s, hy, q1, q2, q3, q4⟩ | ⟨q1, q2⟩ | ⟨y, rw2, s, hy, q1, q2, q3⟩
      · rw [n1', q1, q2]
        simp only [bsm, if_neg (show ¬ (1 : Int32) = 0 by decide)]
        rw [q3]
        simp only [bsm, if_neg (show ¬ (1 : Int32) = 0 by decide), n1]
        exact ih (e + 1) y w2 rw2 g1 g2 (by omega) (by omega) (by omega) (by omega) hy q4
      · rw [q2] at n2'
        exact absurd (Prod.mk.inj (Option.some.inj n2')).1 (by decide)
      · rw [n1', q1, q2]
        simp only [bsm, if_neg (show ¬ (1 : Int32) = 0 by decide), if_true]
        rw [q3]
        exact ⟨y, hy, Or.inr ⟨_, _, rfl, rfl, rfl, rfl, rfl, rfl⟩⟩
    · rw [n1', n2']
      simp only [bsm, if_true]
      exact people_s h (by omega) hD hx
theorem text_q (h : TX a b B c ce) {w k d kn t rw rd : Nat → Int32} (x1 x2 : Int32) : PO b B (f_X1_readsText (nI a) (nI b) 0 0 0 w k d kn t c) (f_X4_readTower (nI B) x1 x2 ce rw rd (nI (B + b))) := by
  unfold f_X1_readsText f_X4_readTower
  have z0 : (0 : Int32) = nI 0 := rfl
  rcases tk_sg h (x := 0) (by omega) 117 with ⟨hx, e1, e2⟩ | ⟨e1, e2⟩
  · have e1' : f_X1_taken (nI a) (nI b) 0 c 117 117 = some (0, nI (0 + 1)) := e1
    have e2' : f_X4_isSign (nI B) ce (nI (B + b)) 117 = some (1, nI (B + (0 + 1))) := e2
    rw [e1', e2']
    simp only [bsm, if_neg (show ¬ (0 : Int32) < 0 by decide), if_neg (show ¬ (1 : Int32) = 0 by decide)]
    have hD0 : PD 0 w rw := fun i hi => absurd hi (by omega)
    rcases deed_q h (x := 0 + 1) (by omega) (show 0 < 6 by omega) hD0 with ⟨y, w2, rw2, s, hy, q1, q2, q3, q4⟩ | ⟨q1, q2⟩ | ⟨y, rw2, s, hy, q1, q2, q3⟩
    · rw [← z0] at q1 q3
      rw [q1, q2]
      simp only [bsm, if_neg (show ¬ (1 : Int32) = 0 by decide)]
      rw [q3]
      simp only [bsm, if_neg (show ¬ (1 : Int32) = 0 by decide)]
      exact deeds_l h 5 1 y w2 rw2 99 99 (by omega) (by omega) (by omega) (by omega) hy q4
    · rw [← z0] at q1
      rw [q1, q2]
      exact ⟨0 + 1, by omega, Or.inr ⟨_, _, rfl, rfl, rfl, rfl, rfl, rfl⟩⟩
    · rw [← z0] at q1 q3
      rw [q1, q2]
      simp only [bsm, if_neg (show ¬ (1 : Int32) = 0 by decide), if_true]
      rw [q3]
      exact ⟨y, hy, Or.inr ⟨_, _, rfl, rfl, rfl, rfl, rfl, rfl⟩⟩
  · have e1' : f_X1_taken (nI a) (nI b) 0 c 117 117 = some (-1, nI 0) := e1
    have e2' : f_X4_isSign (nI B) ce (nI (B + b)) 117 = some (0, nI (B + 0)) := e2
    rw [e1', e2']
    exact ⟨0, by omega, Or.inr ⟨_, _, rfl, rfl, rfl, rfl, rfl, rfl⟩⟩
end
/-- what is read is taken -/
theorem take1 {e p : Nat} (he : e ≤ 6) {rw rd : Nat → Int32} {P1 : Int32} {z : Int32} : ∀ r i f1 w k d kn t, i + r = e → r < f1 → (∀ y, y < i → w y = rw y) → ∃ w2, l_X4_takeTower_10 (nI e) (nI p) rw rd f1 (nI i, nI e, P1, z, w, k, d, kn, t) = l_X4_takeTower_46 (nI e) (nI p) rw rd 99 (0, nI e, nI p, z, w2, k, d, kn, t) ∧ ∀ y, y < e → w2 y = rw y := by
  intro r
  induction r with
  | zero =>
    intro i f1 w k d kn t hi hf hw
    obtain ⟨g, rfl⟩ : ∃ f, f1 = f + 1 := ⟨f1 - 1, by omega⟩
    rw [s_X4_takeTower_10]; unfold b_X4_takeTower_10
    rw [if_pos (show nI e ≤ nI i by rw [le_n (by omega) (by omega)]; omega)]
    exact ⟨w, rfl, fun y hy => hw y (by omega)⟩
  | succ r ih =>
    intro i f1 w k d kn t hi hf hw
    obtain ⟨g, rfl⟩ : ∃ f, f1 = f + 1 := ⟨f1 - 1, by omega⟩
    rw [s_X4_takeTower_10]; unfold b_X4_takeTower_10
    rw [if_neg (show ¬ nI e ≤ nI i by rw [le_n (by omega) (by omega)]; omega), if_pos (ix_n (show i < 6 by omega) (by omega)), if_pos (ix_n (show i < 6 by omega) (by omega)), cl_n (show i < 2147483648 by omega), n1]
    refine ih (i + 1) g _ k d kn t (by omega) (by omega) (fun y hy => ?_)
    by_cases ey : y = i
    · rw [ey, pk_us]
    · rw [pk_un ey]; exact hw y (by omega)
theorem take2 {e p : Nat} (hp : p ≤ 4) {rw rd : Nat → Int32} {z : Int32} {w : Nat → Int32} : ∀ r i f1 k d kn t, i + r = p → r < f1 → (∀ y, y < i → k y = rd (3 * y) ∧ d y = (rd (3 * y + 1) &&& ((1 <<< (nI e &&& 31)) - 1)) ∧ kn y = rd (3 * y + 2) ∧ t y = 0) → ∃ k2 d2 kn2 t2, l_X4_takeTower_46 (nI e) (nI p) rw rd f1 (nI i, nI e, nI p, z, w, k, d, kn, t) = some (nI e, nI p, 0, w, k2, d2, kn2, t2) ∧ ∀ y, y < p → k2 y = rd (3 * y) ∧ d2 y = (rd (3 * y + 1) &&& ((1 <<< (nI e &&& 31)) - 1)) ∧ kn2 y = rd (3 * y + 2) ∧ t2 y = 0 := by
  intro r
  induction r with
  | zero =>
    intro i f1 k d kn t hi hf hw
    obtain ⟨g, rfl⟩ : ∃ f, f1 = f + 1 := ⟨f1 - 1, by omega⟩
    rw [s_X4_takeTower_46]; unfold b_X4_takeTower_46
    rw [if_pos (show nI p ≤ nI i by rw [le_n (by omega) (by omega)]; omega)]
    exact ⟨_, _, _, _, rfl, fun y hy => hw y (by omega)⟩
  | succ r ih =>
    intro i f1 k d kn t hi hf hw
    obtain ⟨g, rfl⟩ : ∃ f, f1 = f + 1 := ⟨f1 - 1, by omega⟩
    rw [s_X4_takeTower_46]; unfold b_X4_takeTower_46
    have t1 : nI (3 * i) + 1 = nI (3 * i + 1) := n1 _
    have t2 : nI (3 * i) + 2 = nI (3 * i + 2) := n2 _
    rw [if_neg (show ¬ nI p ≤ nI i by rw [le_n (by omega) (by omega)]; omega), thr, t1, t2]
    simp only [ix_n (show 3 * i < 12 by omega) (by omega), ix_n (show 3 * i + 1 < 12 by omega) (by omega), ix_n (show 3 * i + 2 < 12 by omega) (by omega), ix_n (show i < 4 by omega) (by omega), if_true, cl_n (show 3 * i < 2147483648 by omega), cl_n (show 3 * i + 1 < 2147483648 by omega), cl_n (show 3 * i + 2 < 2147483648 by omega), cl_n (show i < 2147483648 by omega), n1]
    refine ih (i + 1) g _ _ _ _ (by omega) (by omega) (fun y hy => ?_)
    by_cases ey : y = i
    · subst ey
      simp only [pk_us]
      exact ⟨trivial, trivial, trivial, trivial⟩
    · simp only [pk_un ey]; exact hw y (by omega)
theorem q_tower {n q z : Nat} {Sl Sn : Nat → Int32} {Sc : Nat → Nat → Int32} {so sl ce : Nat → Int32} (hs : RS Sl Sn Sc so sl ce) {p1 : Int32} {j : Nat} (hp : Sp p1 j) (fa Rf Rl Ra Ta Tb : Int32) (Tw Tk Td Tn Tt : Nat → Int32) (at' rd1 rd2 : Int32) (w' k' d' kn' t' rw rd : Nat → Int32) (p2 p3 p4 : Int32) :
    (∃ r f2 rf rl ra ta tb tw tk td tn tt b2 at2 y1 y2 rw2 rdd, f_X3_tower (nI z) fa Rf Rl Ra Ta Tb Tw Tk Td Tn Tt (Sl j) (Sn j) (Sc j) p1 p2 p3 p4 = some (r, nI z, f2, rf, rl, ra, ta, tb, tw, tk, td, tn, tt, false, b2) ∧ f_X4_tower fa (nI n) (nI q) at' rd1 rd2 (nI z) so sl ce w' k' d' kn' t' rw rd p1 p2 p3 p4 = some (r, f2, nI n, nI q, at2, y1, y2, nI z, w', k', d', kn', t', rw2, rdd)) ∨
    (∃ r f2 rf rl ra e p tw tk td tn tt at2 y1 y2 w2 k2 d2 kn2 t2 rw2 rdd T D, f_X3_tower (nI z) fa Rf Rl Ra Ta Tb Tw Tk Td Tn Tt (Sl j) (Sn j) (Sc j) p1 p2 p3 p4 = some (r, nI 0, f2, rf, rl, ra, nI e, nI p, tw, tk, td, tn, tt, true, true) ∧ f_X4_tower fa (nI n) (nI q) at' rd1 rd2 (nI z) so sl ce w' k' d' kn' t' rw rd p1 p2 p3 p4 = some (r, f2, nI e, nI p, at2, y1, y2, nI 0, w2, k2, d2, kn2, t2, rw2, rdd) ∧ RT e p T D tw tk td tn tt w2 k2 d2 kn2 t2) := by
  obtain ⟨hj, hp⟩ := hp
  unfold f_X3_tower f_X4_tower
  rcases hp with hp | rfl
  · rw [shX_n hp, shM_n hp]
    exact Or.inl ⟨_, _, _, _, _, _, _, _, _, _, _, _, _, _, _, _, _, _, rfl, rfl⟩
  rw [shX_y hj, shM_y hj, lane_e]
  simp only [bsm, if_neg (show ¬ (1 : Int32) = 0 by decide), ix_n (show j < 4 by omega) (by omega), if_true]
  rcases lane_c p2 with e | ⟨e, -⟩
  · rw [e]; exact Or.inl ⟨_, _, _, _, _, _, _, _, _, _, _, _, _, _, _, _, _, _, rfl, rfl⟩
  rw [e]
  simp only [bsm, if_neg (show ¬ (1 : Int32) = 0 by decide)]
  obtain ⟨r, e1, e2, e3⟩ := q_fault hs hj p2 p3 p4
  rw [e1, e2]
  simp only [bsm]
  by_cases hr : r = 0
  · obtain ⟨l, N, a, b, hl, hN, y1, y2, y3, y4, y5⟩ := e3 hr
    subst y3; subst y4
    rw [if_pos hr, if_pos hr, mul60, nI_add]
    have hT : TX a b (60 * j + a) (Sc j) ce := ⟨by omega, by omega, fun y hy => by rw [(hs j hj).2 _ (by omega)]; congr 1; omega⟩
    unfold f_X1_firstFault f_X2_clear
    simp only [bsm]
    obtain ⟨y, hy, hq⟩ := text_q hT (w := Tw) (k := Tk) (d := Td) (kn := Tn) (t := Tt) (rw := rw) (rd := rd) rd1 rd2
    rcases hq with ⟨e', p, w, k, d, kn, t, rw2, rdd, q1, q2, he, hpp, hD, hP⟩ | ⟨o, o', q1, q2, q3, q4, q5, q6⟩
    · rw [q1, q2]
      simp only [bsm, if_neg (show ¬ (1 : Int32) = 0 by decide), if_true]
      unfold f_X4_takeTower
      obtain ⟨w2, x1, x2⟩ := take1 (p := p) he (rw := rw2) (rd := rdd) (P1 := nI q) (z := nI z) e' 0 99 w' k' d' kn' t' (by omega) (by omega) (fun y hy => absurd hy (by omega))
      have x1' : l_X4_takeTower_10 (nI e') (nI p) rw2 rdd 99 (0, nI e', nI q, nI z, w', k', d', kn', t') = _ := x1
      obtain ⟨k2, d2, kn2, t2, x3, x4⟩ := take2 (e := e') hpp (rw := rw2) (rd := rdd) (z := nI z) (w := w2) p 0 99 k' d' kn' t' (by omega) (by omega) (fun y hy => absurd hy (by omega))
      have x3' : l_X4_takeTower_46 (nI e') (nI p) rw2 rdd 99 (0, nI e', nI p, nI z, w2, k', d', kn', t') = _ := x3
      rw [x1', x3']
      refine Or.inr ⟨_, _, _, _, _, e', p, w, k, d, kn, t, _, _, _, w2, k2, d2, kn2, t2, _, _, fun _ => 0, fun i => (d i).toNatClampNeg, rfl, rfl, he, hpp, fun i hi => ?_, fun i hi => ?_⟩
      · rw [x2 i hi]; exact hD i hi
      · obtain ⟨b1, b2, ⟨v, hv, b3, b4⟩, b5, b6⟩ := hP i hi
        obtain ⟨c1, c2, c3, c4⟩ := x4 i hi
        have b7 : (d i).toNatClampNeg = v := by rw [b3]; exact cl_n (by omega)
        refine ⟨⟨by rw [c1, b2], b1⟩, by rw [c3, b5], ⟨Nat.pos_of_ne_zero (by simp), b6, c4⟩, (show (d i).toNatClampNeg < 64 by rw [b7]; exact hv), (show d i = nI (d i).toNatClampNeg by rw [b7]; exact b3), ?_⟩
        show d2 i = nI ((d i).toNatClampNeg % 2 ^ e')
        rw [c2, b4, b7, msk_n e' (by omega) v hv]
    · rw [q1, q2]
      simp only [bsm]
      rw [if_pos q3, if_pos q4]
      have b60 : y < 61 := by omega
      have h9 : ¬ o.2.1 = -9 := by
        rw [q5]
        intro hz
        have hh : ∀ y, y < 61 → ¬ nI y = -9 := by decide +kernel
        exact hh y b60 hz
      have hr2 : (-100 : Int32) - (o'.2.1 - nI (60 * j + a)) = -100 - o.2.1 := by
        rw [q5, q6, pk_sub (by omega)]
        congr 2; omega
      simp only [if_neg h9, bsm]
      rw [hr2]
      exact Or.inl ⟨_, _, _, _, _, _, _, _, _, _, _, _, _, _, _, _, _, _, rfl, rfl⟩
  · rw [if_neg hr, if_neg hr]
    unfold f_X3_faulted f_X4_fails
    exact Or.inl ⟨_, _, _, _, _, _, _, _, _, _, _, _, _, _, _, _, _, _, rfl, rfl⟩
