/-- the reference's comparison of two places -/
theorem om_order (post : Int32 → Prop) (fl fs : Int32) (a b : Nat → Int32) (i j : Nat) (hi : i < 70) (hj : j < 70) (h : post (om_sg (a i) (a j))) : wpY_order post (fl, fs, a, b) (nI i) (nI j) := by
  unfold wpY_order
  dsimp only
  rw [nI_clamp (n := i) (by omega), nI_clamp (n := j) (by omega)]
  have vi : vp_in (nI i) 70 := vp_in_nI hi (by omega)
  have vj : vp_in (nI j) 70 := vp_in_nI hj (by omega)
  refine ⟨vi, vj, br_c (fun h1 => ⟨vi, vj, br_c (fun h2 => ?_) (fun h2 => ?_)⟩) (fun h1 => ?_)⟩
  · rw [om_sg_e (Int32.not_lt.mpr h1) (Int32.not_lt.mpr h2)] at h
    exact h
  · rw [om_sg_g (Int32.not_lt.mpr h1) (Int32.not_le.mp h2)] at h
    exact h
  · rw [om_sg_l (Int32.not_le.mp h1)] at h
    exact h
/-- the class's comparison of two pairs -/
theorem om_cmp (post : Int32 → Prop) (a b c d : Int32) (ht : ((a < b ↔ c < d) ∧ (a = b ↔ c = d)) → post 1) (hf : ¬ ((a < b ↔ c < d) ∧ (a = b ↔ c = d)) → post 0) : wpX_sameComparison post a b c d := by
  have n0 : ¬ (0 : Int32) = 1 := by decide
  have n1 : ¬ (1 : Int32) = 0 := by decide
  unfold wpX_sameComparison wX_sameComparison_10 wX_sameComparison_20 wX_sameComparison_33 wX_sameComparison_43
  by_cases h1 : b ≤ a
  · have a1 : ¬ a < b := Int32.not_lt.mpr h1
    refine br_t h1 ?_
    by_cases h2 : d ≤ c
    · have a2 : ¬ c < d := Int32.not_lt.mpr h2
      refine br_t h2 (br_t rfl ?_)
      by_cases h3 : a = b
      · refine br_t h3 ?_
        by_cases h4 : c = d
        · exact br_t h4 (br_t rfl (ht ⟨iff_of_false a1 a2, iff_of_true h3 h4⟩))
        · exact br_f h4 (br_f n1 (hf (fun z => h4 (z.2.mp h3))))
      · refine br_f h3 ?_
        by_cases h4 : c = d
        · exact br_t h4 (br_f n0 (hf (fun z => h3 (z.2.mpr h4))))
        · exact br_f h4 (br_t rfl (ht ⟨iff_of_false a1 a2, iff_of_false h3 h4⟩))
    · exact br_f h2 (br_f n0 (hf (fun z => a1 (z.1.mpr (Int32.not_le.mp h2)))))
  · have a1 : a < b := Int32.not_le.mp h1
    refine br_f h1 ?_
    by_cases h2 : d ≤ c
    · have a2 : ¬ c < d := Int32.not_lt.mpr h2
      exact br_t h2 (br_f n1 (hf (fun z => a2 (z.1.mp a1))))
    · have a2 : c < d := Int32.not_le.mp h2
      refine br_f h2 (br_t rfl ?_)
      by_cases h3 : a = b
      · refine br_t h3 ?_
        by_cases h4 : c = d
        · exact br_t h4 (br_t rfl (ht ⟨iff_of_true a1 a2, iff_of_true h3 h4⟩))
        · exact br_f h4 (br_f n1 (hf (fun z => h4 (z.2.mp h3))))
      · refine br_f h3 ?_
        by_cases h4 : c = d
        · exact br_t h4 (br_f n0 (hf (fun z => h3 (z.2.mpr h4))))
        · exact br_f h4 (br_t rfl (ht ⟨iff_of_true a1 a2, iff_of_false h3 h4⟩))
theorem om_xt29 (post J : Int32 → Prop) (fc fp : Int32) (t p : Nat → Int32) (q n i : Nat) (hq : q + n ≤ 60) (hn : n ≤ 10) (hi : i < n) (hJ : (∀ j, j < i → om_C p (om_at t q) i j) → J (nI (i + 1))) (h0 : ¬ (∀ j, j < i → om_C p (om_at t q) i j) → post 0) : ∀ d j, j + d = i → (∀ j', j' < j → om_C p (om_at t q) i j') → wX_sameShape__patternValues_textValues_29 post J 0 (nI q) (nI n) (nI i) (p i) (t (q + i)) fc fp t p (d + 1) (nI j) := by
  intro d
  induction d with
  | zero =>
    intro j hj hC
    obtain rfl : j = i := by omega
    exact br_t (nI_le (Nat.le_refl _) (by omega)) (nm_r (nI_1 j) (hJ hC))
  | succ d ih =>
    intro j hj hC
    have e1 : ((0 : Int32) + nI j).toNatClampNeg = j := by rw [Int32.zero_add, nI_clamp (by omega)]
    have e2 : (nI q + nI j).toNatClampNeg = q + j := by rw [nI_add, nI_clamp (by omega)]
    refine br_f (nI_ge (by omega) (by omega)) ⟨pk_in j 10 (by omega) (Int32.zero_add _), pk_in (q + j) 60 (by omega) (nI_add q j), ?_⟩
    rw [e1, e2]
    exact om_cmp _ _ _ _ _ (fun hc => br_f (by decide) (nm_r (nI_1 j) (ih (j + 1) (by omega) (lt_s hC hc)))) (fun hc => br_t rfl (h0 (fun z => hc (z j (by omega)))))
theorem om_xt3 (post : Int32 → Prop) (fc fp : Int32) (t p : Nat → Int32) (q n : Nat) (hq : q + n ≤ 60) (hn : n ≤ 10) (h1 : om_S p (om_at t q) n → post 1) (h0 : ¬ om_S p (om_at t q) n → post 0) : ∀ d i, i + d = n → (∀ i', i' < i → ∀ j, j < i' → om_C p (om_at t q) i' j) → wX_sameShape__patternValues_textValues_3 post 0 (nI q) (nI n) fc fp t p (d + 1) (nI i) := by
  intro d
  induction d with
  | zero =>
    intro i hi hC
    obtain rfl : i = n := by omega
    exact br_t (nI_le (Nat.le_refl _) (by omega)) (h1 hC)
  | succ d ih =>
    intro i hi hC
    have e1 : p ((0 : Int32) + nI i).toNatClampNeg = p i := by rw [Int32.zero_add, nI_clamp (by omega)]
    have e2 : t (nI q + nI i).toNatClampNeg = t (q + i) := by rw [nI_add, nI_clamp (by omega)]
    refine br_f (nI_ge (by omega) (by omega)) ⟨pk_in i 10 (by omega) (Int32.zero_add _), nm_r e1 ⟨pk_in (q + i) 60 (by omega) (nI_add q i), nm_r e2 ⟨i + 1, ?_⟩⟩⟩
    exact om_xt29 post _ fc fp t p q n i hq hn (by omega) (fun hC' => ih (i + 1) (by omega) (lt_s hC hC')) (fun hC' => h0 (fun hS => hC' (hS i (by omega)))) i 0 (by omega) lt_0
theorem om_xt (post : Int32 → Prop) (fc fp : Int32) (t p : Nat → Int32) (q n : Nat) (hq : q + n ≤ 60) (hn : n ≤ 10) (h : 1 ≤ n) (h1 : om_S p (om_at t q) n → post 1) (h0 : ¬ om_S p (om_at t q) n → post 0) : wpX_sameShape__patternValues_textValues post (fc, fp, t, p) 0 (nI q) (nI n) := by
  show ∃ n3 : Nat, wX_sameShape__patternValues_textValues_3 post 0 (nI q) (nI n) fc fp t p n3 1
  exact ⟨n - 1 + 1, om_xt3 post fc fp t p q n hq hn h1 h0 (n - 1) 1 (by omega) (fun i' hi' j hj => by omega)⟩
theorem om_xp29 (post J : Int32 → Prop) (fc fp : Int32) (t p : Nat → Int32) (q n i : Nat) (hq : q + n ≤ 10) (hn : n ≤ 10) (hi : i < n) (hJ : (∀ j, j < i → om_C p (om_at p q) i j) → J (nI (i + 1))) (h0 : ¬ (∀ j, j < i → om_C p (om_at p q) i j) → post 0) : ∀ d j, j + d = i → (∀ j', j' < j → om_C p (om_at p q) i j') → wX_sameShape__patternValues_patternValues_29 post J 0 (nI q) (nI n) (nI i) (p i) (p (q + i)) fc fp t p (d + 1) (nI j) := by
  intro d
  induction d with
  | zero =>
    intro j hj hC
    obtain rfl : j = i := by omega
    exact br_t (nI_le (Nat.le_refl _) (by omega)) (nm_r (nI_1 j) (hJ hC))
  | succ d ih =>
    intro j hj hC
    have e1 : ((0 : Int32) + nI j).toNatClampNeg = j := by rw [Int32.zero_add, nI_clamp (by omega)]
    have e2 : (nI q + nI j).toNatClampNeg = q + j := by rw [nI_add, nI_clamp (by omega)]
    refine br_f (nI_ge (by omega) (by omega)) ⟨pk_in j 10 (by omega) (Int32.zero_add _), pk_in (q + j) 10 (by omega) (nI_add q j), ?_⟩
    rw [e1, e2]
    exact om_cmp _ _ _ _ _ (fun hc => br_f (by decide) (nm_r (nI_1 j) (ih (j + 1) (by omega) (lt_s hC hc)))) (fun hc => br_t rfl (h0 (fun z => hc (z j (by omega)))))
theorem om_xp3 (post : Int32 → Prop) (fc fp : Int32) (t p : Nat → Int32) (q n : Nat) (hq : q + n ≤ 10) (hn : n ≤ 10) (h1 : om_S p (om_at p q) n → post 1) (h0 : ¬ om_S p (om_at p q) n → post 0) : ∀ d i, i + d = n → (∀ i', i' < i → ∀ j, j < i' → om_C p (om_at p q) i' j) → wX_sameShape__patternValues_patternValues_3 post 0 (nI q) (nI n) fc fp t p (d + 1) (nI i) := by
  intro d
  induction d with
  | zero =>
    intro i hi hC
    obtain rfl : i = n := by omega
    exact br_t (nI_le (Nat.le_refl _) (by omega)) (h1 hC)
  | succ d ih =>
    intro i hi hC
    have e1 : p ((0 : Int32) + nI i).toNatClampNeg = p i := by rw [Int32.zero_add, nI_clamp (by omega)]
    have e2 : p (nI q + nI i).toNatClampNeg = p (q + i) := by rw [nI_add, nI_clamp (by omega)]
    refine br_f (nI_ge (by omega) (by omega)) ⟨pk_in i 10 (by omega) (Int32.zero_add _), nm_r e1 ⟨pk_in (q + i) 10 (by omega) (nI_add q i), nm_r e2 ⟨i + 1, ?_⟩⟩⟩
    exact om_xp29 post _ fc fp t p q n i hq hn (by omega) (fun hC' => ih (i + 1) (by omega) (lt_s hC hC')) (fun hC' => h0 (fun hS => hC' (hS i (by omega)))) i 0 (by omega) lt_0
theorem om_xp (post : Int32 → Prop) (fc fp : Int32) (t p : Nat → Int32) (q n : Nat) (hq : q + n ≤ 10) (hn : n ≤ 10) (h : 1 ≤ n) (h1 : om_S p (om_at p q) n → post 1) (h0 : ¬ om_S p (om_at p q) n → post 0) : wpX_sameShape__patternValues_patternValues post (fc, fp, t, p) 0 (nI q) (nI n) := by
  show ∃ n3 : Nat, wX_sameShape__patternValues_patternValues_3 post 0 (nI q) (nI n) fc fp t p n3 1
  exact ⟨n - 1 + 1, om_xp3 post fc fp t p q n hq hn h1 h0 (n - 1) 1 (by omega) (fun i' hi' j hj => by omega)⟩
theorem om_y12 (post J : Int32 → Prop) (fl fs : Int32) (a b : Nat → Int32) (x y n i : Nat) (hx : x + n ≤ 70) (hy : y + n ≤ 70) (hi : i < n) (hJ : (∀ j, j < i → om_C (om_at a x) (om_at a y) i j) → J (nI (i + 1))) (h0 : ¬ (∀ j, j < i → om_C (om_at a x) (om_at a y) i j) → post 0) : ∀ d j, j + d = i → (∀ j', j' < j → om_C (om_at a x) (om_at a y) i j') → wY_alike_12 post J (nI x) (nI y) (nI n) (nI i) fl fs a b (d + 1) (nI j) := by
  intro d
  induction d with
  | zero =>
    intro j hj hC
    obtain rfl : j = i := by omega
    exact br_t (nI_le (Nat.le_refl _) (by omega)) (nm_r (nI_1 j) (hJ hC))
  | succ d ih =>
    intro j hj hC
    refine br_f (nI_ge (by omega) (by omega)) ?_
    rw [nI_add x i, nI_add x j, nI_add y i, nI_add y j]
    refine om_order _ _ _ _ _ _ _ (by omega) (by omega) (om_order _ _ _ _ _ _ _ (by omega) (by omega) ?_)
    exact br_c (fun hc => nm_r (nI_1 j) (ih (j + 1) (by omega) (lt_s hC ((om_sg_C (om_at a x) (om_at a y) i j).mp hc)))) (fun hc => h0 (fun z => hc ((om_sg_C (om_at a x) (om_at a y) i j).mpr (z j (by omega)))))
theorem om_y3 (post : Int32 → Prop) (fl fs : Int32) (a b : Nat → Int32) (x y n : Nat) (hx : x + n ≤ 70) (hy : y + n ≤ 70) (h1 : om_S (om_at a x) (om_at a y) n → post 1) (h0 : ¬ om_S (om_at a x) (om_at a y) n → post 0) : ∀ d i, i + d = n → (∀ i', i' < i → ∀ j, j < i' → om_C (om_at a x) (om_at a y) i' j) → wY_alike_3 post (nI x) (nI y) (nI n) fl fs a b (d + 1) (nI i) := by
  intro d
  induction d with
  | zero =>
    intro i hi hC
    obtain rfl : i = n := by omega
    exact br_t (nI_le (Nat.le_refl _) (by omega)) (h1 hC)
  | succ d ih =>
    intro i hi hC
    refine br_f (nI_ge (by omega) (by omega)) ⟨i + 1, ?_⟩
    exact om_y12 post _ fl fs a b x y n i hx hy (by omega) (fun hC' => ih (i + 1) (by omega) (lt_s hC hC')) (fun hC' => h0 (fun hS => hC' (hS i (by omega)))) i 0 (by omega) lt_0
theorem om_ya (post : Int32 → Prop) (fl fs : Int32) (a b : Nat → Int32) (x y n : Nat) (hx : x + n ≤ 70) (hy : y + n ≤ 70) (h1 : om_S (om_at a x) (om_at a y) n → post 1) (h0 : ¬ om_S (om_at a x) (om_at a y) n → post 0) : wpY_alike post (fl, fs, a, b) (nI x) (nI y) (nI n) := by
  show ∃ n3 : Nat, wY_alike_3 post (nI x) (nI y) (nI n) fl fs a b n3 0
  exact ⟨n + 1, om_y3 post fl fs a b x y n hx hy h1 h0 n 0 (by omega) (fun i' hi' j hj => by omega)⟩
theorem om_S_tp {t p : Nat → Int32} {q n : Nat} (h : q + n ≤ 60) : om_S (om_at (om_gl t p) q) (om_at (om_gl t p) 60) n ↔ om_S p (om_at t q) n := by
  have e1 : ∀ j, j < n → om_at (om_gl t p) 60 j = p j := fun j _ => om_gl_p j
  have e2 : ∀ j, j < n → om_at (om_gl t p) q j = om_at t q j := fun j hj => om_gl_t (j := q + j) (by omega)
  exact ⟨fun z => om_S_congr e1 e2 (om_S_symm z), fun z => om_S_symm (om_S_congr (fun j hj => (e1 j hj).symm) (fun j hj => (e2 j hj).symm) z)⟩
theorem om_S_pp {t p : Nat → Int32} {s n : Nat} : om_S (om_at (om_gl t p) 60) (om_at (om_gl t p) (60 + s)) n ↔ om_S p (om_at p s) n := by
  have e1 : ∀ j, j < n → om_at (om_gl t p) 60 j = p j := fun j _ => om_gl_p j
  have e2 : ∀ j, j < n → om_at (om_gl t p) (60 + s) j = om_at p s j := by
    intro j _
    show om_gl t p (60 + s + j) = p (s + j)
    rw [Nat.add_assoc, om_gl_p]
  exact ⟨fun z => om_S_congr e1 e2 z, fun z => om_S_congr (fun j hj => (e1 j hj).symm) (fun j hj => (e2 j hj).symm) z⟩
theorem om_xl (post : Int32 → Prop) (tc c : Nat) (fp : Int32) (t p : Nat → Int32) (x : Int32) (htc : tc ≤ 60) (hc : c ≤ 60) (h1 : (∃ q, q < 2 ^ 31 ∧ x = nI q ∧ q + c ≤ tc) → post 1) (h0 : ¬ (∃ q, q < 2 ^ 31 ∧ x = nI q ∧ q + c ≤ tc) → post 0) : wpX_liesInText post (nI tc, fp, t, p) x (nI c) := by
  by_cases hx : x < 0
  · exact br_t hx (h0 (by rintro ⟨q, hq, rfl, _⟩; exact nI_pos hq hx))
  · refine br_f hx (br_c (fun h => h0 ?_) (fun h => h1 ?_))
    · rw [← om_fit (by omega) (by omega) hx]
      exact Int32.not_le.mpr h
    · exact (om_fit (by omega) (by omega) hx).mp (Int32.not_lt.mp h)
theorem om_xm (post : Int32 → Prop) (tc pc : Nat) (t p : Nat → Int32) (htc : tc ≤ 60) (hpc : pc ≤ 10) (x : Int32) (h1 : om_MI t p tc pc x → post 1) (h0 : ¬ om_MI t p tc pc x → post 0) : wpX_matchStartsAt post (nI tc, nI pc, t, p) x := by
  by_cases hz : pc = 0
  · subst hz
    exact br_t (show nI 0 ≤ 0 by decide) (h0 (by rintro ⟨q, _, _, hm⟩; exact absurd hm.1 (by omega)))
  · refine br_f (nI_nle (by omega) (by omega)) ?_
    refine om_xl _ tc pc _ t p x htc (by omega) (fun hq => br_f (by decide) ?_) (fun hn => br_t rfl (h0 ?_))
    · obtain ⟨q, hq, rfl, hle⟩ := hq
      refine om_xt _ _ _ t p q pc (by omega) hpc (by omega) (fun hs => br_f (by decide) (h1 ⟨q, hq, rfl, by omega, hle, hs⟩)) (fun hs => br_t rfl (h0 ?_))
      rw [om_MI_n hq]
      exact fun z => hs z.2.2
    · rintro ⟨q, hq, e, hm⟩
      exact hn ⟨q, hq, e, hm.2.1⟩
theorem om_yo (post : Int32 → Prop) (tc pc : Nat) (t p b : Nat → Int32) (htc : tc ≤ 60) (hpc : pc ≤ 10) (x : Int32) (h1 : om_MI t p tc pc x → post 1) (h0 : ¬ om_MI t p tc pc x → post 0) : wpY_occurs post (nI tc, nI pc, om_gl t p, b) x := by
  by_cases hz : pc = 0
  · subst hz
    exact br_t nI_0 (h0 (by rintro ⟨q, _, _, hm⟩; exact absurd hm.1 (by omega)))
  · refine br_f (nI_ne0 (by omega) (by omega)) ?_
    by_cases hx : x < 0
    · exact br_t hx (h0 (by rintro ⟨q, hq, rfl, _⟩; exact nI_pos hq hx))
    · refine br_f hx (br_c (fun h => ?_) (fun h => h0 ?_))
      · obtain ⟨q, hq, rfl, hle⟩ := (om_fit (by omega) (by omega) hx).mp h
        refine om_ya _ _ _ _ _ q 60 pc (by omega) (by omega) (fun hs => ⟨rfl, h1 ⟨q, hq, rfl, by omega, hle, (om_S_tp (by omega)).mp hs⟩⟩) (fun hs => ⟨rfl, h0 ?_⟩)
        rw [om_MI_n hq]
        exact fun z => hs ((om_S_tp (by omega)).mpr z.2.2)
      · rintro ⟨q, hq, e, hm⟩
        exact h ((om_fit (by omega) (by omega) hx).mpr ⟨q, hq, e, hm.2.1⟩)
