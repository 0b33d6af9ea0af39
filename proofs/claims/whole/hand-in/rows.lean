section
theorem pk_us {f : Nat → Int32} {k : Nat} {x : Int32} : upd f k x k = x := if_pos rfl
theorem pk_un {f : Nat → Int32} {k j : Nat} {x : Int32} (h : j ≠ k) : upd f k x j = f j := if_neg h
theorem pk_sub {a b : Nat} (h : b ≤ a) : nI a - nI b = nI (a - b) := by
  obtain ⟨c, rfl⟩ : ∃ c, a = c + b := ⟨a - b, by omega⟩
  rw [← nI_add, Int32.add_sub_cancel, Nat.add_sub_cancel]
theorem pk_m1 (n : Nat) : nI (n + 1) + (-1) = nI n := by
  rw [← nI_1, Int32.add_assoc, show (1 : Int32) + (-1) = 0 from rfl, Int32.add_zero]
theorem pk_mul (a b : Nat) : nI a * nI b = nI (a * b) := (Int32.ofNat_mul a b).symm
theorem pk_div {a d : Nat} (ha : a < 2 ^ 31) (h0 : 0 < d) (hd : d < 2 ^ 31) : nI a / nI d = nI (a / d) := by
  apply Int32.toInt_inj.mp
  rw [lg_idiv_nonneg (by rw [nI_toInt ha]; omega) (by rw [nI_toInt hd]; omega), nI_toInt ha, nI_toInt hd, nI_toInt (Nat.lt_of_le_of_lt (Nat.div_le_self a d) ha)]
  first | rfl | exact (Int.natCast_ediv _ _).symm
theorem pk_rem {a d : Nat} (ha : a < 2 ^ 31) (h0 : 0 < d) (hd : d < 2 ^ 31) : nI a - nI a / nI d * nI d = nI (a % d) := by
  rw [pk_div ha h0 hd, pk_mul, pk_sub (Nat.div_mul_le_self a d)]
  exact congrArg nI (by have := Nat.div_add_mod' a d; omega)
theorem pk_sub_toInt {a b : Nat} (ha : a < 2 ^ 30) (hb : b < 2 ^ 30) : (nI a - nI b).toInt = (a : Int) - b := by
  rw [Int32.toInt_sub, nI_toInt (by omega), nI_toInt (by omega)]
  exact Int.bmod_eq_of_le (by omega) (by omega)
theorem pk_sneg {a b : Nat} (hb : b < 2 ^ 30) (h : a < b) : nI a - nI b < 0 := by
  rw [Int32.lt_iff_toInt_lt, pk_sub_toInt (by omega) hb, show (0 : Int32).toInt = 0 from by decide]
  omega
theorem pk_ix (x : Int32) {n : Nat} (hn : n < 2 ^ 31) : x < 0 ∨ nI n ≤ x ∨ ∃ j : Nat, j < n ∧ x = nI j := by
  by_cases h : x < 0
  · exact Or.inl h
  · obtain ⟨j, hj, rfl⟩ := nI_of h
    by_cases h2 : j < n
    · exact Or.inr (Or.inr ⟨j, h2, rfl⟩)
    · exact Or.inr (Or.inl (nI_le (by omega) hj))
theorem pk_le {x y : Int32} {A B : Prop} (a b : Nat) (f : a ≤ b → A) (g : b < a → B) (hx : x = nI a := by rfl) (hy : y = nI b := by rfl) (ha : a < 2 ^ 31 := by omega) (hb : b < 2 ^ 31 := by omega) : (x ≤ y → A) ∧ (¬ x ≤ y → B) := by
  subst hx hy
  rw [nI_leI ha hb]
  exact ⟨f, fun z => g (by omega)⟩
theorem pk_lt {x y : Int32} {A B : Prop} (a b : Nat) (f : a < b → A) (g : b ≤ a → B) (hx : x = nI a := by rfl) (hy : y = nI b := by rfl) (ha : a < 2 ^ 31 := by omega) (hb : b < 2 ^ 31 := by omega) : (x < y → A) ∧ (¬ x < y → B) := by
  subst hx hy
  rw [nI_ltI ha hb]
  exact ⟨f, fun z => g (by omega)⟩
theorem pk_eq {x y : Int32} {A B : Prop} (a b : Nat) (f : a = b → A) (g : a ≠ b → B) (hx : x = nI a := by rfl) (hy : y = nI b := by rfl) (ha : a < 2 ^ 31 := by omega) (hb : b < 2 ^ 31 := by omega) : (x = y → A) ∧ (¬ x = y → B) := by
  subst hx hy
  rw [nI_eq ha hb]
  exact ⟨f, g⟩
theorem pk_in {x : Int32} (n N : Nat) (h : n < N) (hx : x = nI n := by rfl) (hN : N < 2 ^ 31 := by omega) : vp_in x N := by
  subst hx
  exact vp_in_nI h hN
theorem pk_cl {x : Int32} (n : Nat) (hx : x = nI n := by rfl) (h : n < 2 ^ 31 := by omega) : x.toNatClampNeg = n := by
  subst hx
  exact nI_clamp h
/-! the two arrays of the class as the one array of the reference -/
def om_gl (t p : Nat → Int32) : Nat → Int32 := fun j => if j < 60 then t j else p (j - 60)
theorem om_gl_t {t p : Nat → Int32} {j : Nat} (h : j < 60) : om_gl t p j = t j := if_pos h
theorem om_gl_p {t p : Nat → Int32} (j : Nat) : om_gl t p (60 + j) = p j := by
  unfold om_gl
  rw [if_neg (by omega), Nat.add_sub_cancel_left]
theorem om_upd_t {t p : Nat → Int32} {j : Nat} {x : Int32} (h : j < 60) : upd (om_gl t p) j x = om_gl (upd t j x) p := by
  funext i
  by_cases e : i = j
  · subst e
    rw [pk_us, om_gl_t h, pk_us]
  · rw [pk_un e]
    by_cases hi : i < 60
    · rw [om_gl_t hi, om_gl_t hi, pk_un e]
    · obtain ⟨c, rfl⟩ : ∃ c, i = 60 + c := ⟨i - 60, by omega⟩
      rw [om_gl_p, om_gl_p]
theorem om_upd_p {t p : Nat → Int32} {j : Nat} {x : Int32} : upd (om_gl t p) (60 + j) x = om_gl t (upd p j x) := by
  funext i
  by_cases hi : i < 60
  · rw [pk_un (by omega), om_gl_t hi, om_gl_t hi]
  · obtain ⟨c, rfl⟩ : ∃ c, i = 60 + c := ⟨i - 60, by omega⟩
    by_cases e : c = j
    · subst e
      rw [pk_us, om_gl_p, pk_us]
    · rw [pk_un (by omega), om_gl_p, om_gl_p, pk_un e]
theorem om_gl_0 : om_gl (fun _ => 0) (fun _ => 0) = (fun _ => 0) := by
  funext i
  unfold om_gl
  split <;> rfl
/-! the same shape -/
def om_C (f g : Nat → Int32) (i j : Nat) : Prop := (f j < f i ↔ g j < g i) ∧ (f j = f i ↔ g j = g i)
def om_S (f g : Nat → Int32) (n : Nat) : Prop := ∀ i, i < n → ∀ j, j < i → om_C f g i j
def om_at (f : Nat → Int32) (a : Nat) : Nat → Int32 := fun j => f (a + j)
theorem om_S_symm {f g : Nat → Int32} {n : Nat} (h : om_S f g n) : om_S g f n := fun i hi j hj => ⟨(h i hi j hj).1.symm, (h i hi j hj).2.symm⟩
theorem om_S_congr {f g f' g' : Nat → Int32} {n : Nat} (hf : ∀ j, j < n → f j = f' j) (hg : ∀ j, j < n → g j = g' j) (h : om_S f g n) : om_S f' g' n := by
  intro i hi j hj
  have := h i hi j hj
  unfold om_C at this ⊢
  rw [hf i hi, hf j (by omega), hg i hi, hg j (by omega)] at this
  exact this
theorem om_tri (a b : Int32) : (a < b ∧ ¬ b < a ∧ ¬ b = a) ∨ (¬ a < b ∧ b < a ∧ ¬ b = a) ∨ (¬ a < b ∧ ¬ b < a ∧ b = a) := by
  simp only [Int32.lt_iff_toInt_lt, ← Int32.toInt_inj]
  omega
/-- the reference's order of two values -/
def om_sg (x y : Int32) : Int32 := if x < y then -1 else if y < x then 1 else 0
theorem om_sg_l {x y : Int32} (h : x < y) : om_sg x y = -1 := if_pos h
theorem om_sg_g {x y : Int32} (h : ¬ x < y) (h2 : y < x) : om_sg x y = 1 := by
  unfold om_sg
  rw [if_neg h, if_pos h2]
theorem om_sg_e {x y : Int32} (h : ¬ x < y) (h2 : ¬ y < x) : om_sg x y = 0 := by
  unfold om_sg
  rw [if_neg h, if_neg h2]
theorem om_sg_iff (a b c d : Int32) : om_sg a b = om_sg c d ↔ ((b < a ↔ d < c) ∧ (b = a ↔ d = c)) := by
  have n1 : ¬ (-1 : Int32) = 1 := by decide
  have n2 : ¬ (-1 : Int32) = 0 := by decide
  have n3 : ¬ (1 : Int32) = -1 := by decide
  have n4 : ¬ (1 : Int32) = 0 := by decide
  have n5 : ¬ (0 : Int32) = -1 := by decide
  have n6 : ¬ (0 : Int32) = 1 := by decide
  rcases om_tri a b with ⟨h1, h2, h3⟩ | ⟨h1, h2, h3⟩ | ⟨h1, h2, h3⟩ <;> rcases om_tri c d with ⟨k1, k2, k3⟩ | ⟨k1, k2, k3⟩ | ⟨k1, k2, k3⟩
  · rw [om_sg_l h1, om_sg_l k1]
    exact ⟨fun _ => ⟨⟨fun z => absurd z h2, fun z => absurd z k2⟩, ⟨fun z => absurd z h3, fun z => absurd z k3⟩⟩, fun _ => rfl⟩
  · rw [om_sg_l h1, om_sg_g k1 k2]
    exact ⟨fun z => absurd z n1, fun z => absurd (z.1.mpr k2) h2⟩
  · rw [om_sg_l h1, om_sg_e k1 k2]
    exact ⟨fun z => absurd z n2, fun z => absurd (z.2.mpr k3) h3⟩
  · rw [om_sg_g h1 h2, om_sg_l k1]
    exact ⟨fun z => absurd z n3, fun z => absurd (z.1.mp h2) k2⟩
  · rw [om_sg_g h1 h2, om_sg_g k1 k2]
    exact ⟨fun _ => ⟨⟨fun _ => k2, fun _ => h2⟩, ⟨fun z => absurd z h3, fun z => absurd z k3⟩⟩, fun _ => rfl⟩
  · rw [om_sg_g h1 h2, om_sg_e k1 k2]
    exact ⟨fun z => absurd z n4, fun z => absurd (z.1.mp h2) k2⟩
  · rw [om_sg_e h1 h2, om_sg_l k1]
    exact ⟨fun z => absurd z n5, fun z => absurd (z.2.mp h3) k3⟩
  · rw [om_sg_e h1 h2, om_sg_g k1 k2]
    exact ⟨fun z => absurd z n6, fun z => absurd (z.1.mpr k2) h2⟩
  · rw [om_sg_e h1 h2, om_sg_e k1 k2]
    exact ⟨fun _ => ⟨⟨fun z => absurd z h2, fun z => absurd z k2⟩, ⟨fun _ => k3, fun _ => h3⟩⟩, fun _ => rfl⟩
theorem om_sg_C (f g : Nat → Int32) (i j : Nat) : om_sg (f i) (f j) = om_sg (g i) (g j) ↔ om_C f g i j := om_sg_iff _ _ _ _
/-! a place where the pattern occurs -/
def om_M (t p : Nat → Int32) (tc pc q : Nat) : Prop := 0 < pc ∧ q + pc ≤ tc ∧ om_S p (om_at t q) pc
def om_MI (t p : Nat → Int32) (tc pc : Nat) (x : Int32) : Prop := ∃ q, q < 2 ^ 31 ∧ x = nI q ∧ om_M t p tc pc q
theorem om_MI_n {t p : Nat → Int32} {tc pc q : Nat} (hq : q < 2 ^ 31) : om_MI t p tc pc (nI q) ↔ om_M t p tc pc q := by
  constructor
  · rintro ⟨q', h', e, hm⟩
    rw [nI_eq hq h'] at e
    exact e ▸ hm
  · exact fun h => ⟨q, hq, rfl, h⟩
theorem om_fit {x : Int32} {a b : Nat} (ha : a < 2 ^ 30) (hb : b < 2 ^ 30) (h0 : ¬ x < 0) : x ≤ nI a - nI b ↔ ∃ q, q < 2 ^ 31 ∧ x = nI q ∧ q + b ≤ a := by
  obtain ⟨q, hq, rfl⟩ := nI_of h0
  rw [Int32.le_iff_toInt_le, pk_sub_toInt ha hb, nI_toInt hq]
  constructor
  · exact fun h => ⟨q, hq, rfl, by omega⟩
  · rintro ⟨q', h', e, h⟩
    rw [nI_eq hq h'] at e
    subst e
    omega
/-! greedy is best: g counts what is taken from place q on -/
def om_G (m : Nat → Prop) (pc tc : Nat) (g : Nat → Nat) : Prop := (∀ q, tc ≤ q → g q = 0) ∧ ∀ q, q < tc → (m q → g q = 1 + g (q + pc)) ∧ (¬ m q → g q = g (q + 1))
theorem om_G_ex (m : Nat → Prop) (pc tc : Nat) (hp : 0 < pc) : ∃ g, om_G m pc tc g := by
  have H : ∀ d, d ≤ tc → ∃ g : Nat → Nat, (∀ q, tc ≤ q → g q = 0) ∧ ∀ q, tc - d ≤ q → q < tc → (m q → g q = 1 + g (q + pc)) ∧ (¬ m q → g q = g (q + 1)) := by
    intro d
    induction d with
    | zero => exact fun _ => ⟨fun _ => 0, fun _ _ => rfl, fun q h1 h2 => by omega⟩
    | succ d ih =>
      intro hd
      obtain ⟨g, h0, h1⟩ := ih (by omega)
      have hV : ∃ V : Nat, (m (tc - (d + 1)) → V = 1 + g (tc - (d + 1) + pc)) ∧ (¬ m (tc - (d + 1)) → V = g (tc - (d + 1) + 1)) := by
        by_cases hm : m (tc - (d + 1))
        · exact ⟨_, fun _ => rfl, fun z => absurd hm z⟩
        · exact ⟨_, fun z => absurd z hm, fun _ => rfl⟩
      obtain ⟨V, hV1, hV2⟩ := hV
      refine ⟨fun q => if q = tc - (d + 1) then V else g q, fun q hq => ?_, fun q hq1 hq2 => ?_⟩
      · show (if q = tc - (d + 1) then V else g q) = 0
        rw [if_neg (by omega)]
        exact h0 q hq
      · show (m q → (if q = tc - (d + 1) then V else g q) = 1 + (if q + pc = tc - (d + 1) then V else g (q + pc))) ∧ (¬ m q → (if q = tc - (d + 1) then V else g q) = (if q + 1 = tc - (d + 1) then V else g (q + 1)))
        rw [if_neg (show ¬ q + pc = tc - (d + 1) by omega), if_neg (show ¬ q + 1 = tc - (d + 1) by omega)]
        by_cases e : q = tc - (d + 1)
        · rw [if_pos e]
          subst e
          exact ⟨hV1, hV2⟩
        · rw [if_neg e]
          exact h1 q (by omega) hq2
  obtain ⟨g, h0, h1⟩ := H tc (Nat.le_refl _)
  exact ⟨g, h0, fun q hq => h1 q (by omega) hq⟩
theorem om_G_mono {m : Nat → Prop} {pc tc : Nat} {g : Nat → Nat} (hp : 0 < pc) (h : om_G m pc tc g) : ∀ q, g (q + 1) ≤ g q ∧ g q ≤ 1 + g (q + pc) := by
  have H : ∀ d q, tc ≤ q + d → g (q + 1) ≤ g q ∧ g q ≤ 1 + g (q + pc) := by
    intro d
    induction d with
    | zero =>
      intro q hq
      rw [h.1 q (by omega), h.1 (q + 1) (by omega)]
      omega
    | succ d ih =>
      intro q hq
      by_cases hl : tc ≤ q
      · rw [h.1 q (by omega), h.1 (q + 1) (by omega)]
        omega
      · obtain ⟨h1, h2⟩ := h.2 q (by omega)
        have a := ih (q + 1) (by omega)
        have b := ih (q + pc) (by omega)
        have e : q + 1 + pc = q + pc + 1 := by omega
        rw [e] at a
        by_cases hm : m q
        · have := h1 hm
          omega
        · have := h2 hm
          omega
  exact fun q => H tc q (by omega)
theorem om_G_le {m : Nat → Prop} {pc tc : Nat} {g : Nat → Nat} (hp : 0 < pc) (hm : ∀ q, m q → q + pc ≤ tc) (h : om_G m pc tc g) : ∀ q, g q ≤ tc - q := by
  have H : ∀ d q, tc ≤ q + d → g q ≤ tc - q := by
    intro d
    induction d with
    | zero =>
      intro q hq
      rw [h.1 q (by omega)]
      omega
    | succ d ih =>
      intro q hq
      by_cases hl : tc ≤ q
      · rw [h.1 q (by omega)]
        omega
      · obtain ⟨h1, h2⟩ := h.2 q (by omega)
        have a := ih (q + 1) (by omega)
        have b := ih (q + pc) (by omega)
        by_cases hq2 : m q
        · have := h1 hq2
          have := hm q hq2
          omega
        · have := h2 hq2
          omega
  exact fun q => H tc q (by omega)
theorem om_D {m : Nat → Prop} {pc tc : Nat} (hm : ∀ q, m q → 0 < pc ∧ q + pc ≤ tc) : ∃ g, om_G m pc tc g ∧ (∀ q, g (q + 1) ≤ g q) ∧ ∀ q, g q ≤ tc - q := by
  by_cases hp : 0 < pc
  · obtain ⟨g, hg⟩ := om_G_ex m pc tc hp
    exact ⟨g, hg, fun q => (om_G_mono hp hg q).1, om_G_le hp (fun q h => (hm q h).2) hg⟩
  · exact ⟨fun _ => 0, ⟨fun _ _ => rfl, fun q _ => ⟨fun h => absurd (hm q h).1 hp, fun _ => rfl⟩⟩, fun _ => Nat.le_refl _, fun _ => Nat.zero_le _⟩
end
section
/-- the reference's comparison of two places -/
theorem om_order (post : Int32 → Prop) (fl fs : Int32) (a b : Nat → Int32) (i j : Nat) (hi : i < 70) (hj : j < 70) (h : post (om_sg (a i) (a j))) : wpY_order post (fl, fs, a, b) (nI i) (nI j) := by
  unfold wpY_order
  dsimp only
  rw [nI_clamp (n := i) (by omega), nI_clamp (n := j) (by omega)]
  have vi : vp_in (nI i) 70 := vp_in_nI hi (by omega)
  have vj : vp_in (nI j) 70 := vp_in_nI hj (by omega)
  refine ⟨vi, vj, br_c (fun h1 => ⟨vi, vj, br_c (fun h2 => ?_) (fun h2 => ?_)⟩) (fun h1 => ?_)⟩
  · rw [om_sg_e (Int32.not_lt.mpr h1) (Int32.not_lt.mpr h2)] at h
    exact h
  · rw [om_sg_g (Int32.not_lt.mpr h1) (Int32.not_le.mp h2)] at h
    exact h
  · rw [om_sg_l (Int32.not_le.mp h1)] at h
    exact h
/-- the class's comparison of two pairs -/
theorem om_cmp (post : Int32 → Prop) (a b c d : Int32) (ht : ((a < b ↔ c < d) ∧ (a = b ↔ c = d)) → post 1) (hf : ¬ ((a < b ↔ c < d) ∧ (a = b ↔ c = d)) → post 0) : wpX_sameComparison post a b c d := by
  have n0 : ¬ (0 : Int32) = 1 := by decide
  have n1 : ¬ (1 : Int32) = 0 := by decide
  unfold wpX_sameComparison wX_sameComparison_10 wX_sameComparison_20 wX_sameComparison_33 wX_sameComparison_43
  by_cases h1 : b ≤ a
  · have a1 : ¬ a < b := Int32.not_lt.mpr h1
    refine br_t h1 ?_
    by_cases h2 : d ≤ c
    · have a2 : ¬ c < d := Int32.not_lt.mpr h2
      refine br_t h2 (br_t rfl ?_)
      by_cases h3 : a = b
      · refine br_t h3 ?_
        by_cases h4 : c = d
        · exact br_t h4 (br_t rfl (ht ⟨iff_of_false a1 a2, iff_of_true h3 h4⟩))
        · exact br_f h4 (br_f n1 (hf (fun z => h4 (z.2.mp h3))))
      · refine br_f h3 ?_
        by_cases h4 : c = d
        · exact br_t h4 (br_f n0 (hf (fun z => h3 (z.2.mpr h4))))
        · exact br_f h4 (br_t rfl (ht ⟨iff_of_false a1 a2, iff_of_false h3 h4⟩))
    · exact br_f h2 (br_f n0 (hf (fun z => a1 (z.1.mpr (Int32.not_le.mp h2)))))
  · have a1 : a < b := Int32.not_le.mp h1
    refine br_f h1 ?_
    by_cases h2 : d ≤ c
    · have a2 : ¬ c < d := Int32.not_lt.mpr h2
      exact br_t h2 (br_f n1 (hf (fun z => a2 (z.1.mp a1))))
    · have a2 : c < d := Int32.not_le.mp h2
      refine br_f h2 (br_t rfl ?_)
      by_cases h3 : a = b
      · refine br_t h3 ?_
        by_cases h4 : c = d
        · exact br_t h4 (br_t rfl (ht ⟨iff_of_true a1 a2, iff_of_true h3 h4⟩))
        · exact br_f h4 (br_f n1 (hf (fun z => h4 (z.2.mp h3))))
      · refine br_f h3 ?_
        by_cases h4 : c = d
        · exact br_t h4 (br_f n0 (hf (fun z => h3 (z.2.mpr h4))))
        · exact br_f h4 (br_t rfl (ht ⟨iff_of_true a1 a2, iff_of_false h3 h4⟩))
theorem om_xt29 (post J : Int32 → Prop) (fc fp : Int32) (t p : Nat → Int32) (q n i : Nat) (hq : q + n ≤ 60) (hn : n ≤ 10) (hi : i < n) (hJ : (∀ j, j < i → om_C p (om_at t q) i j) → J (nI (i + 1))) (h0 : ¬ (∀ j, j < i → om_C p (om_at t q) i j) → post 0) : ∀ d j, j + d = i → (∀ j', j' < j → om_C p (om_at t q) i j') → wX_sameShape__patternValues_textValues_29 post J 0 (nI q) (nI n) (nI i) (p i) (t (q + i)) fc fp t p (d + 1) (nI j) := by
  intro d
  induction d with
  | zero =>
    intro j hj hC
    obtain rfl : j = i := by omega
    exact br_t (nI_le (Nat.le_refl _) (by omega)) (nm_r (nI_1 j) (hJ hC))
  | succ d ih =>
    intro j hj hC
    have e1 : ((0 : Int32) + nI j).toNatClampNeg = j := by rw [Int32.zero_add, nI_clamp (by omega)]
    have e2 : (nI q + nI j).toNatClampNeg = q + j := by rw [nI_add, nI_clamp (by omega)]
    refine br_f (nI_ge (by omega) (by omega)) ⟨pk_in j 10 (by omega) (Int32.zero_add _), pk_in (q + j) 60 (by omega) (nI_add q j), ?_⟩
    rw [e1, e2]
    exact om_cmp _ _ _ _ _ (fun hc => br_f (by decide) (nm_r (nI_1 j) (ih (j + 1) (by omega) (lt_s hC hc)))) (fun hc => br_t rfl (h0 (fun z => hc (z j (by omega)))))
theorem om_xt3 (post : Int32 → Prop) (fc fp : Int32) (t p : Nat → Int32) (q n : Nat) (hq : q + n ≤ 60) (hn : n ≤ 10) (h1 : om_S p (om_at t q) n → post 1) (h0 : ¬ om_S p (om_at t q) n → post 0) : ∀ d i, i + d = n → (∀ i', i' < i → ∀ j, j < i' → om_C p (om_at t q) i' j) → wX_sameShape__patternValues_textValues_3 post 0 (nI q) (nI n) fc fp t p (d + 1) (nI i) := by
  intro d
  induction d with
  | zero =>
    intro i hi hC
    obtain rfl : i = n := by omega
    exact br_t (nI_le (Nat.le_refl _) (by omega)) (h1 hC)
  | succ d ih =>
    intro i hi hC
    have e1 : p ((0 : Int32) + nI i).toNatClampNeg = p i := by rw [Int32.zero_add, nI_clamp (by omega)]
    have e2 : t (nI q + nI i).toNatClampNeg = t (q + i) := by rw [nI_add, nI_clamp (by omega)]
    refine br_f (nI_ge (by omega) (by omega)) ⟨pk_in i 10 (by omega) (Int32.zero_add _), nm_r e1 ⟨pk_in (q + i) 60 (by omega) (nI_add q i), nm_r e2 ⟨i + 1, ?_⟩⟩⟩
    exact om_xt29 post _ fc fp t p q n i hq hn (by omega) (fun hC' => ih (i + 1) (by omega) (lt_s hC hC')) (fun hC' => h0 (fun hS => hC' (hS i (by omega)))) i 0 (by omega) lt_0
theorem om_xt (post : Int32 → Prop) (fc fp : Int32) (t p : Nat → Int32) (q n : Nat) (hq : q + n ≤ 60) (hn : n ≤ 10) (h : 1 ≤ n) (h1 : om_S p (om_at t q) n → post 1) (h0 : ¬ om_S p (om_at t q) n → post 0) : wpX_sameShape__patternValues_textValues post (fc, fp, t, p) 0 (nI q) (nI n) := by
  show ∃ n3 : Nat, wX_sameShape__patternValues_textValues_3 post 0 (nI q) (nI n) fc fp t p n3 1
  exact ⟨n - 1 + 1, om_xt3 post fc fp t p q n hq hn h1 h0 (n - 1) 1 (by omega) (fun i' hi' j hj => by omega)⟩
theorem om_xp29 (post J : Int32 → Prop) (fc fp : Int32) (t p : Nat → Int32) (q n i : Nat) (hq : q + n ≤ 10) (hn : n ≤ 10) (hi : i < n) (hJ : (∀ j, j < i → om_C p (om_at p q) i j) → J (nI (i + 1))) (h0 : ¬ (∀ j, j < i → om_C p (om_at p q) i j) → post 0) : ∀ d j, j + d = i → (∀ j', j' < j → om_C p (om_at p q) i j') → wX_sameShape__patternValues_patternValues_29 post J 0 (nI q) (nI n) (nI i) (p i) (p (q + i)) fc fp t p (d + 1) (nI j) := by
  intro d
  induction d with
  | zero =>
    intro j hj hC
    obtain rfl : j = i := by omega
    exact br_t (nI_le (Nat.le_refl _) (by omega)) (nm_r (nI_1 j) (hJ hC))
  | succ d ih =>
    intro j hj hC
    have e1 : ((0 : Int32) + nI j).toNatClampNeg = j := by rw [Int32.zero_add, nI_clamp (by omega)]
    have e2 : (nI q + nI j).toNatClampNeg = q + j := by rw [nI_add, nI_clamp (by omega)]
    refine br_f (nI_ge (by omega) (by omega)) ⟨pk_in j 10 (by omega) (Int32.zero_add _), pk_in (q + j) 10 (by omega) (nI_add q j), ?_⟩
    rw [e1, e2]
    exact om_cmp _ _ _ _ _ (fun hc => br_f (by decide) (nm_r (nI_1 j) (ih (j + 1) (by omega) (lt_s hC hc)))) (fun hc => br_t rfl (h0 (fun z => hc (z j (by omega)))))
theorem om_xp3 (post : Int32 → Prop) (fc fp : Int32) (t p : Nat → Int32) (q n : Nat) (hq : q + n ≤ 10) (hn : n ≤ 10) (h1 : om_S p (om_at p q) n → post 1) (h0 : ¬ om_S p (om_at p q) n → post 0) : ∀ d i, i + d = n → (∀ i', i' < i → ∀ j, j < i' → om_C p (om_at p q) i' j) → wX_sameShape__patternValues_patternValues_3 post 0 (nI q) (nI n) fc fp t p (d + 1) (nI i) := by
  intro d
  induction d with
  | zero =>
    intro i hi hC
    obtain rfl : i = n := by omega
    exact br_t (nI_le (Nat.le_refl _) (by omega)) (h1 hC)
  | succ d ih =>
    intro i hi hC
    have e1 : p ((0 : Int32) + nI i).toNatClampNeg = p i := by rw [Int32.zero_add, nI_clamp (by omega)]
    have e2 : p (nI q + nI i).toNatClampNeg = p (q + i) := by rw [nI_add, nI_clamp (by omega)]
    refine br_f (nI_ge (by omega) (by omega)) ⟨pk_in i 10 (by omega) (Int32.zero_add _), nm_r e1 ⟨pk_in (q + i) 10 (by omega) (nI_add q i), nm_r e2 ⟨i + 1, ?_⟩⟩⟩
    exact om_xp29 post _ fc fp t p q n i hq hn (by omega) (fun hC' => ih (i + 1) (by omega) (lt_s hC hC')) (fun hC' => h0 (fun hS => hC' (hS i (by omega)))) i 0 (by omega) lt_0
theorem om_xp (post : Int32 → Prop) (fc fp : Int32) (t p : Nat → Int32) (q n : Nat) (hq : q + n ≤ 10) (hn : n ≤ 10) (h : 1 ≤ n) (h1 : om_S p (om_at p q) n → post 1) (h0 : ¬ om_S p (om_at p q) n → post 0) : wpX_sameShape__patternValues_patternValues post (fc, fp, t, p) 0 (nI q) (nI n) := by
  show ∃ n3 : Nat, wX_sameShape__patternValues_patternValues_3 post 0 (nI q) (nI n) fc fp t p n3 1
  exact ⟨n - 1 + 1, om_xp3 post fc fp t p q n hq hn h1 h0 (n - 1) 1 (by omega) (fun i' hi' j hj => by omega)⟩
theorem om_y12 (post J : Int32 → Prop) (fl fs : Int32) (a b : Nat → Int32) (x y n i : Nat) (hx : x + n ≤ 70) (hy : y + n ≤ 70) (hi : i < n) (hJ : (∀ j, j < i → om_C (om_at a x) (om_at a y) i j) → J (nI (i + 1))) (h0 : ¬ (∀ j, j < i → om_C (om_at a x) (om_at a y) i j) → post 0) : ∀ d j, j + d = i → (∀ j', j' < j → om_C (om_at a x) (om_at a y) i j') → wY_alike_12 post J (nI x) (nI y) (nI n) (nI i) fl fs a b (d + 1) (nI j) := by
  intro d
  induction d with
  | zero =>
    intro j hj hC
    obtain rfl : j = i := by omega
    exact br_t (nI_le (Nat.le_refl _) (by omega)) (nm_r (nI_1 j) (hJ hC))
  | succ d ih =>
    intro j hj hC
    refine br_f (nI_ge (by omega) (by omega)) ?_
    rw [nI_add x i, nI_add x j, nI_add y i, nI_add y j]
    refine om_order _ _ _ _ _ _ _ (by omega) (by omega) (om_order _ _ _ _ _ _ _ (by omega) (by omega) ?_)
    exact br_c (fun hc => nm_r (nI_1 j) (ih (j + 1) (by omega) (lt_s hC ((om_sg_C (om_at a x) (om_at a y) i j).mp hc)))) (fun hc => h0 (fun z => hc ((om_sg_C (om_at a x) (om_at a y) i j).mpr (z j (by omega)))))
theorem om_y3 (post : Int32 → Prop) (fl fs : Int32) (a b : Nat → Int32) (x y n : Nat) (hx : x + n ≤ 70) (hy : y + n ≤ 70) (h1 : om_S (om_at a x) (om_at a y) n → post 1) (h0 : ¬ om_S (om_at a x) (om_at a y) n → post 0) : ∀ d i, i + d = n → (∀ i', i' < i → ∀ j, j < i' → om_C (om_at a x) (om_at a y) i' j) → wY_alike_3 post (nI x) (nI y) (nI n) fl fs a b (d + 1) (nI i) := by
  intro d
  induction d with
  | zero =>
    intro i hi hC
    obtain rfl : i = n := by omega
    exact br_t (nI_le (Nat.le_refl _) (by omega)) (h1 hC)
  | succ d ih =>
    intro i hi hC
    refine br_f (nI_ge (by omega) (by omega)) ⟨i + 1, ?_⟩
    exact om_y12 post _ fl fs a b x y n i hx hy (by omega) (fun hC' => ih (i + 1) (by omega) (lt_s hC hC')) (fun hC' => h0 (fun hS => hC' (hS i (by omega)))) i 0 (by omega) lt_0
theorem om_ya (post : Int32 → Prop) (fl fs : Int32) (a b : Nat → Int32) (x y n : Nat) (hx : x + n ≤ 70) (hy : y + n ≤ 70) (h1 : om_S (om_at a x) (om_at a y) n → post 1) (h0 : ¬ om_S (om_at a x) (om_at a y) n → post 0) : wpY_alike post (fl, fs, a, b) (nI x) (nI y) (nI n) := by
  show ∃ n3 : Nat, wY_alike_3 post (nI x) (nI y) (nI n) fl fs a b n3 0
  exact ⟨n + 1, om_y3 post fl fs a b x y n hx hy h1 h0 n 0 (by omega) (fun i' hi' j hj => by omega)⟩
theorem om_S_tp {t p : Nat → Int32} {q n : Nat} (h : q + n ≤ 60) : om_S (om_at (om_gl t p) q) (om_at (om_gl t p) 60) n ↔ om_S p (om_at t q) n := by
  have e1 : ∀ j, j < n → om_at (om_gl t p) 60 j = p j := fun j _ => om_gl_p j
  have e2 : ∀ j, j < n → om_at (om_gl t p) q j = om_at t q j := fun j hj => om_gl_t (j := q + j) (by omega)
  exact ⟨fun z => om_S_congr e1 e2 (om_S_symm z), fun z => om_S_symm (om_S_congr (fun j hj => (e1 j hj).symm) (fun j hj => (e2 j hj).symm) z)⟩
theorem om_S_pp {t p : Nat → Int32} {s n : Nat} : om_S (om_at (om_gl t p) 60) (om_at (om_gl t p) (60 + s)) n ↔ om_S p (om_at p s) n := by
  have e1 : ∀ j, j < n → om_at (om_gl t p) 60 j = p j := fun j _ => om_gl_p j
  have e2 : ∀ j, j < n → om_at (om_gl t p) (60 + s) j = om_at p s j := by
    intro j _
    show om_gl t p (60 + s + j) = p (s + j)
    rw [Nat.add_assoc, om_gl_p]
  exact ⟨fun z => om_S_congr e1 e2 z, fun z => om_S_congr (fun j hj => (e1 j hj).symm) (fun j hj => (e2 j hj).symm) z⟩
theorem om_xl (post : Int32 → Prop) (tc c : Nat) (fp : Int32) (t p : Nat → Int32) (x : Int32) (htc : tc ≤ 60) (hc : c ≤ 60) (h1 : (∃ q, q < 2 ^ 31 ∧ x = nI q ∧ q + c ≤ tc) → post 1) (h0 : ¬ (∃ q, q < 2 ^ 31 ∧ x = nI q ∧ q + c ≤ tc) → post 0) : wpX_liesInText post (nI tc, fp, t, p) x (nI c) := by
  by_cases hx : x < 0
  · exact br_t hx (h0 (by rintro ⟨q, hq, rfl, _⟩; exact nI_pos hq hx))
  · refine br_f hx (br_c (fun h => h0 ?_) (fun h => h1 ?_))
    · rw [← om_fit (by omega) (by omega) hx]
      exact Int32.not_le.mpr h
    · exact (om_fit (by omega) (by omega) hx).mp (Int32.not_lt.mp h)
theorem om_xm (post : Int32 → Prop) (tc pc : Nat) (t p : Nat → Int32) (htc : tc ≤ 60) (hpc : pc ≤ 10) (x : Int32) (h1 : om_MI t p tc pc x → post 1) (h0 : ¬ om_MI t p tc pc x → post 0) : wpX_matchStartsAt post (nI tc, nI pc, t, p) x := by
  by_cases hz : pc = 0
  · subst hz
    exact br_t (show nI 0 ≤ 0 by decide) (h0 (by rintro ⟨q, _, _, hm⟩; exact absurd hm.1 (by omega)))
  · refine br_f (nI_nle (by omega) (by omega)) ?_
    refine om_xl _ tc pc _ t p x htc (by omega) (fun hq => br_f (by decide) ?_) (fun hn => br_t rfl (h0 ?_))
    · obtain ⟨q, hq, rfl, hle⟩ := hq
      refine om_xt _ _ _ t p q pc (by omega) hpc (by omega) (fun hs => br_f (by decide) (h1 ⟨q, hq, rfl, by omega, hle, hs⟩)) (fun hs => br_t rfl (h0 ?_))
      rw [om_MI_n hq]
      exact fun z => hs z.2.2
    · rintro ⟨q, hq, e, hm⟩
      exact hn ⟨q, hq, e, hm.2.1⟩
theorem om_yo (post : Int32 → Prop) (tc pc : Nat) (t p b : Nat → Int32) (htc : tc ≤ 60) (hpc : pc ≤ 10) (x : Int32) (h1 : om_MI t p tc pc x → post 1) (h0 : ¬ om_MI t p tc pc x → post 0) : wpY_occurs post (nI tc, nI pc, om_gl t p, b) x := by
  by_cases hz : pc = 0
  · subst hz
    exact br_t nI_0 (h0 (by rintro ⟨q, _, _, hm⟩; exact absurd hm.1 (by omega)))
  · refine br_f (nI_ne0 (by omega) (by omega)) ?_
    by_cases hx : x < 0
    · exact br_t hx (h0 (by rintro ⟨q, hq, rfl, _⟩; exact nI_pos hq hx))
    · refine br_f hx (br_c (fun h => ?_) (fun h => h0 ?_))
      · obtain ⟨q, hq, rfl, hle⟩ := (om_fit (by omega) (by omega) hx).mp h
        refine om_ya _ _ _ _ _ q 60 pc (by omega) (by omega) (fun hs => ⟨rfl, h1 ⟨q, hq, rfl, by omega, hle, (om_S_tp (by omega)).mp hs⟩⟩) (fun hs => ⟨rfl, h0 ?_⟩)
        rw [om_MI_n hq]
        exact fun z => hs ((om_S_tp (by omega)).mpr z.2.2)
      · rintro ⟨q, hq, e, hm⟩
        exact h ((om_fit (by omega) (by omega) hx).mpr ⟨q, hq, e, hm.2.1⟩)
end
section
/-- both sides hold the same text and the same pattern; the reference's table of best counts is free -/
def i_Rel (_ : Nat) (u : SX) (v : SY) : Prop := ∃ (tc pc : Nat) (t p b : Nat → Int32), tc ≤ 60 ∧ pc ≤ 10 ∧ u = (nI tc, nI pc, t, p) ∧ v = (nI tc, nI pc, om_gl t p, b)
theorem i_up {k : Nat} {u : SX} {v : SY} (h : i_Rel k u v) : i_Rel (k + 4) u v := h
theorem om_rel (k tc pc : Nat) (t p b : Nat → Int32) (htc : tc ≤ 60) (hpc : pc ≤ 10) : i_Rel k (nI tc, nI pc, t, p) (nI tc, nI pc, om_gl t p, b) := ⟨tc, pc, t, p, b, htc, hpc, rfl, rfl⟩
theorem i_vc0 : wpX_init (fun u => wpY_init (fun v => i_Rel 0 u v)) := by
  show i_Rel 0 (0, 0, (fun _ => 0), (fun _ => 0)) (0, 0, (fun _ => 0), (fun _ => 0))
  have h := om_rel 0 0 0 (fun _ => 0) (fun _ => 0) (fun _ => 0) (by omega) (by omega)
  rw [om_gl_0] at h
  exact h
theorem om_n0 {x : Int32} (h : ¬ x < 1) : ¬ x < 0 := fun z => h (Int32.lt_trans z (by decide))
theorem i_vc_pattern {k : Nat} {u : SX} {v : SY} (I : i_Rel k u v) (hk : k + 4 ≤ 2048) (v1 : Int32) : wpX_pattern (fun r u' => wpY_pattern (fun r' v' => r' = r ∧ i_Rel (k + 4) u' v') v v1) u v1 := by
  obtain ⟨tc, pc, t, p, b, htc, hpc, rfl, rfl⟩ := I
  by_cases h : pc < 10
  · have h10 : nI pc < 10 := nI_lt (b := 10) h (by decide)
    have e1 : upd p (nI pc).toNatClampNeg v1 = upd p pc v1 := by rw [nI_clamp (by omega)]
    have e2 : upd (om_gl t p) ((60 : Int32) + nI pc).toNatClampNeg v1 = om_gl t (upd p pc v1) := by
      rw [show (60 : Int32) + nI pc = nI (60 + pc) from nI_add 60 pc, nI_clamp (by omega), om_upd_p]
    refine br_t h10 ⟨vp_in_nI h (by decide), nm_r e1 (nm_r (nI_1 pc) ?_)⟩
    exact br_t h10 ⟨pk_in (60 + pc) 70 (by omega) (nI_add 60 pc), nm_r e2 (nm_r (nI_1 pc) ⟨rfl, om_rel _ tc (pc + 1) t _ b htc (by omega)⟩)⟩
  · have h10 : ¬ nI pc < 10 := nI_nlt (b := 10) (by omega) (by omega)
    exact br_f h10 (br_f h10 ⟨rfl, om_rel _ tc pc t p b htc hpc⟩)
theorem i_vc_clearPattern {k : Nat} {u : SX} {v : SY} (I : i_Rel k u v) (hk : k + 4 ≤ 2048) : wpX_clearPattern (fun r u' => wpY_clearPattern (fun r' v' => r' = r ∧ i_Rel (k + 4) u' v') v) u := by
  obtain ⟨tc, pc, t, p, b, htc, hpc, rfl, rfl⟩ := I
  show nI pc = nI pc ∧ i_Rel (k + 4) (nI tc, 0, t, p) (nI tc, 0, om_gl t p, b)
  exact ⟨rfl, om_rel _ tc 0 t p b htc (by omega)⟩
/-- the pattern after i values were taken from place q on -/
def om_tk (t p : Nat → Int32) (q : Nat) : Nat → Nat → Int32
  | 0 => p
  | i + 1 => upd (om_tk t p q i) i (t (q + i))
theorem om_tkx (post : Int32 → SX → Prop) (ft fp : Int32) (t p : Nat → Int32) (q c : Nat) (hq : q + c ≤ 60) (hc : c ≤ 10) (h : post (nI c) (ft, nI c, t, om_tk t p q c)) : ∀ d i, i + d = c → wX_take_26 post (nI q) (nI c) ft fp (d + 1) (nI i) t (om_tk t p q i) := by
  intro d
  induction d with
  | zero =>
    intro i hi
    obtain rfl : i = c := by omega
    exact br_t (nI_le (Nat.le_refl _) (by omega)) h
  | succ d ih =>
    intro i hi
    have e : upd (om_tk t p q i) (nI i).toNatClampNeg (t (nI q + nI i).toNatClampNeg) = om_tk t p q (i + 1) := by
      rw [nI_clamp (by omega), nI_add, nI_clamp (by omega)]
      rfl
    exact br_f (nI_ge (by omega) (by omega)) ⟨pk_in (q + i) 60 (by omega) (nI_add q i), vp_in_nI (by omega) (by omega), nm_r e (nm_r (nI_1 i) (ih (i + 1) (by omega)))⟩
theorem om_tky (post : Int32 → SY → Prop) (fl fs : Int32) (t p b : Nat → Int32) (q c : Nat) (hq : q + c ≤ 60) (hc : c ≤ 10) (h : post (nI c) (fl, nI c, om_gl t (om_tk t p q c), b)) : ∀ d i, i + d = c → wY_take_31 post (nI q) (nI c) fl fs (d + 1) (nI i) (om_gl t (om_tk t p q i)) b := by
  intro d
  induction d with
  | zero =>
    intro i hi
    obtain rfl : i = c := by omega
    exact br_t (nI_le (Nat.le_refl _) (by omega)) h
  | succ d ih =>
    intro i hi
    have e : upd (om_gl t (om_tk t p q i)) ((60 : Int32) + nI i).toNatClampNeg (om_gl t (om_tk t p q i) (nI q + nI i).toNatClampNeg) = om_gl t (om_tk t p q (i + 1)) := by
      rw [show (60 : Int32) + nI i = nI (60 + i) from nI_add 60 i, nI_clamp (by omega), nI_add, nI_clamp (by omega), om_upd_p, om_gl_t (by omega)]
      rfl
    exact br_f (nI_ge (by omega) (by omega)) ⟨pk_in (q + i) 70 (by omega) (nI_add q i), pk_in (60 + i) 70 (by omega) (nI_add 60 i), nm_r e (nm_r (nI_1 i) (ih (i + 1) (by omega)))⟩
theorem i_vc_take {k : Nat} {u : SX} {v : SY} (I : i_Rel k u v) (hk : k + 4 ≤ 2048) (v1 : Int32) (v2 : Int32) : wpX_take (fun r u' => wpY_take (fun r' v' => r' = r ∧ i_Rel (k + 4) u' v') v v1 v2) u v1 v2 := by
  obtain ⟨tc, pc, t, p, b, htc, hpc, rfl, rfl⟩ := I
  by_cases h0 : v2 < 0
  · exact br_t h0 (br_t h0 ⟨rfl, om_rel _ tc pc t p b htc hpc⟩)
  · by_cases h10 : v2 ≤ 10
    · obtain ⟨c, hc, rfl⟩ := nI_of2 (n := 10) (by decide) h0 h10
      refine br_f h0 (br_t h10 ?_)
      refine om_xl _ tc c _ t p v1 htc (by omega) (fun hq => br_f (by decide) ?_) (fun hn => br_t rfl ?_)
      · obtain ⟨q, hq, rfl, hle⟩ := hq
        have hx : ¬ nI q < 0 := nI_pos hq
        refine ⟨c + 1, om_tkx _ _ _ t p q c (by omega) hc ?_ c 0 (by omega)⟩
        refine br_f h0 (br_t h10 (br_f hx (br_t ((om_fit (by omega) (by omega) hx).mpr ⟨q, hq, rfl, hle⟩) ⟨c + 1, ?_⟩)))
        exact om_tky _ _ _ t p b q c (by omega) hc ⟨rfl, om_rel _ tc c t _ b htc hc⟩ c 0 (by omega)
      · refine br_f h0 (br_t h10 ?_)
        by_cases hx : v1 < 0
        · exact br_t hx ⟨rfl, om_rel _ tc pc t p b htc hpc⟩
        · refine br_f hx (br_f (fun z => hn ((om_fit (by omega) (by omega) hx).mp z)) ⟨rfl, om_rel _ tc pc t p b htc hpc⟩)
    · exact br_f h0 (br_f h10 (br_f h0 (br_f h10 ⟨rfl, om_rel _ tc pc t p b htc hpc⟩)))
theorem om_xr (post : Int32 → Prop) (tc c : Nat) (fp : Int32) (t p : Nat → Int32) (htc : tc ≤ 60) (hc : c ≤ 60) (h1 : tc + c ≤ 60 → post 1) (h0 : 60 < tc + c → post 0) : wpX_hasRoomFor post (nI tc, fp, t, p) (nI c) := by
  show (((60 : Int32) - nI tc) < nI c → post 0) ∧ (¬ ((60 : Int32) - nI tc) < nI c → post 1)
  exact pk_lt (60 - tc) c (fun h => h0 (by omega)) (fun h => h1 (by omega)) (pk_sub (a := 60) htc)
theorem om_xa (post : SX → Prop) (tc : Nat) (fp : Int32) (t p : Nat → Int32) (x : Int32) (h : tc < 60) (hp : post (nI (tc + 1), fp, upd t tc x, p)) : wpX_append post (nI tc, fp, t, p) x := by
  show vp_in (nI tc) 60 ∧ ∀ a : Nat → Int32, a = upd t (nI tc).toNatClampNeg x → ∀ f : Int32, f = nI tc + 1 → post (f, fp, a, p)
  have e : upd t (nI tc).toNatClampNeg x = upd t tc x := by rw [nI_clamp (by omega)]
  exact ⟨vp_in_nI h (by omega), nm_r e (nm_r (nI_1 tc) hp)⟩
theorem i_vc_feed {k : Nat} {u : SX} {v : SY} (I : i_Rel k u v) (hk : k + 4 ≤ 2048) (v1 : Int32) : wpX_feed (fun r u' => wpY_feed (fun r' v' => r' = r ∧ i_Rel (k + 4) u' v') v v1) u v1 := by
  obtain ⟨tc, pc, t, p, b, htc, hpc, rfl, rfl⟩ := I
  unfold wpX_feed
  dsimp only
  refine om_xr _ tc 1 _ t p htc (by omega) (fun h => br_f (by decide) (om_xa _ tc _ t p v1 (by omega) ?_)) (fun h => br_t rfl ?_)
  · have h60 : nI tc < 60 := nI_lt (b := 60) (by omega) (by decide)
    have e : upd (om_gl t p) (nI tc).toNatClampNeg v1 = om_gl (upd t tc v1) p := by rw [nI_clamp (by omega), om_upd_t (by omega)]
    exact br_t h60 ⟨vp_in_nI (by omega) (by omega), nm_r e (nm_r (nI_1 tc) ⟨rfl, om_rel _ (tc + 1) pc _ p b (by omega) hpc⟩)⟩
  · have h60 : ¬ nI tc < 60 := nI_nlt (b := 60) (by omega) (by omega)
    exact br_f h60 ⟨rfl, om_rel _ tc pc t p b htc hpc⟩
/-- the text after i values of a ramp -/
def om_rp (t : Nat → Int32) (tc : Nat) (x1 x2 : Int32) : Nat → Nat → Int32
  | 0 => t
  | i + 1 => upd (om_rp t tc x1 x2 i) (tc + i) (x1 + nI i * x2)
theorem om_rpx (post : Int32 → SX → Prop) (fp : Int32) (t p : Nat → Int32) (tc : Nat) (x1 x2 : Int32) (c : Nat) (hc : tc + c ≤ 60) (h : post (nI (tc + c)) (nI (tc + c), fp, om_rp t tc x1 x2 c, p)) : ∀ d i, i + d = c → wX_ramp_27 post x1 x2 (nI c) (d + 1) (nI i) (nI (tc + i)) fp (om_rp t tc x1 x2 i) p := by
  intro d
  induction d with
  | zero =>
    intro i hi
    obtain rfl : i = c := by omega
    exact br_t (nI_le (Nat.le_refl _) (by omega)) h
  | succ d ih =>
    intro i hi
    refine br_f (nI_ge (by omega) (by omega)) (om_xa _ (tc + i) _ _ p _ (by omega) ?_)
    exact nm_r (nI_1 i) (ih (i + 1) (by omega))
theorem om_rpy (post : Int32 → SY → Prop) (fs : Int32) (t p b : Nat → Int32) (tc : Nat) (x1 x2 : Int32) (c : Nat) (hc : tc + c ≤ 60) (h : post (nI (tc + c)) (nI (tc + c), fs, om_gl (om_rp t tc x1 x2 c) p, b)) : ∀ d i, i + d = c → wY_ramp_30 post x1 x2 (nI c) (nI tc) fs (d + 1) (nI i) (om_gl (om_rp t tc x1 x2 i) p) b := by
  intro d
  induction d with
  | zero =>
    intro i hi
    obtain rfl : i = c := by omega
    exact br_t (nI_le (Nat.le_refl _) (by omega)) (nm_r (nI_add tc i) h)
  | succ d ih =>
    intro i hi
    have e : upd (om_gl (om_rp t tc x1 x2 i) p) (nI tc + nI i).toNatClampNeg (x1 + nI i * x2) = om_gl (om_rp t tc x1 x2 (i + 1)) p := by
      rw [nI_add, nI_clamp (by omega), om_upd_t (by omega)]
      rfl
    exact br_f (nI_ge (by omega) (by omega)) ⟨pk_in (tc + i) 70 (by omega) (nI_add tc i), nm_r e (nm_r (nI_1 i) (ih (i + 1) (by omega)))⟩
theorem i_vc_ramp {k : Nat} {u : SX} {v : SY} (I : i_Rel k u v) (hk : k + 4 ≤ 2048) (v1 : Int32) (v2 : Int32) (v3 : Int32) : wpX_ramp (fun r u' => wpY_ramp (fun r' v' => r' = r ∧ i_Rel (k + 4) u' v') v v1 v2 v3) u v1 v2 v3 := by
  obtain ⟨tc, pc, t, p, b, htc, hpc, rfl, rfl⟩ := I
  by_cases h0 : v3 < 1
  · exact br_t h0 (br_t h0 ⟨rfl, om_rel _ tc pc t p b htc hpc⟩)
  · by_cases h60 : v3 ≤ 60
    · obtain ⟨c, hc, rfl⟩ := nI_of2 (n := 60) (by decide) (om_n0 h0) h60
      refine br_f h0 (br_t h60 ?_)
      refine om_xr _ tc c _ t p htc hc (fun h => br_f (by decide) ?_) (fun h => br_t rfl ?_)
      · have hl : nI tc + nI c ≤ 60 := by
          rw [nI_add]
          exact nI_le (b := 60) h (by decide)
        refine ⟨c + 1, om_rpx _ _ t p tc v1 v2 c h ?_ c 0 (by omega)⟩
        refine br_f h0 (br_t h60 (br_t hl ⟨c + 1, ?_⟩))
        exact om_rpy _ _ t p b tc v1 v2 c h ⟨rfl, om_rel _ (tc + c) pc _ p b h hpc⟩ c 0 (by omega)
      · have hl : ¬ nI tc + nI c ≤ 60 := by
          rw [nI_add]
          exact nI_ge (a := 60) h (by omega)
        exact br_f h0 (br_t h60 (br_f hl ⟨rfl, om_rel _ tc pc t p b htc hpc⟩))
    · exact br_f h0 (br_f h60 (br_f h0 (br_f h60 ⟨rfl, om_rel _ tc pc t p b htc hpc⟩)))
end
section
/-- the text after i values of an echo -/
def om_ec (t : Nat → Int32) (tc q : Nat) (x2 x3 : Int32) : Nat → Nat → Int32
  | 0 => t
  | i + 1 => upd (om_ec t tc q x2 x3 i) (tc + i) (om_ec t tc q x2 x3 i (q + i) * x2 + x3)
theorem om_ecx (post : Int32 → SX → Prop) (fp : Int32) (t p : Nat → Int32) (tc q : Nat) (x2 x3 : Int32) (c : Nat) (hc : tc + c ≤ 60) (hq : q + c ≤ 60) (h : post (nI (tc + c)) (nI (tc + c), fp, om_ec t tc q x2 x3 c, p)) : ∀ d i, i + d = c → wX_echo_56 post x2 x3 (nI c) (nI q) (d + 1) (nI i) (nI (tc + i)) fp (om_ec t tc q x2 x3 i) p := by
  intro d
  induction d with
  | zero =>
    intro i hi
    obtain rfl : i = c := by omega
    exact br_t (nI_le (Nat.le_refl _) (by omega)) h
  | succ d ih =>
    intro i hi
    have e : (nI q + nI i).toNatClampNeg = q + i := by rw [nI_add, nI_clamp (by omega)]
    refine br_f (nI_ge (by omega) (by omega)) ⟨pk_in (q + i) 60 (by omega) (nI_add q i), ?_⟩
    rw [e]
    refine om_xa _ (tc + i) _ _ p _ (by omega) ?_
    exact nm_r (nI_1 i) (ih (i + 1) (by omega))
theorem om_ecy (post : Int32 → SY → Prop) (fs : Int32) (t p b : Nat → Int32) (tc q : Nat) (x2 x3 : Int32) (c : Nat) (hc : tc + c ≤ 60) (hq : q + c ≤ 60) (h : post (nI (tc + c)) (nI (tc + c), fs, om_gl (om_ec t tc q x2 x3 c) p, b)) : ∀ d i, i + d = c → wY_echo_66 post x2 x3 (nI c) (nI q) (nI tc) fs (d + 1) (nI i) (om_gl (om_ec t tc q x2 x3 i) p) b := by
  intro d
  induction d with
  | zero =>
    intro i hi
    obtain rfl : i = c := by omega
    exact br_t (nI_le (Nat.le_refl _) (by omega)) (nm_r (nI_add tc i) h)
  | succ d ih =>
    intro i hi
    have e : upd (om_gl (om_ec t tc q x2 x3 i) p) (nI tc + nI i).toNatClampNeg (om_gl (om_ec t tc q x2 x3 i) p (nI q + nI i).toNatClampNeg * x2 + x3) = om_gl (om_ec t tc q x2 x3 (i + 1)) p := by
      rw [nI_add tc i, nI_clamp (n := tc + i) (by omega), nI_add q i, nI_clamp (n := q + i) (by omega), om_upd_t (by omega), om_gl_t (by omega)]
      rfl
    exact br_f (nI_ge (by omega) (by omega)) ⟨pk_in (q + i) 70 (by omega) (nI_add q i), pk_in (tc + i) 70 (by omega) (nI_add tc i), nm_r e (nm_r (nI_1 i) (ih (i + 1) (by omega)))⟩
theorem om_dneg {x : Int32} (h : x < 0) : x / 64 < 1 := by
  rw [Int32.lt_iff_toInt_lt] at h ⊢
  rw [Int32.toInt_div_of_ne_right x 64 (by decide), show (64 : Int32).toInt = 64 from by decide, show (1 : Int32).toInt = 1 from by decide]
  rw [show (0 : Int32).toInt = 0 from by decide] at h
  have h2 : 0 ≤ (-x.toInt).tdiv 64 := Int.tdiv_nonneg (by omega) (by omega)
  rw [Int.neg_tdiv] at h2
  omega
theorem i_vc_echo {k : Nat} {u : SX} {v : SY} (I : i_Rel k u v) (hk : k + 4 ≤ 2048) (v1 : Int32) (v2 : Int32) (v3 : Int32) : wpX_echo (fun r u' => wpY_echo (fun r' v' => r' = r ∧ i_Rel (k + 4) u' v') v v1 v2 v3) u v1 v2 v3 := by
  obtain ⟨tc, pc, t, p, b, htc, hpc, rfl, rfl⟩ := I
  have n64 : ¬ (64 : Int32) = 0 := by decide
  unfold wpX_echo wpY_echo
  dsimp only
  by_cases h0 : v1 < 0
  · have hn : ¬ (0 : Int32) ≤ v1 := Int32.not_le.mpr h0
    exact ⟨n64, nm_e ⟨n64, nm_e (br_t (om_dneg h0) (br_f hn ⟨rfl, om_rel _ tc pc t p b htc hpc⟩))⟩⟩
  · have hn : (0 : Int32) ≤ v1 := Int32.not_lt.mp h0
    obtain ⟨s, hs, rfl⟩ := nI_of h0
    have e1 : nI s / 64 = nI (s / 64) := pk_div (d := 64) hs (by omega) (by omega)
    have e2 : nI s - nI s / 64 * 64 = nI (s % 64) := pk_rem (d := 64) hs (by omega) (by omega)
    have hc : s / 64 < 2 ^ 31 := by omega
    have hq : s % 64 < 64 := by omega
    generalize s / 64 = c at *
    generalize s % 64 = q at *
    have hx : ¬ nI q < 0 := nI_pos (by omega)
    refine ⟨n64, nm_r e1 ⟨n64, nm_r e2 ?_⟩⟩
    by_cases h1 : nI c < 1
    · exact br_t h1 (br_t hn ⟨n64, nm_r e1 ⟨n64, nm_r e2 (br_t h1 ⟨rfl, om_rel _ tc pc t p b htc hpc⟩)⟩⟩)
    · refine br_f h1 ?_
      by_cases h20 : nI c ≤ 20
      · have hc20 : c ≤ 20 := by
          have := (nI_leI (b := 20) hc (by omega)).mp h20
          exact this
        refine br_t h20 (om_xl _ tc c _ t p (nI q) htc (by omega) (fun hl => br_f (by decide) (om_xr _ tc c _ t p htc (by omega) (fun h => br_f (by decide) ?_) (fun h => br_t rfl ?_))) (fun hl => br_t rfl ?_))
        · obtain ⟨q', hq', eq', hle⟩ := hl
          have hf : nI q ≤ nI tc - nI c := (om_fit (by omega) (by omega) hx).mpr ⟨q', hq', eq', hle⟩
          obtain rfl : q = q' := (nI_eq (by omega) hq').mp eq'
          have hr : nI tc + nI c ≤ 60 := by
            rw [nI_add]
            exact nI_le (b := 60) h (by decide)
          refine ⟨c + 1, om_ecx _ _ t p tc q v2 v3 c h (by omega) ?_ c 0 (by omega)⟩
          refine br_t hn ⟨n64, nm_r e1 ⟨n64, nm_r e2 (br_f h1 (br_t h20 (br_t hf (br_t hr ⟨c + 1, ?_⟩))))⟩⟩
          exact om_ecy _ _ t p b tc q v2 v3 c h (by omega) ⟨rfl, om_rel _ (tc + c) pc _ p b h hpc⟩ c 0 (by omega)
        · have hf : nI q ≤ nI tc - nI c := (om_fit (by omega) (by omega) hx).mpr hl
          have hr : ¬ nI tc + nI c ≤ 60 := by
            rw [nI_add]
            exact nI_ge (a := 60) h (by omega)
          exact br_t hn ⟨n64, nm_r e1 ⟨n64, nm_r e2 (br_f h1 (br_t h20 (br_t hf (br_f hr ⟨rfl, om_rel _ tc pc t p b htc hpc⟩))))⟩⟩
        · have hf : ¬ nI q ≤ nI tc - nI c := fun z => hl ((om_fit (by omega) (by omega) hx).mp z)
          exact br_t hn ⟨n64, nm_r e1 ⟨n64, nm_r e2 (br_f h1 (br_t h20 (br_f hf ⟨rfl, om_rel _ tc pc t p b htc hpc⟩)))⟩⟩
      · exact br_f h20 (br_t hn ⟨n64, nm_r e1 ⟨n64, nm_r e2 (br_f h1 (br_f h20 ⟨rfl, om_rel _ tc pc t p b htc hpc⟩))⟩⟩)
theorem i_vc_undo {k : Nat} {u : SX} {v : SY} (I : i_Rel k u v) (hk : k + 4 ≤ 2048) (v1 : Int32) : wpX_undo (fun r u' => wpY_undo (fun r' v' => r' = r ∧ i_Rel (k + 4) u' v') v v1) u v1 := by
  obtain ⟨tc, pc, t, p, b, htc, hpc, rfl, rfl⟩ := I
  by_cases h0 : v1 < 0
  · exact br_t h0 (br_t h0 ⟨rfl, om_rel _ tc pc t p b htc hpc⟩)
  · by_cases h1 : v1 ≤ nI tc
    · obtain ⟨j, hj, rfl⟩ := nI_of2 (n := tc) (nI_toInt (by omega)) h0 h1
      exact br_f h0 (br_t h1 (nm_r (pk_sub hj) (br_f h0 (br_t h1 (nm_r (pk_sub hj) ⟨rfl, om_rel _ (tc - j) pc t p b (by omega) hpc⟩)))))
    · exact br_f h0 (br_f h1 (br_f h0 (br_f h1 ⟨rfl, om_rel _ tc pc t p b htc hpc⟩)))
theorem i_vc_length {k : Nat} {u : SX} {v : SY} (I : i_Rel k u v) (hk : k + 4 ≤ 2048) : wpX_length (fun r => wpY_length (fun r' => r' = r ∧ i_Rel (k + 4) u v) v) u := by
  obtain ⟨tc, pc, t, p, b, htc, hpc, rfl, rfl⟩ := I
  show nI tc = nI tc ∧ i_Rel (k + 4) (nI tc, nI pc, t, p) (nI tc, nI pc, om_gl t p, b)
  exact ⟨rfl, om_rel _ tc pc t p b htc hpc⟩
theorem i_vc_patternLength {k : Nat} {u : SX} {v : SY} (I : i_Rel k u v) (hk : k + 4 ≤ 2048) : wpX_patternLength (fun r => wpY_patternLength (fun r' => r' = r ∧ i_Rel (k + 4) u v) v) u := by
  obtain ⟨tc, pc, t, p, b, htc, hpc, rfl, rfl⟩ := I
  show nI pc = nI pc ∧ i_Rel (k + 4) (nI tc, nI pc, t, p) (nI tc, nI pc, om_gl t p, b)
  exact ⟨rfl, om_rel _ tc pc t p b htc hpc⟩
theorem om_xi (post : Int32 → Prop) (tc : Nat) (fp : Int32) (t p : Nat → Int32) (x : Int32) (htc : tc ≤ 60) (h1 : ∀ q, q < tc → x = nI q → post 1) (h0 : x < 0 ∨ (¬ x < 0 ∧ nI tc ≤ x) → post 0) : wpX_isTextPlace post (nI tc, fp, t, p) x := by
  by_cases hx : x < 0
  · exact br_t hx (h0 (Or.inl hx))
  · refine br_f hx (br_c (fun h => h0 (Or.inr ⟨hx, h⟩)) (fun h => ?_))
    obtain ⟨q, hq, rfl⟩ := nI_of hx
    have hl : q < tc := by
      rw [nI_leI (by omega) hq] at h
      omega
    exact h1 q hl rfl
theorem i_vc_valueAt {k : Nat} {u : SX} {v : SY} (I : i_Rel k u v) (hk : k + 4 ≤ 2048) (v1 : Int32) : wpX_valueAt (fun r => wpY_valueAt (fun r' => r' = r ∧ i_Rel (k + 4) u v) v v1) u v1 := by
  obtain ⟨tc, pc, t, p, b, htc, hpc, rfl, rfl⟩ := I
  unfold wpX_valueAt
  dsimp only
  refine om_xi _ tc _ t p v1 htc (fun q hq e => br_f (by decide) ?_) (fun h => br_t rfl ?_)
  · subst e
    have hv : om_gl t p (nI q).toNatClampNeg = t (nI q).toNatClampNeg := by
      rw [nI_clamp (by omega), om_gl_t (by omega)]
    exact ⟨vp_in_nI (by omega) (by omega), br_f (nI_pos (by omega)) (br_t (nI_lt hq (by omega)) ⟨vp_in_nI (by omega) (by omega), hv, om_rel _ tc pc t p b htc hpc⟩)⟩
  · rcases h with h | ⟨h, h2⟩
    · exact br_t h ⟨rfl, om_rel _ tc pc t p b htc hpc⟩
    · exact br_f h (br_f (Int32.not_lt.mpr h2) ⟨rfl, om_rel _ tc pc t p b htc hpc⟩)
end
section
theorem om_occ (tc pc : Nat) (t p b : Nat → Int32) (htc : tc ≤ 60) (hpc : pc ≤ 10) : ∀ d q, q + d = tc → ∀ c : Int32, ∃ r : Int32, (∀ post : Int32 → Prop, post r → wX_occurrences_4 post (nI tc) (nI pc) t p (d + 1) c (nI q)) ∧ (∀ post : Int32 → Prop, post r → wY_occurrences_4 post (nI tc) (nI pc) (om_gl t p) b (d + 1) c (nI q)) := by
  intro d
  induction d with
  | zero =>
    intro q hq c
    obtain rfl : q = tc := by omega
    have h : nI q ≤ nI q := nI_le (Nat.le_refl _) (by omega)
    exact ⟨c, fun post hp => br_t h hp, fun post hp => br_t h hp⟩
  | succ d ih =>
    intro q hq c
    have h : ¬ nI tc ≤ nI q := nI_ge (by omega) (by omega)
    by_cases hm : om_MI t p tc pc (nI q)
    · obtain ⟨r, hX, hY⟩ := ih (q + 1) (by omega) (c + 1)
      exact ⟨r, fun post hp => br_f h (om_xm _ tc pc t p htc hpc (nI q) (fun _ => br_f (by decide) (nm_e (nm_r (nI_1 q) (hX post hp)))) (fun z => absurd hm z)), fun post hp => br_f h (om_yo _ tc pc t p b htc hpc (nI q) (fun _ => br_f (by decide) (nm_e (nm_r (nI_1 q) (hY post hp)))) (fun z => absurd hm z))⟩
    · obtain ⟨r, hX, hY⟩ := ih (q + 1) (by omega) c
      exact ⟨r, fun post hp => br_f h (om_xm _ tc pc t p htc hpc (nI q) (fun z => absurd z hm) (fun _ => br_t rfl (nm_r (nI_1 q) (hX post hp)))), fun post hp => br_f h (om_yo _ tc pc t p b htc hpc (nI q) (fun z => absurd z hm) (fun _ => br_t rfl (nm_r (nI_1 q) (hY post hp))))⟩
theorem i_vc_occurrences {k : Nat} {u : SX} {v : SY} (I : i_Rel k u v) (hk : k + 4 ≤ 2048) : wpX_occurrences (fun r => wpY_occurrences (fun r' => r' = r ∧ i_Rel (k + 4) u v) v) u := by
  obtain ⟨tc, pc, t, p, b, htc, hpc, rfl, rfl⟩ := I
  obtain ⟨r, hX, hY⟩ := om_occ tc pc t p b htc hpc tc 0 (by omega) 0
  unfold wpX_occurrences wpY_occurrences
  dsimp only
  exact ⟨_, hX _ ⟨_, hY _ ⟨rfl, om_rel _ tc pc t p b htc hpc⟩⟩⟩
theorem om_och (tc pc : Nat) (t p b : Nat → Int32) (x : Int32) (htc : tc ≤ 60) (hpc : pc ≤ 10) : ∀ d q, q + d = tc → ∀ c : Int32, ∃ r : Int32, (∀ post : Int32 → Prop, post r → wX_occurrence_4 post x (nI tc) (nI pc) t p (d + 1) c (nI q)) ∧ (∀ post : Int32 → Prop, post r → wY_occurrence_4 post x (nI tc) (nI pc) (om_gl t p) b (d + 1) c (nI q)) := by
  intro d
  induction d with
  | zero =>
    intro q hq c
    obtain rfl : q = tc := by omega
    have h : nI q ≤ nI q := nI_le (Nat.le_refl _) (by omega)
    exact ⟨-1, fun post hp => br_t h hp, fun post hp => br_t h hp⟩
  | succ d ih =>
    intro q hq c
    have h : ¬ nI tc ≤ nI q := nI_ge (by omega) (by omega)
    by_cases hm : om_MI t p tc pc (nI q)
    · by_cases hc : c = x
      · exact ⟨nI q, fun post hp => br_f h (om_xm _ tc pc t p htc hpc (nI q) (fun _ => br_f (by decide) (br_t hc hp)) (fun z => absurd hm z)), fun post hp => br_f h (om_yo _ tc pc t p b htc hpc (nI q) (fun _ => br_f (by decide) (br_t hc hp)) (fun z => absurd hm z))⟩
      · obtain ⟨r, hX, hY⟩ := ih (q + 1) (by omega) (c + 1)
        exact ⟨r, fun post hp => br_f h (om_xm _ tc pc t p htc hpc (nI q) (fun _ => br_f (by decide) (br_f hc (nm_e (nm_r (nI_1 q) (hX post hp))))) (fun z => absurd hm z)), fun post hp => br_f h (om_yo _ tc pc t p b htc hpc (nI q) (fun _ => br_f (by decide) (br_f hc (nm_e (nm_r (nI_1 q) (hY post hp))))) (fun z => absurd hm z))⟩
    · obtain ⟨r, hX, hY⟩ := ih (q + 1) (by omega) c
      exact ⟨r, fun post hp => br_f h (om_xm _ tc pc t p htc hpc (nI q) (fun z => absurd z hm) (fun _ => br_t rfl (nm_r (nI_1 q) (hX post hp)))), fun post hp => br_f h (om_yo _ tc pc t p b htc hpc (nI q) (fun z => absurd z hm) (fun _ => br_t rfl (nm_r (nI_1 q) (hY post hp))))⟩
theorem i_vc_occurrence {k : Nat} {u : SX} {v : SY} (I : i_Rel k u v) (hk : k + 4 ≤ 2048) (v1 : Int32) : wpX_occurrence (fun r => wpY_occurrence (fun r' => r' = r ∧ i_Rel (k + 4) u v) v v1) u v1 := by
  obtain ⟨tc, pc, t, p, b, htc, hpc, rfl, rfl⟩ := I
  obtain ⟨r, hX, hY⟩ := om_och tc pc t p b v1 htc hpc tc 0 (by omega) 0
  unfold wpX_occurrence wpY_occurrence
  dsimp only
  exact ⟨_, hX _ ⟨_, hY _ ⟨rfl, om_rel _ tc pc t p b htc hpc⟩⟩⟩
theorem i_vc_occursAt {k : Nat} {u : SX} {v : SY} (I : i_Rel k u v) (hk : k + 4 ≤ 2048) (v1 : Int32) : wpX_occursAt (fun r => wpY_occursAt (fun r' => r' = r ∧ i_Rel (k + 4) u v) v v1) u v1 := by
  obtain ⟨tc, pc, t, p, b, htc, hpc, rfl, rfl⟩ := I
  unfold wpX_occursAt wpY_occursAt
  dsimp only
  refine om_xm _ tc pc t p htc hpc v1 (fun hm => br_f (by decide) ?_) (fun hm => br_t rfl ?_)
  · exact om_yo _ tc pc t p b htc hpc v1 (fun _ => br_f (by decide) ⟨rfl, om_rel _ tc pc t p b htc hpc⟩) (fun z => absurd hm z)
  · exact om_yo _ tc pc t p b htc hpc v1 (fun z => absurd z hm) (fun _ => br_t rfl ⟨rfl, om_rel _ tc pc t p b htc hpc⟩)
theorem om_nxt (tc pc : Nat) (t p b : Nat → Int32) (x : Int32) (htc : tc ≤ 60) (hpc : pc ≤ 10) : ∀ d q, q + d = tc → ∃ r : Int32, (∀ post : Int32 → Prop, post r → wX_nextFrom_2 post x (nI tc) (nI pc) t p (d + 1) (nI q)) ∧ (∀ post : Int32 → Prop, post r → wY_nextFrom_2 post x (nI tc) (nI pc) (om_gl t p) b (d + 1) (nI q)) := by
  intro d
  induction d with
  | zero =>
    intro q hq
    obtain rfl : q = tc := by omega
    have h : nI q ≤ nI q := nI_le (Nat.le_refl _) (by omega)
    exact ⟨-1, fun post hp => br_t h hp, fun post hp => br_t h hp⟩
  | succ d ih =>
    intro q hq
    have h : ¬ nI tc ≤ nI q := nI_ge (by omega) (by omega)
    obtain ⟨r, hX, hY⟩ := ih (q + 1) (by omega)
    by_cases hl : nI q < x
    · exact ⟨r, fun post hp => br_f h (br_t hl (nm_r (nI_1 q) (hX post hp))), fun post hp => br_f h (br_t hl (nm_r (nI_1 q) (hY post hp)))⟩
    · by_cases hm : om_MI t p tc pc (nI q)
      · exact ⟨nI q, fun post hp => br_f h (br_f hl (om_xm _ tc pc t p htc hpc (nI q) (fun _ => br_f (by decide) hp) (fun z => absurd hm z))), fun post hp => br_f h (br_f hl (om_yo _ tc pc t p b htc hpc (nI q) (fun _ => br_f (by decide) hp) (fun z => absurd hm z)))⟩
      · exact ⟨r, fun post hp => br_f h (br_f hl (om_xm _ tc pc t p htc hpc (nI q) (fun z => absurd z hm) (fun _ => br_t rfl (nm_r (nI_1 q) (hX post hp))))), fun post hp => br_f h (br_f hl (om_yo _ tc pc t p b htc hpc (nI q) (fun z => absurd z hm) (fun _ => br_t rfl (nm_r (nI_1 q) (hY post hp)))))⟩
theorem i_vc_nextFrom {k : Nat} {u : SX} {v : SY} (I : i_Rel k u v) (hk : k + 4 ≤ 2048) (v1 : Int32) : wpX_nextFrom (fun r => wpY_nextFrom (fun r' => r' = r ∧ i_Rel (k + 4) u v) v v1) u v1 := by
  obtain ⟨tc, pc, t, p, b, htc, hpc, rfl, rfl⟩ := I
  obtain ⟨r, hX, hY⟩ := om_nxt tc pc t p b v1 htc hpc tc 0 (by omega)
  unfold wpX_nextFrom wpY_nextFrom
  dsimp only
  exact ⟨_, hX _ ⟨_, hY _ ⟨rfl, om_rel _ tc pc t p b htc hpc⟩⟩⟩
/-! matchedAt: the reference begins higher up and passes over the lengths that don't fit -/
theorem om_mat (tc pc : Nat) (t p b : Nat → Int32) (q : Nat) (htc : tc ≤ 60) (hpc : pc ≤ 10) (hq : q < tc) : ∀ k, k ≤ pc → k ≤ q + 1 → ∃ r : Int32, (∀ post : Int32 → Prop, post r → wX_matchedAt_34 post (nI (q + 1)) (nI tc) (nI pc) t p (k + 1) (nI k)) ∧ (∀ post : Int32 → Prop, post r → wY_matchedAt_19 post (nI q) (nI tc) (nI pc) (om_gl t p) b (k + 1) (nI k)) := by
  intro k
  induction k with
  | zero =>
    intro _ _
    have h : nI 0 ≤ 0 := by decide
    exact ⟨0, fun post hp => br_t h hp, fun post hp => br_t h hp⟩
  | succ k ih =>
    intro h1 h2
    have h : ¬ nI (k + 1) ≤ 0 := nI_nle (by omega) (by omega)
    have hl : ¬ nI q + 1 < nI (k + 1) := by
      rw [nI_1]
      exact nI_nlt (by omega) (by omega)
    have ex : nI (q + 1) - nI (k + 1) = nI (q + 1 - (k + 1)) := pk_sub h2
    have ey : nI q + 1 - nI (k + 1) = nI (q + 1 - (k + 1)) := by rw [nI_1, pk_sub h2]
    by_cases hs : om_S p (om_at t (q + 1 - (k + 1))) (k + 1)
    · refine ⟨nI (k + 1), fun post hp => br_f h ?_, fun post hp => br_f h (br_f hl ?_)⟩
      · rw [ex]
        exact om_xt _ _ _ t p _ (k + 1) (by omega) (by omega) (by omega) (fun _ => br_f (by decide) hp) (fun z => absurd hs z)
      · rw [ey]
        exact om_ya _ _ _ _ _ _ 60 (k + 1) (by omega) (by omega) (fun _ => br_f (by decide) hp) (fun z => absurd ((om_S_tp (by omega)).mpr hs) z)
    · obtain ⟨r, hX, hY⟩ := ih (by omega) (by omega)
      refine ⟨r, fun post hp => br_f h ?_, fun post hp => br_f h (br_f hl ?_)⟩
      · rw [ex]
        exact om_xt _ _ _ t p _ (k + 1) (by omega) (by omega) (by omega) (fun z => absurd z hs) (fun _ => br_t rfl (nm_r (pk_m1 k) (hX post hp)))
      · rw [ey]
        exact om_ya _ _ _ _ _ _ 60 (k + 1) (by omega) (by omega) (fun z => absurd ((om_S_tp (by omega)).mp z) hs) (fun _ => br_t rfl (nm_r (pk_m1 k) (hY post hp)))
theorem om_skip (post : Int32 → Prop) (fl fs : Int32) (a b : Nat → Int32) (q : Nat) (hq : q < 60) (h : wY_matchedAt_19 post (nI q) fl fs a b (q + 1 + 1) (nI (q + 1))) : ∀ d, q + 1 + d ≤ 60 → wY_matchedAt_19 post (nI q) fl fs a b (q + 1 + d + 1) (nI (q + 1 + d)) := by
  intro d
  induction d with
  | zero => exact fun _ => h
  | succ d ih =>
    intro hd
    have h1 : ¬ nI (q + 1 + d + 1) ≤ 0 := nI_nle (by omega) (by omega)
    have h2 : nI q + 1 < nI (q + 1 + d + 1) := by
      rw [nI_1]
      exact nI_lt (by omega) (by omega)
    exact br_f h1 (br_t h2 (nm_r (pk_m1 (q + 1 + d)) (ih (by omega))))
theorem i_vc_matchedAt {k : Nat} {u : SX} {v : SY} (I : i_Rel k u v) (hk : k + 4 ≤ 2048) (v1 : Int32) : wpX_matchedAt (fun r => wpY_matchedAt (fun r' => r' = r ∧ i_Rel (k + 4) u v) v v1) u v1 := by
  obtain ⟨tc, pc, t, p, b, htc, hpc, rfl, rfl⟩ := I
  unfold wpX_matchedAt
  dsimp only
  refine om_xi _ tc _ t p v1 htc (fun q hq e => br_f (by decide) ?_) (fun h => br_t rfl ?_)
  · subst e
    refine nm_r (nI_1 q) ?_
    have h0 : ¬ nI q < 0 := nI_pos (by omega)
    have h1 : nI q < nI tc := nI_lt hq (by omega)
    by_cases hp : pc ≤ q + 1
    · obtain ⟨r, hX, hY⟩ := om_mat tc pc t p b q htc hpc hq pc (Nat.le_refl _) hp
      exact br_t (nI_le hp (by omega)) ⟨_, hX _ (br_f h0 (br_t h1 ⟨_, hY _ ⟨rfl, om_rel _ tc pc t p b htc hpc⟩⟩))⟩
    · obtain ⟨r, hX, hY⟩ := om_mat tc pc t p b q htc hpc hq (q + 1) (by omega) (Nat.le_refl _)
      obtain ⟨d, rfl⟩ : ∃ d, pc = q + 1 + d := ⟨pc - (q + 1), by omega⟩
      exact br_f (nI_ge (by omega) (by omega)) ⟨_, hX _ (br_f h0 (br_t h1 ⟨_, om_skip _ _ _ _ b q (by omega) (hY _ ⟨rfl, om_rel _ tc (q + 1 + d) t p b htc hpc⟩) d (by omega)⟩))⟩
  · rcases h with h | ⟨h, h2⟩
    · exact br_t h ⟨rfl, om_rel _ tc pc t p b htc hpc⟩
    · exact br_f h (br_f (Int32.not_lt.mpr h2) ⟨rfl, om_rel _ tc pc t p b htc hpc⟩)
end
section
/-! border and period: the class's downward scan, the reference's two scans -/
theorem om_bor (tc k pc : Nat) (t p b : Nat → Int32) (hpc : pc ≤ 10) (hk : k ≤ pc) : ∀ c, c < k → ∃ r : Nat, r ≤ c ∧ (∀ post : Int32 → Prop, post (nI r) → wX_greatestBorder_4 post (nI k) (nI tc) (nI pc) t p (c + 1) (nI c)) ∧ (∀ post : Int32 → Prop, post (nI r) → wY_widest_4 post (nI k) (nI tc) (nI pc) (om_gl t p) b (c + 1) (nI c)) ∧ (k = pc → ∀ post : Int32 → Prop, post (nI (k - r)) → wY_period_2 post (nI tc) (nI pc) (om_gl t p) b (c + 1) (nI (k - c))) := by
  intro c
  induction c with
  | zero =>
    intro hc
    have h : nI 0 ≤ 0 := by decide
    refine ⟨0, Nat.le_refl _, fun post hp => br_t h hp, fun post hp => br_t h hp, fun e post hp => ?_⟩
    subst e
    have e1 : (60 : Int32) + nI (k - 0) = nI (60 + k) := nI_add 60 k
    have e2 : nI k - nI (k - 0) = nI 0 := by
      rw [Nat.sub_zero, pk_sub (Nat.le_refl _), Nat.sub_self]
    refine br_f (nI_nlt (by omega) (by omega)) ?_
    rw [e1, e2]
    exact om_ya _ _ _ _ _ (60 + k) 60 0 (by omega) (by omega) (fun _ => br_f (by decide) hp) (fun z => absurd (fun i hi => absurd hi (by omega)) z)
  | succ c ih =>
    intro hc
    have h : ¬ nI (c + 1) ≤ 0 := nI_nle (by omega) (by omega)
    have ex : nI k - nI (c + 1) = nI (k - (c + 1)) := pk_sub (by omega)
    have ey : (60 : Int32) + nI k - nI (c + 1) = nI (60 + (k - (c + 1))) := by
      rw [show (60 : Int32) + nI k = nI (60 + k) from nI_add 60 k, pk_sub (by omega)]
      exact congrArg nI (by omega)
    have ez : (60 : Int32) + nI (k - (c + 1)) = nI (60 + (k - (c + 1))) := nI_add 60 _
    have ew : nI k - nI (k - (c + 1)) = nI (c + 1) := by
      rw [pk_sub (by omega)]
      exact congrArg nI (by omega)
    have es : nI (k - (c + 1)) + 1 = nI (k - c) := by
      rw [nI_1]
      exact congrArg nI (by omega)
    by_cases hs : om_S p (om_at p (k - (c + 1))) (c + 1)
    · refine ⟨c + 1, Nat.le_refl _, fun post hp => br_f h ?_, fun post hp => br_f h ?_, fun e post hp => ?_⟩
      · rw [ex]
        exact om_xp _ _ _ t p _ (c + 1) (by omega) (by omega) (by omega) (fun _ => br_f (by decide) hp) (fun z => absurd hs z)
      · rw [ey]
        exact om_ya _ _ _ _ _ 60 _ (c + 1) (by omega) (by omega) (fun _ => br_f (by decide) hp) (fun z => absurd (om_S_pp.mpr hs) z)
      · subst e
        refine br_f (nI_nlt (by omega) (by omega)) ?_
        rw [ez, ew]
        exact om_ya _ _ _ _ _ _ 60 (c + 1) (by omega) (by omega) (fun _ => br_f (by decide) hp) (fun z => absurd (om_S_symm (om_S_pp.mpr hs)) z)
    · obtain ⟨r, hr, hX, hY, hZ⟩ := ih (by omega)
      refine ⟨r, by omega, fun post hp => br_f h ?_, fun post hp => br_f h ?_, fun e post hp => ?_⟩
      · rw [ex]
        exact om_xp _ _ _ t p _ (c + 1) (by omega) (by omega) (by omega) (fun z => absurd z hs) (fun _ => br_t rfl (nm_r (pk_m1 c) (hX post hp)))
      · rw [ey]
        exact om_ya _ _ _ _ _ 60 _ (c + 1) (by omega) (by omega) (fun z => absurd (om_S_pp.mp z) hs) (fun _ => br_t rfl (nm_r (pk_m1 c) (hY post hp)))
      · have hZ' := hZ e post hp
        subst e
        refine br_f (nI_nlt (by omega) (by omega)) ?_
        rw [ez, ew]
        exact om_ya _ _ _ _ _ _ 60 (c + 1) (by omega) (by omega) (fun z => absurd (om_S_pp.mp (om_S_symm z)) hs) (fun _ => br_t rfl (nm_r es hZ'))
theorem i_vc_border {k : Nat} {u : SX} {v : SY} (I : i_Rel k u v) (hk : k + 4 ≤ 2048) (v1 : Int32) : wpX_border (fun r => wpY_border (fun r' => r' = r ∧ i_Rel (k + 4) u v) v v1) u v1 := by
  obtain ⟨tc, pc, t, p, b, htc, hpc, rfl, rfl⟩ := I
  by_cases h1 : v1 < 1
  · exact br_t h1 (br_t h1 ⟨rfl, om_rel _ tc pc t p b htc hpc⟩)
  · by_cases h2 : v1 ≤ nI pc
    · obtain ⟨j, hj, rfl⟩ := nI_of2 (n := pc) (nI_toInt (by omega)) (om_n0 h1) h2
      have hj1 : 1 ≤ j := by
        have := mt (nI_ltI (a := j) (b := 1) (by omega) (by omega)).mpr h1
        omega
      obtain ⟨i, rfl⟩ : ∃ i, j = i + 1 := ⟨j - 1, by omega⟩
      obtain ⟨r, hr, hX, hY, _⟩ := om_bor tc (i + 1) pc t p b hpc hj i (by omega)
      refine br_f h1 (br_t h2 ?_)
      unfold wpX_greatestBorder
      dsimp only
      refine nm_r (nI_pred i) ⟨_, hX _ ?_⟩
      refine br_f h1 (br_t h2 ?_)
      unfold wpY_widest
      dsimp only
      exact nm_r (nI_pred i) ⟨_, hY _ ⟨rfl, om_rel _ tc pc t p b htc hpc⟩⟩
    · exact br_f h1 (br_f h2 (br_f h1 (br_f h2 ⟨rfl, om_rel _ tc pc t p b htc hpc⟩)))
theorem i_vc_period {k : Nat} {u : SX} {v : SY} (I : i_Rel k u v) (hk : k + 4 ≤ 2048) : wpX_period (fun r => wpY_period (fun r' => r' = r ∧ i_Rel (k + 4) u v) v) u := by
  obtain ⟨tc, pc, t, p, b, htc, hpc, rfl, rfl⟩ := I
  unfold wpX_period wpY_period
  dsimp only
  by_cases hz : pc = 0
  · subst hz
    exact br_t nI_0 ⟨1, br_t (show nI 0 < 1 by decide) ⟨rfl, om_rel _ tc 0 t p b htc hpc⟩⟩
  · obtain ⟨i, rfl⟩ : ∃ i, pc = i + 1 := ⟨pc - 1, by omega⟩
    obtain ⟨r, hr, hX, _, hZ⟩ := om_bor tc (i + 1) (i + 1) t p b hpc (Nat.le_refl _) i (by omega)
    rw [Nat.add_sub_cancel_left] at hZ
    refine br_f (nI_ne0 (by omega) (by omega)) ?_
    unfold wpX_greatestBorder
    dsimp only
    refine nm_r (nI_pred i) ⟨_, hX _ ⟨_, hZ rfl _ ⟨?_, om_rel _ tc (i + 1) t p b htc hpc⟩⟩⟩
    exact (pk_sub (by omega)).symm
theorem om_rk (tc pc i : Nat) (t p b : Nat → Int32) (hpc : pc ≤ 10) (hi : i < pc) : ∀ d j, j + d = i → ∀ l s : Int32, ∃ r : Int32, (∀ post : Int32 → Prop, post r → wX_rank_21 post (nI i) (nI tc) (nI pc) t p (d + 1) l s (nI j)) ∧ (∀ post : Int32 → Prop, post r → wY_rank_18 post (nI i) (nI tc) (nI pc) (om_gl t p) b (d + 1) (l + 16 * s) (nI j)) := by
  intro d
  induction d with
  | zero =>
    intro j hj l s
    obtain rfl : j = i := by omega
    have h : nI j ≤ nI j := nI_le (Nat.le_refl _) (by omega)
    exact ⟨l + 16 * s, fun post hp => br_t h hp, fun post hp => br_t h hp⟩
  | succ d ih =>
    intro j hj l s
    have h : ¬ nI i ≤ nI j := nI_ge (by omega) (by omega)
    have vj : vp_in (nI j) 10 := vp_in_nI (by omega) (by omega)
    have vi : vp_in (nI i) 10 := vp_in_nI (by omega) (by omega)
    have ej : (nI j).toNatClampNeg = j := nI_clamp (by omega)
    have ei : (nI i).toNatClampNeg = i := nI_clamp (by omega)
    have e1 : (60 : Int32) + nI j = nI (60 + j) := nI_add 60 j
    have e2 : (60 : Int32) + nI i = nI (60 + i) := nI_add 60 i
    have eo : om_sg (om_gl t p (60 + j)) (om_gl t p (60 + i)) = om_sg (p j) (p i) := by rw [om_gl_p, om_gl_p]
    rcases om_tri (p j) (p i) with ⟨k1, k2, k3⟩ | ⟨k1, k2, k3⟩ | ⟨k1, k2, k3⟩
    · obtain ⟨r, hX, hY⟩ := ih (j + 1) (by omega) (l + 1) s
      have ea : l + 16 * s + 1 = l + 1 + 16 * s := by grind
      refine ⟨r, fun post hp => br_f h ⟨vj, vi, ?_⟩, fun post hp => br_f h ?_⟩
      · rw [ej, ei]
        exact br_f (Int32.not_le.mpr k1) (nm_e (nm_r (nI_1 j) (hX post hp)))
      · rw [e1, e2]
        refine om_order _ _ _ _ _ _ _ (by omega) (by omega) ?_
        rw [eo, om_sg_l k1]
        exact br_f (by decide) (nm_r ea (br_f (by decide) (nm_r (nI_1 j) (hY post hp))))
    · obtain ⟨r, hX, hY⟩ := ih (j + 1) (by omega) l s
      refine ⟨r, fun post hp => br_f h ⟨vj, vi, ?_⟩, fun post hp => br_f h ?_⟩
      · rw [ej, ei]
        exact br_t (Int32.not_lt.mp k1) ⟨vj, vi, br_f (fun z => k3 z.symm) (nm_r (nI_1 j) (hX post hp))⟩
      · rw [e1, e2]
        refine om_order _ _ _ _ _ _ _ (by omega) (by omega) ?_
        rw [eo, om_sg_g k1 k2]
        exact br_t (by decide) (br_f (by decide) (nm_r (nI_1 j) (hY post hp)))
    · obtain ⟨r, hX, hY⟩ := ih (j + 1) (by omega) l (s + 1)
      have ea : l + 16 * s + 16 = l + 16 * (s + 1) := by grind
      refine ⟨r, fun post hp => br_f h ⟨vj, vi, ?_⟩, fun post hp => br_f h ?_⟩
      · rw [ej, ei]
        exact br_t (Int32.not_lt.mp k1) ⟨vj, vi, br_t k3.symm (nm_e (nm_r (nI_1 j) (hX post hp)))⟩
      · rw [e1, e2]
        refine om_order _ _ _ _ _ _ _ (by omega) (by omega) ?_
        rw [eo, om_sg_e k1 k2]
        exact br_t (by decide) (br_t rfl (nm_r ea (nm_r (nI_1 j) (hY post hp))))
theorem i_vc_rank {k : Nat} {u : SX} {v : SY} (I : i_Rel k u v) (hk : k + 4 ≤ 2048) (v1 : Int32) : wpX_rank (fun r => wpY_rank (fun r' => r' = r ∧ i_Rel (k + 4) u v) v v1) u v1 := by
  obtain ⟨tc, pc, t, p, b, htc, hpc, rfl, rfl⟩ := I
  by_cases h0 : v1 < 0
  · exact br_t h0 (br_t h0 ⟨rfl, om_rel _ tc pc t p b htc hpc⟩)
  · by_cases h1 : v1 < nI pc
    · obtain ⟨i, hi, rfl⟩ := nI_of h0
      have hl : i < pc := (nI_ltI hi (by omega)).mp h1
      obtain ⟨r, hX, hY⟩ := om_rk tc pc i t p b hpc hl i 0 (by omega) 0 0
      rw [show (0 : Int32) + 16 * 0 = 0 from by decide] at hY
      exact br_f h0 (br_t h1 ⟨_, hX _ (br_f h0 (br_t h1 ⟨_, hY _ ⟨rfl, om_rel _ tc pc t p b htc hpc⟩⟩))⟩)
    · exact br_f h0 (br_f h1 (br_f h0 (br_f h1 ⟨rfl, om_rel _ tc pc t p b htc hpc⟩)))
end
section
/-! disjoint: the class takes the earliest that is free, the reference fills a table from the end -/
theorem om_djx (post : Int32 → Prop) (tc pc : Nat) (t p : Nat → Int32) (g : Nat → Nat) (htc : tc ≤ 60) (hpc : pc ≤ 10) (hg : om_G (om_M t p tc pc) pc tc g) : ∀ d q, q + d = tc → ∀ c f : Nat, f ≤ tc → post (nI (c + g (max q f))) → wX_disjoint_6 post (nI tc) (nI pc) t p (d + 1) (nI c) (nI f) (nI q) := by
  intro d
  induction d with
  | zero =>
    intro q hq c f hf hp
    obtain rfl : q = tc := by omega
    have e : max q f = q := by omega
    rw [e, hg.1 q (Nat.le_refl _), Nat.add_zero] at hp
    exact br_t (nI_le (Nat.le_refl _) (by omega)) hp
  | succ d ih =>
    intro q hq c f hf hp
    refine br_f (nI_ge (by omega) (by omega)) ?_
    by_cases hl : q < f
    · have e : max q f = max (q + 1) f := by omega
      rw [e] at hp
      exact br_t (nI_lt hl (by omega)) (nm_r (nI_1 q) (ih (q + 1) (by omega) c f hf hp))
    · have e : max q f = q := by omega
      rw [e] at hp
      refine br_f (nI_nlt (by omega) (by omega)) ?_
      have hq31 : q < 2 ^ 31 := by omega
      refine om_xm _ tc pc t p htc hpc (nI q) (fun hm => br_f (by decide) (nm_r (nI_1 c) (nm_r (nI_add q pc) (nm_r (nI_1 q) ?_)))) (fun hm => br_t rfl (nm_r (nI_1 q) ?_))
      · rw [om_MI_n hq31] at hm
        have e2 : max (q + 1) (q + pc) = q + pc := by
          have := hm.1
          omega
        refine ih (q + 1) (by omega) (c + 1) (q + pc) hm.2.1 ?_
        rw [e2]
        rw [(hg.2 q (by omega)).1 hm, ← Nat.add_assoc] at hp
        exact hp
      · rw [om_MI_n hq31] at hm
        have e2 : max (q + 1) f = q + 1 := by omega
        refine ih (q + 1) (by omega) c f hf ?_
        rw [e2]
        rw [(hg.2 q (by omega)).2 hm] at hp
        exact hp
theorem om_djy (post : Int32 → SY → Prop) (tc pc : Nat) (t p : Nat → Int32) (g : Nat → Nat) (htc : tc ≤ 60) (hpc : pc ≤ 10) (hg : om_G (om_M t p tc pc) pc tc g) (hmo : ∀ q, g (q + 1) ≤ g q) (hle : ∀ q, g q ≤ tc - q) (hp : ∀ b', post (nI (g 0)) (nI tc, nI pc, om_gl t p, b')) : ∀ i, i ≤ tc → ∀ b : Nat → Int32, (∀ q, i ≤ q → q ≤ 60 → b q = nI (g q)) → wY_disjoint_28 post (nI tc) (nI pc) (i + 1) (nI i + (-1)) (om_gl t p) b := by
  intro i
  induction i with
  | zero =>
    intro _ b hb
    refine br_t (show nI 0 + (-1) < 0 by decide) ?_
    rw [hb 0 (by omega) (by omega)]
    exact hp b
  | succ i ih =>
    intro hi b hb
    rw [pk_m1]
    have hi31 : i < 2 ^ 31 := by omega
    have ci : (nI i).toNatClampNeg = i := nI_clamp hi31
    have v1 : vp_in (nI i) 61 := vp_in_nI (by omega) (by omega)
    have e1 : upd b (nI i).toNatClampNeg (b (nI i + 1).toNatClampNeg) = upd b i (nI (g (i + 1))) := by
      rw [nI_1, ci, nI_clamp (by omega), hb (i + 1) (by omega) (by omega)]
    have hb2 : ∀ x : Nat, x = g i → ∀ q, i ≤ q → q ≤ 60 → upd b i (nI x) q = nI (g q) := by
      intro x hx q h1 h2
      by_cases e : q = i
      · subst e
        rw [pk_us, hx]
      · rw [pk_un e]
        exact hb q (by omega) h2
    refine br_f (nI_pos hi31) ⟨pk_in (i + 1) 61 (by omega) (nI_1 i), v1, nm_r e1 ?_⟩
    refine om_yo _ tc pc t p _ htc hpc (nI i) (fun hm => br_f (by decide) ?_) (fun hm => br_t rfl (nm_e (ih (by omega) _ (hb2 _ ?_))))
    · rw [om_MI_n hi31] at hm
      have hgi := (hg.2 i (by omega)).1 hm
      have hpos := hm.1
      have hfit := hm.2.1
      have e3 : (1 : Int32) + upd b i (nI (g (i + 1))) (nI i + nI pc).toNatClampNeg = nI (g i) := by
        rw [nI_add, nI_clamp (by omega), pk_un (by omega), hb (i + pc) (by omega) (by omega), hgi]
        exact nI_add 1 _
      have e4 : upd b i (nI (g (i + 1))) (nI i).toNatClampNeg = nI (g (i + 1)) := by rw [ci, pk_us]
      have b1 := hle i
      have b2 := hle (i + 1)
      have b3 := hmo i
      refine ⟨pk_in (i + pc) 61 (by omega) (nI_add i pc), nm_r e3 ⟨v1, ?_⟩⟩
      rw [e4]
      refine pk_le (g i) (g (i + 1)) (fun hc => nm_e (ih (by omega) _ (hb2 _ (by omega)))) (fun hc => ⟨v1, nm_e (nm_e (ih (by omega) _ ?_))⟩) rfl rfl (by omega) (by omega)
      intro q h1 h2
      rw [ci]
      by_cases e : q = i
      · subst e
        rw [pk_us]
      · rw [pk_un e, pk_un e]
        exact hb q (by omega) h2
    · rw [om_MI_n hi31] at hm
      exact ((hg.2 i (by omega)).2 hm).symm
theorem om_djf (post : Int32 → SY → Prop) (fl fs : Int32) (a : Nat → Int32) (h : ∀ b' : Nat → Int32, (∀ j, j < 61 → b' j = 0) → ∃ n, wY_disjoint_28 post fl fs n (fl - 1) a b') : ∀ d i, i + d = 61 → ∀ b : Nat → Int32, (∀ j, j < i → b j = 0) → wY_disjoint_2 post fl fs (d + 1) (nI i) a b := by
  intro d
  induction d with
  | zero =>
    intro i hi b hb
    obtain rfl : i = 61 := by omega
    exact br_t (show (61 : Int32) ≤ nI 61 by decide) (nm_e (h b hb))
  | succ d ih =>
    intro i hi b hb
    have hn : ¬ (61 : Int32) ≤ nI i := nI_ge (b := 61) (by omega) (by decide)
    have e : upd b (nI i).toNatClampNeg 0 = upd b i 0 := by rw [nI_clamp (by omega)]
    refine br_f hn ⟨vp_in_nI (by omega) (by omega), nm_r e (nm_r (nI_1 i) (ih (i + 1) (by omega) _ ?_))⟩
    intro j hj
    by_cases ej : j = i
    · subst ej
      exact pk_us
    · rw [pk_un ej]
      exact hb j (by omega)
theorem i_vc_disjoint {k : Nat} {u : SX} {v : SY} (I : i_Rel k u v) (hk : k + 4 ≤ 2048) : wpX_disjoint (fun r => wpY_disjoint (fun r' v' => r' = r ∧ i_Rel (k + 4) u v') v) u := by
  obtain ⟨tc, pc, t, p, b, htc, hpc, rfl, rfl⟩ := I
  obtain ⟨g, hg, hmo, hle⟩ := om_D (m := om_M t p tc pc) (pc := pc) (tc := tc) (fun q h => ⟨h.1, h.2.1⟩)
  unfold wpX_disjoint wpY_disjoint
  dsimp only
  refine ⟨tc + 1, om_djx _ tc pc t p g htc hpc hg tc 0 (by omega) 0 0 (by omega) ?_⟩
  rw [Nat.max_self, Nat.zero_add]
  refine ⟨61 + 1, om_djf _ _ _ _ (fun b' hb' => ⟨tc + 1, ?_⟩) 61 0 (by omega) b lt_0⟩
  have e : nI tc - 1 = nI tc + (-1) := by grind
  rw [e]
  refine om_djy _ tc pc t p g htc hpc hg hmo hle (fun b'' => ⟨rfl, om_rel _ tc pc t p b'' htc hpc⟩) tc (Nat.le_refl _) b' (fun q h1 h2 => ?_)
  rw [hb' q (by omega), hg.1 q h1]
  rfl
end
