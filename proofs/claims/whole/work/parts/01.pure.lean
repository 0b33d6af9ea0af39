theorem pk_us {f : Nat → Int32} {k : Nat} {x : Int32} : upd f k x k = x := if_pos rfl
theorem pk_un {f : Nat → Int32} {k j : Nat} {x : Int32} (h : j ≠ k) : upd f k x j = f j := if_neg h
theorem pk_sub {a b : Nat} (h : b ≤ a) : nI a - nI b = nI (a - b) := by
  obtain ⟨c, rfl⟩ : ∃ c, a = c + b := ⟨a - b, by omega⟩
  rw [← nI_add, Int32.add_sub_cancel, Nat.add_sub_cancel]
theorem pk_m1 (n : Nat) : nI (n + 1) + (-1) = nI n := by
  rw [← nI_1, Int32.add_assoc, show (1 : Int32) + (-1) = 0 from rfl, Int32.add_zero]
theorem pk_mul (a b : Nat) : nI a * nI b = nI (a * b) := (Int32.ofNat_mul a b).symm
theorem pk_div {a d : Nat} (ha : a < 2 ^ 31) (h0 : 0 < d) (hd : d < 2 ^ 31) : nI a / nI d = nI (a / d) := by
  apply Int32.toInt_inj.mp
  rw [lg_idiv_nonneg (by rw [nI_toInt ha]; omega) (by rw [nI_toInt hd]; omega), nI_toInt ha, nI_toInt hd, nI_toInt (Nat.lt_of_le_of_lt (Nat.div_le_self a d) ha)]
  first | rfl | exact (Int.natCast_ediv _ _).symm
theorem pk_rem {a d : Nat} (ha : a < 2 ^ 31) (h0 : 0 < d) (hd : d < 2 ^ 31) : nI a - nI a / nI d * nI d = nI (a % d) := by
  rw [pk_div ha h0 hd, pk_mul, pk_sub (Nat.div_mul_le_self a d)]
  exact congrArg nI (by have := Nat.div_add_mod' a d; omega)
theorem pk_sub_toInt {a b : Nat} (ha : a < 2 ^ 30) (hb : b < 2 ^ 30) : (nI a - nI b).toInt = (a : Int) - b := by
  rw [Int32.toInt_sub, nI_toInt (by omega), nI_toInt (by omega)]
  exact Int.bmod_eq_of_le (by omega) (by omega)
theorem pk_sneg {a b : Nat} (hb : b < 2 ^ 30) (h : a < b) : nI a - nI b < 0 := by
  rw [Int32.lt_iff_toInt_lt, pk_sub_toInt (by omega) hb, show (0 : Int32).toInt = 0 from by decide]
  omega
theorem pk_ix (x : Int32) {n : Nat} (hn : n < 2 ^ 31) : x < 0 ∨ nI n ≤ x ∨ ∃ j : Nat, j < n ∧ x = nI j := by
  by_cases h : x < 0
  · exact Or.inl h
  · obtain ⟨j, hj, rfl⟩ := nI_of h
    by_cases h2 : j < n
    · exact Or.inr (Or.inr ⟨j, h2, rfl⟩)
    · exact Or.inr (Or.inl (nI_le (by omega) hj))
theorem pk_le {x y : Int32} {A B : Prop} (a b : Nat) (f : a ≤ b → A) (g : b < a → B) (hx : x = nI a := by rfl) (hy : y = nI b := by rfl) (ha : a < 2 ^ 31 := by omega) (hb : b < 2 ^ 31 := by omega) : (x ≤ y → A) ∧ (¬ x ≤ y → B) := by
  subst hx hy
  rw [nI_leI ha hb]
  exact ⟨f, fun z => g (by omega)⟩
theorem pk_lt {x y : Int32} {A B : Prop} (a b : Nat) (f : a < b → A) (g : b ≤ a → B) (hx : x = nI a := by rfl) (hy : y = nI b := by rfl) (ha : a < 2 ^ 31 := by omega) (hb : b < 2 ^ 31 := by omega) : (x < y → A) ∧ (¬ x < y → B) := by
  subst hx hy
  rw [nI_ltI ha hb]
  exact ⟨f, fun z => g (by omega)⟩
theorem pk_eq {x y : Int32} {A B : Prop} (a b : Nat) (f : a = b → A) (g : a ≠ b → B) (hx : x = nI a := by rfl) (hy : y = nI b := by rfl) (ha : a < 2 ^ 31 := by omega) (hb : b < 2 ^ 31 := by omega) : (x = y → A) ∧ (¬ x = y → B) := by
  subst hx hy
  rw [nI_eq ha hb]
  exact ⟨f, g⟩
theorem pk_in {x : Int32} (n N : Nat) (h : n < N) (hx : x = nI n := by rfl) (hN : N < 2 ^ 31 := by omega) : vp_in x N := by
  subst hx
  exact vp_in_nI h hN
theorem pk_cl {x : Int32} (n : Nat) (hx : x = nI n := by rfl) (h : n < 2 ^ 31 := by omega) : x.toNatClampNeg = n := by
  subst hx
  exact nI_clamp h
/-! the two arrays of the class as the one array of the reference -/
def om_gl (t p : Nat → Int32) : Nat → Int32 := fun j => if j < 60 then t j else p (j - 60)
theorem om_gl_t {t p : Nat → Int32} {j : Nat} (h : j < 60) : om_gl t p j = t j := if_pos h
theorem om_gl_p {t p : Nat → Int32} (j : Nat) : om_gl t p (60 + j) = p j := by
  unfold om_gl
  rw [if_neg (by omega), Nat.add_sub_cancel_left]
theorem om_upd_t {t p : Nat → Int32} {j : Nat} {x : Int32} (h : j < 60) : upd (om_gl t p) j x = om_gl (upd t j x) p := by
  funext i
  by_cases e : i = j
  · subst e
    rw [pk_us, om_gl_t h, pk_us]
  · rw [pk_un e]
    by_cases hi : i < 60
    · rw [om_gl_t hi, om_gl_t hi, pk_un e]
    · obtain ⟨c, rfl⟩ : ∃ c, i = 60 + c := ⟨i - 60, by omega⟩
      rw [om_gl_p, om_gl_p]
theorem om_upd_p {t p : Nat → Int32} {j : Nat} {x : Int32} : upd (om_gl t p) (60 + j) x = om_gl t (upd p j x) := by
  funext i
  by_cases hi : i < 60
  · rw [pk_un (by omega), om_gl_t hi, om_gl_t hi]
  · obtain ⟨c, rfl⟩ : ∃ c, i = 60 + c := ⟨i - 60, by omega⟩
    by_cases e : c = j
    · subst e
      rw [pk_us, om_gl_p, pk_us]
    · rw [pk_un (by omega), om_gl_p, om_gl_p, pk_un e]
theorem om_gl_0 : om_gl (fun _ => 0) (fun _ => 0) = (fun _ => 0) := by
  funext i
  unfold om_gl
  split <;> rfl
/-! the same shape -/
def om_C (f g : Nat → Int32) (i j : Nat) : Prop := (f j < f i ↔ g j < g i) ∧ (f j = f i ↔ g j = g i)
def om_S (f g : Nat → Int32) (n : Nat) : Prop := ∀ i, i < n → ∀ j, j < i → om_C f g i j
def om_at (f : Nat → Int32) (a : Nat) : Nat → Int32 := fun j => f (a + j)
theorem om_S_symm {f g : Nat → Int32} {n : Nat} (h : om_S f g n) : om_S g f n := fun i hi j hj => ⟨(h i hi j hj).1.symm, (h i hi j hj).2.symm⟩
theorem om_S_congr {f g f' g' : Nat → Int32} {n : Nat} (hf : ∀ j, j < n → f j = f' j) (hg : ∀ j, j < n → g j = g' j) (h : om_S f g n) : om_S f' g' n := by
  intro i hi j hj
  have := h i hi j hj
  unfold om_C at this ⊢
  rw [hf i hi, hf j (by omega), hg i hi, hg j (by omega)] at this
  exact this
theorem om_tri (a b : Int32) : (a < b ∧ ¬ b < a ∧ ¬ b = a) ∨ (¬ a < b ∧ b < a ∧ ¬ b = a) ∨ (¬ a < b ∧ ¬ b < a ∧ b = a) := by
  simp only [Int32.lt_iff_toInt_lt, ← Int32.toInt_inj]
  omega
/-- the reference's order of two values -/
def om_sg (x y : Int32) : Int32 := if x < y then -1 else if y < x then 1 else 0
theorem om_sg_l {x y : Int32} (h : x < y) : om_sg x y = -1 := if_pos h
theorem om_sg_g {x y : Int32} (h : ¬ x < y) (h2 : y < x) : om_sg x y = 1 := by
  unfold om_sg
  rw [if_neg h, if_pos h2]
theorem om_sg_e {x y : Int32} (h : ¬ x < y) (h2 : ¬ y < x) : om_sg x y = 0 := by
  unfold om_sg
  rw [if_neg h, if_neg h2]
theorem om_sg_iff (a b c d : Int32) : om_sg a b = om_sg c d ↔ ((b < a ↔ d < c) ∧ (b = a ↔ d = c)) := by
  have n1 : ¬ (-1 : Int32) = 1 := by decide
  have n2 : ¬ (-1 : Int32) = 0 := by decide
  have n3 : ¬ (1 : Int32) = -1 := by decide
  have n4 : ¬ (1 : Int32) = 0 := by decide
  have n5 : ¬ (0 : Int32) = -1 := by decide
  have n6 : ¬ (0 : Int32) = 1 := by decide
  rcases om_tri a b with ⟨h1, h2, h3⟩ | ⟨h1, h2, h3⟩ | ⟨h1, h2, h3⟩ <;> rcases om_tri c d with ⟨k1, k2, k3⟩ | ⟨k1, k2, k3⟩ | ⟨k1, k2, k3⟩
  · rw [om_sg_l h1, om_sg_l k1]
    exact ⟨fun _ => ⟨⟨fun z => absurd z h2, fun z => absurd z k2⟩, ⟨fun z => absurd z h3, fun z => absurd z k3⟩⟩, fun _ => rfl⟩
  · rw [om_sg_l h1, om_sg_g k1 k2]
    exact ⟨fun z => absurd z n1, fun z => absurd (z.1.mpr k2) h2⟩
  · rw [om_sg_l h1, om_sg_e k1 k2]
    exact ⟨fun z => absurd z n2, fun z => absurd (z.2.mpr k3) h3⟩
  · rw [om_sg_g h1 h2, om_sg_l k1]
    exact ⟨fun z => absurd z n3, fun z => absurd (z.1.mp h2) k2⟩
  · rw [om_sg_g h1 h2, om_sg_g k1 k2]
    exact ⟨fun _ => ⟨⟨fun _ => k2, fun _ => h2⟩, ⟨fun z => absurd z h3, fun z => absurd z k3⟩⟩, fun _ => rfl⟩
  · rw [om_sg_g h1 h2, om_sg_e k1 k2]
    exact ⟨fun z => absurd z n4, fun z => absurd (z.1.mp h2) k2⟩
  · rw [om_sg_e h1 h2, om_sg_l k1]
    exact ⟨fun z => absurd z n5, fun z => absurd (z.2.mp h3) k3⟩
  · rw [om_sg_e h1 h2, om_sg_g k1 k2]
    exact ⟨fun z => absurd z n6, fun z => absurd (z.1.mpr k2) h2⟩
  · rw [om_sg_e h1 h2, om_sg_e k1 k2]
    exact ⟨fun _ => ⟨⟨fun z => absurd z h2, fun z => absurd z k2⟩, ⟨fun _ => k3, fun _ => h3⟩⟩, fun _ => rfl⟩
theorem om_sg_C (f g : Nat → Int32) (i j : Nat) : om_sg (f i) (f j) = om_sg (g i) (g j) ↔ om_C f g i j := om_sg_iff _ _ _ _
/-! a place where the pattern occurs -/
def om_M (t p : Nat → Int32) (tc pc q : Nat) : Prop := 0 < pc ∧ q + pc ≤ tc ∧ om_S p (om_at t q) pc
def om_MI (t p : Nat → Int32) (tc pc : Nat) (x : Int32) : Prop := ∃ q, q < 2 ^ 31 ∧ x = nI q ∧ om_M t p tc pc q
theorem om_MI_n {t p : Nat → Int32} {tc pc q : Nat} (hq : q < 2 ^ 31) : om_MI t p tc pc (nI q) ↔ om_M t p tc pc q := by
  constructor
  · rintro ⟨q', h', e, hm⟩
    rw [nI_eq hq h'] at e
    exact e ▸ hm
  · exact fun h => ⟨q, hq, rfl, h⟩
theorem om_fit {x : Int32} {a b : Nat} (ha : a < 2 ^ 30) (hb : b < 2 ^ 30) (h0 : ¬ x < 0) : x ≤ nI a - nI b ↔ ∃ q, q < 2 ^ 31 ∧ x = nI q ∧ q + b ≤ a := by
  obtain ⟨q, hq, rfl⟩ := nI_of h0
  rw [Int32.le_iff_toInt_le, pk_sub_toInt ha hb, nI_toInt hq]
  constructor
  · exact fun h => ⟨q, hq, rfl, by omega⟩
  · rintro ⟨q', h', e, h⟩
    rw [nI_eq hq h'] at e
    subst e
    omega
/-! greedy is best: g counts what is taken from place q on -/
def om_G (m : Nat → Prop) (pc tc : Nat) (g : Nat → Nat) : Prop := (∀ q, tc ≤ q → g q = 0) ∧ ∀ q, q < tc → (m q → g q = 1 + g (q + pc)) ∧ (¬ m q → g q = g (q + 1))
theorem om_G_ex (m : Nat → Prop) (pc tc : Nat) (hp : 0 < pc) : ∃ g, om_G m pc tc g := by
  have H : ∀ d, d ≤ tc → ∃ g : Nat → Nat, (∀ q, tc ≤ q → g q = 0) ∧ ∀ q, tc - d ≤ q → q < tc → (m q → g q = 1 + g (q + pc)) ∧ (¬ m q → g q = g (q + 1)) := by
    intro d
    induction d with
    | zero => exact fun _ => ⟨fun _ => 0, fun _ _ => rfl, fun q h1 h2 => by omega⟩
    | succ d ih =>
      intro hd
      obtain ⟨g, h0, h1⟩ := ih (by omega)
      have hV : ∃ V : Nat, (m (tc - (d + 1)) → V = 1 + g (tc - (d + 1) + pc)) ∧ (¬ m (tc - (d + 1)) → V = g (tc - (d + 1) + 1)) := by
        by_cases hm : m (tc - (d + 1))
        · exact ⟨_, fun _ => rfl, fun z => absurd hm z⟩
        · exact ⟨_, fun z => absurd z hm, fun _ => rfl⟩
      obtain ⟨V, hV1, hV2⟩ := hV
      refine ⟨fun q => if q = tc - (d + 1) then V else g q, fun q hq => ?_, fun q hq1 hq2 => ?_⟩
      · show (if q = tc - (d + 1) then V else g q) = 0
        rw [if_neg (by omega)]
        exact h0 q hq
      · show (m q → (if q = tc - (d + 1) then V else g q) = 1 + (if q + pc = tc - (d + 1) then V else g (q + pc))) ∧ (¬ m q → (if q = tc - (d + 1) then V else g q) = (if q + 1 = tc - (d + 1) then V else g (q + 1)))
        rw [if_neg (show ¬ q + pc = tc - (d + 1) by omega), if_neg (show ¬ q + 1 = tc - (d + 1) by omega)]
        by_cases e : q = tc - (d + 1)
        · rw [if_pos e]
          subst e
          exact ⟨hV1, hV2⟩
        · rw [if_neg e]
          exact h1 q (by omega) hq2
  obtain ⟨g, h0, h1⟩ := H tc (Nat.le_refl _)
  exact ⟨g, h0, fun q hq => h1 q (by omega) hq⟩
theorem om_G_mono {m : Nat → Prop} {pc tc : Nat} {g : Nat → Nat} (hp : 0 < pc) (h : om_G m pc tc g) : ∀ q, g (q + 1) ≤ g q ∧ g q ≤ 1 + g (q + pc) := by
  have H : ∀ d q, tc ≤ q + d → g (q + 1) ≤ g q ∧ g q ≤ 1 + g (q + pc) := by
    intro d
    induction d with
    | zero =>
      intro q hq
      rw [h.1 q (by omega), h.1 (q + 1) (by omega)]
      omega
    | succ d ih =>
      intro q hq
      by_cases hl : tc ≤ q
      · rw [h.1 q (by omega), h.1 (q + 1) (by omega)]
        omega
      · obtain ⟨h1, h2⟩ := h.2 q (by omega)
        have a := ih (q + 1) (by omega)
        have b := ih (q + pc) (by omega)
        have e : q + 1 + pc = q + pc + 1 := by omega
        rw [e] at a
        by_cases hm : m q
        · have := h1 hm
          omega
        · have := h2 hm
          omega
  exact fun q => H tc q (by omega)
theorem om_G_le {m : Nat → Prop} {pc tc : Nat} {g : Nat → Nat} (hp : 0 < pc) (hm : ∀ q, m q → q + pc ≤ tc) (h : om_G m pc tc g) : ∀ q, g q ≤ tc - q := by
  have H : ∀ d q, tc ≤ q + d → g q ≤ tc - q := by
    intro d
    induction d with
    | zero =>
      intro q hq
      rw [h.1 q (by omega)]
      omega
    | succ d ih =>
      intro q hq
      by_cases hl : tc ≤ q
      · rw [h.1 q (by omega)]
        omega
      · obtain ⟨h1, h2⟩ := h.2 q (by omega)
        have a := ih (q + 1) (by omega)
        have b := ih (q + pc) (by omega)
        by_cases hq2 : m q
        · have := h1 hq2
          have := hm q hq2
          omega
        · have := h2 hq2
          omega
  exact fun q => H tc q (by omega)
theorem om_D {m : Nat → Prop} {pc tc : Nat} (hm : ∀ q, m q → 0 < pc ∧ q + pc ≤ tc) : ∃ g, om_G m pc tc g ∧ (∀ q, g (q + 1) ≤ g q) ∧ ∀ q, g q ≤ tc - q := by
  by_cases hp : 0 < pc
  · obtain ⟨g, hg⟩ := om_G_ex m pc tc hp
    exact ⟨g, hg, fun q => (om_G_mono hp hg q).1, om_G_le hp (fun q h => (hm q h).2) hg⟩
  · exact ⟨fun _ => 0, ⟨fun _ _ => rfl, fun q _ => ⟨fun h => absurd (hm q h).1 hp, fun _ => rfl⟩⟩, fun _ => Nat.le_refl _, fun _ => Nat.zero_le _⟩
