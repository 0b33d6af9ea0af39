/-! disjoint: the class takes the earliest that is free, the reference fills a table from the end -/
theorem om_djx (post : Int32 → Prop) (tc pc : Nat) (t p : Nat → Int32) (g : Nat → Nat) (htc : tc ≤ 60) (hpc : pc ≤ 10) (hg : om_G (om_M t p tc pc) pc tc g) : ∀ d q, q + d = tc → ∀ c f : Nat, f ≤ tc → post (nI (c + g (max q f))) → wX_disjoint_6 post (nI tc) (nI pc) t p (d + 1) (nI c) (nI f) (nI q) := by
  intro d
  induction d with
  | zero =>
    intro q hq c f hf hp
    obtain rfl : q = tc := by omega
    have e : max q f = q := by omega
    rw [e, hg.1 q (Nat.le_refl _), Nat.add_zero] at hp
    exact br_t (nI_le (Nat.le_refl _) (by omega)) hp
  | succ d ih =>
    intro q hq c f hf hp
    refine br_f (nI_ge (by omega) (by omega)) ?_
    by_cases hl : q < f
    · have e : max q f = max (q + 1) f := by omega
      rw [e] at hp
      exact br_t (nI_lt hl (by omega)) (nm_r (nI_1 q) (ih (q + 1) (by omega) c f hf hp))
    · have e : max q f = q := by omega
      rw [e] at hp
      refine br_f (nI_nlt (by omega) (by omega)) ?_
      have hq31 : q < 2 ^ 31 := by omega
      refine om_xm _ tc pc t p htc hpc (nI q) (fun hm => br_f (by decide) (nm_r (nI_1 c) (nm_r (nI_add q pc) (nm_r (nI_1 q) ?_)))) (fun hm => br_t rfl (nm_r (nI_1 q) ?_))
      · rw [om_MI_n hq31] at hm
        have e2 : max (q + 1) (q + pc) = q + pc := by
          have := hm.1
          omega
        refine ih (q + 1) (by omega) (c + 1) (q + pc) hm.2.1 ?_
        rw [e2]
        rw [(hg.2 q (by omega)).1 hm, ← Nat.add_assoc] at hp
        exact hp
      · rw [om_MI_n hq31] at hm
        have e2 : max (q + 1) f = q + 1 := by omega
        refine ih (q + 1) (by omega) c f hf ?_
        rw [e2]
        rw [(hg.2 q (by omega)).2 hm] at hp
        exact hp
theorem om_djy (post : Int32 → SY → Prop) (tc pc : Nat) (t p : Nat → Int32) (g : Nat → Nat) (htc : tc ≤ 60) (hpc : pc ≤ 10) (hg : om_G (om_M t p tc pc) pc tc g) (hmo : ∀ q, g (q + 1) ≤ g q) (hle : ∀ q, g q ≤ tc - q) (hp : ∀ b', post (nI (g 0)) (nI tc, nI pc, om_gl t p, b')) : ∀ i, i ≤ tc → ∀ b : Nat → Int32, (∀ q, i ≤ q → q ≤ 60 → b q = nI (g q)) → wY_disjoint_28 post (nI tc) (nI pc) (i + 1) (nI i + (-1)) (om_gl t p) b := by
  intro i
  induction i with
  | zero =>
    intro _ b hb
    refine br_t (show nI 0 + (-1) < 0 by decide) ?_
    rw [hb 0 (by omega) (by omega)]
    exact hp b
  | succ i ih =>
    intro hi b hb
    rw [pk_m1]
    have hi31 : i < 2 ^ 31 := by omega
    have ci : (nI i).toNatClampNeg = i := nI_clamp hi31
    have v1 : vp_in (nI i) 61 := vp_in_nI (by omega) (by omega)
    have e1 : upd b (nI i).toNatClampNeg (b (nI i + 1).toNatClampNeg) = upd b i (nI (g (i + 1))) := by
      rw [nI_1, ci, nI_clamp (by omega), hb (i + 1) (by omega) (by omega)]
    have hb2 : ∀ x : Nat, x = g i → ∀ q, i ≤ q → q ≤ 60 → upd b i (nI x) q = nI (g q) := by
      intro x hx q h1 h2
      by_cases e : q = i
      · subst e
        rw [pk_us, hx]
      · rw [pk_un e]
        exact hb q (by omega) h2
    refine br_f (nI_pos hi31) ⟨pk_in (i + 1) 61 (by omega) (nI_1 i), v1, nm_r e1 ?_⟩
    refine om_yo _ tc pc t p _ htc hpc (nI i) (fun hm => br_f (by decide) ?_) (fun hm => br_t rfl (nm_e (ih (by omega) _ (hb2 _ ?_))))
    · rw [om_MI_n hi31] at hm
      have hgi := (hg.2 i (by omega)).1 hm
      have hpos := hm.1
      have hfit := hm.2.1
      have e3 : (1 : Int32) + upd b i (nI (g (i + 1))) (nI i + nI pc).toNatClampNeg = nI (g i) := by
        rw [nI_add, nI_clamp (by omega), pk_un (by omega), hb (i + pc) (by omega) (by omega), hgi]
        exact nI_add 1 _
      have e4 : upd b i (nI (g (i + 1))) (nI i).toNatClampNeg = nI (g (i + 1)) := by rw [ci, pk_us]
      have b1 := hle i
      have b2 := hle (i + 1)
      have b3 := hmo i
      refine ⟨pk_in (i + pc) 61 (by omega) (nI_add i pc), nm_r e3 ⟨v1, ?_⟩⟩
      rw [e4]
      refine pk_le (g i) (g (i + 1)) (fun hc => nm_e (ih (by omega) _ (hb2 _ (by omega)))) (fun hc => ⟨v1, nm_e (nm_e (ih (by omega) _ ?_))⟩) rfl rfl (by omega) (by omega)
      intro q h1 h2
      rw [ci]
      by_cases e : q = i
      · subst e
        rw [pk_us]
      · rw [pk_un e, pk_un e]
        exact hb q (by omega) h2
    · rw [om_MI_n hi31] at hm
      exact ((hg.2 i (by omega)).2 hm).symm
theorem om_djf (post : Int32 → SY → Prop) (fl fs : Int32) (a : Nat → Int32) (h : ∀ b' : Nat → Int32, (∀ j, j < 61 → b' j = 0) → ∃ n, wY_disjoint_28 post fl fs n (fl - 1) a b') : ∀ d i, i + d = 61 → ∀ b : Nat → Int32, (∀ j, j < i → b j = 0) → wY_disjoint_2 post fl fs (d + 1) (nI i) a b := by
  intro d
  induction d with
  | zero =>
    intro i hi b hb
    obtain rfl : i = 61 := by omega
    exact br_t (show (61 : Int32) ≤ nI 61 by decide) (nm_e (h b hb))
  | succ d ih =>
    intro i hi b hb
    have hn : ¬ (61 : Int32) ≤ nI i := nI_ge (b := 61) (by omega) (by decide)
    have e : upd b (nI i).toNatClampNeg 0 = upd b i 0 := by rw [nI_clamp (by omega)]
    refine br_f hn ⟨vp_in_nI (by omega) (by omega), nm_r e (nm_r (nI_1 i) (ih (i + 1) (by omega) _ ?_))⟩
    intro j hj
    by_cases ej : j = i
    · subst ej
      exact pk_us
    · rw [pk_un ej]
      exact hb j (by omega)
theorem i_vc_disjoint {k : Nat} {u : SX} {v : SY} (I : i_Rel k u v) (hk : k + 4 ≤ 2048) : wpX_disjoint (fun r => wpY_disjoint (fun r' v' => r' = r ∧ i_Rel (k + 4) u v') v) u := by
  obtain ⟨tc, pc, t, p, b, htc, hpc, rfl, rfl⟩ := I
  obtain ⟨g, hg, hmo, hle⟩ := om_D (m := om_M t p tc pc) (pc := pc) (tc := tc) (fun q h => ⟨h.1, h.2.1⟩)
  unfold wpX_disjoint wpY_disjoint
  dsimp only
  refine ⟨tc + 1, om_djx _ tc pc t p g htc hpc hg tc 0 (by omega) 0 0 (by omega) ?_⟩
  rw [Nat.max_self, Nat.zero_add]
  refine ⟨61 + 1, om_djf _ _ _ _ (fun b' hb' => ⟨tc + 1, ?_⟩) 61 0 (by omega) b lt_0⟩
  have e : nI tc - 1 = nI tc + (-1) := by grind
  rw [e]
  refine om_djy _ tc pc t p g htc hpc hg hmo hle (fun b'' => ⟨rfl, om_rel _ tc pc t p b'' htc hpc⟩) tc (Nat.le_refl _) b' (fun q h1 h2 => ?_)
  rw [hb' q (by omega), hg.1 q h1]
  rfl
