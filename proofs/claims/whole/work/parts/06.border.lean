/-! border and period: the class's downward scan, the reference's two scans -/
theorem om_bor (tc k pc : Nat) (t p b : Nat → Int32) (hpc : pc ≤ 10) (hk : k ≤ pc) : ∀ c, c < k → ∃ r : Nat, r ≤ c ∧ (∀ post : Int32 → Prop, post (nI r) → wX_greatestBorder_4 post (nI k) (nI tc) (nI pc) t p (c + 1) (nI c)) ∧ (∀ post : Int32 → Prop, post (nI r) → wY_widest_4 post (nI k) (nI tc) (nI pc) (om_gl t p) b (c + 1) (nI c)) ∧ (k = pc → ∀ post : Int32 → Prop, post (nI (k - r)) → wY_period_2 post (nI tc) (nI pc) (om_gl t p) b (c + 1) (nI (k - c))) := by
  intro c
  induction c with
  | zero =>
    intro hc
    have h : nI 0 ≤ 0 := by decide
    refine ⟨0, Nat.le_refl _, fun post hp => br_t h hp, fun post hp => br_t h hp, fun e post hp => ?_⟩
    subst e
    have e1 : (60 : Int32) + nI (k - 0) = nI (60 + k) := nI_add 60 k
    have e2 : nI k - nI (k - 0) = nI 0 := by
      rw [Nat.sub_zero, pk_sub (Nat.le_refl _), Nat.sub_self]
    refine br_f (nI_nlt (by omega) (by omega)) ?_
    rw [e1, e2]
    exact om_ya _ _ _ _ _ (60 + k) 60 0 (by omega) (by omega) (fun _ => br_f (by decide) hp) (fun z => absurd (fun i hi => absurd hi (by omega)) z)
  | succ c ih =>
    intro hc
    have h : ¬ nI (c + 1) ≤ 0 := nI_nle (by omega) (by omega)
    have ex : nI k - nI (c + 1) = nI (k - (c + 1)) := pk_sub (by omega)
    have ey : (60 : Int32) + nI k - nI (c + 1) = nI (60 + (k - (c + 1))) := by
      rw [show (60 : Int32) + nI k = nI (60 + k) from nI_add 60 k, pk_sub (by omega)]
      exact congrArg nI (by omega)
    have ez : (60 : Int32) + nI (k - (c + 1)) = nI (60 + (k - (c + 1))) := nI_add 60 _
    have ew : nI k - nI (k - (c + 1)) = nI (c + 1) := by
      rw [pk_sub (by omega)]
      exact congrArg nI (by omega)
    have es : nI (k - (c + 1)) + 1 = nI (k - c) := by
      rw [nI_1]
      exact congrArg nI (by omega)
    by_cases hs : om_S p (om_at p (k - (c + 1))) (c + 1)
    · refine ⟨c + 1, Nat.le_refl _, fun post hp => br_f h ?_, fun post hp => br_f h ?_, fun e post hp => ?_⟩
      · rw [ex]
        exact om_xp _ _ _ t p _ (c + 1) (by omega) (by omega) (by omega) (fun _ => br_f (by decide) hp) (fun z => absurd hs z)
      · rw [ey]
        exact om_ya _ _ _ _ _ 60 _ (c + 1) (by omega) (by omega) (fun _ => br_f (by decide) hp) (fun z => absurd (om_S_pp.mpr hs) z)
      · subst e
        refine br_f (nI_nlt (by omega) (by omega)) ?_
        rw [ez, ew]
        exact om_ya _ _ _ _ _ _ 60 (c + 1) (by omega) (by omega) (fun _ => br_f (by decide) hp) (fun z => absurd (om_S_symm (om_S_pp.mpr hs)) z)
    · obtain ⟨r, hr, hX, hY, hZ⟩ := ih (by omega)
      refine ⟨r, by omega, fun post hp => br_f h ?_, fun post hp => br_f h ?_, fun e post hp => ?_⟩
      · rw [ex]
        exact om_xp _ _ _ t p _ (c + 1) (by omega) (by omega) (by omega) (fun z => absurd z hs) (fun _ => br_t rfl (nm_r (pk_m1 c) (hX post hp)))
      · rw [ey]
        exact om_ya _ _ _ _ _ 60 _ (c + 1) (by omega) (by omega) (fun z => absurd (om_S_pp.mp z) hs) (fun _ => br_t rfl (nm_r (pk_m1 c) (hY post hp)))
      · have hZ' := hZ e post hp
        subst e
        refine br_f (nI_nlt (by omega) (by omega)) ?_
        rw [ez, ew]
        exact om_ya _ _ _ _ _ _ 60 (c + 1) (by omega) (by omega) (fun z => absurd (om_S_pp.mp (om_S_symm z)) hs) (fun _ => br_t rfl (nm_r es hZ'))
theorem i_vc_border {k : Nat} {u : SX} {v : SY} (I : i_Rel k u v) (hk : k + 4 ≤ 2048) (v1 : Int32) : wpX_border (fun r => wpY_border (fun r' => r' = r ∧ i_Rel (k + 4) u v) v v1) u v1 := by
  obtain ⟨tc, pc, t, p, b, htc, hpc, rfl, rfl⟩ := I
  by_cases h1 : v1 < 1
  · exact br_t h1 (br_t h1 ⟨rfl, om_rel _ tc pc t p b htc hpc⟩)
  · by_cases h2 : v1 ≤ nI pc
    · obtain ⟨j, hj, rfl⟩ := nI_of2 (n := pc) (nI_toInt (by omega)) (om_n0 h1) h2
      have hj1 : 1 ≤ j := by
        have := mt (nI_ltI (a := j) (b := 1) (by omega) (by omega)).mpr h1
        omega
      obtain ⟨i, rfl⟩ : ∃ i, j = i + 1 := ⟨j - 1, by omega⟩
      obtain ⟨r, hr, hX, hY, _⟩ := om_bor tc (i + 1) pc t p b hpc hj i (by omega)
      refine br_f h1 (br_t h2 ?_)
      unfold wpX_greatestBorder
      dsimp only
      refine nm_r (nI_pred i) ⟨_, hX _ ?_⟩
      refine br_f h1 (br_t h2 ?_)
      unfold wpY_widest
      dsimp only
      exact nm_r (nI_pred i) ⟨_, hY _ ⟨rfl, om_rel _ tc pc t p b htc hpc⟩⟩
    · exact br_f h1 (br_f h2 (br_f h1 (br_f h2 ⟨rfl, om_rel _ tc pc t p b htc hpc⟩)))
theorem i_vc_period {k : Nat} {u : SX} {v : SY} (I : i_Rel k u v) (hk : k + 4 ≤ 2048) : wpX_period (fun r => wpY_period (fun r' => r' = r ∧ i_Rel (k + 4) u v) v) u := by
  obtain ⟨tc, pc, t, p, b, htc, hpc, rfl, rfl⟩ := I
  unfold wpX_period wpY_period
  dsimp only
  by_cases hz : pc = 0
  · subst hz
    exact br_t nI_0 ⟨1, br_t (show nI 0 < 1 by decide) ⟨rfl, om_rel _ tc 0 t p b htc hpc⟩⟩
  · obtain ⟨i, rfl⟩ : ∃ i, pc = i + 1 := ⟨pc - 1, by omega⟩
    obtain ⟨r, hr, hX, _, hZ⟩ := om_bor tc (i + 1) (i + 1) t p b hpc (Nat.le_refl _) i (by omega)
    rw [Nat.add_sub_cancel_left] at hZ
    refine br_f (nI_ne0 (by omega) (by omega)) ?_
    unfold wpX_greatestBorder
    dsimp only
    refine nm_r (nI_pred i) ⟨_, hX _ ⟨_, hZ rfl _ ⟨?_, om_rel _ tc (i + 1) t p b htc hpc⟩⟩⟩
    exact (pk_sub (by omega)).symm
theorem om_rk (tc pc i : Nat) (t p b : Nat → Int32) (hpc : pc ≤ 10) (hi : i < pc) : ∀ d j, j + d = i → ∀ l s : Int32, ∃ r : Int32, (∀ post : Int32 → Prop, post r → wX_rank_21 post (nI i) (nI tc) (nI pc) t p (d + 1) l s (nI j)) ∧ (∀ post : Int32 → Prop, post r → wY_rank_18 post (nI i) (nI tc) (nI pc) (om_gl t p) b (d + 1) (l + 16 * s) (nI j)) := by
  intro d
  induction d with
  | zero =>
    intro j hj l s
    obtain rfl : j = i := by omega
    have h : nI j ≤ nI j := nI_le (Nat.le_refl _) (by omega)
    exact ⟨l + 16 * s, fun post hp => br_t h hp, fun post hp => br_t h hp⟩
  | succ d ih =>
    intro j hj l s
    have h : ¬ nI i ≤ nI j := nI_ge (by omega) (by omega)
    have vj : vp_in (nI j) 10 := vp_in_nI (by omega) (by omega)
    have vi : vp_in (nI i) 10 := vp_in_nI (by omega) (by omega)
    have ej : (nI j).toNatClampNeg = j := nI_clamp (by omega)
    have ei : (nI i).toNatClampNeg = i := nI_clamp (by omega)
    have e1 : (60 : Int32) + nI j = nI (60 + j) := nI_add 60 j
    have e2 : (60 : Int32) + nI i = nI (60 + i) := nI_add 60 i
    have eo : om_sg (om_gl t p (60 + j)) (om_gl t p (60 + i)) = om_sg (p j) (p i) := by rw [om_gl_p, om_gl_p]
    rcases om_tri (p j) (p i) with ⟨k1, k2, k3⟩ | ⟨k1, k2, k3⟩ | ⟨k1, k2, k3⟩
    · obtain ⟨r, hX, hY⟩ := ih (j + 1) (by omega) (l + 1) s
      have ea : l + 16 * s + 1 = l + 1 + 16 * s := by grind
      refine ⟨r, fun post hp => br_f h ⟨vj, vi, ?_⟩, fun post hp => br_f h ?_⟩
      · rw [ej, ei]
        exact br_f (Int32.not_le.mpr k1) (nm_e (nm_r (nI_1 j) (hX post hp)))
      · rw [e1, e2]
        refine om_order _ _ _ _ _ _ _ (by omega) (by omega) ?_
        rw [eo, om_sg_l k1]
        exact br_f (by decide) (nm_r ea (br_f (by decide) (nm_r (nI_1 j) (hY post hp))))
    · obtain ⟨r, hX, hY⟩ := ih (j + 1) (by omega) l s
      refine ⟨r, fun post hp => br_f h ⟨vj, vi, ?_⟩, fun post hp => br_f h ?_⟩
      · rw [ej, ei]
        exact br_t (Int32.not_lt.mp k1) ⟨vj, vi, br_f (fun z => k3 z.symm) (nm_r (nI_1 j) (hX post hp))⟩
      · rw [e1, e2]
        refine om_order _ _ _ _ _ _ _ (by omega) (by omega) ?_
        rw [eo, om_sg_g k1 k2]
        exact br_t (by decide) (br_f (by decide) (nm_r (nI_1 j) (hY post hp)))
    · obtain ⟨r, hX, hY⟩ := ih (j + 1) (by omega) l (s + 1)
      have ea : l + 16 * s + 16 = l + 16 * (s + 1) := by grind
      refine ⟨r, fun post hp => br_f h ⟨vj, vi, ?_⟩, fun post hp => br_f h ?_⟩
      · rw [ej, ei]
        exact br_t (Int32.not_lt.mp k1) ⟨vj, vi, br_t k3.symm (nm_e (nm_r (nI_1 j) (hX post hp)))⟩
      · rw [e1, e2]
        refine om_order _ _ _ _ _ _ _ (by omega) (by omega) ?_
        rw [eo, om_sg_e k1 k2]
        exact br_t (by decide) (br_t rfl (nm_r ea (nm_r (nI_1 j) (hY post hp))))
theorem i_vc_rank {k : Nat} {u : SX} {v : SY} (I : i_Rel k u v) (hk : k + 4 ≤ 2048) (v1 : Int32) : wpX_rank (fun r => wpY_rank (fun r' => r' = r ∧ i_Rel (k + 4) u v) v v1) u v1 := by
  obtain ⟨tc, pc, t, p, b, htc, hpc, rfl, rfl⟩ := I
  by_cases h0 : v1 < 0
  · exact br_t h0 (br_t h0 ⟨rfl, om_rel _ tc pc t p b htc hpc⟩)
  · by_cases h1 : v1 < nI pc
    · obtain ⟨i, hi, rfl⟩ := nI_of h0
      have hl : i < pc := (nI_ltI hi (by omega)).mp h1
      obtain ⟨r, hX, hY⟩ := om_rk tc pc i t p b hpc hl i 0 (by omega) 0 0
      rw [show (0 : Int32) + 16 * 0 = 0 from by decide] at hY
      exact br_f h0 (br_t h1 ⟨_, hX _ (br_f h0 (br_t h1 ⟨_, hY _ ⟨rfl, om_rel _ tc pc t p b htc hpc⟩⟩))⟩)
    · exact br_f h0 (br_f h1 (br_f h0 (br_f h1 ⟨rfl, om_rel _ tc pc t p b htc hpc⟩)))
