/-- both sides hold the same text and the same pattern; the reference's table of best counts is free -/
def i_Rel (_ : Nat) (u : SX) (v : SY) : Prop := ∃ (tc pc : Nat) (t p b : Nat → Int32), tc ≤ 60 ∧ pc ≤ 10 ∧ u = (nI tc, nI pc, t, p) ∧ v = (nI tc, nI pc, om_gl t p, b)
theorem i_up {k : Nat} {u : SX} {v : SY} (h : i_Rel k u v) : i_Rel (k + 4) u v := h
theorem om_rel (k tc pc : Nat) (t p b : Nat → Int32) (htc : tc ≤ 60) (hpc : pc ≤ 10) : i_Rel k (nI tc, nI pc, t, p) (nI tc, nI pc, om_gl t p, b) := ⟨tc, pc, t, p, b, htc, hpc, rfl, rfl⟩
theorem i_vc0 : wpX_init (fun u => wpY_init (fun v => i_Rel 0 u v)) := by
  show i_Rel 0 (0, 0, (fun _ => 0), (fun _ => 0)) (0, 0, (fun _ => 0), (fun _ => 0))
  have h := om_rel 0 0 0 (fun _ => 0) (fun _ => 0) (fun _ => 0) (by omega) (by omega)
  rw [om_gl_0] at h
  exact h
theorem om_n0 {x : Int32} (h : ¬ x < 1) : ¬ x < 0 := fun z => h (Int32.lt_trans z (by decide))
theorem i_vc_pattern {k : Nat} {u : SX} {v : SY} (I : i_Rel k u v) (hk : k + 4 ≤ 2048) (v1 : Int32) : wpX_pattern (fun r u' => wpY_pattern (fun r' v' => r' = r ∧ i_Rel (k + 4) u' v') v v1) u v1 := by
  obtain ⟨tc, pc, t, p, b, htc, hpc, rfl, rfl⟩ := I
  by_cases h : pc < 10
  · have h10 : nI pc < 10 := nI_lt (b := 10) h (by decide)
    have e1 : upd p (nI pc).toNatClampNeg v1 = upd p pc v1 := by rw [nI_clamp (by omega)]
    have e2 : upd (om_gl t p) ((60 : Int32) + nI pc).toNatClampNeg v1 = om_gl t (upd p pc v1) := by
      rw [show (60 : Int32) + nI pc = nI (60 + pc) from nI_add 60 pc, nI_clamp (by omega), om_upd_p]
    refine br_t h10 ⟨vp_in_nI h (by decide), nm_r e1 (nm_r (nI_1 pc) ?_)⟩
    exact br_t h10 ⟨pk_in (60 + pc) 70 (by omega) (nI_add 60 pc), nm_r e2 (nm_r (nI_1 pc) ⟨rfl, om_rel _ tc (pc + 1) t _ b htc (by omega)⟩)⟩
  · have h10 : ¬ nI pc < 10 := nI_nlt (b := 10) (by omega) (by omega)
    exact br_f h10 (br_f h10 ⟨rfl, om_rel _ tc pc t p b htc hpc⟩)
theorem i_vc_clearPattern {k : Nat} {u : SX} {v : SY} (I : i_Rel k u v) (hk : k + 4 ≤ 2048) : wpX_clearPattern (fun r u' => wpY_clearPattern (fun r' v' => r' = r ∧ i_Rel (k + 4) u' v') v) u := by
  obtain ⟨tc, pc, t, p, b, htc, hpc, rfl, rfl⟩ := I
  show nI pc = nI pc ∧ i_Rel (k + 4) (nI tc, 0, t, p) (nI tc, 0, om_gl t p, b)
  exact ⟨rfl, om_rel _ tc 0 t p b htc (by omega)⟩
/-- the pattern after i values were taken from place q on -/
def om_tk (t p : Nat → Int32) (q : Nat) : Nat → Nat → Int32
  | 0 => p
  | i + 1 => upd (om_tk t p q i) i (t (q + i))
theorem om_tkx (post : Int32 → SX → Prop) (ft fp : Int32) (t p : Nat → Int32) (q c : Nat) (hq : q + c ≤ 60) (hc : c ≤ 10) (h : post (nI c) (ft, nI c, t, om_tk t p q c)) : ∀ d i, i + d = c → wX_take_26 post (nI q) (nI c) ft fp (d + 1) (nI i) t (om_tk t p q i) := by
  intro d
  induction d with
  | zero =>
    intro i hi
    obtain rfl : i = c := by omega
    exact br_t (nI_le (Nat.le_refl _) (by omega)) h
  | succ d ih =>
    intro i hi
    have e : upd (om_tk t p q i) (nI i).toNatClampNeg (t (nI q + nI i).toNatClampNeg) = om_tk t p q (i + 1) := by
      rw [nI_clamp (by omega), nI_add, nI_clamp (by omega)]
      rfl
    exact br_f (nI_ge (by omega) (by omega)) ⟨pk_in (q + i) 60 (by omega) (nI_add q i), vp_in_nI (by omega) (by omega), nm_r e (nm_r (nI_1 i) (ih (i + 1) (by omega)))⟩
theorem om_tky (post : Int32 → SY → Prop) (fl fs : Int32) (t p b : Nat → Int32) (q c : Nat) (hq : q + c ≤ 60) (hc : c ≤ 10) (h : post (nI c) (fl, nI c, om_gl t (om_tk t p q c), b)) : ∀ d i, i + d = c → wY_take_31 post (nI q) (nI c) fl fs (d + 1) (nI i) (om_gl t (om_tk t p q i)) b := by
  intro d
  induction d with
  | zero =>
    intro i hi
    obtain rfl : i = c := by omega
    exact br_t (nI_le (Nat.le_refl _) (by omega)) h
  | succ d ih =>
    intro i hi
    have e : upd (om_gl t (om_tk t p q i)) ((60 : Int32) + nI i).toNatClampNeg (om_gl t (om_tk t p q i) (nI q + nI i).toNatClampNeg) = om_gl t (om_tk t p q (i + 1)) := by
      rw [show (60 : Int32) + nI i = nI (60 + i) from nI_add 60 i, nI_clamp (by omega), nI_add, nI_clamp (by omega), om_upd_p, om_gl_t (by omega)]
      rfl
    exact br_f (nI_ge (by omega) (by omega)) ⟨pk_in (q + i) 70 (by omega) (nI_add q i), pk_in (60 + i) 70 (by omega) (nI_add 60 i), nm_r e (nm_r (nI_1 i) (ih (i + 1) (by omega)))⟩
theorem i_vc_take {k : Nat} {u : SX} {v : SY} (I : i_Rel k u v) (hk : k + 4 ≤ 2048) (v1 : Int32) (v2 : Int32) : wpX_take (fun r u' => wpY_take (fun r' v' => r' = r ∧ i_Rel (k + 4) u' v') v v1 v2) u v1 v2 := by
  obtain ⟨tc, pc, t, p, b, htc, hpc, rfl, rfl⟩ := I
  by_cases h0 : v2 < 0
  · exact br_t h0 (br_t h0 ⟨rfl, om_rel _ tc pc t p b htc hpc⟩)
  · by_cases h10 : v2 ≤ 10
    · obtain ⟨c, hc, rfl⟩ := nI_of2 (n := 10) (by decide) h0 h10
      refine br_f h0 (br_t h10 ?_)
      refine om_xl _ tc c _ t p v1 htc (by omega) (fun hq => br_f (by decide) ?_) (fun hn => br_t rfl ?_)
      · obtain ⟨q, hq, rfl, hle⟩ := hq
        have hx : ¬ nI q < 0 := nI_pos hq
        refine ⟨c + 1, om_tkx _ _ _ t p q c (by omega) hc ?_ c 0 (by omega)⟩
        refine br_f h0 (br_t h10 (br_f hx (br_t ((om_fit (by omega) (by omega) hx).mpr ⟨q, hq, rfl, hle⟩) ⟨c + 1, ?_⟩)))
        exact om_tky _ _ _ t p b q c (by omega) hc ⟨rfl, om_rel _ tc c t _ b htc hc⟩ c 0 (by omega)
      · refine br_f h0 (br_t h10 ?_)
        by_cases hx : v1 < 0
        · exact br_t hx ⟨rfl, om_rel _ tc pc t p b htc hpc⟩
        · refine br_f hx (br_f (fun z => hn ((om_fit (by omega) (by omega) hx).mp z)) ⟨rfl, om_rel _ tc pc t p b htc hpc⟩)
    · exact br_f h0 (br_f h10 (br_f h0 (br_f h10 ⟨rfl, om_rel _ tc pc t p b htc hpc⟩)))
theorem om_xr (post : Int32 → Prop) (tc c : Nat) (fp : Int32) (t p : Nat → Int32) (htc : tc ≤ 60) (hc : c ≤ 60) (h1 : tc + c ≤ 60 → post 1) (h0 : 60 < tc + c → post 0) : wpX_hasRoomFor post (nI tc, fp, t, p) (nI c) := by
  show (((60 : Int32) - nI tc) < nI c → post 0) ∧ (¬ ((60 : Int32) - nI tc) < nI c → post 1)
  exact pk_lt (60 - tc) c (fun h => h0 (by omega)) (fun h => h1 (by omega)) (pk_sub (a := 60) htc)
theorem om_xa (post : SX → Prop) (tc : Nat) (fp : Int32) (t p : Nat → Int32) (x : Int32) (h : tc < 60) (hp : post (nI (tc + 1), fp, upd t tc x, p)) : wpX_append post (nI tc, fp, t, p) x := by
  show vp_in (nI tc) 60 ∧ ∀ a : Nat → Int32, a = upd t (nI tc).toNatClampNeg x → ∀ f : Int32, f = nI tc + 1 → post (f, fp, a, p)
  have e : upd t (nI tc).toNatClampNeg x = upd t tc x := by rw [nI_clamp (by omega)]
  exact ⟨vp_in_nI h (by omega), nm_r e (nm_r (nI_1 tc) hp)⟩
theorem i_vc_feed {k : Nat} {u : SX} {v : SY} (I : i_Rel k u v) (hk : k + 4 ≤ 2048) (v1 : Int32) : wpX_feed (fun r u' => wpY_feed (fun r' v' => r' = r ∧ i_Rel (k + 4) u' v') v v1) u v1 := by
  obtain ⟨tc, pc, t, p, b, htc, hpc, rfl, rfl⟩ := I
  unfold wpX_feed
  dsimp only
  refine om_xr _ tc 1 _ t p htc (by omega) (fun h => br_f (by decide) (om_xa _ tc _ t p v1 (by omega) ?_)) (fun h => br_t rfl ?_)
  · have h60 : nI tc < 60 := nI_lt (b := 60) (by omega) (by decide)
    have e : upd (om_gl t p) (nI tc).toNatClampNeg v1 = om_gl (upd t tc v1) p := by rw [nI_clamp (by omega), om_upd_t (by omega)]
    exact br_t h60 ⟨vp_in_nI (by omega) (by omega), nm_r e (nm_r (nI_1 tc) ⟨rfl, om_rel _ (tc + 1) pc _ p b (by omega) hpc⟩)⟩
  · have h60 : ¬ nI tc < 60 := nI_nlt (b := 60) (by omega) (by omega)
    exact br_f h60 ⟨rfl, om_rel _ tc pc t p b htc hpc⟩
/-- the text after i values of a ramp -/
def om_rp (t : Nat → Int32) (tc : Nat) (x1 x2 : Int32) : Nat → Nat → Int32
  | 0 => t
  | i + 1 => upd (om_rp t tc x1 x2 i) (tc + i) (x1 + nI i * x2)
theorem om_rpx (post : Int32 → SX → Prop) (fp : Int32) (t p : Nat → Int32) (tc : Nat) (x1 x2 : Int32) (c : Nat) (hc : tc + c ≤ 60) (h : post (nI (tc + c)) (nI (tc + c), fp, om_rp t tc x1 x2 c, p)) : ∀ d i, i + d = c → wX_ramp_27 post x1 x2 (nI c) (d + 1) (nI i) (nI (tc + i)) fp (om_rp t tc x1 x2 i) p := by
  intro d
  induction d with
  | zero =>
    intro i hi
    obtain rfl : i = c := by omega
    exact br_t (nI_le (Nat.le_refl _) (by omega)) h
  | succ d ih =>
    intro i hi
    refine br_f (nI_ge (by omega) (by omega)) (om_xa _ (tc + i) _ _ p _ (by omega) ?_)
    exact nm_r (nI_1 i) (ih (i + 1) (by omega))
theorem om_rpy (post : Int32 → SY → Prop) (fs : Int32) (t p b : Nat → Int32) (tc : Nat) (x1 x2 : Int32) (c : Nat) (hc : tc + c ≤ 60) (h : post (nI (tc + c)) (nI (tc + c), fs, om_gl (om_rp t tc x1 x2 c) p, b)) : ∀ d i, i + d = c → wY_ramp_30 post x1 x2 (nI c) (nI tc) fs (d + 1) (nI i) (om_gl (om_rp t tc x1 x2 i) p) b := by
  intro d
  induction d with
  | zero =>
    intro i hi
    obtain rfl : i = c := by omega
    exact br_t (nI_le (Nat.le_refl _) (by omega)) (nm_r (nI_add tc i) h)
  | succ d ih =>
    intro i hi
    have e : upd (om_gl (om_rp t tc x1 x2 i) p) (nI tc + nI i).toNatClampNeg (x1 + nI i * x2) = om_gl (om_rp t tc x1 x2 (i + 1)) p := by
      rw [nI_add, nI_clamp (by omega), om_upd_t (by omega)]
      rfl
    exact br_f (nI_ge (by omega) (by omega)) ⟨pk_in (tc + i) 70 (by omega) (nI_add tc i), nm_r e (nm_r (nI_1 i) (ih (i + 1) (by omega)))⟩
theorem i_vc_ramp {k : Nat} {u : SX} {v : SY} (I : i_Rel k u v) (hk : k + 4 ≤ 2048) (v1 : Int32) (v2 : Int32) (v3 : Int32) : wpX_ramp (fun r u' => wpY_ramp (fun r' v' => r' = r ∧ i_Rel (k + 4) u' v') v v1 v2 v3) u v1 v2 v3 := by
  obtain ⟨tc, pc, t, p, b, htc, hpc, rfl, rfl⟩ := I
  by_cases h0 : v3 < 1
  · exact br_t h0 (br_t h0 ⟨rfl, om_rel _ tc pc t p b htc hpc⟩)
  · by_cases h60 : v3 ≤ 60
    · obtain ⟨c, hc, rfl⟩ := nI_of2 (n := 60) (by decide) (om_n0 h0) h60
      refine br_f h0 (br_t h60 ?_)
      refine om_xr _ tc c _ t p htc hc (fun h => br_f (by decide) ?_) (fun h => br_t rfl ?_)
      · have hl : nI tc + nI c ≤ 60 := by
          rw [nI_add]
          exact nI_le (b := 60) h (by decide)
        refine ⟨c + 1, om_rpx _ _ t p tc v1 v2 c h ?_ c 0 (by omega)⟩
        refine br_f h0 (br_t h60 (br_t hl ⟨c + 1, ?_⟩))
        exact om_rpy _ _ t p b tc v1 v2 c h ⟨rfl, om_rel _ (tc + c) pc _ p b h hpc⟩ c 0 (by omega)
      · have hl : ¬ nI tc + nI c ≤ 60 := by
          rw [nI_add]
          exact nI_ge (a := 60) h (by omega)
        exact br_f h0 (br_t h60 (br_f hl ⟨rfl, om_rel _ tc pc t p b htc hpc⟩))
    · exact br_f h0 (br_f h60 (br_f h0 (br_f h60 ⟨rfl, om_rel _ tc pc t p b htc hpc⟩)))
