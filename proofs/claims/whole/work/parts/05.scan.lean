theorem om_occ (tc pc : Nat) (t p b : Nat → Int32) (htc : tc ≤ 60) (hpc : pc ≤ 10) : ∀ d q, q + d = tc → ∀ c : Int32, ∃ r : Int32, (∀ post : Int32 → Prop, post r → wX_occurrences_4 post (nI tc) (nI pc) t p (d + 1) c (nI q)) ∧ (∀ post : Int32 → Prop, post r → wY_occurrences_4 post (nI tc) (nI pc) (om_gl t p) b (d + 1) c (nI q)) := by
  intro d
  induction d with
  | zero =>
    intro q hq c
    obtain rfl : q = tc := by omega
    have h : nI q ≤ nI q := nI_le (Nat.le_refl _) (by omega)
    exact ⟨c, fun post hp => br_t h hp, fun post hp => br_t h hp⟩
  | succ d ih =>
    intro q hq c
    have h : ¬ nI tc ≤ nI q := nI_ge (by omega) (by omega)
    by_cases hm : om_MI t p tc pc (nI q)
    · obtain ⟨r, hX, hY⟩ := ih (q + 1) (by omega) (c + 1)
      exact ⟨r, fun post hp => br_f h (om_xm _ tc pc t p htc hpc (nI q) (fun _ => br_f (by decide) (nm_e (nm_r (nI_1 q) (hX post hp)))) (fun z => absurd hm z)), fun post hp => br_f h (om_yo _ tc pc t p b htc hpc (nI q) (fun _ => br_f (by decide) (nm_e (nm_r (nI_1 q) (hY post hp)))) (fun z => absurd hm z))⟩
    · obtain ⟨r, hX, hY⟩ := ih (q + 1) (by omega) c
      exact ⟨r, fun post hp => br_f h (om_xm _ tc pc t p htc hpc (nI q) (fun z => absurd z hm) (fun _ => br_t rfl (nm_r (nI_1 q) (hX post hp)))), fun post hp => br_f h (om_yo _ tc pc t p b htc hpc (nI q) (fun z => absurd z hm) (fun _ => br_t rfl (nm_r (nI_1 q) (hY post hp))))⟩
theorem i_vc_occurrences {k : Nat} {u : SX} {v : SY} (I : i_Rel k u v) (hk : k + 4 ≤ 2048) : wpX_occurrences (fun r => wpY_occurrences (fun r' => r' = r ∧ i_Rel (k + 4) u v) v) u := by
  obtain ⟨tc, pc, t, p, b, htc, hpc, rfl, rfl⟩ := I
  obtain ⟨r, hX, hY⟩ := om_occ tc pc t p b htc hpc tc 0 (by omega) 0
  unfold wpX_occurrences wpY_occurrences
  dsimp only
  exact ⟨_, hX _ ⟨_, hY _ ⟨rfl, om_rel _ tc pc t p b htc hpc⟩⟩⟩
theorem om_och (tc pc : Nat) (t p b : Nat → Int32) (x : Int32) (htc : tc ≤ 60) (hpc : pc ≤ 10) : ∀ d q, q + d = tc → ∀ c : Int32, ∃ r : Int32, (∀ post : Int32 → Prop, post r → wX_occurrence_4 post x (nI tc) (nI pc) t p (d + 1) c (nI q)) ∧ (∀ post : Int32 → Prop, post r → wY_occurrence_4 post x (nI tc) (nI pc) (om_gl t p) b (d + 1) c (nI q)) := by
  intro d
  induction d with
  | zero =>
    intro q hq c
    obtain rfl : q = tc := by omega
    have h : nI q ≤ nI q := nI_le (Nat.le_refl _) (by omega)
    exact ⟨-1, fun post hp => br_t h hp, fun post hp => br_t h hp⟩
  | succ d ih =>
    intro q hq c
    have h : ¬ nI tc ≤ nI q := nI_ge (by omega) (by omega)
    by_cases hm : om_MI t p tc pc (nI q)
    · by_cases hc : c = x
      · exact ⟨nI q, fun post hp => br_f h (om_xm _ tc pc t p htc hpc (nI q) (fun _ => br_f (by decide) (br_t hc hp)) (fun z => absurd hm z)), fun post hp => br_f h (om_yo _ tc pc t p b htc hpc (nI q) (fun _ => br_f (by decide) (br_t hc hp)) (fun z => absurd hm z))⟩
      · obtain ⟨r, hX, hY⟩ := ih (q + 1) (by omega) (c + 1)
        exact ⟨r, fun post hp => br_f h (om_xm _ tc pc t p htc hpc (nI q) (fun _ => br_f (by decide) (br_f hc (nm_e (nm_r (nI_1 q) (hX post hp))))) (fun z => absurd hm z)), fun post hp => br_f h (om_yo _ tc pc t p b htc hpc (nI q) (fun _ => br_f (by decide) (br_f hc (nm_e (nm_r (nI_1 q) (hY post hp))))) (fun z => absurd hm z))⟩
    · obtain ⟨r, hX, hY⟩ := ih (q + 1) (by omega) c
      exact ⟨r, fun post hp => br_f h (om_xm _ tc pc t p htc hpc (nI q) (fun z => absurd z hm) (fun _ => br_t rfl (nm_r (nI_1 q) (hX post hp)))), fun post hp => br_f h (om_yo _ tc pc t p b htc hpc (nI q) (fun z => absurd z hm) (fun _ => br_t rfl (nm_r (nI_1 q) (hY post hp))))⟩
theorem i_vc_occurrence {k : Nat} {u : SX} {v : SY} (I : i_Rel k u v) (hk : k + 4 ≤ 2048) (v1 : Int32) : wpX_occurrence (fun r => wpY_occurrence (fun r' => r' = r ∧ i_Rel (k + 4) u v) v v1) u v1 := by
  obtain ⟨tc, pc, t, p, b, htc, hpc, rfl, rfl⟩ := I
  obtain ⟨r, hX, hY⟩ := om_och tc pc t p b v1 htc hpc tc 0 (by omega) 0
  unfold wpX_occurrence wpY_occurrence
  dsimp only
  exact ⟨_, hX _ ⟨_, hY _ ⟨rfl, om_rel _ tc pc t p b htc hpc⟩⟩⟩
theorem i_vc_occursAt {k : Nat} {u : SX} {v : SY} (I : i_Rel k u v) (hk : k + 4 ≤ 2048) (v1 : Int32) : wpX_occursAt (fun r => wpY_occursAt (fun r' => r' = r ∧ i_Rel (k + 4) u v) v v1) u v1 := by
  obtain ⟨tc, pc, t, p, b, htc, hpc, rfl, rfl⟩ := I
  unfold wpX_occursAt wpY_occursAt
  dsimp only
  refine om_xm _ tc pc t p htc hpc v1 (fun hm => br_f (by decide) ?_) (fun hm => br_t rfl ?_)
  · exact om_yo _ tc pc t p b htc hpc v1 (fun _ => br_f (by decide) ⟨rfl, om_rel _ tc pc t p b htc hpc⟩) (fun z => absurd hm z)
  · exact om_yo _ tc pc t p b htc hpc v1 (fun z => absurd z hm) (fun _ => br_t rfl ⟨rfl, om_rel _ tc pc t p b htc hpc⟩)
theorem om_nxt (tc pc : Nat) (t p b : Nat → Int32) (x : Int32) (htc : tc ≤ 60) (hpc : pc ≤ 10) : ∀ d q, q + d = tc → ∃ r : Int32, (∀ post : Int32 → Prop, post r → wX_nextFrom_2 post x (nI tc) (nI pc) t p (d + 1) (nI q)) ∧ (∀ post : Int32 → Prop, post r → wY_nextFrom_2 post x (nI tc) (nI pc) (om_gl t p) b (d + 1) (nI q)) := by
  intro d
  induction d with
  | zero =>
    intro q hq
    obtain rfl : q = tc := by omega
    have h : nI q ≤ nI q := nI_le (Nat.le_refl _) (by omega)
    exact ⟨-1, fun post hp => br_t h hp, fun post hp => br_t h hp⟩
  | succ d ih =>
    intro q hq
    have h : ¬ nI tc ≤ nI q := nI_ge (by omega) (by omega)
    obtain ⟨r, hX, hY⟩ := ih (q + 1) (by omega)
    by_cases hl : nI q < x
    · exact ⟨r, fun post hp => br_f h (br_t hl (nm_r (nI_1 q) (hX post hp))), fun post hp => br_f h (br_t hl (nm_r (nI_1 q) (hY post hp)))⟩
    · by_cases hm : om_MI t p tc pc (nI q)
      · exact ⟨nI q, fun post hp => br_f h (br_f hl (om_xm _ tc pc t p htc hpc (nI q) (fun _ => br_f (by decide) hp) (fun z => absurd hm z))), fun post hp => br_f h (br_f hl (om_yo _ tc pc t p b htc hpc (nI q) (fun _ => br_f (by decide) hp) (fun z => absurd hm z)))⟩
      · exact ⟨r, fun post hp => br_f h (br_f hl (om_xm _ tc pc t p htc hpc (nI q) (fun z => absurd z hm) (fun _ => br_t rfl (nm_r (nI_1 q) (hX post hp))))), fun post hp => br_f h (br_f hl (om_yo _ tc pc t p b htc hpc (nI q) (fun z => absurd z hm) (fun _ => br_t rfl (nm_r (nI_1 q) (hY post hp)))))⟩
theorem i_vc_nextFrom {k : Nat} {u : SX} {v : SY} (I : i_Rel k u v) (hk : k + 4 ≤ 2048) (v1 : Int32) : wpX_nextFrom (fun r => wpY_nextFrom (fun r' => r' = r ∧ i_Rel (k + 4) u v) v v1) u v1 := by
  obtain ⟨tc, pc, t, p, b, htc, hpc, rfl, rfl⟩ := I
  obtain ⟨r, hX, hY⟩ := om_nxt tc pc t p b v1 htc hpc tc 0 (by omega)
  unfold wpX_nextFrom wpY_nextFrom
  dsimp only
  exact ⟨_, hX _ ⟨_, hY _ ⟨rfl, om_rel _ tc pc t p b htc hpc⟩⟩⟩
/-! matchedAt: the reference begins higher up and passes over the lengths that don't fit -/
theorem om_mat (tc pc : Nat) (t p b : Nat → Int32) (q : Nat) (htc : tc ≤ 60) (hpc : pc ≤ 10) (hq : q < tc) : ∀ k, k ≤ pc → k ≤ q + 1 → ∃ r : Int32, (∀ post : Int32 → Prop, post r → wX_matchedAt_34 post (nI (q + 1)) (nI tc) (nI pc) t p (k + 1) (nI k)) ∧ (∀ post : Int32 → Prop, post r → wY_matchedAt_19 post (nI q) (nI tc) (nI pc) (om_gl t p) b (k + 1) (nI k)) := by
  intro k
  induction k with
  | zero =>
    intro _ _
    have h : nI 0 ≤ 0 := by decide
    exact ⟨0, fun post hp => br_t h hp, fun post hp => br_t h hp⟩
  | succ k ih =>
    intro h1 h2
    have h : ¬ nI (k + 1) ≤ 0 := nI_nle (by omega) (by omega)
    have hl : ¬ nI q + 1 < nI (k + 1) := by
      rw [nI_1]
      exact nI_nlt (by omega) (by omega)
    have ex : nI (q + 1) - nI (k + 1) = nI (q + 1 - (k + 1)) := pk_sub h2
    have ey : nI q + 1 - nI (k + 1) = nI (q + 1 - (k + 1)) := by rw [nI_1, pk_sub h2]
    by_cases hs : om_S p (om_at t (q + 1 - (k + 1))) (k + 1)
    · refine ⟨nI (k + 1), fun post hp => br_f h ?_, fun post hp => br_f h (br_f hl ?_)⟩
      · rw [ex]
        exact om_xt _ _ _ t p _ (k + 1) (by omega) (by omega) (by omega) (fun _ => br_f (by decide) hp) (fun z => absurd hs z)
      · rw [ey]
        exact om_ya _ _ _ _ _ _ 60 (k + 1) (by omega) (by omega) (fun _ => br_f (by decide) hp) (fun z => absurd ((om_S_tp (by omega)).mpr hs) z)
    · obtain ⟨r, hX, hY⟩ := ih (by omega) (by omega)
      refine ⟨r, fun post hp => br_f h ?_, fun post hp => br_f h (br_f hl ?_)⟩
      · rw [ex]
        exact om_xt _ _ _ t p _ (k + 1) (by omega) (by omega) (by omega) (fun z => absurd z hs) (fun _ => br_t rfl (nm_r (pk_m1 k) (hX post hp)))
      · rw [ey]
        exact om_ya _ _ _ _ _ _ 60 (k + 1) (by omega) (by omega) (fun z => absurd ((om_S_tp (by omega)).mp z) hs) (fun _ => br_t rfl (nm_r (pk_m1 k) (hY post hp)))
theorem om_skip (post : Int32 → Prop) (fl fs : Int32) (a b : Nat → Int32) (q : Nat) (hq : q < 60) (h : wY_matchedAt_19 post (nI q) fl fs a b (q + 1 + 1) (nI (q + 1))) : ∀ d, q + 1 + d ≤ 60 → wY_matchedAt_19 post (nI q) fl fs a b (q + 1 + d + 1) (nI (q + 1 + d)) := by
  intro d
  induction d with
  | zero => exact fun _ => h
  | succ d ih =>
    intro hd
    have h1 : ¬ nI (q + 1 + d + 1) ≤ 0 := nI_nle (by omega) (by omega)
    have h2 : nI q + 1 < nI (q + 1 + d + 1) := by
      rw [nI_1]
      exact nI_lt (by omega) (by omega)
    exact br_f h1 (br_t h2 (nm_r (pk_m1 (q + 1 + d)) (ih (by omega))))
theorem i_vc_matchedAt {k : Nat} {u : SX} {v : SY} (I : i_Rel k u v) (hk : k + 4 ≤ 2048) (v1 : Int32) : wpX_matchedAt (fun r => wpY_matchedAt (fun r' => r' = r ∧ i_Rel (k + 4) u v) v v1) u v1 := by
  obtain ⟨tc, pc, t, p, b, htc, hpc, rfl, rfl⟩ := I
  unfold wpX_matchedAt
  dsimp only
  refine om_xi _ tc _ t p v1 htc (fun q hq e => br_f (by decide) ?_) (fun h => br_t rfl ?_)
  · subst e
    refine nm_r (nI_1 q) ?_
    have h0 : ¬ nI q < 0 := nI_pos (by omega)
    have h1 : nI q < nI tc := nI_lt hq (by omega)
    by_cases hp : pc ≤ q + 1
    · obtain ⟨r, hX, hY⟩ := om_mat tc pc t p b q htc hpc hq pc (Nat.le_refl _) hp
      exact br_t (nI_le hp (by omega)) ⟨_, hX _ (br_f h0 (br_t h1 ⟨_, hY _ ⟨rfl, om_rel _ tc pc t p b htc hpc⟩⟩))⟩
    · obtain ⟨r, hX, hY⟩ := om_mat tc pc t p b q htc hpc hq (q + 1) (by omega) (Nat.le_refl _)
      obtain ⟨d, rfl⟩ : ∃ d, pc = q + 1 + d := ⟨pc - (q + 1), by omega⟩
      exact br_f (nI_ge (by omega) (by omega)) ⟨_, hX _ (br_f h0 (br_t h1 ⟨_, om_skip _ _ _ _ b q (by omega) (hY _ ⟨rfl, om_rel _ tc (q + 1 + d) t p b htc hpc⟩) d (by omega)⟩))⟩
  · rcases h with h | ⟨h, h2⟩
    · exact br_t h ⟨rfl, om_rel _ tc pc t p b htc hpc⟩
    · exact br_f h (br_f (Int32.not_lt.mpr h2) ⟨rfl, om_rel _ tc pc t p b htc hpc⟩)
