/-- the text after i values of an echo -/
def om_ec (t : Nat → Int32) (tc q : Nat) (x2 x3 : Int32) : Nat → Nat → Int32
  | 0 => t
  | i + 1 => upd (om_ec t tc q x2 x3 i) (tc + i) (om_ec t tc q x2 x3 i (q + i) * x2 + x3)
theorem om_ecx (post : Int32 → SX → Prop) (fp : Int32) (t p : Nat → Int32) (tc q : Nat) (x2 x3 : Int32) (c : Nat) (hc : tc + c ≤ 60) (hq : q + c ≤ 60) (h : post (nI (tc + c)) (nI (tc + c), fp, om_ec t tc q x2 x3 c, p)) : ∀ d i, i + d = c → wX_echo_56 post x2 x3 (nI c) (nI q) (d + 1) (nI i) (nI (tc + i)) fp (om_ec t tc q x2 x3 i) p := by
  intro d
  induction d with
  | zero =>
    intro i hi
    obtain rfl : i = c := by omega
    exact br_t (nI_le (Nat.le_refl _) (by omega)) h
  | succ d ih =>
    intro i hi
    have e : (nI q + nI i).toNatClampNeg = q + i := by rw [nI_add, nI_clamp (by omega)]
    refine br_f (nI_ge (by omega) (by omega)) ⟨pk_in (q + i) 60 (by omega) (nI_add q i), ?_⟩
    rw [e]
    refine om_xa _ (tc + i) _ _ p _ (by omega) ?_
    exact nm_r (nI_1 i) (ih (i + 1) (by omega))
theorem om_ecy (post : Int32 → SY → Prop) (fs : Int32) (t p b : Nat → Int32) (tc q : Nat) (x2 x3 : Int32) (c : Nat) (hc : tc + c ≤ 60) (hq : q + c ≤ 60) (h : post (nI (tc + c)) (nI (tc + c), fs, om_gl (om_ec t tc q x2 x3 c) p, b)) : ∀ d i, i + d = c → wY_echo_66 post x2 x3 (nI c) (nI q) (nI tc) fs (d + 1) (nI i) (om_gl (om_ec t tc q x2 x3 i) p) b := by
  intro d
  induction d with
  | zero =>
    intro i hi
    obtain rfl : i = c := by omega
    exact br_t (nI_le (Nat.le_refl _) (by omega)) (nm_r (nI_add tc i) h)
  | succ d ih =>
    intro i hi
    have e : upd (om_gl (om_ec t tc q x2 x3 i) p) (nI tc + nI i).toNatClampNeg (om_gl (om_ec t tc q x2 x3 i) p (nI q + nI i).toNatClampNeg * x2 + x3) = om_gl (om_ec t tc q x2 x3 (i + 1)) p := by
      rw [nI_add tc i, nI_clamp (n := tc + i) (by omega), nI_add q i, nI_clamp (n := q + i) (by omega), om_upd_t (by omega), om_gl_t (by omega)]
      rfl
    exact br_f (nI_ge (by omega) (by omega)) ⟨pk_in (q + i) 70 (by omega) (nI_add q i), pk_in (tc + i) 70 (by omega) (nI_add tc i), nm_r e (nm_r (nI_1 i) (ih (i + 1) (by omega)))⟩
theorem om_dneg {x : Int32} (h : x < 0) : x / 64 < 1 := by
  rw [Int32.lt_iff_toInt_lt] at h ⊢
  rw [Int32.toInt_div_of_ne_right x 64 (by decide), show (64 : Int32).toInt = 64 from by decide, show (1 : Int32).toInt = 1 from by decide]
  rw [show (0 : Int32).toInt = 0 from by decide] at h
  have h2 : 0 ≤ (-x.toInt).tdiv 64 := Int.tdiv_nonneg (by omega) (by omega)
  rw [Int.neg_tdiv] at h2
  omega
theorem i_vc_echo {k : Nat} {u : SX} {v : SY} (I : i_Rel k u v) (hk : k + 4 ≤ 2048) (v1 : Int32) (v2 : Int32) (v3 : Int32) : wpX_echo (fun r u' => wpY_echo (fun r' v' => r' = r ∧ i_Rel (k + 4) u' v') v v1 v2 v3) u v1 v2 v3 := by
  obtain ⟨tc, pc, t, p, b, htc, hpc, rfl, rfl⟩ := I
  have n64 : ¬ (64 : Int32) = 0 := by decide
  unfold wpX_echo wpY_echo
  dsimp only
  by_cases h0 : v1 < 0
  · have hn : ¬ (0 : Int32) ≤ v1 := Int32.not_le.mpr h0
    exact ⟨n64, nm_e ⟨n64, nm_e (br_t (om_dneg h0) (br_f hn ⟨rfl, om_rel _ tc pc t p b htc hpc⟩))⟩⟩
  · have hn : (0 : Int32) ≤ v1 := Int32.not_lt.mp h0
    obtain ⟨s, hs, rfl⟩ := nI_of h0
    have e1 : nI s / 64 = nI (s / 64) := pk_div (d := 64) hs (by omega) (by omega)
    have e2 : nI s - nI s / 64 * 64 = nI (s % 64) := pk_rem (d := 64) hs (by omega) (by omega)
    have hc : s / 64 < 2 ^ 31 := by omega
    have hq : s % 64 < 64 := by omega
    generalize s / 64 = c at *
    generalize s % 64 = q at *
    have hx : ¬ nI q < 0 := nI_pos (by omega)
    refine ⟨n64, nm_r e1 ⟨n64, nm_r e2 ?_⟩⟩
    by_cases h1 : nI c < 1
    · exact br_t h1 (br_t hn ⟨n64, nm_r e1 ⟨n64, nm_r e2 (br_t h1 ⟨rfl, om_rel _ tc pc t p b htc hpc⟩)⟩⟩)
    · refine br_f h1 ?_
      by_cases h20 : nI c ≤ 20
      · have hc20 : c ≤ 20 := by
          have := (nI_leI (b := 20) hc (by omega)).mp h20
          exact this
        refine br_t h20 (om_xl _ tc c _ t p (nI q) htc (by omega) (fun hl => br_f (by decide) (om_xr _ tc c _ t p htc (by omega) (fun h => br_f (by decide) ?_) (fun h => br_t rfl ?_))) (fun hl => br_t rfl ?_))
        · obtain ⟨q', hq', eq', hle⟩ := hl
          have hf : nI q ≤ nI tc - nI c := (om_fit (by omega) (by omega) hx).mpr ⟨q', hq', eq', hle⟩
          obtain rfl : q = q' := (nI_eq (by omega) hq').mp eq'
          have hr : nI tc + nI c ≤ 60 := by
            rw [nI_add]
            exact nI_le (b := 60) h (by decide)
          refine ⟨c + 1, om_ecx _ _ t p tc q v2 v3 c h (by omega) ?_ c 0 (by omega)⟩
          refine br_t hn ⟨n64, nm_r e1 ⟨n64, nm_r e2 (br_f h1 (br_t h20 (br_t hf (br_t hr ⟨c + 1, ?_⟩))))⟩⟩
          exact om_ecy _ _ t p b tc q v2 v3 c h (by omega) ⟨rfl, om_rel _ (tc + c) pc _ p b h hpc⟩ c 0 (by omega)
        · have hf : nI q ≤ nI tc - nI c := (om_fit (by omega) (by omega) hx).mpr hl
          have hr : ¬ nI tc + nI c ≤ 60 := by
            rw [nI_add]
            exact nI_ge (a := 60) h (by omega)
          exact br_t hn ⟨n64, nm_r e1 ⟨n64, nm_r e2 (br_f h1 (br_t h20 (br_t hf (br_f hr ⟨rfl, om_rel _ tc pc t p b htc hpc⟩))))⟩⟩
        · have hf : ¬ nI q ≤ nI tc - nI c := fun z => hl ((om_fit (by omega) (by omega) hx).mp z)
          exact br_t hn ⟨n64, nm_r e1 ⟨n64, nm_r e2 (br_f h1 (br_t h20 (br_f hf ⟨rfl, om_rel _ tc pc t p b htc hpc⟩)))⟩⟩
      · exact br_f h20 (br_t hn ⟨n64, nm_r e1 ⟨n64, nm_r e2 (br_f h1 (br_f h20 ⟨rfl, om_rel _ tc pc t p b htc hpc⟩))⟩⟩)
theorem i_vc_undo {k : Nat} {u : SX} {v : SY} (I : i_Rel k u v) (hk : k + 4 ≤ 2048) (v1 : Int32) : wpX_undo (fun r u' => wpY_undo (fun r' v' => r' = r ∧ i_Rel (k + 4) u' v') v v1) u v1 := by
  obtain ⟨tc, pc, t, p, b, htc, hpc, rfl, rfl⟩ := I
  by_cases h0 : v1 < 0
  · exact br_t h0 (br_t h0 ⟨rfl, om_rel _ tc pc t p b htc hpc⟩)
  · by_cases h1 : v1 ≤ nI tc
    · obtain ⟨j, hj, rfl⟩ := nI_of2 (n := tc) (nI_toInt (by omega)) h0 h1
      exact br_f h0 (br_t h1 (nm_r (pk_sub hj) (br_f h0 (br_t h1 (nm_r (pk_sub hj) ⟨rfl, om_rel _ (tc - j) pc t p b (by omega) hpc⟩)))))
    · exact br_f h0 (br_f h1 (br_f h0 (br_f h1 ⟨rfl, om_rel _ tc pc t p b htc hpc⟩)))
theorem i_vc_length {k : Nat} {u : SX} {v : SY} (I : i_Rel k u v) (hk : k + 4 ≤ 2048) : wpX_length (fun r => wpY_length (fun r' => r' = r ∧ i_Rel (k + 4) u v) v) u := by
  obtain ⟨tc, pc, t, p, b, htc, hpc, rfl, rfl⟩ := I
  show nI tc = nI tc ∧ i_Rel (k + 4) (nI tc, nI pc, t, p) (nI tc, nI pc, om_gl t p, b)
  exact ⟨rfl, om_rel _ tc pc t p b htc hpc⟩
theorem i_vc_patternLength {k : Nat} {u : SX} {v : SY} (I : i_Rel k u v) (hk : k + 4 ≤ 2048) : wpX_patternLength (fun r => wpY_patternLength (fun r' => r' = r ∧ i_Rel (k + 4) u v) v) u := by
  obtain ⟨tc, pc, t, p, b, htc, hpc, rfl, rfl⟩ := I
  show nI pc = nI pc ∧ i_Rel (k + 4) (nI tc, nI pc, t, p) (nI tc, nI pc, om_gl t p, b)
  exact ⟨rfl, om_rel _ tc pc t p b htc hpc⟩
theorem om_xi (post : Int32 → Prop) (tc : Nat) (fp : Int32) (t p : Nat → Int32) (x : Int32) (htc : tc ≤ 60) (h1 : ∀ q, q < tc → x = nI q → post 1) (h0 : x < 0 ∨ (¬ x < 0 ∧ nI tc ≤ x) → post 0) : wpX_isTextPlace post (nI tc, fp, t, p) x := by
  by_cases hx : x < 0
  · exact br_t hx (h0 (Or.inl hx))
  · refine br_f hx (br_c (fun h => h0 (Or.inr ⟨hx, h⟩)) (fun h => ?_))
    obtain ⟨q, hq, rfl⟩ := nI_of hx
    have hl : q < tc := by
      rw [nI_leI (by omega) hq] at h
      omega
    exact h1 q hl rfl
theorem i_vc_valueAt {k : Nat} {u : SX} {v : SY} (I : i_Rel k u v) (hk : k + 4 ≤ 2048) (v1 : Int32) : wpX_valueAt (fun r => wpY_valueAt (fun r' => r' = r ∧ i_Rel (k + 4) u v) v v1) u v1 := by
  obtain ⟨tc, pc, t, p, b, htc, hpc, rfl, rfl⟩ := I
  unfold wpX_valueAt
  dsimp only
  refine om_xi _ tc _ t p v1 htc (fun q hq e => br_f (by decide) ?_) (fun h => br_t rfl ?_)
  · subst e
    have hv : om_gl t p (nI q).toNatClampNeg = t (nI q).toNatClampNeg := by
      rw [nI_clamp (by omega), om_gl_t (by omega)]
    exact ⟨vp_in_nI (by omega) (by omega), br_f (nI_pos (by omega)) (br_t (nI_lt hq (by omega)) ⟨vp_in_nI (by omega) (by omega), hv, om_rel _ tc pc t p b htc hpc⟩)⟩
  · rcases h with h | ⟨h, h2⟩
    · exact br_t h ⟨rfl, om_rel _ tc pc t p b htc hpc⟩
    · exact br_f h (br_f (Int32.not_lt.mpr h2) ⟨rfl, om_rel _ tc pc t p b htc hpc⟩)
