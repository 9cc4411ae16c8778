/-! ===== mathematics: calls that ask, 1 ===== -/
theorem i_div {a b : Int} (ha : 0 ≤ a) (ha2 : a ≤ 2147483647) (hb : 0 < b) (hb2 : b ≤ 2147483647) : am_i a / am_i b = am_i (a / b) := by
  have h1 : 0 ≤ a / b := Int.ediv_nonneg ha (by omega)
  have h2 : a / b ≤ a := Int.ediv_le_self b ha
  apply Int32.toInt_inj.mp
  have e := Int32.toInt_div_of_ne_right (am_i a) (am_i b) (fun e => by
    have := congrArg Int32.toInt e
    rw [i_toInt (by omega) hb2, show (-1 : Int32).toInt = -1 by decide] at this
    omega)
  rw [e, i_toInt (by omega) ha2, i_toInt (by omega) hb2, i_toInt (by omega) (by omega), Int.tdiv_eq_ediv_of_nonneg ha]
section Q1
variable {m : am_m} {r : am_rr} {s : Sx}
theorem q_was (h : GS m r s) (a b c : Int32) : ∃ y, m_X8_was m r a b c = some y ∧ m_X9_was m a b c = some y := by
  obtain ⟨x, h1, h2, rfl⟩ := i_any a
  obtain ⟨v, h3, h4, rfl⟩ := i_any b
  obtain ⟨z, h5, h6, rfl⟩ := i_any c
  unfold m_X8_was m_X9_was m_X1_hasVersion m_X9_versionAt
  rw [s_t8 h h1 h2, s_t9 h h1 h2]
  cases c : thr (gU (xG s)) x
  · exact ⟨_, rfl, rfl⟩
  · obtain ⟨u, hu, rfl, hu2⟩ := thr_i c
    have e1 := h.2.1.1.2.2.2.2.1 u hu
    have e2 := h.2.2.1.1.2.2.2.2.2.1 u hu
    rw [Nat.zero_add] at e2
    have e3 := h.ig.2.2.2.2.1 u
    have e4 : am_ix (am_i 3144 + am_i (u : Int)) = 3144 + u := by rw [i_add, i_ix (by omega) (by omega)]; omega
    rw [e4, e2, i_sub, s_X9_isIn h3 h4 (by omega) (by omega) (by omega) (by omega), s_c8 h5 h6, s_c9 h5 h6]
    by_cases c1 : 0 ≤ v ∧ v ≤ (gC (xG s) u : Int) - 1
    · obtain ⟨w, rfl⟩ : ∃ w : Nat, v = w := ⟨v.toNat, by omega⟩
      rw [if_pos c1]
      by_cases c2 : 0 ≤ z ∧ z ≤ 63
      · obtain ⟨d, rfl⟩ : ∃ d : Nat, z = d := ⟨z.toNat, by omega⟩
        rw [if_pos c2]
        have f1 := h.2.1.1.2.2.2.2.2 u hu w (by omega) (by omega) d (by omega)
        have f2 := h.2.2.1.1.2.2.2.2.2.2 u hu w (by omega) (by omega) d (by omega)
        rw [Nat.zero_add] at f2
        have e8 : am_ix (am_i (u : Int) * am_i 8 + am_i (w : Int)) = 8 * u + w := by
          rw [i_mul, i_add, i_ix (by omega) (by omega)]; omega
        have b8 : am_ib (am_i (u : Int) * am_i 8 + am_i (w : Int)) 192 = true := by
          rw [i_mul, i_add, i_ibt (by omega) (by omega) (by omega)]
        refine ⟨am_i (gV (xG s) u w d), ?_, ?_⟩
        · rw [e8, b8]
          simp (disch := first | assumption | omega) only [i_add, i_sub, i_mul, i_lt, i_le, i_eq, i_ibt, i_ixn, i_ix, i_zero, am_letF, cond_true, cond_false, Option.bind_some, ↓reduceIte, m_si, m_sc, true_and, and_true, not_true_eq_false, not_false_eq_true, i_gtF, i_leT, i_geF, i_ltT, Int32.zero_add, Int.toNat_natCast, ix_own, ix_sum, ix_ver, ix_th, ix_ab, ix_st, ix_vm, ix_lim, ix_lim1, ix_lim2, ix_lim3, Int.toNat_zero, i_neF, i_eqT, b1T, b1F, e1, f1]
        · simp (disch := first | assumption | omega) only [i_add, i_sub, i_mul, i_lt, i_le, i_eq, i_ibt, i_ixn, i_ix, i_zero, am_letF, cond_true, cond_false, Option.bind_some, ↓reduceIte, m_si, m_sc, true_and, and_true, not_true_eq_false, not_false_eq_true, i_gtF, i_leT, i_geF, i_ltT, Int32.zero_add, Int.toNat_natCast, ix_own, ix_sum, ix_ver, ix_th, ix_ab, ix_st, ix_vm, ix_lim, ix_lim1, ix_lim2, ix_lim3, Int.toNat_zero, i_neF, i_eqT, b1T, b1F, f2]
      · rw [if_neg c2]
        refine ⟨am_i (-1), ?_, ?_⟩
        · simp (disch := first | assumption | omega) only [i_add, i_sub, i_mul, i_lt, i_le, i_eq, i_ibt, i_ixn, i_ix, i_zero, am_letF, cond_true, cond_false, Option.bind_some, ↓reduceIte, m_si, m_sc, true_and, and_true, not_true_eq_false, not_false_eq_true, i_gtF, i_leT, i_geF, i_ltT, Int32.zero_add, Int.toNat_natCast, ix_own, ix_sum, ix_ver, ix_th, ix_ab, ix_st, ix_vm, ix_lim, ix_lim1, ix_lim2, ix_lim3, Int.toNat_zero, i_neF, i_eqT, b1T, b1F, e1]
        · simp (disch := first | assumption | omega) only [i_add, i_sub, i_mul, i_lt, i_le, i_eq, i_ibt, i_ixn, i_ix, i_zero, am_letF, cond_true, cond_false, Option.bind_some, ↓reduceIte, m_si, m_sc, true_and, and_true, not_true_eq_false, not_false_eq_true, i_gtF, i_leT, i_geF, i_ltT, Int32.zero_add, Int.toNat_natCast, ix_own, ix_sum, ix_ver, ix_th, ix_ab, ix_st, ix_vm, ix_lim, ix_lim1, ix_lim2, ix_lim3, Int.toNat_zero, i_neF, i_eqT, b1T, b1F, e1]
    · rw [if_neg c1]
      refine ⟨am_i (-1), ?_, ?_⟩
      · by_cases c2 : v < 0
        · simp (disch := first | assumption | omega) only [i_add, i_sub, i_mul, i_lt, i_le, i_eq, i_ibt, i_ixn, i_ix, i_zero, am_letF, cond_true, cond_false, Option.bind_some, ↓reduceIte, m_si, m_sc, true_and, and_true, not_true_eq_false, not_false_eq_true, i_gtF, i_leT, i_geF, i_ltT, Int32.zero_add, Int.toNat_natCast, ix_own, ix_sum, ix_ver, ix_th, ix_ab, ix_st, ix_vm, ix_lim, ix_lim1, ix_lim2, ix_lim3, Int.toNat_zero, i_neF, i_eqT, b1T, b1F, e1]
        · simp (disch := first | assumption | omega) only [i_add, i_sub, i_mul, i_lt, i_le, i_eq, i_ibt, i_ixn, i_ix, i_zero, am_letF, cond_true, cond_false, Option.bind_some, ↓reduceIte, m_si, m_sc, true_and, and_true, not_true_eq_false, not_false_eq_true, i_gtF, i_leT, i_geF, i_ltT, Int32.zero_add, Int.toNat_natCast, ix_own, ix_sum, ix_ver, ix_th, ix_ab, ix_st, ix_vm, ix_lim, ix_lim1, ix_lim2, ix_lim3, Int.toNat_zero, i_neF, i_eqT, b1T, b1F, e1]
      · simp (disch := first | assumption | omega) only [i_add, i_sub, i_mul, i_lt, i_le, i_eq, i_ibt, i_ixn, i_ix, i_zero, am_letF, cond_true, cond_false, Option.bind_some, ↓reduceIte, m_si, m_sc, true_and, and_true, not_true_eq_false, not_false_eq_true, i_gtF, i_leT, i_geF, i_ltT, Int32.zero_add, Int.toNat_natCast, ix_own, ix_sum, ix_ver, ix_th, ix_ab, ix_st, ix_vm, ix_lim, ix_lim1, ix_lim2, ix_lim3, Int.toNat_zero, i_neF, i_eqT, b1T, b1F, e1]
theorem q_below (h : GS m r s) (a b : Int32) : ∃ y, m_X8_below m a b = some y ∧ m_X9_below m a b = some y := by
  obtain ⟨x, h1, h2, rfl⟩ := i_any a
  obtain ⟨i, h3, h4, rfl⟩ := i_any b
  unfold m_X8_below
  cases c : thr (gU (xG s)) x
  · unfold m_X1_lowerAt m_X9_below
    rw [s_t8 h h1 h2, s_t9 h h1 h2, c]
    exact ⟨_, rfl, rfl⟩
  · obtain ⟨u, hu, rfl, hu2⟩ := thr_i c
    rw [s_X1_lowerAt h.tc h.tr hu hu2 h3 h4, s_X9_below h.tm h.tr hu hu2 h3 h4]
    exact ⟨_, rfl, rfl⟩
theorem q_above (h : GS m r s) (a b : Int32) : ∃ y, m_X8_above m a b = some y ∧ m_X9_above m a b = some y := by
  obtain ⟨x, h1, h2, rfl⟩ := i_any a
  obtain ⟨i, h3, h4, rfl⟩ := i_any b
  exact ⟨_, s_X8_above h.tc h.tr h1 h2 h3 h4, s_X9_above h.tm h.tr h1 h2 h3 h4⟩
theorem q_both (h : GS m r s) (a b : Int32) : ∃ y, m_X8_both m a b = some y ∧ m_X9_both m a b = some y := by
  obtain ⟨x, h1, h2, rfl⟩ := i_any a
  obtain ⟨i, h3, h4, rfl⟩ := i_any b
  refine ⟨_, ?_, s_X9_both h.tm h.tr h1 h2 h3 h4⟩
  unfold m_X8_both
  rw [s_X1_meetingOf h.tc h.tr h1 h2 h3 h4]
  rfl
theorem q_ranked (h : GS m r s) (a b : Int32) : ∃ y, m_X8_ranked m a b = some y ∧ m_X9_ranked m a b = some y := by
  obtain ⟨x, h1, h2, rfl⟩ := i_any a
  obtain ⟨i, h3, h4, rfl⟩ := i_any b
  unfold m_X8_ranked m_X9_ranked
  rw [s_t8 h h1 h2, s_t9 h h1 h2]
  cases c : thr (gU (xG s)) x
  · exact ⟨_, rfl, rfl⟩
  · obtain ⟨u, hu, rfl, hu2⟩ := thr_i c
    rw [i_ixn (by omega), s_X5_categoryAt (h.xc hu) h3 h4, s_X9_rankedIn (h.xm hu) hu h3 h4, i_ibt (by omega) (by omega) (by omega)]
    exact ⟨_, rfl, rfl⟩
theorem l_X9_less_25 {u c : Nat} {f : Nat → Nat} {x1 x2 : Int32} {k : Int32 → Option Int32} (h : RowW m (1608 + 64 * u) f) (hu : u < 24) (hc : c ≤ 64) : m_X9_less_25 x1 x2 m (am_i u) (am_i c) k am_F (am_i 0) (am_i 0) = k (am_i (su f c : Nat)) := by
  refine lo_go (fun n j s => m_X9_less_25 x1 x2 m (am_i u) (am_i c) k n s (am_i (j : Int))) (fun j => am_i (su f j : Nat)) 0 c rfl (by omega) (am_Fv (by omega)) (fun n j _ hj => ?_) (fun n => ?_)
  · show m_X9_less_25 x1 x2 m (am_i u) (am_i c) k (n + 1) _ _ = m_X9_less_25 x1 x2 m (am_i u) (am_i c) k n (am_i ((su f j + f j : Nat) : Int)) _
    rw [m_X9_less_25]
    unfold m_X9_sumAt
    (simp (disch := first | assumption | omega) only [i_add, i_sub, i_mul, i_lt, i_le, i_eq, i_ibt, i_ixn, i_ix, i_zero, am_letF, cond_true, cond_false, Option.bind_some, ↓reduceIte, m_si, m_sc, true_and, and_true, not_true_eq_false, not_false_eq_true, i_gtF, i_leT, i_geF, i_ltT, Int32.zero_add, Int.toNat_natCast, ix_own, ix_sum, ix_ver, ix_th, ix_ab, ix_st, ix_vm, ix_lim, ix_lim1, ix_lim2, ix_lim3, Int.toNat_zero, i_neF, i_eqT, b1T, b1F, h.1] <;> rfl)
  · show m_X9_less_25 x1 x2 m (am_i u) (am_i c) k (n + 1) _ _ = _
    rw [m_X9_less_25]
    simp (disch := first | assumption | omega) only [i_add, i_sub, i_mul, i_lt, i_le, i_eq, i_ibt, i_ixn, i_ix, i_zero, am_letF, cond_true, cond_false, Option.bind_some, ↓reduceIte, m_si, m_sc, true_and, and_true, not_true_eq_false, not_false_eq_true, i_gtF, i_leT, i_geF, i_ltT, Int32.zero_add, Int.toNat_natCast, ix_own, ix_sum, ix_ver, ix_th, ix_ab, ix_st, ix_vm, ix_lim, ix_lim1, ix_lim2, ix_lim3, Int.toNat_zero, i_neF, i_eqT, b1T, b1F]
theorem q_less (h : GS m r s) (a b : Int32) : ∃ y, m_X8_less m a b = some y ∧ m_X9_less m a b = some y := by
  obtain ⟨x, h1, h2, rfl⟩ := i_any a
  obtain ⟨i, h3, h4, rfl⟩ := i_any b
  unfold m_X8_less m_X9_less
  rw [s_t8 h h1 h2, s_t9 h h1 h2, s_X9_isIn h3 h4 (by decide) (by decide) (by decide) (by decide)]
  cases c : thr (gU (xG s)) x
  · exact ⟨_, rfl, rfl⟩
  · obtain ⟨u, hu, rfl, hu2⟩ := thr_i c
    by_cases c1 : 0 ≤ i ∧ i ≤ 64
    · obtain ⟨d, rfl⟩ : ∃ d : Nat, i = d := ⟨i.toNat, by omega⟩
      rw [if_pos c1, l_X9_less_25 (h.xm hu) hu (by omega)]
      refine ⟨am_i (su (gM (xG s) u) d : Nat), ?_, ?_⟩
      · cases d with
        | zero =>
          have e := s_X5_total0 (m := m) (a := aX 4 u) (hi := -1) (by decide) (by decide)
          simp (disch := first | assumption | omega) only [i_add, i_sub, i_mul, i_lt, i_le, i_eq, i_ibt, i_ixn, i_ix, i_zero, am_letF, cond_true, cond_false, Option.bind_some, ↓reduceIte, m_si, m_sc, true_and, and_true, not_true_eq_false, not_false_eq_true, i_gtF, i_leT, i_geF, i_ltT, Int32.zero_add, Int.toNat_natCast, ix_own, ix_sum, ix_ver, ix_th, ix_ab, ix_st, ix_vm, ix_lim, ix_lim1, ix_lim2, ix_lim3, Int.toNat_zero, i_neF, i_eqT, b1T, b1F]
          show (m_X5_totalOf m (aX 4 u) (am_i 0) (am_i (-1))).bind _ = _
          rw [e]
          rfl
        | succ t =>
          have e := s_X5_totalOf (lo := 0) (hi := t) (h.xc hu) (by omega) (by omega)
          have e2 : am_i ((t + 1 : Nat) : Int) - am_i 1 = am_i (t : Int) := by rw [i_sub]; congr 1; omega
          rw [e2, i_ixn (by omega), show m_X5_totalOf m (aX 4 u) (am_i 0) (am_i (t : Int)) = _ from e]
          simp (disch := first | assumption | omega) only [i_add, i_sub, i_mul, i_lt, i_le, i_eq, i_ibt, i_ixn, i_ix, i_zero, am_letF, cond_true, cond_false, Option.bind_some, ↓reduceIte, m_si, m_sc, true_and, and_true, not_true_eq_false, not_false_eq_true, i_gtF, i_leT, i_geF, i_ltT, Int32.zero_add, Int.toNat_natCast, ix_own, ix_sum, ix_ver, ix_th, ix_ab, ix_st, ix_vm, ix_lim, ix_lim1, ix_lim2, ix_lim3, Int.toNat_zero, i_neF, i_eqT, b1T, b1F]
          show some (am_i (((su (gM (xG s) u) (t + 1) : Nat) : Int) - ((0 : Nat) : Int))) = _
          rw [Int.natCast_zero, Int.sub_zero]
      · simp (disch := first | assumption | omega) only [i_add, i_sub, i_mul, i_lt, i_le, i_eq, i_ibt, i_ixn, i_ix, i_zero, am_letF, cond_true, cond_false, Option.bind_some, ↓reduceIte, m_si, m_sc, true_and, and_true, not_true_eq_false, not_false_eq_true, i_gtF, i_leT, i_geF, i_ltT, Int32.zero_add, Int.toNat_natCast, ix_own, ix_sum, ix_ver, ix_th, ix_ab, ix_st, ix_vm, ix_lim, ix_lim1, ix_lim2, ix_lim3, Int.toNat_zero, i_neF, i_eqT, b1T, b1F]
    · rw [if_neg c1]
      refine ⟨am_i (-1), ?_, ?_⟩
      · by_cases c2 : i < 0
        · simp (disch := first | assumption | omega) only [i_add, i_sub, i_mul, i_lt, i_le, i_eq, i_ibt, i_ixn, i_ix, i_zero, am_letF, cond_true, cond_false, Option.bind_some, ↓reduceIte, m_si, m_sc, true_and, and_true, not_true_eq_false, not_false_eq_true, i_gtF, i_leT, i_geF, i_ltT, Int32.zero_add, Int.toNat_natCast, ix_own, ix_sum, ix_ver, ix_th, ix_ab, ix_st, ix_vm, ix_lim, ix_lim1, ix_lim2, ix_lim3, Int.toNat_zero, i_neF, i_eqT, b1T, b1F]
        · simp (disch := first | assumption | omega) only [i_add, i_sub, i_mul, i_lt, i_le, i_eq, i_ibt, i_ixn, i_ix, i_zero, am_letF, cond_true, cond_false, Option.bind_some, ↓reduceIte, m_si, m_sc, true_and, and_true, not_true_eq_false, not_false_eq_true, i_gtF, i_leT, i_geF, i_ltT, Int32.zero_add, Int.toNat_natCast, ix_own, ix_sum, ix_ver, ix_th, ix_ab, ix_st, ix_vm, ix_lim, ix_lim1, ix_lim2, ix_lim3, Int.toNat_zero, i_neF, i_eqT, b1T, b1F]
      · simp (disch := first | assumption | omega) only [i_add, i_sub, i_mul, i_lt, i_le, i_eq, i_ibt, i_ixn, i_ix, i_zero, am_letF, cond_true, cond_false, Option.bind_some, ↓reduceIte, m_si, m_sc, true_and, and_true, not_true_eq_false, not_false_eq_true, i_gtF, i_leT, i_geF, i_ltT, Int32.zero_add, Int.toNat_natCast, ix_own, ix_sum, ix_ver, ix_th, ix_ab, ix_st, ix_vm, ix_lim, ix_lim1, ix_lim2, ix_lim3, Int.toNat_zero, i_neF, i_eqT, b1T, b1F]
theorem q_leader (h : GS m r s) (a b c : Int32) : ∃ y, m_X8_leader m a b c = some y ∧ m_X9_leader m a b c = some y := by
  obtain ⟨x, h1, h2, rfl⟩ := i_any a
  obtain ⟨i, h3, h4, rfl⟩ := i_any b
  obtain ⟨z, h5, h6, rfl⟩ := i_any c
  unfold m_X8_leader m_X9_leader
  rw [s_t8 h h1 h2, s_t9 h h1 h2, s_X9_isIn h5 h6 (by decide) (by decide) (by decide) (by decide)]
  cases c : thr (gU (xG s)) x
  · exact ⟨_, rfl, rfl⟩
  · obtain ⟨u, hu, rfl, hu2⟩ := thr_i c
    rw [i_ixn (by omega), s_X5_leaderAt (h.xc hu) h3 h4, s_X9_leaderOf (h.xm hu) hu h3 h4]
    unfold m_X9_sumAt
    by_cases c1 : 0 ≤ z ∧ z ≤ 1
    · rw [if_pos c1]
      by_cases q : ldI (gM (xG s) u) i = -1
      · rw [q]
        refine ⟨am_i (-1), ?_, ?_⟩
        · simp (disch := first | assumption | omega) only [i_add, i_sub, i_mul, i_lt, i_le, i_eq, i_ibt, i_ixn, i_ix, i_zero, am_letF, cond_true, cond_false, Option.bind_some, ↓reduceIte, m_si, m_sc, true_and, and_true, not_true_eq_false, not_false_eq_true, i_gtF, i_leT, i_geF, i_ltT, Int32.zero_add, Int.toNat_natCast, ix_own, ix_sum, ix_ver, ix_th, ix_ab, ix_st, ix_vm, ix_lim, ix_lim1, ix_lim2, ix_lim3, Int.toNat_zero, i_neF, i_eqT, b1T, b1F]
        · simp (disch := first | assumption | omega) only [i_add, i_sub, i_mul, i_lt, i_le, i_eq, i_ibt, i_ixn, i_ix, i_zero, am_letF, cond_true, cond_false, Option.bind_some, ↓reduceIte, m_si, m_sc, true_and, and_true, not_true_eq_false, not_false_eq_true, i_gtF, i_leT, i_geF, i_ltT, Int32.zero_add, Int.toNat_natCast, ix_own, ix_sum, ix_ver, ix_th, ix_ab, ix_st, ix_vm, ix_lim, ix_lim1, ix_lim2, ix_lim3, Int.toNat_zero, i_neF, i_eqT, b1T, b1F]
      · obtain ⟨b, g1, g2, g3, g4, g5⟩ := ldI_is q
        have f1 := (h.xc hu).1 b g1
        have f2 := (h.xm hu).1 b g1
        rw [g4]
        by_cases c2 : z = 0
        · rw [c2]
          refine ⟨am_i b, ?_, ?_⟩
          · simp (disch := first | assumption | omega) only [i_add, i_sub, i_mul, i_lt, i_le, i_eq, i_ibt, i_ixn, i_ix, i_zero, am_letF, cond_true, cond_false, Option.bind_some, ↓reduceIte, m_si, m_sc, true_and, and_true, not_true_eq_false, not_false_eq_true, i_gtF, i_leT, i_geF, i_ltT, Int32.zero_add, Int.toNat_natCast, ix_own, ix_sum, ix_ver, ix_th, ix_ab, ix_st, ix_vm, ix_lim, ix_lim1, ix_lim2, ix_lim3, Int.toNat_zero, i_neF, i_eqT, b1T, b1F]
          · simp (disch := first | assumption | omega) only [i_add, i_sub, i_mul, i_lt, i_le, i_eq, i_ibt, i_ixn, i_ix, i_zero, am_letF, cond_true, cond_false, Option.bind_some, ↓reduceIte, m_si, m_sc, true_and, and_true, not_true_eq_false, not_false_eq_true, i_gtF, i_leT, i_geF, i_ltT, Int32.zero_add, Int.toNat_natCast, ix_own, ix_sum, ix_ver, ix_th, ix_ab, ix_st, ix_vm, ix_lim, ix_lim1, ix_lim2, ix_lim3, Int.toNat_zero, i_neF, i_eqT, b1T, b1F]
        · refine ⟨am_i (gM (xG s) u b), ?_, ?_⟩
          · simp (disch := first | assumption | omega) only [i_add, i_sub, i_mul, i_lt, i_le, i_eq, i_ibt, i_ixn, i_ix, i_zero, am_letF, cond_true, cond_false, Option.bind_some, ↓reduceIte, m_si, m_sc, true_and, and_true, not_true_eq_false, not_false_eq_true, i_gtF, i_leT, i_geF, i_ltT, Int32.zero_add, Int.toNat_natCast, ix_own, ix_sum, ix_ver, ix_th, ix_ab, ix_st, ix_vm, ix_lim, ix_lim1, ix_lim2, ix_lim3, Int.toNat_zero, i_neF, i_eqT, b1T, b1F, f1]
          · simp (disch := first | assumption | omega) only [i_add, i_sub, i_mul, i_lt, i_le, i_eq, i_ibt, i_ixn, i_ix, i_zero, am_letF, cond_true, cond_false, Option.bind_some, ↓reduceIte, m_si, m_sc, true_and, and_true, not_true_eq_false, not_false_eq_true, i_gtF, i_leT, i_geF, i_ltT, Int32.zero_add, Int.toNat_natCast, ix_own, ix_sum, ix_ver, ix_th, ix_ab, ix_st, ix_vm, ix_lim, ix_lim1, ix_lim2, ix_lim3, Int.toNat_zero, i_neF, i_eqT, b1T, b1F, f2]
    · rw [if_neg c1]
      refine ⟨am_i (-1), ?_, ?_⟩
      · by_cases c2 : z < 0
        · simp (disch := first | assumption | omega) only [i_add, i_sub, i_mul, i_lt, i_le, i_eq, i_ibt, i_ixn, i_ix, i_zero, am_letF, cond_true, cond_false, Option.bind_some, ↓reduceIte, m_si, m_sc, true_and, and_true, not_true_eq_false, not_false_eq_true, i_gtF, i_leT, i_geF, i_ltT, Int32.zero_add, Int.toNat_natCast, ix_own, ix_sum, ix_ver, ix_th, ix_ab, ix_st, ix_vm, ix_lim, ix_lim1, ix_lim2, ix_lim3, Int.toNat_zero, i_neF, i_eqT, b1T, b1F]
        · simp (disch := first | assumption | omega) only [i_add, i_sub, i_mul, i_lt, i_le, i_eq, i_ibt, i_ixn, i_ix, i_zero, am_letF, cond_true, cond_false, Option.bind_some, ↓reduceIte, m_si, m_sc, true_and, and_true, not_true_eq_false, not_false_eq_true, i_gtF, i_leT, i_geF, i_ltT, Int32.zero_add, Int.toNat_natCast, ix_own, ix_sum, ix_ver, ix_th, ix_ab, ix_st, ix_vm, ix_lim, ix_lim1, ix_lim2, ix_lim3, Int.toNat_zero, i_neF, i_eqT, b1T, b1F]
      · simp (disch := first | assumption | omega) only [i_add, i_sub, i_mul, i_lt, i_le, i_eq, i_ibt, i_ixn, i_ix, i_zero, am_letF, cond_true, cond_false, Option.bind_some, ↓reduceIte, m_si, m_sc, true_and, and_true, not_true_eq_false, not_false_eq_true, i_gtF, i_leT, i_geF, i_ltT, Int32.zero_add, Int.toNat_natCast, ix_own, ix_sum, ix_ver, ix_th, ix_ab, ix_st, ix_vm, ix_lim, ix_lim1, ix_lim2, ix_lim3, Int.toNat_zero, i_neF, i_eqT, b1T, b1F]
theorem half {n : Nat} (h : n ≤ 20000000) (h0 : 0 < n) : ∃ k : Nat, (am_i (n : Int) - am_i 1) / am_i 2 = am_i k ∧ k ≤ 20000000 := by
  refine ⟨(n - 1) / 2, ?_, by omega⟩
  rw [i_sub, i_div (by omega) (by omega) (by decide) (by decide)]
  congr 1
  omega
theorem q_median (h : GS m r s) (a : Int32) : ∃ y m', m_X8_median m a = some y ∧ m_X9_median m a = some (y, m') ∧ Good m' r := by
  obtain ⟨x, h1, h2, rfl⟩ := i_any a
  unfold m_X8_median m_X9_median
  rw [s_t8 h h1 h2, s_t9 h h1 h2]
  cases c : thr (gU (xG s)) x
  · exact ⟨_, m, rfl, rfl, h.g⟩
  · obtain ⟨u, hu, rfl, hu2⟩ := thr_i c
    have hS := h.ig.su u
    obtain ⟨m1, e1, f1, g1⟩ := s_X9_allOf (h.xm hu) hu
    have k1 := h.sc1 (f1.mono (fun b hb => by rw [hb]; unfold Scr; omega))
    obtain ⟨m2, e2, f2, g2⟩ := s_X9_allOf (k1.xm hu) hu
    have k2 := k1.sc1 (f2.mono (fun b hb => by rw [hb]; unfold Scr; omega))
    rw [i_ixn (by omega), s_X5_allOf (h.xc hu), i_ibt (by omega) (by omega) (by omega)]
    by_cases q : su (gM (xG s) u) 64 = 0
    · refine ⟨am_i (-1), m1, ?_, ?_, k1.g⟩
      · rw [q]; rfl
      · simp only [Option.bind_some, e1]
        rw [q]; rfl
    · obtain ⟨k, hk, hk2⟩ := half (n := su (gM (xG s) u) 64) (by omega) (by omega)
      refine ⟨am_i (catI (gM (xG s) u) k), m2, ?_, ?_, k2.g⟩
      · simp only [Option.bind_some, cond_true]
        rw [hk, s_X5_categoryAt (h.xc hu) (by omega) (by omega), if_pos (by decide), if_pos (by rw [i_zero, i_eq (by omega) (by omega) (by omega) (by omega)]; omega)]
        rfl
      · simp only [Option.bind_some, e1, e2]
        rw [hk, s_X9_rankedIn (k2.xm hu) hu (by omega) (by omega), if_neg (by decide), if_pos (by rw [i_zero, i_eq (by omega) (by omega) (by omega) (by omega)]; omega)]
        rfl
theorem q_heavy (h : GS m r s) (a b : Int32) : ∃ y m', m_X8_heavy m a b = some y ∧ m_X9_heavy m a b = some (y, m') ∧ Good m' r := by
  obtain ⟨x, h1, h2, rfl⟩ := i_any a
  obtain ⟨i, h3, h4, rfl⟩ := i_any b
  unfold m_X8_heavy m_X9_heavy
  rw [s_t8 h h1 h2, s_t9 h h1 h2, s_X9_isIn h3 h4 (by decide) (by decide) (by decide) (by decide)]
  cases c : thr (gU (xG s)) x
  · exact ⟨_, m, rfl, rfl, h.g⟩
  · obtain ⟨u, hu, rfl, hu2⟩ := thr_i c
    obtain ⟨m1, e1, f1, g1⟩ := s_X9_allOf (h.xm hu) hu
    have k1 := h.sc1 (f1.mono (fun b hb => by rw [hb]; unfold Scr; omega))
    rw [i_ixn (by omega), s_X5_allOf (h.xc hu), i_ibt (by omega) (by omega) (by omega)]
    by_cases c1 : 0 ≤ i ∧ i ≤ 100
    · rw [if_pos c1]
      refine ⟨hvL (gM (xG s) u) ((am_i i).toInt64 * (am_i (su (gM (xG s) u) 64 : Nat)).toInt64) 64, m1, ?_, ?_, k1.g⟩
      · rw [Option.bind_some, if_neg (by decide), if_neg (by rw [i_zero, i_lt (by omega) (by omega) (by omega) (by omega)]; omega), if_pos (by rw [i_le (by omega) (by omega) (by omega) (by omega)]; omega), cond_true, Option.bind_some, l_X8_heavy_46 (h.xc hu)]
      · rw [Option.bind_some, if_neg (by decide), Option.bind_some, if_pos (by decide), e1, Option.bind_some]
        exact l_X9_heavy_32 (k1.xm hu) hu
    · rw [if_neg c1]
      refine ⟨Int64.ofNat 0, m, ?_, ?_, h.g⟩
      · by_cases c2 : i < 0
        · rw [Option.bind_some, if_neg (by decide), if_pos (by rw [i_zero, i_lt (by omega) (by omega) (by omega) (by omega)]; exact c2)]
        · rw [Option.bind_some, if_neg (by decide), if_neg (by rw [i_zero, i_lt (by omega) (by omega) (by omega) (by omega)]; exact c2), if_neg (by rw [i_le (by omega) (by omega) (by omega) (by omega)]; omega)]
      · rw [Option.bind_some, if_neg (by decide), Option.bind_some, if_neg (by decide)]
theorem q_squares (h : GS m r s) (a : Int32) : ∃ y, m_X8_squares m a = some y ∧ m_X9_squares m a = some y := by
  obtain ⟨x, h1, h2, rfl⟩ := i_any a
  unfold m_X8_squares m_X9_squares
  rw [s_t8 h h1 h2, s_t9 h h1 h2]
  cases c : thr (gU (xG s)) x
  · exact ⟨_, rfl, rfl⟩
  · obtain ⟨u, hu, rfl, hu2⟩ := thr_i c
    refine ⟨sqL (gM (xG s) u) 64, ?_, ?_⟩
    · rw [i_ixn (by omega), i_ibt (by omega) (by omega) (by omega), l_X8_squares_30 (h.xc hu)]
      rfl
    · rw [l_X9_squares_17 (h.xm hu) hu]
      rfl
theorem q_percent (h : GS m r s) (a b : Int32) : ∃ y m', m_X8_percent m a b = some y ∧ m_X9_percent m a b = some (y, m') ∧ Good m' r := by
  obtain ⟨x, h1, h2, rfl⟩ := i_any a
  obtain ⟨i, h3, h4, rfl⟩ := i_any b
  unfold m_X8_percent
  rw [s_t8 h h1 h2, s_c8 h3 h4]
  cases c : thr (gU (xG s)) x
  · refine ⟨am_i (-1), m, rfl, ?_, h.g⟩
    unfold m_X9_percent
    rw [s_t9 h h1 h2, c]
    rfl
  · obtain ⟨u, hu, rfl, hu2⟩ := thr_i c
    by_cases c1 : 0 ≤ i ∧ i ≤ 63
    · obtain ⟨d, rfl⟩ : ∃ d : Nat, i = d := ⟨i.toNat, by omega⟩
      obtain ⟨m1, e1, f1⟩ := s_X9_percent (c := d) h.tm (h.xm hu) hu hu2 (by omega)
      rw [if_pos c1, i_ixn (by omega), i_ibt (by omega) (by omega) (by omega), s_X5_percentOf (h.xc hu) (by omega), e1]
      exact ⟨_, m1, rfl, rfl, (h.sc1 (f1.mono (fun b hb => by rw [hb]; unfold Scr; omega))).g⟩
    · refine ⟨am_i (-1), m, ?_, ?_, h.g⟩
      · rw [if_neg c1]; rfl
      · unfold m_X9_percent
        rw [s_t9 h h1 h2, c, s_c9 h3 h4, if_neg c1]
        rfl
theorem q_quantile (h : GS m r s) (a b : Int32) : ∃ y m', m_X8_quantile m a b = some y ∧ m_X9_quantile m a b = some (y, m') ∧ Good m' r := by
  obtain ⟨x, h1, h2, rfl⟩ := i_any a
  obtain ⟨i, h3, h4, rfl⟩ := i_any b
  unfold m_X8_quantile m_X9_quantile
  rw [s_t8 h h1 h2]
  cases c : thr (gU (xG s)) x
  · refine ⟨am_i (-1), m, rfl, ?_, h.g⟩
    unfold m_X9_isPart
    rw [s_t9 h h1 h2, c]
    rfl
  · obtain ⟨u, hu, rfl, hu2⟩ := thr_i c
    have hS := h.ig.su u
    obtain ⟨m1, e1, f1, g1⟩ := s_X9_isPart h.tm (h.xm hu) hu hu2 h3 h4
    have k1 := h.sc1 (f1.mono (fun b hb => by rw [hb]; unfold Scr; omega))
    rw [Option.bind_some, i_ixn (by omega), i_ibt (by omega) (by omega) (by omega), if_neg (by decide)]
    by_cases c1 : 1 ≤ i ∧ i ≤ 100
    · obtain ⟨d, rfl⟩ : ∃ d : Nat, i = d := ⟨i.toNat, by omega⟩
      have g1 := g1 c1
      rw [if_neg (by rw [i_lt (by omega) (by omega) (by omega) (by omega)]; omega), if_pos (by rw [i_le (by omega) (by omega) (by omega) (by omega)]; omega), cond_true]
      by_cases q : 0 < su (gM (xG s) u) 64
      · refine ⟨am_i (qtl (gM (xG s) u) d : Nat), m1, ?_, ?_, k1.g⟩
        · rw [s_X5_quantileOf (h.xc hu) (by omega) q]; rfl
        · rw [if_pos (show 1 ≤ (d : Int) ∧ (d : Int) ≤ 100 ∧ 0 < su (gM (xG s) u) 64 from ⟨c1.1, c1.2, q⟩)] at e1
          rw [e1, Option.bind_some]
          dsimp only
          rw [if_pos (by decide), s_X9_all g1, Option.bind_some, x0, g1.1 0 (by omega), show am_ib (am_i 0) 64 = true by decide, cond_true]
          exact l_X9_quantile_30 g1 (by omega) (by omega)
      · refine ⟨am_i (-1), m1, ?_, ?_, k1.g⟩
        · unfold m_X5_quantileOf
          rw [s_X5_allOf (h.xc hu), show su (gM (xG s) u) 64 = 0 by omega]
          rfl
        · rw [if_neg (show ¬ (1 ≤ (d : Int) ∧ (d : Int) ≤ 100 ∧ 0 < su (gM (xG s) u) 64) from fun z => q z.2.2)] at e1
          rw [e1]
          rfl
    · refine ⟨am_i (-1), m1, ?_, ?_, k1.g⟩
      · by_cases c2 : i < 1
        · simp (disch := first | assumption | omega) only [i_add, i_sub, i_mul, i_lt, i_le, i_eq, i_ibt, i_ixn, i_ix, i_zero, am_letF, cond_true, cond_false, Option.bind_some, ↓reduceIte, m_si, m_sc, true_and, and_true, not_true_eq_false, not_false_eq_true, i_gtF, i_leT, i_geF, i_ltT, Int32.zero_add, Int.toNat_natCast, ix_own, ix_sum, ix_ver, ix_th, ix_ab, ix_st, ix_vm, ix_lim, ix_lim1, ix_lim2, ix_lim3, Int.toNat_zero, i_neF, i_eqT, b1T, b1F]
        · simp (disch := first | assumption | omega) only [i_add, i_sub, i_mul, i_lt, i_le, i_eq, i_ibt, i_ixn, i_ix, i_zero, am_letF, cond_true, cond_false, Option.bind_some, ↓reduceIte, m_si, m_sc, true_and, and_true, not_true_eq_false, not_false_eq_true, i_gtF, i_leT, i_geF, i_ltT, Int32.zero_add, Int.toNat_natCast, ix_own, ix_sum, ix_ver, ix_th, ix_ab, ix_st, ix_vm, ix_lim, ix_lim1, ix_lim2, ix_lim3, Int.toNat_zero, i_neF, i_eqT, b1T, b1F]
      · rw [if_neg (show ¬ (1 ≤ i ∧ i ≤ 100 ∧ 0 < su (gM (xG s) u) 64) from fun z => c1 ⟨z.1, z.2.1⟩)] at e1
        rw [e1]
        rfl
theorem q_few (h : GS m r s) (a b : Int32) : ∃ y m', m_X8_few m a b = some y ∧ m_X9_few m a b = some (y, m') ∧ Good m' r := by
  obtain ⟨x, h1, h2, rfl⟩ := i_any a
  obtain ⟨i, h3, h4, rfl⟩ := i_any b
  unfold m_X8_few m_X9_few
  rw [s_t8 h h1 h2]
  cases c : thr (gU (xG s)) x
  · refine ⟨am_i (-1), m, rfl, ?_, h.g⟩
    unfold m_X9_isPart
    rw [s_t9 h h1 h2, c]
    rfl
  · obtain ⟨u, hu, rfl, hu2⟩ := thr_i c
    have hS := h.ig.su u
    obtain ⟨m1, e1, f1, g1⟩ := s_X9_isPart h.tm (h.xm hu) hu hu2 h3 h4
    have k1 := h.sc1 (f1.mono (fun b hb => by rw [hb]; unfold Scr; omega))
    rw [Option.bind_some, i_ixn (by omega), i_ibt (by omega) (by omega) (by omega), if_neg (by decide)]
    by_cases c1 : 1 ≤ i ∧ i ≤ 100
    · obtain ⟨d, rfl⟩ : ∃ d : Nat, i = d := ⟨i.toNat, by omega⟩
      have g1 := g1 c1
      rw [if_neg (by rw [i_lt (by omega) (by omega) (by omega) (by omega)]; omega), if_pos (by rw [i_le (by omega) (by omega) (by omega) (by omega)]; omega), cond_true]
      by_cases q : 0 < su (gM (xG s) u) 64
      · refine ⟨am_i (fwK (gM (xG s) u) d : Nat), m1, ?_, ?_, k1.g⟩
        · rw [s_X5_fewestOf (h.xc hu) (by omega) (by omega) q]; rfl
        · rw [if_pos (show 1 ≤ (d : Int) ∧ (d : Int) ≤ 100 ∧ 0 < su (gM (xG s) u) 64 from ⟨c1.1, c1.2, q⟩)] at e1
          rw [e1, Option.bind_some]
          dsimp only
          rw [if_pos (by decide), s_X9_all g1, Option.bind_some]
          exact l_X9_few_25 (k1.xm hu) hu (by omega) (by omega) q (by omega)
      · refine ⟨am_i (-1), m1, ?_, ?_, k1.g⟩
        · rw [s_X5_fewestOf0 (h.xc hu) (by omega)]
          rfl
        · rw [if_neg (show ¬ (1 ≤ (d : Int) ∧ (d : Int) ≤ 100 ∧ 0 < su (gM (xG s) u) 64) from fun z => q z.2.2)] at e1
          rw [e1]
          rfl
    · refine ⟨am_i (-1), m1, ?_, ?_, k1.g⟩
      · by_cases c2 : i < 1
        · simp (disch := first | assumption | omega) only [i_add, i_sub, i_mul, i_lt, i_le, i_eq, i_ibt, i_ixn, i_ix, i_zero, am_letF, cond_true, cond_false, Option.bind_some, ↓reduceIte, m_si, m_sc, true_and, and_true, not_true_eq_false, not_false_eq_true, i_gtF, i_leT, i_geF, i_ltT, Int32.zero_add, Int.toNat_natCast, ix_own, ix_sum, ix_ver, ix_th, ix_ab, ix_st, ix_vm, ix_lim, ix_lim1, ix_lim2, ix_lim3, Int.toNat_zero, i_neF, i_eqT, b1T, b1F]
        · simp (disch := first | assumption | omega) only [i_add, i_sub, i_mul, i_lt, i_le, i_eq, i_ibt, i_ixn, i_ix, i_zero, am_letF, cond_true, cond_false, Option.bind_some, ↓reduceIte, m_si, m_sc, true_and, and_true, not_true_eq_false, not_false_eq_true, i_gtF, i_leT, i_geF, i_ltT, Int32.zero_add, Int.toNat_natCast, ix_own, ix_sum, ix_ver, ix_th, ix_ab, ix_st, ix_vm, ix_lim, ix_lim1, ix_lim2, ix_lim3, Int.toNat_zero, i_neF, i_eqT, b1T, b1F]
      · rw [if_neg (show ¬ (1 ≤ i ∧ i ≤ 100 ∧ 0 < su (gM (xG s) u) 64) from fun z => c1 ⟨z.1, z.2.1⟩)] at e1
        rw [e1]
        rfl
end Q1
