/-! ===== mathematics: calls that ask, 2 ===== -/
/-- the units below n that P holds of, as a set -/
def stL (P : Nat → Bool) : Nat → Int32
  | 0 => am_i 0
  | j + 1 => if P j = true then stL P j ||| ((am_i 1) <<< (am_i (j : Int) &&& 31)) else stL P j
theorem stL_congr {P Q : Nat → Bool} : ∀ n, (∀ k, k < n → P k = Q k) → stL P n = stL Q n := by
  intro n
  induction n with
  | zero => intro _; rfl
  | succ n ih => intro h; show (if P n = true then _ else _) = (if Q n = true then _ else _); rw [ih (fun k hk => h k (by omega)), h n (by omega)]
theorem or_0 (x : Int32) : x ||| am_i 0 = x := by rw [show am_i 0 = (0 : Int32) from by decide, Int32.or_zero]
section Q2
variable {m : am_m} {r : am_rr} {s : Sx}
theorem q_count (h : GS m r s) (a : Int32) : ∃ y, m_X8_count m a = some y ∧ m_X9_count m a = some y := by
  obtain ⟨x, h1, h2, rfl⟩ := i_any a
  unfold m_X8_count m_X9_count
  rw [s_X9_isIn h1 h2 (by decide) (by decide) (by decide) (by decide)]
  by_cases c1 : 0 ≤ x ∧ x ≤ 10
  · obtain ⟨d, rfl⟩ : ∃ d : Nat, x = d := ⟨x.toNat, by omega⟩
    rw [if_pos c1]
    have e1 := h.2.1.2.1.1 d (by omega)
    have e2 := h.2.2.1.2.1.1 d (by omega)
    have e3 : am_ix (am_i 15456 + am_i (d : Int)) = 15456 + d := by rw [i_add, i_ix (by omega) (by omega)]; omega
    refine ⟨bkC (xB s) d, ?_, ?_⟩
    · simp (disch := first | assumption | omega) only [i_add, i_sub, i_mul, i_lt, i_le, i_eq, i_ibt, i_ixn, i_ix, i_zero, am_letF, cond_true, cond_false, Option.bind_some, ↓reduceIte, m_si, m_sc, true_and, and_true, not_true_eq_false, not_false_eq_true, i_gtF, i_leT, i_geF, i_ltT, Int32.zero_add, Int.toNat_natCast, ix_own, ix_sum, ix_ver, ix_th, ix_ab, ix_st, ix_vm, ix_lim, ix_lim1, ix_lim2, ix_lim3, Int.toNat_zero, i_neF, i_eqT, b1T, b1F, e1]
    · rw [e3, e2]
      simp (disch := first | assumption | omega) only [i_add, i_sub, i_mul, i_lt, i_le, i_eq, i_ibt, i_ixn, i_ix, i_zero, am_letF, cond_true, cond_false, Option.bind_some, ↓reduceIte, m_si, m_sc, true_and, and_true, not_true_eq_false, not_false_eq_true, i_gtF, i_leT, i_geF, i_ltT, Int32.zero_add, Int.toNat_natCast, ix_own, ix_sum, ix_ver, ix_th, ix_ab, ix_st, ix_vm, ix_lim, ix_lim1, ix_lim2, ix_lim3, Int.toNat_zero, i_neF, i_eqT, b1T, b1F]
  · rw [if_neg c1]
    refine ⟨am_i (-1), ?_, ?_⟩
    · by_cases c2 : x < 0
      · simp (disch := first | assumption | omega) only [i_add, i_sub, i_mul, i_lt, i_le, i_eq, i_ibt, i_ixn, i_ix, i_zero, am_letF, cond_true, cond_false, Option.bind_some, ↓reduceIte, m_si, m_sc, true_and, and_true, not_true_eq_false, not_false_eq_true, i_gtF, i_leT, i_geF, i_ltT, Int32.zero_add, Int.toNat_natCast, ix_own, ix_sum, ix_ver, ix_th, ix_ab, ix_st, ix_vm, ix_lim, ix_lim1, ix_lim2, ix_lim3, Int.toNat_zero, i_neF, i_eqT, b1T, b1F]
      · simp (disch := first | assumption | omega) only [i_add, i_sub, i_mul, i_lt, i_le, i_eq, i_ibt, i_ixn, i_ix, i_zero, am_letF, cond_true, cond_false, Option.bind_some, ↓reduceIte, m_si, m_sc, true_and, and_true, not_true_eq_false, not_false_eq_true, i_gtF, i_leT, i_geF, i_ltT, Int32.zero_add, Int.toNat_natCast, ix_own, ix_sum, ix_ver, ix_th, ix_ab, ix_st, ix_vm, ix_lim, ix_lim1, ix_lim2, ix_lim3, Int.toNat_zero, i_neF, i_eqT, b1T, b1F]
    · simp (disch := first | assumption | omega) only [i_add, i_sub, i_mul, i_lt, i_le, i_eq, i_ibt, i_ixn, i_ix, i_zero, am_letF, cond_true, cond_false, Option.bind_some, ↓reduceIte, m_si, m_sc, true_and, and_true, not_true_eq_false, not_false_eq_true, i_gtF, i_leT, i_geF, i_ltT, Int32.zero_add, Int.toNat_natCast, ix_own, ix_sum, ix_ver, ix_th, ix_ab, ix_st, ix_vm, ix_lim, ix_lim1, ix_lim2, ix_lim3, Int.toNat_zero, i_neF, i_eqT, b1T, b1F]
theorem q_fault (h : GS m r s) (a : Int32) : ∃ y, m_X8_fault m a = some y ∧ m_X9_fault m a = some y := by
  unfold m_X8_fault m_X9_fault
  rw [h.2.1.2.2.2.2.1.2.2.1, h.2.1.2.2.2.2.1.2.2.2, h.2.2.1.2.2.2.2.1.2.2.1, h.2.2.1.2.2.2.2.1.2.2.2]
  by_cases c1 : a = 0
  · rw [if_neg (fun e => e c1)]
    exact ⟨_, rfl, rfl⟩
  · rw [if_pos c1]
    by_cases c2 : a = am_i 1
    · rw [if_neg (fun e => e c2)]
      exact ⟨_, rfl, rfl⟩
    · rw [if_pos c2]
      exact ⟨_, rfl, rfl⟩
theorem q_sign (h : GS m r s) (a : Int32) : ∃ y, m_X8_sign m a = some y ∧ m_X9_sign m a = some y := by
  obtain ⟨x, h1, h2, rfl⟩ := i_any a
  have hn := h.2.2.2.2.2.2.2.2
  obtain ⟨e1, e2⟩ := h.2.1.2.2.2.2.2
  obtain ⟨e3, e4⟩ := h.2.2.1.2.2.2.2.2
  unfold m_X8_sign m_X9_sign m_X3_signAt
  rw [e1, e3, i_sub, s_X9_isIn h1 h2 (by decide) (by decide) (by omega) (by omega)]
  by_cases c1 : 0 ≤ x ∧ x ≤ ((xR s).1 : Int) - 1
  · obtain ⟨d, rfl⟩ : ∃ d : Nat, x = d := ⟨x.toNat, by omega⟩
    rw [if_pos c1]
    have f1 := e2 d (by omega) (by omega)
    have f2 := e4 d (by omega) (by omega)
    refine ⟨am_i ((xR s).2 d), ?_, ?_⟩
    · simp (disch := first | assumption | omega) only [i_add, i_sub, i_mul, i_lt, i_le, i_eq, i_ibt, i_ixn, i_ix, i_zero, am_letF, cond_true, cond_false, Option.bind_some, ↓reduceIte, m_si, m_sc, true_and, and_true, not_true_eq_false, not_false_eq_true, i_gtF, i_leT, i_geF, i_ltT, Int32.zero_add, Int.toNat_natCast, ix_own, ix_sum, ix_ver, ix_th, ix_ab, ix_st, ix_vm, ix_lim, ix_lim1, ix_lim2, ix_lim3, Int.toNat_zero, i_neF, i_eqT, b1T, b1F, f1]
    · simp (disch := first | assumption | omega) only [i_add, i_sub, i_mul, i_lt, i_le, i_eq, i_ibt, i_ixn, i_ix, i_zero, am_letF, cond_true, cond_false, Option.bind_some, ↓reduceIte, m_si, m_sc, true_and, and_true, not_true_eq_false, not_false_eq_true, i_gtF, i_leT, i_geF, i_ltT, Int32.zero_add, Int.toNat_natCast, ix_own, ix_sum, ix_ver, ix_th, ix_ab, ix_st, ix_vm, ix_lim, ix_lim1, ix_lim2, ix_lim3, Int.toNat_zero, i_neF, i_eqT, b1T, b1F, f2]
  · rw [if_neg c1]
    refine ⟨am_i (-1), ?_, ?_⟩
    · by_cases c2 : x < 0
      · simp (disch := first | assumption | omega) only [i_add, i_sub, i_mul, i_lt, i_le, i_eq, i_ibt, i_ixn, i_ix, i_zero, am_letF, cond_true, cond_false, Option.bind_some, ↓reduceIte, m_si, m_sc, true_and, and_true, not_true_eq_false, not_false_eq_true, i_gtF, i_leT, i_geF, i_ltT, Int32.zero_add, Int.toNat_natCast, ix_own, ix_sum, ix_ver, ix_th, ix_ab, ix_st, ix_vm, ix_lim, ix_lim1, ix_lim2, ix_lim3, Int.toNat_zero, i_neF, i_eqT, b1T, b1F]
      · simp (disch := first | assumption | omega) only [i_add, i_sub, i_mul, i_lt, i_le, i_eq, i_ibt, i_ixn, i_ix, i_zero, am_letF, cond_true, cond_false, Option.bind_some, ↓reduceIte, m_si, m_sc, true_and, and_true, not_true_eq_false, not_false_eq_true, i_gtF, i_leT, i_geF, i_ltT, Int32.zero_add, Int.toNat_natCast, ix_own, ix_sum, ix_ver, ix_th, ix_ab, ix_st, ix_vm, ix_lim, ix_lim1, ix_lim2, ix_lim3, Int.toNat_zero, i_neF, i_eqT, b1T, b1F]
    · simp (disch := first | assumption | omega) only [i_add, i_sub, i_mul, i_lt, i_le, i_eq, i_ibt, i_ixn, i_ix, i_zero, am_letF, cond_true, cond_false, Option.bind_some, ↓reduceIte, m_si, m_sc, true_and, and_true, not_true_eq_false, not_false_eq_true, i_gtF, i_leT, i_geF, i_ltT, Int32.zero_add, Int.toNat_natCast, ix_own, ix_sum, ix_ver, ix_th, ix_ab, ix_st, ix_vm, ix_lim, ix_lim1, ix_lim2, ix_lim3, Int.toNat_zero, i_neF, i_eqT, b1T, b1F]
/-- two sums laid into the reference's rows -/
theorem l_lays2 {u v : Nat} (h : GS m r s) (hu : u < 24) (hv : v < 24) : ∃ m1 m2, m_X9_lays m (am_i (1608 + 64 * (u : Int))) 3266 = some m1 ∧ m_X9_lays m1 (am_i (1608 + 64 * (v : Int))) 3267 = some m2 ∧ GS m2 r s ∧ Row m2 3266 (gM (xG s) u) ∧ Row m2 3267 (gM (xG s) v) ∧ Fr Scr m m2 := by
  obtain ⟨m1, e1, f1, g1⟩ := s_X9_lays (a := 3266) (h.xm hu) (by omega) (by decide)
  have f1' : Fr Scr m m1 := f1.mono (fun b hb => by rw [hb]; unfold Scr; omega)
  have k1 := h.sc1 f1'
  obtain ⟨m2, e2, f2, g2⟩ := s_X9_lays (a := 3267) (k1.xm hv) (by omega) (by decide)
  have f2' : Fr Scr m1 m2 := f2.mono (fun b hb => by rw [hb]; unfold Scr; omega)
  refine ⟨m1, m2, ?_, ?_, k1.sc1 f2', g1.kept f2 (by decide), g2, f1'.trans f2'⟩
  · rw [← e1]; congr 2
  · rw [← e2]; congr 2
theorem s_X9_unlikeU {u v : Nat} (h : GS m r s) (hu : u < 24) (hu2 : gU (xG s) u ≠ -2) (hv : v < 24) (hv2 : gU (xG s) v ≠ -2) : ∃ m', m_X9_unlike_ m (am_i u) (am_i v) = some (am_i (su (un (gM (xG s) u) (gM (xG s) v)) 64 : Nat), m') ∧ GS m' r s ∧ Fr Scr m m' := by
  obtain ⟨m1, m2, e1, e2, k, g1, g2, f⟩ := l_lays2 h hu hv
  refine ⟨m2, ?_, k, f⟩
  unfold m_X9_unlike_ m_X9_sumAt
  rw [s_t9 h (by omega) (by omega), s_t9 h (by omega) (by omega), thr_t hu hu2, thr_t hv hv2, Option.bind_some, if_neg (by decide), Option.bind_some, if_pos (by decide), Option.bind_some, i_mul, i_add, e1, Option.bind_some, Option.bind_some, i_mul, i_add, e2, Option.bind_some, s_X9_unlike g1 g2]
  rfl
theorem q_unlike (h : GS m r s) (a b : Int32) : ∃ y m', m_X8_unlike m a b = some y ∧ m_X9_unlike_ m a b = some (y, m') ∧ Good m' r := by
  obtain ⟨x, h1, h2, rfl⟩ := i_any a
  obtain ⟨z, h3, h4, rfl⟩ := i_any b
  cases c : thr (gU (xG s)) x
  · refine ⟨am_i (-1), m, ?_, ?_, h.g⟩
    · unfold m_X8_unlike
      rw [s_t8 h h1 h2, c]
      rfl
    · unfold m_X9_unlike_
      rw [s_t9 h h1 h2, c]
      rfl
  · cases c2 : thr (gU (xG s)) z
    · refine ⟨am_i (-1), m, ?_, ?_, h.g⟩
      · unfold m_X8_unlike
        rw [s_t8 h h1 h2, s_t8 h h3 h4, c, c2]
        rfl
      · unfold m_X9_unlike_
        rw [s_t9 h h1 h2, s_t9 h h3 h4, c, c2]
        rfl
    · obtain ⟨u, hu, rfl, hu2⟩ := thr_i c
      obtain ⟨v, hv, rfl, hv2⟩ := thr_i c2
      obtain ⟨m', e, k, f⟩ := s_X9_unlikeU h hu hu2 hv hv2
      refine ⟨_, m', ?_, e, k.g⟩
      unfold m_X8_unlike
      rw [s_t8 h h1 h2, s_t8 h h3 h4, c, c2, i_ixn (by omega), i_ixn (by omega), i_ibt (by omega) (by omega) (by omega), i_ibt (by omega) (by omega) (by omega), s_X5_unlikeness (h.xc hu) (h.xc hv)]
      rfl
/-- what two share, one category -/
def shP (z : Nat) (f g : Nat → Nat) (c : Nat) : Nat := if z = 3 then min (f c) (g c) else if z = 0 then b1 (decide (0 < f c) && decide (0 < g c)) else b1 (decide (0 < f c) || decide (0 < g c))
theorem l_X9_shared_74 {z : Nat} {f g : Nat → Nat} {x1 x2 x3 : Int32} {k : Int32 → Option (Int32 × am_m)} (h : Row m 3266 f) (h2 : Row m 3267 g) (hz : z ≤ 3) : m_X9_shared_74 x1 x2 x3 m (am_i z) k am_F (am_i 0) (am_i 0) = k (am_i (su (shP z f g) 64 : Nat)) := by
  refine lo_go (fun n j s => m_X9_shared_74 x1 x2 x3 m (am_i z) k n s (am_i (j : Int))) (fun j => am_i (su (shP z f g) j : Nat)) 0 64 rfl (by omega) (am_Fv (by omega)) (fun n j _ hj => ?_) (fun n => rfl)
  show m_X9_shared_74 x1 x2 x3 m (am_i z) k (n + 1) _ _ = m_X9_shared_74 x1 x2 x3 m (am_i z) k n (am_i ((su (shP z f g) j + shP z f g j : Nat) : Int)) _
  rw [m_X9_shared_74]
  have b1' := h.2 j
  have b2 := h2.2 j
  have e1 := h.1 j hj
  have e2 := h2.1 j hj
  by_cases c1 : g j ≤ f j
  · by_cases c2 : z = 3
    · have e : shP z f g j = g j := by unfold shP; rw [if_pos c2]; omega
      rw [e]
      (simp (disch := first | assumption | omega) only [i_add, i_sub, i_mul, i_lt, i_le, i_eq, i_ibt, i_ixn, i_ix, i_zero, am_letF, cond_true, cond_false, Option.bind_some, ↓reduceIte, m_si, m_sc, true_and, and_true, not_true_eq_false, not_false_eq_true, i_gtF, i_leT, i_geF, i_ltT, Int32.zero_add, Int.toNat_natCast, ix_own, ix_sum, ix_ver, ix_th, ix_ab, ix_st, ix_vm, ix_lim, ix_lim1, ix_lim2, ix_lim3, Int.toNat_zero, i_neF, i_eqT, b1T, b1F, e1, e2] <;> rfl)
    · by_cases c3 : z = 0
      · by_cases c4 : g j = 0
        · have e : shP z f g j = 0 := by unfold shP; rw [if_neg c2, if_pos c3, c4]; simp [b1]
          rw [e]
          (simp (disch := first | assumption | omega) only [i_add, i_sub, i_mul, i_lt, i_le, i_eq, i_ibt, i_ixn, i_ix, i_zero, am_letF, cond_true, cond_false, Option.bind_some, ↓reduceIte, m_si, m_sc, true_and, and_true, not_true_eq_false, not_false_eq_true, i_gtF, i_leT, i_geF, i_ltT, Int32.zero_add, Int.toNat_natCast, ix_own, ix_sum, ix_ver, ix_th, ix_ab, ix_st, ix_vm, ix_lim, ix_lim1, ix_lim2, ix_lim3, Int.toNat_zero, i_neF, i_eqT, b1T, b1F, e1, e2] <;> rfl)
        · have e : shP z f g j = 1 := by unfold shP; rw [if_neg c2, if_pos c3, decide_eq_true (show 0 < f j by omega), decide_eq_true (show 0 < g j by omega)]; rfl
          rw [e]
          (simp (disch := first | assumption | omega) only [i_add, i_sub, i_mul, i_lt, i_le, i_eq, i_ibt, i_ixn, i_ix, i_zero, am_letF, cond_true, cond_false, Option.bind_some, ↓reduceIte, m_si, m_sc, true_and, and_true, not_true_eq_false, not_false_eq_true, i_gtF, i_leT, i_geF, i_ltT, Int32.zero_add, Int.toNat_natCast, ix_own, ix_sum, ix_ver, ix_th, ix_ab, ix_st, ix_vm, ix_lim, ix_lim1, ix_lim2, ix_lim3, Int.toNat_zero, i_neF, i_eqT, b1T, b1F, e1, e2] <;> rfl)
      · by_cases c4 : f j + g j = 0
        · have e : shP z f g j = 0 := by unfold shP; rw [if_neg c2, if_neg c3, decide_eq_false (show ¬ 0 < f j by omega), decide_eq_false (show ¬ 0 < g j by omega)]; rfl
          rw [e]
          (simp (disch := first | assumption | omega) only [i_add, i_sub, i_mul, i_lt, i_le, i_eq, i_ibt, i_ixn, i_ix, i_zero, am_letF, cond_true, cond_false, Option.bind_some, ↓reduceIte, m_si, m_sc, true_and, and_true, not_true_eq_false, not_false_eq_true, i_gtF, i_leT, i_geF, i_ltT, Int32.zero_add, Int.toNat_natCast, ix_own, ix_sum, ix_ver, ix_th, ix_ab, ix_st, ix_vm, ix_lim, ix_lim1, ix_lim2, ix_lim3, Int.toNat_zero, i_neF, i_eqT, b1T, b1F, e1, e2] <;> rfl)
        · have e : shP z f g j = 1 := by unfold shP; rw [if_neg c2, if_neg c3, decide_eq_true (show 0 < f j by omega)]; rfl
          rw [e]
          (simp (disch := first | assumption | omega) only [i_add, i_sub, i_mul, i_lt, i_le, i_eq, i_ibt, i_ixn, i_ix, i_zero, am_letF, cond_true, cond_false, Option.bind_some, ↓reduceIte, m_si, m_sc, true_and, and_true, not_true_eq_false, not_false_eq_true, i_gtF, i_leT, i_geF, i_ltT, Int32.zero_add, Int.toNat_natCast, ix_own, ix_sum, ix_ver, ix_th, ix_ab, ix_st, ix_vm, ix_lim, ix_lim1, ix_lim2, ix_lim3, Int.toNat_zero, i_neF, i_eqT, b1T, b1F, e1, e2] <;> rfl)
  · by_cases c2 : z = 3
    · have e : shP z f g j = f j := by unfold shP; rw [if_pos c2]; omega
      rw [e]
      (simp (disch := first | assumption | omega) only [i_add, i_sub, i_mul, i_lt, i_le, i_eq, i_ibt, i_ixn, i_ix, i_zero, am_letF, cond_true, cond_false, Option.bind_some, ↓reduceIte, m_si, m_sc, true_and, and_true, not_true_eq_false, not_false_eq_true, i_gtF, i_leT, i_geF, i_ltT, Int32.zero_add, Int.toNat_natCast, ix_own, ix_sum, ix_ver, ix_th, ix_ab, ix_st, ix_vm, ix_lim, ix_lim1, ix_lim2, ix_lim3, Int.toNat_zero, i_neF, i_eqT, b1T, b1F, e1, e2] <;> rfl)
    · by_cases c3 : z = 0
      · by_cases c4 : f j = 0
        · have e : shP z f g j = 0 := by unfold shP; rw [if_neg c2, if_pos c3, c4]; simp [b1]
          rw [e]
          (simp (disch := first | assumption | omega) only [i_add, i_sub, i_mul, i_lt, i_le, i_eq, i_ibt, i_ixn, i_ix, i_zero, am_letF, cond_true, cond_false, Option.bind_some, ↓reduceIte, m_si, m_sc, true_and, and_true, not_true_eq_false, not_false_eq_true, i_gtF, i_leT, i_geF, i_ltT, Int32.zero_add, Int.toNat_natCast, ix_own, ix_sum, ix_ver, ix_th, ix_ab, ix_st, ix_vm, ix_lim, ix_lim1, ix_lim2, ix_lim3, Int.toNat_zero, i_neF, i_eqT, b1T, b1F, e1, e2] <;> rfl)
        · have e : shP z f g j = 1 := by unfold shP; rw [if_neg c2, if_pos c3, decide_eq_true (show 0 < f j by omega), decide_eq_true (show 0 < g j by omega)]; rfl
          rw [e]
          (simp (disch := first | assumption | omega) only [i_add, i_sub, i_mul, i_lt, i_le, i_eq, i_ibt, i_ixn, i_ix, i_zero, am_letF, cond_true, cond_false, Option.bind_some, ↓reduceIte, m_si, m_sc, true_and, and_true, not_true_eq_false, not_false_eq_true, i_gtF, i_leT, i_geF, i_ltT, Int32.zero_add, Int.toNat_natCast, ix_own, ix_sum, ix_ver, ix_th, ix_ab, ix_st, ix_vm, ix_lim, ix_lim1, ix_lim2, ix_lim3, Int.toNat_zero, i_neF, i_eqT, b1T, b1F, e1, e2] <;> rfl)
      · have e : shP z f g j = 1 := by unfold shP; rw [if_neg c2, if_neg c3, decide_eq_true (show 0 < g j by omega), Bool.or_true]; rfl
        rw [e]
        (simp (disch := first | assumption | omega) only [i_add, i_sub, i_mul, i_lt, i_le, i_eq, i_ibt, i_ixn, i_ix, i_zero, am_letF, cond_true, cond_false, Option.bind_some, ↓reduceIte, m_si, m_sc, true_and, and_true, not_true_eq_false, not_false_eq_true, i_gtF, i_leT, i_geF, i_ltT, Int32.zero_add, Int.toNat_natCast, ix_own, ix_sum, ix_ver, ix_th, ix_ab, ix_st, ix_vm, ix_lim, ix_lim1, ix_lim2, ix_lim3, Int.toNat_zero, i_neF, i_eqT, b1T, b1F, e1, e2] <;> rfl)
theorem pop_and (f g : Nat → Nat) : pop (jn (mkL f 64 &&& mkL g 64)) = su (shP 0 f g) 64 := by
  unfold pop
  refine su_congr 64 (fun c hc => ?_)
  rw [jn_and, Nat.testBit_and, mkL_bit f 64 (by omega), mkL_bit g 64 (by omega), decide_eq_true hc]
  rfl
theorem pop_or (f g : Nat → Nat) : pop (jn (mkL f 64 ||| mkL g 64)) = su (shP 1 f g) 64 := by
  unfold pop
  refine su_congr 64 (fun c hc => ?_)
  rw [jn_or, Nat.testBit_or, mkL_bit f 64 (by omega), mkL_bit g 64 (by omega), decide_eq_true hc]
  rfl
theorem q_shared (h : GS m r s) (a b c : Int32) : ∃ y m', m_X8_shared m a b c = some y ∧ m_X9_shared m a b c = some (y, m') ∧ Good m' r := by
  obtain ⟨x, h1, h2, rfl⟩ := i_any a
  obtain ⟨z, h3, h4, rfl⟩ := i_any b
  obtain ⟨w, h5, h6, rfl⟩ := i_any c
  cases c : thr (gU (xG s)) x
  · refine ⟨am_i (-1), m, ?_, ?_, h.g⟩
    · unfold m_X8_shared
      rw [s_t8 h h1 h2, c]
      rfl
    · unfold m_X9_shared
      rw [s_t9 h h1 h2, c]
      rfl
  · cases c2 : thr (gU (xG s)) z
    · refine ⟨am_i (-1), m, ?_, ?_, h.g⟩
      · unfold m_X8_shared
        rw [s_t8 h h1 h2, s_t8 h h3 h4, c, c2]
        rfl
      · unfold m_X9_shared
        rw [s_t9 h h1 h2, s_t9 h h3 h4, c, c2]
        rfl
    · obtain ⟨u, hu, rfl, hu2⟩ := thr_i c
      obtain ⟨v, hv, rfl, hv2⟩ := thr_i c2
      have k8 : m_X8_shared m (am_i u) (am_i v) (am_i w) = (if am_i w = am_i 0 then (m_J13_bitCount_95d88 m (mkL (gM (xG s) u) 64 &&& mkL (gM (xG s) v) 64)).bind fun q9 => some q9 else if am_i w = am_i 1 then (m_J13_bitCount_95d88 m (mkL (gM (xG s) u) 64 ||| mkL (gM (xG s) v) 64)).bind fun q11 => some q11 else if am_i w = am_i 2 then (m_X6_common m (mkL (gM (xG s) u) 64) (mkL (gM (xG s) v) 64)).bind fun q13 => some q13 else if am_i w = am_i 3 then (m_X5_lesserOf m (aX 4 u) (aX 4 v)).bind fun q17 => some q17 else some (am_i (-1))) := by
        unfold m_X8_shared
        rw [s_t8 h h1 h2, s_t8 h h3 h4, c, c2, i_ixn (by omega), i_ixn (by omega), i_ibt (by omega) (by omega) (by omega), i_ibt (by omega) (by omega) (by omega), s_X6_maskOf (h.xc hu), s_X6_maskOf (h.xc hv)]
        rfl
      obtain ⟨m1, m2, e1, e2, k, g1, g2, f⟩ := l_lays2 h hu hv
      have k9 : 0 ≤ w ∧ w ≤ 3 → m_X9_shared m (am_i u) (am_i v) (am_i w) = (if ¬ am_i w = am_i 2 then m_X9_shared_74 (am_i u) (am_i v) (am_i w) m2 (am_i w) (fun u30 => some (u30, m2)) am_F (am_i 0) (am_i 0) else (m_X9_common m2 3266 3267).bind fun q31 => some (q31, m2)) := by
        intro c3
        unfold m_X9_shared m_X9_sumAt
        rw [s_t9 h h1 h2, s_t9 h h3 h4, c, c2, s_X9_isIn h5 h6 (by decide) (by decide) (by decide) (by decide), if_pos c3, Option.bind_some, if_neg (by decide), Option.bind_some, if_neg (by decide), Option.bind_some, if_pos (by decide), Option.bind_some, i_mul, i_add, e1, Option.bind_some, Option.bind_some, i_mul, i_add, e2, Option.bind_some]
      rw [k8]
      by_cases c3 : 0 ≤ w ∧ w ≤ 3
      · rw [k9 c3]
        obtain ⟨d, rfl⟩ : ∃ d : Nat, w = d := ⟨w.toNat, by omega⟩
        by_cases d2 : d = 2
        · refine ⟨am_i (com (gM (xG s) u) (gM (xG s) v) : Nat), m2, ?_, ?_, k.g⟩
          · rw [d2, if_neg (by decide), if_neg (by decide), if_pos (by decide), s_X6_common (Bm_mk _) (Bm_mk _)]
            rfl
          · rw [d2, if_neg (by decide), s_X9_common g1 g2]
            rfl
        · refine ⟨am_i (su (shP d (gM (xG s) u) (gM (xG s) v)) 64 : Nat), m2, ?_, ?_, k.g⟩
          · by_cases d0 : d = 0
            · rw [d0, if_pos (by decide), s_bitCount, pop_and]
              rfl
            · by_cases d1 : d = 1
              · rw [d1, if_neg (by decide), if_pos (by decide), s_bitCount, pop_or]
                rfl
              · have d3 : d = 3 := by omega
                rw [d3, if_neg (by decide), if_neg (by decide), if_neg (by decide), if_pos (by decide), s_X5_lesserOf (h.xc hu) (h.xc hv)]
                rfl
          · rw [if_pos (by rw [i_eq (by omega) (by omega) (by omega) (by omega)]; omega), l_X9_shared_74 g1 g2 (by omega)]
      · refine ⟨am_i (-1), m, ?_, ?_, h.g⟩
        · rw [if_neg (by rw [i_eq (by omega) (by omega) (by omega) (by omega)]; omega), if_neg (by rw [i_eq (by omega) (by omega) (by omega) (by omega)]; omega), if_neg (by rw [i_eq (by omega) (by omega) (by omega) (by omega)]; omega), if_neg (by rw [i_eq (by omega) (by omega) (by omega) (by omega)]; omega)]
        · unfold m_X9_shared
          rw [s_t9 h h1 h2, s_t9 h h3 h4, c, c2, s_X9_isIn h5 h6 (by decide) (by decide) (by decide) (by decide), if_neg c3]
          rfl
end Q2
