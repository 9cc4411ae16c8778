/-! ===== mathematics: calls that ask, 3: twin, where, leads, broken ===== -/
/-- the best of units by a number, the least -/
def twB (P : Nat → Bool) (A : Nat → Nat) : Nat → Int
  | 0 => -1
  | j + 1 => if P j = true then (if twB P A j = -1 then (j : Int) else if A j < A (twB P A j).toNat then (j : Int) else twB P A j) else twB P A j
theorem twB_r (P : Nat → Bool) (A : Nat → Nat) : ∀ j, twB P A j = -1 ∨ ∃ b : Nat, b < j ∧ twB P A j = b ∧ P b = true := by
  intro j
  induction j with
  | zero => exact Or.inl rfl
  | succ j ih =>
    show (if P j = true then (if twB P A j = -1 then (j : Int) else if A j < A (twB P A j).toNat then (j : Int) else twB P A j) else twB P A j) = -1 ∨ ∃ b : Nat, b < j + 1 ∧ (if P j = true then (if twB P A j = -1 then (j : Int) else if A j < A (twB P A j).toNat then (j : Int) else twB P A j) else twB P A j) = b ∧ P b = true
    by_cases hp : P j = true
    · rw [if_pos hp]
      refine Or.inr ?_
      rcases ih with h | ⟨b, h1, h2, h3⟩
      · rw [if_pos h]
        exact ⟨j, by omega, rfl, hp⟩
      · rw [h2, if_neg (by omega)]
        split
        · exact ⟨j, by omega, rfl, hp⟩
        · exact ⟨b, by omega, rfl, h3⟩
    · rw [if_neg hp]
      rcases ih with h | ⟨b, h1, h2, h3⟩
      · exact Or.inl h
      · exact Or.inr ⟨b, by omega, h2, h3⟩
section Q3
variable {m : am_m} {r : am_rr} {s : Sx}
def twP (up : Nat → Int) (u k : Nat) : Bool := decide (k ≠ u) && thr up k
def twA (M : Nat → Nat → Nat) (u k : Nat) : Nat := su (un (M u) (M k)) 64
/-- what the class has of the best: none, 0 -/
def twL (M : Nat → Nat → Nat) (u : Nat) (b : Int) : Nat := if b = -1 then 0 else twA M u b.toNat
theorem twA_le (h : GS m r s) (u k : Nat) : twA (gM (xG s)) u k ≤ 64000000 := su_b (B := 1000000) (un_b (fun c => Nat.le_trans (h.ig.2.2.1 u c) (by decide)) (fun c => Nat.le_trans (h.ig.2.2.1 k c) (by decide))) 64
theorem l_X8_twin {u : Nat} (h : GS m r s) (hu : u < 24) : m_X8_twin_20 (am_i u) m (am_i u) (fun u12 => some u12) am_F (am_i (-1)) (am_i 0) (am_i 0) = some (am_i (twB (twP (gU (xG s)) u) (twA (gM (xG s)) u) 24)) := by
  refine lo_go (fun n j (t : Int32 × Int32) => m_X8_twin_20 (am_i u) m (am_i u) (fun u12 => some u12) n t.1 t.2 (am_i (j : Int))) (fun j => (am_i (twB (twP (gU (xG s)) u) (twA (gM (xG s)) u) j), am_i (twL (gM (xG s)) u (twB (twP (gU (xG s)) u) (twA (gM (xG s)) u) j) : Nat))) 0 24 rfl (by omega) (am_Fv (by omega)) (fun n j _ hj => ?_) (fun n => rfl)
  have hB := twB_r (twP (gU (xG s)) u) (twA (gM (xG s)) u) j
  have eB : twB (twP (gU (xG s)) u) (twA (gM (xG s)) u) (j + 1) = if twP (gU (xG s)) u j = true then (if twB (twP (gU (xG s)) u) (twA (gM (xG s)) u) j = -1 then (j : Int) else if twA (gM (xG s)) u j < twA (gM (xG s)) u (twB (twP (gU (xG s)) u) (twA (gM (xG s)) u) j).toNat then (j : Int) else twB (twP (gU (xG s)) u) (twA (gM (xG s)) u) j) else twB (twP (gU (xG s)) u) (twA (gM (xG s)) u) j := rfl
  show m_X8_twin_20 _ m _ _ (n + 1) (am_i (twB _ _ j)) (am_i (twL _ u (twB _ _ j) : Nat)) _ = m_X8_twin_20 _ m _ _ n (am_i (twB _ _ (j + 1))) (am_i (twL _ u (twB _ _ (j + 1)) : Nat)) _
  rw [eB, m_X8_twin_20, s_t8 h (by omega) (by omega)]
  generalize twB (twP (gU (xG s)) u) (twA (gM (xG s)) u) j = B at hB ⊢
  have a1 := twA_le h u j
  by_cases c1 : j = u
  · have e : ¬ twP (gU (xG s)) u j = true := by unfold twP; rw [c1]; simp
    rw [if_neg e, c1]
    (simp (disch := first | assumption | omega) only [i_add, i_sub, i_mul, i_lt, i_le, i_eq, i_ibt, i_ixn, i_ix, i_zero, am_letF, cond_true, cond_false, Option.bind_some, ↓reduceIte, m_si, m_sc, true_and, and_true, not_true_eq_false, not_false_eq_true, i_gtF, i_leT, i_geF, i_ltT, Int32.zero_add, Int.toNat_natCast, ix_own, ix_sum, ix_ver, ix_th, ix_ab, ix_st, ix_vm, ix_lim, ix_lim1, ix_lim2, ix_lim3, Int.toNat_zero, i_neF, i_eqT, b1T, b1F] <;> rfl)
  · cases c2 : thr (gU (xG s)) (j : Int)
    · have e : ¬ twP (gU (xG s)) u j = true := by unfold twP; rw [c2]; simp
      rw [if_neg e]
      (simp (disch := first | assumption | omega) only [i_add, i_sub, i_mul, i_lt, i_le, i_eq, i_ibt, i_ixn, i_ix, i_zero, am_letF, cond_true, cond_false, Option.bind_some, ↓reduceIte, m_si, m_sc, true_and, and_true, not_true_eq_false, not_false_eq_true, i_gtF, i_leT, i_geF, i_ltT, Int32.zero_add, Int.toNat_natCast, ix_own, ix_sum, ix_ver, ix_th, ix_ab, ix_st, ix_vm, ix_lim, ix_lim1, ix_lim2, ix_lim3, Int.toNat_zero, i_neF, i_eqT, b1T, b1F] <;> rfl)
    · have e : twP (gU (xG s)) u j = true := by unfold twP; rw [c2]; simp [c1]
      rw [if_pos e]
      have q := s_X5_unlikeness (h.xc hu) (h.xc hj)
      have q2 : m_X5_unlikeness m (aX 4 u) (aX 4 j) = some (am_i (twA (gM (xG s)) u j : Nat)) := q
      rcases hB with rfl | ⟨b, hb, rfl, hb2⟩
      · have e3 : twL (gM (xG s)) u (j : Int) = twA (gM (xG s)) u j := by unfold twL; rw [if_neg (by omega), Int.toNat_natCast]
        rw [if_pos rfl, e3]
        (simp (disch := first | assumption | omega) only [i_add, i_sub, i_mul, i_lt, i_le, i_eq, i_ibt, i_ixn, i_ix, i_zero, am_letF, cond_true, cond_false, Option.bind_some, ↓reduceIte, m_si, m_sc, true_and, and_true, not_true_eq_false, not_false_eq_true, i_gtF, i_leT, i_geF, i_ltT, Int32.zero_add, Int.toNat_natCast, ix_own, ix_sum, ix_ver, ix_th, ix_ab, ix_st, ix_vm, ix_lim, ix_lim1, ix_lim2, ix_lim3, Int.toNat_zero, i_neF, i_eqT, b1T, b1F, q2] <;> rfl)
      · have e3 : twL (gM (xG s)) u (j : Int) = twA (gM (xG s)) u j := by unfold twL; rw [if_neg (by omega), Int.toNat_natCast]
        have e4 : twL (gM (xG s)) u (b : Int) = twA (gM (xG s)) u b := by unfold twL; rw [if_neg (by omega), Int.toNat_natCast]
        have a2 := twA_le h u b
        rw [if_neg (show ¬ (b : Int) = -1 by omega), Int.toNat_natCast, e4]
        by_cases c3 : twA (gM (xG s)) u j < twA (gM (xG s)) u b
        · rw [if_pos c3, e3]
          (simp (disch := first | assumption | omega) only [i_add, i_sub, i_mul, i_lt, i_le, i_eq, i_ibt, i_ixn, i_ix, i_zero, am_letF, cond_true, cond_false, Option.bind_some, ↓reduceIte, m_si, m_sc, true_and, and_true, not_true_eq_false, not_false_eq_true, i_gtF, i_leT, i_geF, i_ltT, Int32.zero_add, Int.toNat_natCast, ix_own, ix_sum, ix_ver, ix_th, ix_ab, ix_st, ix_vm, ix_lim, ix_lim1, ix_lim2, ix_lim3, Int.toNat_zero, i_neF, i_eqT, b1T, b1F, q2] <;> rfl)
        · rw [if_neg c3, e4]
          (simp (disch := first | assumption | omega) only [i_add, i_sub, i_mul, i_lt, i_le, i_eq, i_ibt, i_ixn, i_ix, i_zero, am_letF, cond_true, cond_false, Option.bind_some, ↓reduceIte, m_si, m_sc, true_and, and_true, not_true_eq_false, not_false_eq_true, i_gtF, i_leT, i_geF, i_ltT, Int32.zero_add, Int.toNat_natCast, ix_own, ix_sum, ix_ver, ix_th, ix_ab, ix_st, ix_vm, ix_lim, ix_lim1, ix_lim2, ix_lim3, Int.toNat_zero, i_neF, i_eqT, b1T, b1F, q2] <;> rfl)
theorem l_X9_twin {u : Nat} (h : GS m r s) (hu : u < 24) (hu2 : gU (xG s) u ≠ -2) : ∃ m', m_X9_twin_14 (am_i u) (am_i u) (fun u11 m12 => some (u11, m12)) am_F (am_i (-1)) (am_i 0) m = some (am_i (twB (twP (gU (xG s)) u) (twA (gM (xG s)) u) 24), m') ∧ GS m' r s := by
  refine Exists.elim (lo_inv (fun n j (t : Int32 × am_m) => m_X9_twin_14 (am_i u) (am_i u) (fun u11 m12 => some (u11, m12)) n t.1 (am_i (j : Int)) t.2) (fun j t => t.1 = am_i (twB (twP (gU (xG s)) u) (twA (gM (xG s)) u) j) ∧ GS t.2 r s) 0 24 (fun t => some (t.1, t.2)) (s0 := (am_i (-1), m)) (n := am_F) ⟨rfl, h⟩ (by omega) (am_Fv (by omega)) (fun n j t _ hj a => ?_) (fun n t a => rfl)) (fun t L => ?_)
  · obtain ⟨z2, m0⟩ := t
    obtain ⟨a1, a2⟩ := a
    dsimp only at a1 a2
    have hB := twB_r (twP (gU (xG s)) u) (twA (gM (xG s)) u) j
    have eB : twB (twP (gU (xG s)) u) (twA (gM (xG s)) u) (j + 1) = if twP (gU (xG s)) u j = true then (if twB (twP (gU (xG s)) u) (twA (gM (xG s)) u) j = -1 then (j : Int) else if twA (gM (xG s)) u j < twA (gM (xG s)) u (twB (twP (gU (xG s)) u) (twA (gM (xG s)) u) j).toNat then (j : Int) else twB (twP (gU (xG s)) u) (twA (gM (xG s)) u) j) else twB (twP (gU (xG s)) u) (twA (gM (xG s)) u) j := rfl
    show ∃ s' : Int32 × am_m, m_X9_twin_14 _ _ _ (n + 1) z2 _ m0 = m_X9_twin_14 _ _ _ n s'.1 _ s'.2 ∧ s'.1 = am_i (twB _ _ (j + 1)) ∧ _
    rw [eB, m_X9_twin_14, s_t9 a2 (by omega) (by omega), a1]
    generalize twB (twP (gU (xG s)) u) (twA (gM (xG s)) u) j = B at hB ⊢
    have t1 := twA_le h u j
    by_cases c1 : j = u
    · have e : ¬ twP (gU (xG s)) u j = true := by unfold twP; rw [c1]; simp
      rw [if_neg e, c1]
      refine ⟨(am_i B, m0), ?_, rfl, a2⟩
      (simp (disch := first | assumption | omega) only [i_add, i_sub, i_mul, i_lt, i_le, i_eq, i_ibt, i_ixn, i_ix, i_zero, am_letF, cond_true, cond_false, Option.bind_some, ↓reduceIte, m_si, m_sc, true_and, and_true, not_true_eq_false, not_false_eq_true, i_gtF, i_leT, i_geF, i_ltT, Int32.zero_add, Int.toNat_natCast, ix_own, ix_sum, ix_ver, ix_th, ix_ab, ix_st, ix_vm, ix_lim, ix_lim1, ix_lim2, ix_lim3, Int.toNat_zero, i_neF, i_eqT, b1T, b1F] <;> rfl)
    · cases c2 : thr (gU (xG s)) (j : Int)
      · have e : ¬ twP (gU (xG s)) u j = true := by unfold twP; rw [c2]; simp
        rw [if_neg e]
        refine ⟨(am_i B, m0), ?_, rfl, a2⟩
        (simp (disch := first | assumption | omega) only [i_add, i_sub, i_mul, i_lt, i_le, i_eq, i_ibt, i_ixn, i_ix, i_zero, am_letF, cond_true, cond_false, Option.bind_some, ↓reduceIte, m_si, m_sc, true_and, and_true, not_true_eq_false, not_false_eq_true, i_gtF, i_leT, i_geF, i_ltT, Int32.zero_add, Int.toNat_natCast, ix_own, ix_sum, ix_ver, ix_th, ix_ab, ix_st, ix_vm, ix_lim, ix_lim1, ix_lim2, ix_lim3, Int.toNat_zero, i_neF, i_eqT, b1T, b1F] <;> rfl)
      · have e : twP (gU (xG s)) u j = true := by unfold twP; rw [c2]; simp [c1]
        rw [if_pos e]
        obtain ⟨j', hj', ej, hj2⟩ := thr_i c2
        have ej' : j = j' := by omega
        subst ej'
        rcases hB with rfl | ⟨b, hb, rfl, hb2⟩
        · rw [if_pos rfl]
          refine ⟨(am_i j, m0), ?_, rfl, a2⟩
          (simp (disch := first | assumption | omega) only [i_add, i_sub, i_mul, i_lt, i_le, i_eq, i_ibt, i_ixn, i_ix, i_zero, am_letF, cond_true, cond_false, Option.bind_some, ↓reduceIte, m_si, m_sc, true_and, and_true, not_true_eq_false, not_false_eq_true, i_gtF, i_leT, i_geF, i_ltT, Int32.zero_add, Int.toNat_natCast, ix_own, ix_sum, ix_ver, ix_th, ix_ab, ix_st, ix_vm, ix_lim, ix_lim1, ix_lim2, ix_lim3, Int.toNat_zero, i_neF, i_eqT, b1T, b1F] <;> rfl)
        · have hb3 : thr (gU (xG s)) (b : Int) = true := by unfold twP at hb2; rw [Bool.and_eq_true] at hb2; exact hb2.2
          obtain ⟨b', hb', eb, hb4⟩ := thr_i hb3
          have eb' : b = b' := by omega
          subst eb'
          have t2 := twA_le h u b
          obtain ⟨m1, e1, k1, _⟩ := s_X9_unlikeU a2 hu hu2 hj hj2
          obtain ⟨m2, e2, k2, _⟩ := s_X9_unlikeU k1 hu hu2 hb' hb4
          have e1 : m_X9_unlike_ m0 (am_i u) (am_i j) = some (am_i (twA (gM (xG s)) u j : Nat), m1) := e1
          have e2 : m_X9_unlike_ m1 (am_i u) (am_i b) = some (am_i (twA (gM (xG s)) u b : Nat), m2) := e2
          rw [if_neg (show ¬ (b : Int) = -1 by omega), Int.toNat_natCast]
          by_cases c3 : twA (gM (xG s)) u j < twA (gM (xG s)) u b
          · rw [if_pos c3]
            refine ⟨(am_i j, m2), ?_, rfl, k2⟩
            (simp (disch := first | assumption | omega) only [i_add, i_sub, i_mul, i_lt, i_le, i_eq, i_ibt, i_ixn, i_ix, i_zero, am_letF, cond_true, cond_false, Option.bind_some, ↓reduceIte, m_si, m_sc, true_and, and_true, not_true_eq_false, not_false_eq_true, i_gtF, i_leT, i_geF, i_ltT, Int32.zero_add, Int.toNat_natCast, ix_own, ix_sum, ix_ver, ix_th, ix_ab, ix_st, ix_vm, ix_lim, ix_lim1, ix_lim2, ix_lim3, Int.toNat_zero, i_neF, i_eqT, b1T, b1F, e1, e2] <;> rfl)
          · rw [if_neg c3]
            refine ⟨(am_i b, m2), ?_, rfl, k2⟩
            (simp (disch := first | assumption | omega) only [i_add, i_sub, i_mul, i_lt, i_le, i_eq, i_ibt, i_ixn, i_ix, i_zero, am_letF, cond_true, cond_false, Option.bind_some, ↓reduceIte, m_si, m_sc, true_and, and_true, not_true_eq_false, not_false_eq_true, i_gtF, i_leT, i_geF, i_ltT, Int32.zero_add, Int.toNat_natCast, ix_own, ix_sum, ix_ver, ix_th, ix_ab, ix_st, ix_vm, ix_lim, ix_lim1, ix_lim2, ix_lim3, Int.toNat_zero, i_neF, i_eqT, b1T, b1F, e1, e2] <;> rfl)
  · obtain ⟨⟨a1, a2⟩, a3⟩ := L
    refine ⟨t.2, ?_, a2⟩
    refine a3.trans ?_
    rw [a1]
theorem q_twin (h : GS m r s) (a : Int32) : ∃ y m', m_X8_twin m a = some y ∧ m_X9_twin m a = some (y, m') ∧ Good m' r := by
  obtain ⟨x, h1, h2, rfl⟩ := i_any a
  unfold m_X8_twin m_X9_twin
  rw [s_t8 h h1 h2, s_t9 h h1 h2]
  cases c : thr (gU (xG s)) x
  · exact ⟨_, m, rfl, rfl, h.g⟩
  · obtain ⟨u, hu, rfl, hu2⟩ := thr_i c
    obtain ⟨m', e, k⟩ := l_X9_twin h hu hu2
    refine ⟨am_i (twB (twP (gU (xG s)) u) (twA (gM (xG s)) u) 24), m', ?_, ?_, k.g⟩
    · rw [Option.bind_some, if_pos (by decide)]
      exact l_X8_twin h hu
    · rw [Option.bind_some, if_pos (by decide)]
      exact e
/-- the deepest of those that P holds of, the first -/
def whB (P : Nat → Bool) (d : Nat → Nat) : Nat → Int
  | 0 => -1
  | j + 1 => if P j = true then (if whB P d j = -1 then (j : Int) else if d (whB P d j).toNat < d j then (j : Int) else whB P d j) else whB P d j
theorem whB_r (P : Nat → Bool) (d : Nat → Nat) : ∀ j, whB P d j = -1 ∨ ∃ b : Nat, b < j ∧ whB P d j = b ∧ P b = true := by
  intro j
  induction j with
  | zero => exact Or.inl rfl
  | succ j ih =>
    show (if P j = true then (if whB P d j = -1 then (j : Int) else if d (whB P d j).toNat < d j then (j : Int) else whB P d j) else whB P d j) = -1 ∨ ∃ b : Nat, b < j + 1 ∧ (if P j = true then (if whB P d j = -1 then (j : Int) else if d (whB P d j).toNat < d j then (j : Int) else whB P d j) else whB P d j) = b ∧ P b = true
    by_cases hp : P j = true
    · rw [if_pos hp]
      refine Or.inr ?_
      rcases ih with h | ⟨b, h1, h2, h3⟩
      · rw [if_pos h]
        exact ⟨j, by omega, rfl, hp⟩
      · rw [h2, if_neg (by omega)]
        split
        · exact ⟨j, by omega, rfl, hp⟩
        · exact ⟨b, by omega, rfl, h3⟩
    · rw [if_neg hp]
      rcases ih with h | ⟨b, h1, h2, h3⟩
      · exact Or.inl h
      · exact Or.inr ⟨b, by omega, h2, h3⟩
def whP (up : Nat → Int) (M : Nat → Nat → Nat) (c k j : Nat) : Bool := thr up j && decide (k ≤ M j c)
theorem l_X8_where {c k : Nat} (h : GS m r s) (hc : c < 64) (hk : k ≤ 999999) : m_X8_where_25 (am_i c) (am_i k) m (am_i c) (am_i k) (fun u15 => some u15) am_F (am_i (-1)) (am_i 0) = some (am_i (whB (whP (gU (xG s)) (gM (xG s)) c k) (gD (xG s)) 24)) := by
  refine lo_go (fun n j (t : Int32) => m_X8_where_25 (am_i c) (am_i k) m (am_i c) (am_i k) (fun u15 => some u15) n t (am_i (j : Int))) (fun j => am_i (whB (whP (gU (xG s)) (gM (xG s)) c k) (gD (xG s)) j)) 0 24 rfl (by omega) (am_Fv (by omega)) (fun n j _ hj => ?_) (fun n => rfl)
  have hB := whB_r (whP (gU (xG s)) (gM (xG s)) c k) (gD (xG s)) j
  have eB : whB (whP (gU (xG s)) (gM (xG s)) c k) (gD (xG s)) (j + 1) = if whP (gU (xG s)) (gM (xG s)) c k j = true then (if whB (whP (gU (xG s)) (gM (xG s)) c k) (gD (xG s)) j = -1 then (j : Int) else if gD (xG s) (whB (whP (gU (xG s)) (gM (xG s)) c k) (gD (xG s)) j).toNat < gD (xG s) j then (j : Int) else whB (whP (gU (xG s)) (gM (xG s)) c k) (gD (xG s)) j) else whB (whP (gU (xG s)) (gM (xG s)) c k) (gD (xG s)) j := rfl
  show m_X8_where_25 _ _ m _ _ _ (n + 1) (am_i (whB _ _ j)) _ = m_X8_where_25 _ _ m _ _ _ n (am_i (whB _ _ (j + 1))) _
  rw [eB, m_X8_where_25, s_t8 h (by omega) (by omega)]
  generalize whB (whP (gU (xG s)) (gM (xG s)) c k) (gD (xG s)) j = B at hB ⊢
  have b1' := h.ig.2.2.1 j c
  have e1 := (h.xc hj).1 c hc
  cases c2 : thr (gU (xG s)) (j : Int)
  · have e : ¬ whP (gU (xG s)) (gM (xG s)) c k j = true := by unfold whP; rw [c2]; simp
    rw [if_neg e]
    (simp (disch := first | assumption | omega) only [i_add, i_sub, i_mul, i_lt, i_le, i_eq, i_ibt, i_ixn, i_ix, i_zero, am_letF, cond_true, cond_false, Option.bind_some, ↓reduceIte, m_si, m_sc, true_and, and_true, not_true_eq_false, not_false_eq_true, i_gtF, i_leT, i_geF, i_ltT, Int32.zero_add, Int.toNat_natCast, ix_own, ix_sum, ix_ver, ix_th, ix_ab, ix_st, ix_vm, ix_lim, ix_lim1, ix_lim2, ix_lim3, Int.toNat_zero, i_neF, i_eqT, b1T, b1F] <;> rfl)
  · obtain ⟨j', hj', ej, hj2⟩ := thr_i c2
    have ej' : j = j' := by omega
    subst ej'
    by_cases c3 : k ≤ gM (xG s) j c
    · have e : whP (gU (xG s)) (gM (xG s)) c k j = true := by unfold whP; rw [c2, decide_eq_true c3]; rfl
      rw [if_pos e]
      have d1 := s_X1_depthOf h.tc h.tr hj hj2
      have d3 := h.tr.2.2.2.1 j
      rcases hB with rfl | ⟨b, hb, rfl, hb2⟩
      · rw [if_pos rfl]
        (simp (disch := first | assumption | omega) only [i_add, i_sub, i_mul, i_lt, i_le, i_eq, i_ibt, i_ixn, i_ix, i_zero, am_letF, cond_true, cond_false, Option.bind_some, ↓reduceIte, m_si, m_sc, true_and, and_true, not_true_eq_false, not_false_eq_true, i_gtF, i_leT, i_geF, i_ltT, Int32.zero_add, Int.toNat_natCast, ix_own, ix_sum, ix_ver, ix_th, ix_ab, ix_st, ix_vm, ix_lim, ix_lim1, ix_lim2, ix_lim3, Int.toNat_zero, i_neF, i_eqT, b1T, b1F, e1] <;> rfl)
      · have hb3 : thr (gU (xG s)) (b : Int) = true := by unfold whP at hb2; rw [Bool.and_eq_true] at hb2; exact hb2.1
        obtain ⟨b', hb', eb, hb4⟩ := thr_i hb3
        have eb' : b = b' := by omega
        subst eb'
        have d2 := s_X1_depthOf h.tc h.tr hb' hb4
        have d4 := h.tr.2.2.2.1 b
        rw [if_neg (show ¬ (b : Int) = -1 by omega), Int.toNat_natCast]
        by_cases c4 : gD (xG s) b < gD (xG s) j
        · rw [if_pos c4]
          (simp (disch := first | assumption | omega) only [i_add, i_sub, i_mul, i_lt, i_le, i_eq, i_ibt, i_ixn, i_ix, i_zero, am_letF, cond_true, cond_false, Option.bind_some, ↓reduceIte, m_si, m_sc, true_and, and_true, not_true_eq_false, not_false_eq_true, i_gtF, i_leT, i_geF, i_ltT, Int32.zero_add, Int.toNat_natCast, ix_own, ix_sum, ix_ver, ix_th, ix_ab, ix_st, ix_vm, ix_lim, ix_lim1, ix_lim2, ix_lim3, Int.toNat_zero, i_neF, i_eqT, b1T, b1F, e1, d1, d2] <;> rfl)
        · rw [if_neg c4]
          (simp (disch := first | assumption | omega) only [i_add, i_sub, i_mul, i_lt, i_le, i_eq, i_ibt, i_ixn, i_ix, i_zero, am_letF, cond_true, cond_false, Option.bind_some, ↓reduceIte, m_si, m_sc, true_and, and_true, not_true_eq_false, not_false_eq_true, i_gtF, i_leT, i_geF, i_ltT, Int32.zero_add, Int.toNat_natCast, ix_own, ix_sum, ix_ver, ix_th, ix_ab, ix_st, ix_vm, ix_lim, ix_lim1, ix_lim2, ix_lim3, Int.toNat_zero, i_neF, i_eqT, b1T, b1F, e1, d1, d2] <;> rfl)
    · have e : ¬ whP (gU (xG s)) (gM (xG s)) c k j = true := by unfold whP; rw [c2, decide_eq_false c3]; simp
      rw [if_neg e]
      (simp (disch := first | assumption | omega) only [i_add, i_sub, i_mul, i_lt, i_le, i_eq, i_ibt, i_ixn, i_ix, i_zero, am_letF, cond_true, cond_false, Option.bind_some, ↓reduceIte, m_si, m_sc, true_and, and_true, not_true_eq_false, not_false_eq_true, i_gtF, i_leT, i_geF, i_ltT, Int32.zero_add, Int.toNat_natCast, ix_own, ix_sum, ix_ver, ix_th, ix_ab, ix_st, ix_vm, ix_lim, ix_lim1, ix_lim2, ix_lim3, Int.toNat_zero, i_neF, i_eqT, b1T, b1F, e1] <;> rfl)
theorem l_X9_where {c k : Nat} (h : GS m r s) (hc : c < 64) (hk : k ≤ 999999) : m_X9_where_24 (am_i c) (am_i k) m (am_i c) (am_i k) (fun u15 => some u15) am_F (am_i (-1)) (am_i 0) = some (am_i (whB (whP (gU (xG s)) (gM (xG s)) c k) (gD (xG s)) 24)) := by
  refine lo_go (fun n j (t : Int32) => m_X9_where_24 (am_i c) (am_i k) m (am_i c) (am_i k) (fun u15 => some u15) n t (am_i (j : Int))) (fun j => am_i (whB (whP (gU (xG s)) (gM (xG s)) c k) (gD (xG s)) j)) 0 24 rfl (by omega) (am_Fv (by omega)) (fun n j _ hj => ?_) (fun n => rfl)
  have hB := whB_r (whP (gU (xG s)) (gM (xG s)) c k) (gD (xG s)) j
  have eB : whB (whP (gU (xG s)) (gM (xG s)) c k) (gD (xG s)) (j + 1) = if whP (gU (xG s)) (gM (xG s)) c k j = true then (if whB (whP (gU (xG s)) (gM (xG s)) c k) (gD (xG s)) j = -1 then (j : Int) else if gD (xG s) (whB (whP (gU (xG s)) (gM (xG s)) c k) (gD (xG s)) j).toNat < gD (xG s) j then (j : Int) else whB (whP (gU (xG s)) (gM (xG s)) c k) (gD (xG s)) j) else whB (whP (gU (xG s)) (gM (xG s)) c k) (gD (xG s)) j := rfl
  show m_X9_where_24 _ _ m _ _ _ (n + 1) (am_i (whB _ _ j)) _ = m_X9_where_24 _ _ m _ _ _ n (am_i (whB _ _ (j + 1))) _
  rw [eB, m_X9_where_24, s_t9 h (by omega) (by omega)]
  unfold m_X9_sumAt
  generalize whB (whP (gU (xG s)) (gM (xG s)) c k) (gD (xG s)) j = B at hB ⊢
  have b1' := h.ig.2.2.1 j c
  have e1 := (h.xm hj).1 c hc
  cases c2 : thr (gU (xG s)) (j : Int)
  · have e : ¬ whP (gU (xG s)) (gM (xG s)) c k j = true := by unfold whP; rw [c2]; simp
    rw [if_neg e]
    (simp (disch := first | assumption | omega) only [i_add, i_sub, i_mul, i_lt, i_le, i_eq, i_ibt, i_ixn, i_ix, i_zero, am_letF, cond_true, cond_false, Option.bind_some, ↓reduceIte, m_si, m_sc, true_and, and_true, not_true_eq_false, not_false_eq_true, i_gtF, i_leT, i_geF, i_ltT, Int32.zero_add, Int.toNat_natCast, ix_own, ix_sum, ix_ver, ix_th, ix_ab, ix_st, ix_vm, ix_lim, ix_lim1, ix_lim2, ix_lim3, Int.toNat_zero, i_neF, i_eqT, b1T, b1F] <;> rfl)
  · obtain ⟨j', hj', ej, hj2⟩ := thr_i c2
    have ej' : j = j' := by omega
    subst ej'
    by_cases c3 : k ≤ gM (xG s) j c
    · have e : whP (gU (xG s)) (gM (xG s)) c k j = true := by unfold whP; rw [c2, decide_eq_true c3]; rfl
      rw [if_pos e]
      have d1 := s_X9_depth h.tm h.tr hj hj2
      have d3 := h.tr.2.2.2.1 j
      rcases hB with rfl | ⟨b, hb, rfl, hb2⟩
      · rw [if_pos rfl]
        (simp (disch := first | assumption | omega) only [i_add, i_sub, i_mul, i_lt, i_le, i_eq, i_ibt, i_ixn, i_ix, i_zero, am_letF, cond_true, cond_false, Option.bind_some, ↓reduceIte, m_si, m_sc, true_and, and_true, not_true_eq_false, not_false_eq_true, i_gtF, i_leT, i_geF, i_ltT, Int32.zero_add, Int.toNat_natCast, ix_own, ix_sum, ix_ver, ix_th, ix_ab, ix_st, ix_vm, ix_lim, ix_lim1, ix_lim2, ix_lim3, Int.toNat_zero, i_neF, i_eqT, b1T, b1F, e1] <;> rfl)
      · have hb3 : thr (gU (xG s)) (b : Int) = true := by unfold whP at hb2; rw [Bool.and_eq_true] at hb2; exact hb2.1
        obtain ⟨b', hb', eb, hb4⟩ := thr_i hb3
        have eb' : b = b' := by omega
        subst eb'
        have d2 := s_X9_depth h.tm h.tr hb' hb4
        have d4 := h.tr.2.2.2.1 b
        rw [if_neg (show ¬ (b : Int) = -1 by omega), Int.toNat_natCast]
        by_cases c4 : gD (xG s) b < gD (xG s) j
        · rw [if_pos c4]
          (simp (disch := first | assumption | omega) only [i_add, i_sub, i_mul, i_lt, i_le, i_eq, i_ibt, i_ixn, i_ix, i_zero, am_letF, cond_true, cond_false, Option.bind_some, ↓reduceIte, m_si, m_sc, true_and, and_true, not_true_eq_false, not_false_eq_true, i_gtF, i_leT, i_geF, i_ltT, Int32.zero_add, Int.toNat_natCast, ix_own, ix_sum, ix_ver, ix_th, ix_ab, ix_st, ix_vm, ix_lim, ix_lim1, ix_lim2, ix_lim3, Int.toNat_zero, i_neF, i_eqT, b1T, b1F, e1, d1, d2] <;> rfl)
        · rw [if_neg c4]
          (simp (disch := first | assumption | omega) only [i_add, i_sub, i_mul, i_lt, i_le, i_eq, i_ibt, i_ixn, i_ix, i_zero, am_letF, cond_true, cond_false, Option.bind_some, ↓reduceIte, m_si, m_sc, true_and, and_true, not_true_eq_false, not_false_eq_true, i_gtF, i_leT, i_geF, i_ltT, Int32.zero_add, Int.toNat_natCast, ix_own, ix_sum, ix_ver, ix_th, ix_ab, ix_st, ix_vm, ix_lim, ix_lim1, ix_lim2, ix_lim3, Int.toNat_zero, i_neF, i_eqT, b1T, b1F, e1, d1, d2] <;> rfl)
    · have e : ¬ whP (gU (xG s)) (gM (xG s)) c k j = true := by unfold whP; rw [c2, decide_eq_false c3]; simp
      rw [if_neg e]
      (simp (disch := first | assumption | omega) only [i_add, i_sub, i_mul, i_lt, i_le, i_eq, i_ibt, i_ixn, i_ix, i_zero, am_letF, cond_true, cond_false, Option.bind_some, ↓reduceIte, m_si, m_sc, true_and, and_true, not_true_eq_false, not_false_eq_true, i_gtF, i_leT, i_geF, i_ltT, Int32.zero_add, Int.toNat_natCast, ix_own, ix_sum, ix_ver, ix_th, ix_ab, ix_st, ix_vm, ix_lim, ix_lim1, ix_lim2, ix_lim3, Int.toNat_zero, i_neF, i_eqT, b1T, b1F, e1] <;> rfl)
theorem q_where (h : GS m r s) (a b : Int32) : ∃ y, m_X8_where m a b = some y ∧ m_X9_where m a b = some y := by
  obtain ⟨x, h1, h2, rfl⟩ := i_any a
  obtain ⟨z, h3, h4, rfl⟩ := i_any b
  by_cases c1 : 0 ≤ x ∧ x ≤ 63
  · by_cases c2 : 1 ≤ z ∧ z ≤ 999999
    · obtain ⟨c, rfl⟩ : ∃ d : Nat, x = d := ⟨x.toNat, by omega⟩
      obtain ⟨k, rfl⟩ : ∃ d : Nat, z = d := ⟨z.toNat, by omega⟩
      refine ⟨am_i (whB (whP (gU (xG s)) (gM (xG s)) c k) (gD (xG s)) 24), ?_, ?_⟩
      rotate_left
      · unfold m_X9_where
        rw [s_c9 h1 h2, if_pos c1, Option.bind_some, if_neg (by decide), s_X9_isIn h3 h4 (by decide) (by decide) (by decide) (by decide), if_pos c2, Option.bind_some, if_pos (by decide)]
        exact l_X9_where h (by omega) (by omega)
      · unfold m_X8_where
        rw [s_c8 h1 h2, if_pos c1, Option.bind_some, if_neg (by decide), if_neg (by rw [i_lt (by omega) (by omega) (by omega) (by omega)]; omega), if_pos (by rw [i_le (by omega) (by omega) (by omega) (by omega)]; omega)]
        exact l_X8_where h (by omega) (by omega)
    · refine ⟨am_i (-1), ?_, ?_⟩
      · unfold m_X8_where
        rw [s_c8 h1 h2, if_pos c1, Option.bind_some, if_neg (by decide)]
        by_cases c3 : z < 1
        · rw [if_pos (by rw [i_lt (by omega) (by omega) (by omega) (by omega)]; omega)]
        · rw [if_neg (by rw [i_lt (by omega) (by omega) (by omega) (by omega)]; omega), if_neg (by rw [i_le (by omega) (by omega) (by omega) (by omega)]; omega)]
      · unfold m_X9_where
        rw [s_c9 h1 h2, if_pos c1, Option.bind_some, if_neg (by decide), s_X9_isIn h3 h4 (by decide) (by decide) (by decide) (by decide), if_neg c2, Option.bind_some, if_neg (by decide)]
  · refine ⟨am_i (-1), ?_, ?_⟩
    · unfold m_X8_where
      rw [s_c8 h1 h2, if_neg c1, Option.bind_some, if_pos (by decide)]
    · unfold m_X9_where
      rw [s_c9 h1 h2, if_neg c1, Option.bind_some, if_pos (by decide)]
def ldsP (up : Nat → Int) (M : Nat → Nat → Nat) (c j : Nat) : Bool := thr up j && (ldI (M j) 0 == (c : Int))
theorem q_leads (h : GS m r s) (a : Int32) : ∃ y, m_X8_leads m a = some y ∧ m_X9_leads m a = some y := by
  obtain ⟨x, h1, h2, rfl⟩ := i_any a
  unfold m_X8_leads m_X9_leads
  rw [s_c8 h1 h2, s_c9 h1 h2]
  by_cases c1 : 0 ≤ x ∧ x ≤ 63
  · obtain ⟨c, rfl⟩ : ∃ d : Nat, x = d := ⟨x.toNat, by omega⟩
    rw [if_pos c1]
    refine ⟨stL (ldsP (gU (xG s)) (gM (xG s)) c) 24, ?_, ?_⟩
    · rw [Option.bind_some, if_pos (by decide)]
      refine lo_go (fun n j (t : Int32) => m_X8_leads_13 (am_i c) m (am_i c) (fun u9 => some u9) n t (am_i (j : Int))) (fun j => stL (ldsP (gU (xG s)) (gM (xG s)) c) j) 0 24 rfl (by omega) (am_Fv (by omega)) (fun n j _ hj => ?_) (fun n => rfl)
      show m_X8_leads_13 _ m _ _ (n + 1) _ _ = m_X8_leads_13 _ m _ _ n (if ldsP (gU (xG s)) (gM (xG s)) c j = true then stL (ldsP (gU (xG s)) (gM (xG s)) c) j ||| ((am_i 1) <<< (am_i (j : Int) &&& 31)) else stL (ldsP (gU (xG s)) (gM (xG s)) c) j) _
      have rg := ldI_r (f := gM (xG s) j) 0
      have q := s_X5_firstLeader (h.xc hj)
      rw [m_X8_leads_13, s_t8 h (by omega) (by omega)]
      cases c2 : thr (gU (xG s)) (j : Int)
      · rw [if_neg (show ¬ ldsP (gU (xG s)) (gM (xG s)) c j = true by unfold ldsP; rw [c2]; simp)]
        (simp (disch := first | assumption | omega) only [i_add, i_sub, i_mul, i_lt, i_le, i_eq, i_ibt, i_ixn, i_ix, i_zero, am_letF, cond_true, cond_false, Option.bind_some, ↓reduceIte, m_si, m_sc, true_and, and_true, not_true_eq_false, not_false_eq_true, i_gtF, i_leT, i_geF, i_ltT, Int32.zero_add, Int.toNat_natCast, ix_own, ix_sum, ix_ver, ix_th, ix_ab, ix_st, ix_vm, ix_lim, ix_lim1, ix_lim2, ix_lim3, Int.toNat_zero, i_neF, i_eqT, b1T, b1F] <;> rfl)
      · by_cases c3 : ldI (gM (xG s) j) 0 = (c : Int)
        · rw [if_pos (show ldsP (gU (xG s)) (gM (xG s)) c j = true by unfold ldsP; rw [c2]; simp [c3])]
          (simp (disch := first | assumption | omega) only [i_add, i_sub, i_mul, i_lt, i_le, i_eq, i_ibt, i_ixn, i_ix, i_zero, am_letF, cond_true, cond_false, Option.bind_some, ↓reduceIte, m_si, m_sc, true_and, and_true, not_true_eq_false, not_false_eq_true, i_gtF, i_leT, i_geF, i_ltT, Int32.zero_add, Int.toNat_natCast, ix_own, ix_sum, ix_ver, ix_th, ix_ab, ix_st, ix_vm, ix_lim, ix_lim1, ix_lim2, ix_lim3, Int.toNat_zero, i_neF, i_eqT, b1T, b1F, q] <;> rfl)
        · rw [if_neg (show ¬ ldsP (gU (xG s)) (gM (xG s)) c j = true by unfold ldsP; rw [c2]; simp [c3])]
          (simp (disch := first | assumption | omega) only [i_add, i_sub, i_mul, i_lt, i_le, i_eq, i_ibt, i_ixn, i_ix, i_zero, am_letF, cond_true, cond_false, Option.bind_some, ↓reduceIte, m_si, m_sc, true_and, and_true, not_true_eq_false, not_false_eq_true, i_gtF, i_leT, i_geF, i_ltT, Int32.zero_add, Int.toNat_natCast, ix_own, ix_sum, ix_ver, ix_th, ix_ab, ix_st, ix_vm, ix_lim, ix_lim1, ix_lim2, ix_lim3, Int.toNat_zero, i_neF, i_eqT, b1T, b1F, q] <;> rfl)
    · rw [Option.bind_some, if_pos (by decide)]
      refine lo_go (fun n j (t : Int32) => m_X9_leads_13 (am_i c) m (am_i c) (fun u9 => some u9) n t (am_i (j : Int))) (fun j => stL (ldsP (gU (xG s)) (gM (xG s)) c) j) 0 24 rfl (by omega) (am_Fv (by omega)) (fun n j _ hj => ?_) (fun n => rfl)
      show m_X9_leads_13 _ m _ _ (n + 1) _ _ = m_X9_leads_13 _ m _ _ n (if ldsP (gU (xG s)) (gM (xG s)) c j = true then stL (ldsP (gU (xG s)) (gM (xG s)) c) j ||| ((am_i 1) <<< (am_i (j : Int) &&& 31)) else stL (ldsP (gU (xG s)) (gM (xG s)) c) j) _
      have rg := ldI_r (f := gM (xG s) j) 0
      have q := s_X9_leaderOf (i := 0) (h.xm hj) hj (by decide) (by decide)
      rw [m_X9_leads_13, s_t9 h (by omega) (by omega)]
      cases c2 : thr (gU (xG s)) (j : Int)
      · rw [if_neg (show ¬ ldsP (gU (xG s)) (gM (xG s)) c j = true by unfold ldsP; rw [c2]; simp)]
        (simp (disch := first | assumption | omega) only [i_add, i_sub, i_mul, i_lt, i_le, i_eq, i_ibt, i_ixn, i_ix, i_zero, am_letF, cond_true, cond_false, Option.bind_some, ↓reduceIte, m_si, m_sc, true_and, and_true, not_true_eq_false, not_false_eq_true, i_gtF, i_leT, i_geF, i_ltT, Int32.zero_add, Int.toNat_natCast, ix_own, ix_sum, ix_ver, ix_th, ix_ab, ix_st, ix_vm, ix_lim, ix_lim1, ix_lim2, ix_lim3, Int.toNat_zero, i_neF, i_eqT, b1T, b1F] <;> rfl)
      · by_cases c3 : ldI (gM (xG s) j) 0 = (c : Int)
        · rw [if_pos (show ldsP (gU (xG s)) (gM (xG s)) c j = true by unfold ldsP; rw [c2]; simp [c3])]
          (simp (disch := first | assumption | omega) only [i_add, i_sub, i_mul, i_lt, i_le, i_eq, i_ibt, i_ixn, i_ix, i_zero, am_letF, cond_true, cond_false, Option.bind_some, ↓reduceIte, m_si, m_sc, true_and, and_true, not_true_eq_false, not_false_eq_true, i_gtF, i_leT, i_geF, i_ltT, Int32.zero_add, Int.toNat_natCast, ix_own, ix_sum, ix_ver, ix_th, ix_ab, ix_st, ix_vm, ix_lim, ix_lim1, ix_lim2, ix_lim3, Int.toNat_zero, i_neF, i_eqT, b1T, b1F, q] <;> rfl)
        · rw [if_neg (show ¬ ldsP (gU (xG s)) (gM (xG s)) c j = true by unfold ldsP; rw [c2]; simp [c3])]
          (simp (disch := first | assumption | omega) only [i_add, i_sub, i_mul, i_lt, i_le, i_eq, i_ibt, i_ixn, i_ix, i_zero, am_letF, cond_true, cond_false, Option.bind_some, ↓reduceIte, m_si, m_sc, true_and, and_true, not_true_eq_false, not_false_eq_true, i_gtF, i_leT, i_geF, i_ltT, Int32.zero_add, Int.toNat_natCast, ix_own, ix_sum, ix_ver, ix_th, ix_ab, ix_st, ix_vm, ix_lim, ix_lim1, ix_lim2, ix_lim3, Int.toNat_zero, i_neF, i_eqT, b1T, b1F, q] <;> rfl)
  · rw [if_neg c1]
    exact ⟨_, rfl, rfl⟩
end Q3
