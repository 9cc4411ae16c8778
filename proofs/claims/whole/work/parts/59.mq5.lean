/-! ===== mathematics: calls that ask, 5: broken, look ===== -/
section Q5
variable {m : am_m} {r : am_rr} {s : Sx}
/-- by how much a limit is broken -/
def exK (g : Og) (k : Bk) (i : Nat) : Int := if gU g (bkU k i) = -2 then 0 else ((su (gM g (bkU k i)) (bkH k i + 1) : Nat) : Int) - (su (gM g (bkU k i)) (bkL k i) : Nat) - (bkM k i : Int)
theorem exK_b (h : GS m r s) {i : Nat} (hi : i < bkN (xB s)) : -2000000 ≤ exK (xG s) (xB s) i ∧ exK (xG s) (xB s) i ≤ 20000000 := by
  have hb := h.2.2.2.2.1.2 i hi
  unfold exK
  split
  · omega
  · have a1 : su (gM (xG s) (bkU (xB s) i)) (bkH (xB s) i + 1) ≤ su (gM (xG s) (bkU (xB s) i)) 64 := su_mono (by omega)
    have a2 : su (gM (xG s) (bkU (xB s) i)) (bkL (xB s) i) ≤ su (gM (xG s) (bkU (xB s) i)) (bkH (xB s) i + 1) := su_mono (by omega)
    have a3 := h.ig.su (bkU (xB s) i)
    omega
theorem s_X8_excessOver {i : Nat} (h : GS m r s) (hi : i < bkN (xB s)) : m_X8_excessOver m (am_i i) = some (am_i (exK (xG s) (xB s) i)) := by
  have hn := h.2.2.2.2.1.1
  have hb := h.2.2.2.2.1.2 i hi
  obtain ⟨e1, e2, e3, e4⟩ := h.2.1.2.1.2.2.1 i hi (by omega)
  unfold m_X8_excessOver exK
  rw [i_ibt (by omega) (by omega) (by omega), cond_true, i_ixn (by omega), e1, s_t8 h (by omega) (by omega), Option.bind_some]
  by_cases c : gU (xG s) (bkU (xB s) i) = -2
  · rw [if_pos c, thr_f c]
    rfl
  · have e5 := s_X5_totalOf (lo := bkL (xB s) i) (hi := bkH (xB s) i) (h.xc hb.1) (by omega) (by omega)
    rw [if_neg c, thr_t hb.1 c, if_pos (by decide), i_ibt (by omega) (by omega) (by omega), cond_true, cond_true, cond_true, e2, e3, e4, i_ixn (by omega), e5, Option.bind_some, cond_true, i_sub]
theorem s_X9_over {i : Nat} (h : GS m r s) (hi : i < bkN (xB s)) : m_X9_over m (am_i i) = some (am_i (exK (xG s) (xB s) i)) := by
  have hn := h.2.2.2.2.1.1
  have hb := h.2.2.2.2.1.2 i hi
  obtain ⟨e1, e2, e3, e4⟩ := h.2.2.1.2.1.2.2.1 i hi (by omega)
  have x1 : am_ix (am_i 15468 + am_i 4 * am_i (i : Int)) = 15468 + 4 * i := by rw [i_mul, i_add, i_ix (by omega) (by omega)]; omega
  have x2 : am_ix (am_i 15468 + am_i 4 * am_i (i : Int) + am_i 1) = 15468 + 4 * i + 1 := by rw [i_mul, i_add, i_add, i_ix (by omega) (by omega)]; omega
  have x3 : am_ix (am_i 15468 + am_i 4 * am_i (i : Int) + am_i 2) = 15468 + 4 * i + 2 := by rw [i_mul, i_add, i_add, i_ix (by omega) (by omega)]; omega
  have x4 : am_ix (am_i 15468 + am_i 4 * am_i (i : Int) + am_i 3) = 15468 + 4 * i + 3 := by rw [i_mul, i_add, i_add, i_ix (by omega) (by omega)]; omega
  have y1 : am_ib (am_i 15468 + am_i 4 * am_i (i : Int)) 15517 = true := by rw [i_mul, i_add, i_ibt (by omega) (by omega) (by omega)]
  have y2 : am_ib (am_i 15468 + am_i 4 * am_i (i : Int) + am_i 1) 15517 = true := by rw [i_mul, i_add, i_add, i_ibt (by omega) (by omega) (by omega)]
  have y3 : am_ib (am_i 15468 + am_i 4 * am_i (i : Int) + am_i 2) 15517 = true := by rw [i_mul, i_add, i_add, i_ibt (by omega) (by omega) (by omega)]
  have y4 : am_ib (am_i 15468 + am_i 4 * am_i (i : Int) + am_i 3) 15517 = true := by rw [i_mul, i_add, i_add, i_ibt (by omega) (by omega) (by omega)]
  unfold m_X9_over exK
  rw [y1, cond_true, x1, e1, s_t9 h (by omega) (by omega), Option.bind_some]
  by_cases c : gU (xG s) (bkU (xB s) i) = -2
  · rw [if_pos c, thr_f c]
    rfl
  · rw [if_neg c, thr_t hb.1 c, if_pos (by decide), y2, cond_true, y4, x2, x4, e2, e4]
    refine lo_go (fun n j t => m_X9_over_41 (am_i i) m (am_i i) (am_i (bkU (xB s) i)) (fun u9 => bif true then some (u9 - am_i (bkM (xB s) i)) else none) n t (am_i (j : Int))) (fun j => am_i ((su (gM (xG s) (bkU (xB s) i)) j : Nat) - (su (gM (xG s) (bkU (xB s) i)) (bkL (xB s) i) : Nat) : Int)) (bkL (xB s) i) (bkH (xB s) i + 1) (by rw [Int.sub_self]) (by omega) (am_Fv (by omega)) (fun n j hj1 hj => ?_) (fun n => ?_)
    · have f1 := (h.xm hb.1).1 j (by omega)
      have f2 := h.ig.2.2.1 (bkU (xB s) i) j
      show m_X9_over_41 _ m _ _ _ (n + 1) _ _ = _
      rw [m_X9_over_41, y3, x3, e3]
      unfold m_X9_sumAt
      simp (disch := first | assumption | omega) only [i_add, i_sub, i_mul, i_lt, i_le, i_eq, i_ibt, i_ixn, i_ix, i_zero, am_letF, cond_true, cond_false, Option.bind_some, ↓reduceIte, m_si, m_sc, true_and, and_true, not_true_eq_false, not_false_eq_true, i_gtF, i_leT, i_geF, i_ltT, Int32.zero_add, Int.toNat_natCast, ix_own, ix_sum, ix_ver, ix_th, ix_ab, ix_st, ix_vm, ix_lim, ix_lim1, ix_lim2, ix_lim3, Int.toNat_zero, i_neF, i_eqT, b1T, b1F, f1]
      rw [su_i]
      congr 2
      omega
    · show m_X9_over_41 _ m _ _ _ (n + 1) _ _ = _
      rw [m_X9_over_41, y3, x3, e3]
      simp (disch := first | assumption | omega) only [i_add, i_sub, i_mul, i_lt, i_le, i_eq, i_ibt, i_ixn, i_ix, i_zero, am_letF, cond_true, cond_false, Option.bind_some, ↓reduceIte, m_si, m_sc, true_and, and_true, not_true_eq_false, not_false_eq_true, i_gtF, i_leT, i_geF, i_ltT, Int32.zero_add, Int.toNat_natCast, ix_own, ix_sum, ix_ver, ix_th, ix_ab, ix_st, ix_vm, ix_lim, ix_lim1, ix_lim2, ix_lim3, Int.toNat_zero, i_neF, i_eqT, b1T, b1F]
/-- how many are broken, of the first n -/
def bkP (g : Og) (k : Bk) (i : Nat) : Bool := decide (0 < exK g k i)
theorem s_X8_brokenCount (h : GS m r s) : m_X8_brokenCount m = some (am_i (cn (bkP (xG s) (xB s)) (bkN (xB s)) : Nat)) := by
  have hn := h.2.2.2.2.1.1
  unfold m_X8_brokenCount
  refine lo_go (fun n j t => m_X8_brokenCount_4 m (fun u5 => some u5) n t (am_i (j : Int))) (fun j => am_i (cn (bkP (xG s) (xB s)) j : Nat)) 0 (bkN (xB s)) rfl (by omega) (am_Fv (by omega)) (fun n j _ hj => ?_) (fun n => ?_)
  · have e1 := s_X8_excessOver h hj
    have e2 := exK_b h hj
    show m_X8_brokenCount_4 m _ (n + 1) _ _ = m_X8_brokenCount_4 m _ n (am_i ((cn (bkP (xG s) (xB s)) (j + 1) : Nat) : Int)) _
    rw [m_X8_brokenCount_4, h.2.1.2.1.2.1, cn_s]
    by_cases c : 0 < exK (xG s) (xB s) j
    · have e : bkP (xG s) (xB s) j = true := decide_eq_true c
      rw [e]
      (simp (disch := first | assumption | omega) only [i_add, i_sub, i_mul, i_lt, i_le, i_eq, i_ibt, i_ixn, i_ix, i_zero, am_letF, cond_true, cond_false, Option.bind_some, ↓reduceIte, m_si, m_sc, true_and, and_true, not_true_eq_false, not_false_eq_true, i_gtF, i_leT, i_geF, i_ltT, Int32.zero_add, Int.toNat_natCast, ix_own, ix_sum, ix_ver, ix_th, ix_ab, ix_st, ix_vm, ix_lim, ix_lim1, ix_lim2, ix_lim3, Int.toNat_zero, i_neF, i_eqT, b1T, b1F, e1] <;> rfl)
    · have e : bkP (xG s) (xB s) j = false := decide_eq_false c
      rw [e, b1F, Int.add_zero]
      (simp (disch := first | assumption | omega) only [i_add, i_sub, i_mul, i_lt, i_le, i_eq, i_ibt, i_ixn, i_ix, i_zero, am_letF, cond_true, cond_false, Option.bind_some, ↓reduceIte, m_si, m_sc, true_and, and_true, not_true_eq_false, not_false_eq_true, i_gtF, i_leT, i_geF, i_ltT, Int32.zero_add, Int.toNat_natCast, ix_own, ix_sum, ix_ver, ix_th, ix_ab, ix_st, ix_vm, ix_lim, ix_lim1, ix_lim2, ix_lim3, Int.toNat_zero, i_neF, i_eqT, b1T, b1F, e1] <;> rfl)
  · show m_X8_brokenCount_4 m _ (n + 1) _ _ = _
    rw [m_X8_brokenCount_4, h.2.1.2.1.2.1]
    simp (disch := first | assumption | omega) only [i_add, i_sub, i_mul, i_lt, i_le, i_eq, i_ibt, i_ixn, i_ix, i_zero, am_letF, cond_true, cond_false, Option.bind_some, ↓reduceIte, m_si, m_sc, true_and, and_true, not_true_eq_false, not_false_eq_true, i_gtF, i_leT, i_geF, i_ltT, Int32.zero_add, Int.toNat_natCast, ix_own, ix_sum, ix_ver, ix_th, ix_ab, ix_st, ix_vm, ix_lim, ix_lim1, ix_lim2, ix_lim3, Int.toNat_zero, i_neF, i_eqT, b1T, b1F]
/-- the i-th broken one: the first that is broken with i ahead -/
def bkF (g : Og) (k : Bk) (i : Int) : Nat := fi (fun j => bkP g k j && ((cn (bkP g k) j : Nat) : Int) == i) (bkN k)
theorem s_X8_broken {i w : Int} (h : GS m r s) (h1 : 0 ≤ i) (h2 : i ≤ 2147483647) (h3 : 0 ≤ w) (h4 : w ≤ 1) : m_X8_broken m (am_i i) (am_i w) = some (if bkF (xG s) (xB s) i < bkN (xB s) then (if w = 0 then am_i (bkU (xB s) (bkF (xG s) (xB s) i)) else am_i (exK (xG s) (xB s) (bkF (xG s) (xB s) i))) else am_i (-1)) := by
  have hn := h.2.2.2.2.1.1
  unfold m_X8_broken
  rw [if_pos (by rw [i_eq (by omega) (by omega) (by omega) (by omega)]; omega), if_neg (by rw [i_zero, i_lt (by omega) (by omega) (by omega) (by omega)]; omega), if_neg (by rw [i_zero, i_lt (by omega) (by omega) (by omega) (by omega)]; omega), if_pos (by rw [i_le (by omega) (by omega) (by omega) (by omega)]; omega)]
  refine (lo_seek (fun n j t => m_X8_broken_30 (am_i i) (am_i w) m (am_i i) (am_i w) (some (am_i (-1))) n t (am_i (j : Int))) (fun j => am_i (cn (bkP (xG s) (xB s)) j : Nat)) (bkN (xB s)) (fun j => bkP (xG s) (xB s) j && ((cn (bkP (xG s) (xB s)) j : Nat) : Int) == i) (fun j => some (if w = 0 then am_i (bkU (xB s) j) else am_i (exK (xG s) (xB s) j))) (some (am_i (-1))) rfl (am_Fv (by omega)) ?_ ?_ ?_).trans ?_
  · intro n j hj hp
    have e1 := s_X8_excessOver h hj
    have e2 := exK_b h hj
    have e3 := cn_le (bkP (xG s) (xB s)) j
    show m_X8_broken_30 _ _ m _ _ _ (n + 1) _ _ = m_X8_broken_30 _ _ m _ _ _ n (am_i ((cn (bkP (xG s) (xB s)) (j + 1) : Nat) : Int)) _
    rw [m_X8_broken_30, h.2.1.2.1.2.1, cn_s]
    by_cases c : 0 < exK (xG s) (xB s) j
    · have e : bkP (xG s) (xB s) j = true := decide_eq_true c
      rw [e] at hp ⊢
      have hp2 : ¬ ((cn (bkP (xG s) (xB s)) j : Nat) : Int) = i := by simpa using hp
      (simp (disch := first | assumption | omega) only [i_add, i_sub, i_mul, i_lt, i_le, i_eq, i_ibt, i_ixn, i_ix, i_zero, am_letF, cond_true, cond_false, Option.bind_some, ↓reduceIte, m_si, m_sc, true_and, and_true, not_true_eq_false, not_false_eq_true, i_gtF, i_leT, i_geF, i_ltT, Int32.zero_add, Int.toNat_natCast, ix_own, ix_sum, ix_ver, ix_th, ix_ab, ix_st, ix_vm, ix_lim, ix_lim1, ix_lim2, ix_lim3, Int.toNat_zero, i_neF, i_eqT, b1T, b1F, e1] <;> rfl)
    · have e : bkP (xG s) (xB s) j = false := decide_eq_false c
      rw [e, b1F, Int.add_zero]
      (simp (disch := first | assumption | omega) only [i_add, i_sub, i_mul, i_lt, i_le, i_eq, i_ibt, i_ixn, i_ix, i_zero, am_letF, cond_true, cond_false, Option.bind_some, ↓reduceIte, m_si, m_sc, true_and, and_true, not_true_eq_false, not_false_eq_true, i_gtF, i_leT, i_geF, i_ltT, Int32.zero_add, Int.toNat_natCast, ix_own, ix_sum, ix_ver, ix_th, ix_ab, ix_st, ix_vm, ix_lim, ix_lim1, ix_lim2, ix_lim3, Int.toNat_zero, i_neF, i_eqT, b1T, b1F, e1] <;> rfl)
  · intro n j hj hp
    have e1 := s_X8_excessOver h hj
    have e2 := exK_b h hj
    have e3 := cn_le (bkP (xG s) (xB s)) j
    rw [Bool.and_eq_true] at hp
    have c : 0 < exK (xG s) (xB s) j := of_decide_eq_true hp.1
    have hp2 : ((cn (bkP (xG s) (xB s)) j : Nat) : Int) = i := by simpa using hp.2
    have e4 := (h.2.1.2.1.2.2.1 j hj (by omega)).1
    show m_X8_broken_30 _ _ m _ _ _ (n + 1) _ _ = _
    rw [m_X8_broken_30, h.2.1.2.1.2.1]
    by_cases c2 : w = 0
    · rw [if_pos c2]
      simp (disch := first | assumption | omega) only [i_add, i_sub, i_mul, i_lt, i_le, i_eq, i_ibt, i_ixn, i_ix, i_zero, am_letF, cond_true, cond_false, Option.bind_some, ↓reduceIte, m_si, m_sc, true_and, and_true, not_true_eq_false, not_false_eq_true, i_gtF, i_leT, i_geF, i_ltT, Int32.zero_add, Int.toNat_natCast, ix_own, ix_sum, ix_ver, ix_th, ix_ab, ix_st, ix_vm, ix_lim, ix_lim1, ix_lim2, ix_lim3, Int.toNat_zero, i_neF, i_eqT, b1T, b1F, e1, e4]
    · rw [if_neg c2]
      simp (disch := first | assumption | omega) only [i_add, i_sub, i_mul, i_lt, i_le, i_eq, i_ibt, i_ixn, i_ix, i_zero, am_letF, cond_true, cond_false, Option.bind_some, ↓reduceIte, m_si, m_sc, true_and, and_true, not_true_eq_false, not_false_eq_true, i_gtF, i_leT, i_geF, i_ltT, Int32.zero_add, Int.toNat_natCast, ix_own, ix_sum, ix_ver, ix_th, ix_ab, ix_st, ix_vm, ix_lim, ix_lim1, ix_lim2, ix_lim3, Int.toNat_zero, i_neF, i_eqT, b1T, b1F, e1, e4]
  · intro n
    show m_X8_broken_30 _ _ m _ _ _ (n + 1) _ _ = _
    rw [m_X8_broken_30, h.2.1.2.1.2.1]
    simp (disch := first | assumption | omega) only [i_add, i_sub, i_mul, i_lt, i_le, i_eq, i_ibt, i_ixn, i_ix, i_zero, am_letF, cond_true, cond_false, Option.bind_some, ↓reduceIte, m_si, m_sc, true_and, and_true, not_true_eq_false, not_false_eq_true, i_gtF, i_leT, i_geF, i_ltT, Int32.zero_add, Int.toNat_natCast, ix_own, ix_sum, ix_ver, ix_th, ix_ab, ix_st, ix_vm, ix_lim, ix_lim1, ix_lim2, ix_lim3, Int.toNat_zero, i_neF, i_eqT, b1T, b1F]
  · unfold bkF
    split <;> rfl
theorem s_X9_broken {i w : Int} (h : GS m r s) (h1 : -2147483648 ≤ i) (h2 : i ≤ 2147483647) (h3 : -2147483648 ≤ w) (h4 : w ≤ 2147483647) : m_X9_broken m (am_i i) (am_i w) = some (if bkF (xG s) (xB s) i < bkN (xB s) then (if w = 0 then am_i (bkU (xB s) (bkF (xG s) (xB s) i)) else if w = 1 then am_i (exK (xG s) (xB s) (bkF (xG s) (xB s) i)) else am_i (-1)) else if i = -1 then am_i (cn (bkP (xG s) (xB s)) (bkN (xB s)) : Nat) else am_i (-1)) := by
  have hn := h.2.2.2.2.1.1
  have yl : am_ib (am_i 15467) 15517 = true := by decide
  have xl : am_ix (am_i 15467) = 15467 := by decide
  unfold m_X9_broken
  refine (lo_seek (fun n j t => m_X9_broken_5 (am_i i) (am_i w) m (am_i i) (am_i w) (fun u10 => if ¬ am_i i = am_i (-1) then some (am_i (-1)) else some u10) n t (am_i (j : Int))) (fun j => am_i (cn (bkP (xG s) (xB s)) j : Nat)) (bkN (xB s)) (fun j => bkP (xG s) (xB s) j && ((cn (bkP (xG s) (xB s)) j : Nat) : Int) == i) (fun j => some (if w = 0 then am_i (bkU (xB s) j) else if w = 1 then am_i (exK (xG s) (xB s) j) else am_i (-1))) (some (if i = -1 then am_i (cn (bkP (xG s) (xB s)) (bkN (xB s)) : Nat) else am_i (-1))) rfl (am_Fv (by omega)) ?_ ?_ ?_).trans ?_
  · intro n j hj hp
    have e1 := s_X9_over h hj
    have e2 := exK_b h hj
    have e3 := cn_le (bkP (xG s) (xB s)) j
    show m_X9_broken_5 _ _ m _ _ _ (n + 1) _ _ = m_X9_broken_5 _ _ m _ _ _ n (am_i ((cn (bkP (xG s) (xB s)) (j + 1) : Nat) : Int)) _
    rw [m_X9_broken_5, yl, xl, h.2.2.1.2.1.2.1, cn_s]
    by_cases c : 0 < exK (xG s) (xB s) j
    · have e : bkP (xG s) (xB s) j = true := decide_eq_true c
      rw [e] at hp ⊢
      have hp2 : ¬ ((cn (bkP (xG s) (xB s)) j : Nat) : Int) = i := by simpa using hp
      (simp (disch := first | assumption | omega) only [i_add, i_sub, i_mul, i_lt, i_le, i_eq, i_ibt, i_ixn, i_ix, i_zero, am_letF, cond_true, cond_false, Option.bind_some, ↓reduceIte, m_si, m_sc, true_and, and_true, not_true_eq_false, not_false_eq_true, i_gtF, i_leT, i_geF, i_ltT, Int32.zero_add, Int.toNat_natCast, ix_own, ix_sum, ix_ver, ix_th, ix_ab, ix_st, ix_vm, ix_lim, ix_lim1, ix_lim2, ix_lim3, Int.toNat_zero, i_neF, i_eqT, b1T, b1F, e1] <;> rfl)
    · have e : bkP (xG s) (xB s) j = false := decide_eq_false c
      rw [e, b1F, Int.add_zero]
      (simp (disch := first | assumption | omega) only [i_add, i_sub, i_mul, i_lt, i_le, i_eq, i_ibt, i_ixn, i_ix, i_zero, am_letF, cond_true, cond_false, Option.bind_some, ↓reduceIte, m_si, m_sc, true_and, and_true, not_true_eq_false, not_false_eq_true, i_gtF, i_leT, i_geF, i_ltT, Int32.zero_add, Int.toNat_natCast, ix_own, ix_sum, ix_ver, ix_th, ix_ab, ix_st, ix_vm, ix_lim, ix_lim1, ix_lim2, ix_lim3, Int.toNat_zero, i_neF, i_eqT, b1T, b1F, e1] <;> rfl)
  · intro n j hj hp
    have e1 := s_X9_over h hj
    have e2 := exK_b h hj
    have e3 := cn_le (bkP (xG s) (xB s)) j
    rw [Bool.and_eq_true] at hp
    have c : 0 < exK (xG s) (xB s) j := of_decide_eq_true hp.1
    have hp2 : ((cn (bkP (xG s) (xB s)) j : Nat) : Int) = i := by simpa using hp.2
    have e4 := (h.2.2.1.2.1.2.2.1 j hj (by omega)).1
    show m_X9_broken_5 _ _ m _ _ _ (n + 1) _ _ = _
    rw [m_X9_broken_5, yl, xl, h.2.2.1.2.1.2.1]
    by_cases c2 : w = 0
    · rw [if_pos c2]
      simp (disch := first | assumption | omega) only [i_add, i_sub, i_mul, i_lt, i_le, i_eq, i_ibt, i_ixn, i_ix, i_zero, am_letF, cond_true, cond_false, Option.bind_some, ↓reduceIte, m_si, m_sc, true_and, and_true, not_true_eq_false, not_false_eq_true, i_gtF, i_leT, i_geF, i_ltT, Int32.zero_add, Int.toNat_natCast, ix_own, ix_sum, ix_ver, ix_th, ix_ab, ix_st, ix_vm, ix_lim, ix_lim1, ix_lim2, ix_lim3, Int.toNat_zero, i_neF, i_eqT, b1T, b1F, e1, e4]
    · rw [if_neg c2]
      by_cases c3 : w = 1
      · rw [if_pos c3]
        simp (disch := first | assumption | omega) only [i_add, i_sub, i_mul, i_lt, i_le, i_eq, i_ibt, i_ixn, i_ix, i_zero, am_letF, cond_true, cond_false, Option.bind_some, ↓reduceIte, m_si, m_sc, true_and, and_true, not_true_eq_false, not_false_eq_true, i_gtF, i_leT, i_geF, i_ltT, Int32.zero_add, Int.toNat_natCast, ix_own, ix_sum, ix_ver, ix_th, ix_ab, ix_st, ix_vm, ix_lim, ix_lim1, ix_lim2, ix_lim3, Int.toNat_zero, i_neF, i_eqT, b1T, b1F, e1, e4]
      · rw [if_neg c3]
        simp (disch := first | assumption | omega) only [i_add, i_sub, i_mul, i_lt, i_le, i_eq, i_ibt, i_ixn, i_ix, i_zero, am_letF, cond_true, cond_false, Option.bind_some, ↓reduceIte, m_si, m_sc, true_and, and_true, not_true_eq_false, not_false_eq_true, i_gtF, i_leT, i_geF, i_ltT, Int32.zero_add, Int.toNat_natCast, ix_own, ix_sum, ix_ver, ix_th, ix_ab, ix_st, ix_vm, ix_lim, ix_lim1, ix_lim2, ix_lim3, Int.toNat_zero, i_neF, i_eqT, b1T, b1F, e1, e4]
  · intro n
    show m_X9_broken_5 _ _ m _ _ _ (n + 1) _ _ = _
    rw [m_X9_broken_5, yl, xl, h.2.2.1.2.1.2.1]
    by_cases c2 : i = -1
    · rw [if_pos c2]
      simp (disch := first | assumption | omega) only [i_add, i_sub, i_mul, i_lt, i_le, i_eq, i_ibt, i_ixn, i_ix, i_zero, am_letF, cond_true, cond_false, Option.bind_some, ↓reduceIte, m_si, m_sc, true_and, and_true, not_true_eq_false, not_false_eq_true, i_gtF, i_leT, i_geF, i_ltT, Int32.zero_add, Int.toNat_natCast, ix_own, ix_sum, ix_ver, ix_th, ix_ab, ix_st, ix_vm, ix_lim, ix_lim1, ix_lim2, ix_lim3, Int.toNat_zero, i_neF, i_eqT, b1T, b1F]
    · rw [if_neg c2]
      simp (disch := first | assumption | omega) only [i_add, i_sub, i_mul, i_lt, i_le, i_eq, i_ibt, i_ixn, i_ix, i_zero, am_letF, cond_true, cond_false, Option.bind_some, ↓reduceIte, m_si, m_sc, true_and, and_true, not_true_eq_false, not_false_eq_true, i_gtF, i_leT, i_geF, i_ltT, Int32.zero_add, Int.toNat_natCast, ix_own, ix_sum, ix_ver, ix_th, ix_ab, ix_st, ix_vm, ix_lim, ix_lim1, ix_lim2, ix_lim3, Int.toNat_zero, i_neF, i_eqT, b1T, b1F]
  · unfold bkF
    split <;> rfl
theorem bkF_no {g : Og} {k : Bk} {i : Int} (h : i < 0) : ¬ bkF g k i < bkN k := by
  unfold bkF
  intro q
  have := fi_is (fun j => bkP g k j && ((cn (bkP g k) j : Nat) : Int) == i) _ q
  rw [Bool.and_eq_true] at this
  have e : ((cn (bkP g k) (fi (fun j => bkP g k j && ((cn (bkP g k) j : Nat) : Int) == i) (bkN k)) : Nat) : Int) = i := by simpa using this.2
  omega
theorem q_broken (h : GS m r s) (a b : Int32) : ∃ y, m_X8_broken m a b = some y ∧ m_X9_broken m a b = some y := by
  obtain ⟨i, h1, h2, rfl⟩ := i_any a
  obtain ⟨w, h3, h4, rfl⟩ := i_any b
  rw [s_X9_broken h h1 h2 h3 h4]
  refine ⟨_, ?_, rfl⟩
  by_cases c1 : i < 0
  · rw [if_neg (bkF_no c1)]
    by_cases c2 : i = -1
    · rw [if_pos c2]
      unfold m_X8_broken
      rw [c2, if_neg (by decide), s_X8_brokenCount h]
      rfl
    · rw [if_neg c2]
      unfold m_X8_broken
      rw [if_pos (by rw [i_eq (by omega) (by omega) (by omega) (by omega)]; omega), if_pos (by rw [i_zero, i_lt (by omega) (by omega) (by omega) (by omega)]; omega)]
  · rw [if_neg (show ¬ i = -1 by omega)]
    by_cases c3 : 0 ≤ w ∧ w ≤ 1
    · rw [s_X8_broken h (by omega) h2 c3.1 c3.2]
      by_cases c4 : w = 0
      · simp only [c4, if_true]
      · simp only [show w = 1 by omega, show ¬ (1 : Int) = 0 by decide, if_true, if_false]
    · have e : (if bkF (xG s) (xB s) i < bkN (xB s) then (if w = 0 then am_i (bkU (xB s) (bkF (xG s) (xB s) i)) else if w = 1 then am_i (exK (xG s) (xB s) (bkF (xG s) (xB s) i)) else am_i (-1)) else am_i (-1)) = am_i (-1) := by
        rw [if_neg (show ¬ w = 0 by omega), if_neg (show ¬ w = 1 by omega)]
        split <;> rfl
      rw [e]
      unfold m_X8_broken
      rw [if_pos (by rw [i_eq (by omega) (by omega) (by omega) (by omega)]; omega), if_neg (by rw [i_zero, i_lt (by omega) (by omega) (by omega) (by omega)]; omega)]
      by_cases c5 : w < 0
      · rw [if_pos (by rw [i_zero, i_lt (by omega) (by omega) (by omega) (by omega)]; omega)]
      · rw [if_neg (by rw [i_zero, i_lt (by omega) (by omega) (by omega) (by omega)]; omega), if_neg (by rw [i_le (by omega) (by omega) (by omega) (by omega)]; omega)]
/-! look -/
theorem l_rightSet (h : GS m r s) : ∃ m1, m_X8_rightSet m = some (stL (fun k => thr (gU (xG s)) (k : Int) && eqR (gM (xG s) k) (gB (xG s) k)) 24, m1) ∧ GS m1 r s := by
  obtain ⟨m1, e1, k1, g1⟩ := l_branch8 h
  refine ⟨m1, ?_, k1⟩
  unfold m_X8_rightSet
  rw [e1, Option.bind_some]
  refine lo_go (fun n j (t : Int32) => m_X8_rightSet_15 m1 (fun u9 => some (u9, m1)) n t (am_i (j : Int))) (fun j => stL (fun k => thr (gU (xG s)) (k : Int) && eqR (gM (xG s) k) (gB (xG s) k)) j) 0 24 rfl (by omega) (am_Fv (by omega)) (fun n j _ hj => ?_) (fun n => rfl)
  show m_X8_rightSet_15 m1 _ (n + 1) _ _ = m_X8_rightSet_15 m1 _ n (if (thr (gU (xG s)) (j : Int) && eqR (gM (xG s) j) (gB (xG s) j)) = true then stL _ j ||| ((am_i 1) <<< (am_i (j : Int) &&& 31)) else stL _ j) _
  rw [m_X8_rightSet_15, s_t8 k1 (by omega) (by omega)]
  cases c : thr (gU (xG s)) (j : Int)
  · rw [if_neg (show ¬ (false && _) = true by rw [Bool.false_and]; decide)]
    (simp (disch := first | assumption | omega) only [i_add, i_sub, i_mul, i_lt, i_le, i_eq, i_ibt, i_ixn, i_ix, i_zero, am_letF, cond_true, cond_false, Option.bind_some, ↓reduceIte, m_si, m_sc, true_and, and_true, not_true_eq_false, not_false_eq_true, i_gtF, i_leT, i_geF, i_ltT, Int32.zero_add, Int.toNat_natCast, ix_own, ix_sum, ix_ver, ix_th, ix_ab, ix_st, ix_vm, ix_lim, ix_lim1, ix_lim2, ix_lim3, Int.toNat_zero, i_neF, i_eqT, b1T, b1F] <;> rfl)
  · obtain ⟨j', hj', ej, hj2⟩ := thr_i c
    have ej' : j = j' := by omega
    subst ej'
    have q := s_X5_unlikeness (k1.xc hj) (g1 j hj hj2)
    have hu5 : su (un (gM (xG s) j) (gB (xG s) j)) 64 ≤ 64 * 1000000 := su_b (un_b (fun c => Nat.le_trans (h.ig.2.2.1 j c) (by decide)) (fun c => Nat.le_trans (gB_le h.ig j c) (by decide))) 64
    by_cases z : su (un (gM (xG s) j) (gB (xG s) j)) 64 = 0
    · rw [if_pos (show (true && eqR (gM (xG s) j) (gB (xG s) j)) = true by rw [Bool.true_and]; exact decide_eq_true z)]
      (simp (disch := first | assumption | omega) only [i_add, i_sub, i_mul, i_lt, i_le, i_eq, i_ibt, i_ixn, i_ix, i_zero, am_letF, cond_true, cond_false, Option.bind_some, ↓reduceIte, m_si, m_sc, true_and, and_true, not_true_eq_false, not_false_eq_true, i_gtF, i_leT, i_geF, i_ltT, Int32.zero_add, Int.toNat_natCast, ix_own, ix_sum, ix_ver, ix_th, ix_ab, ix_st, ix_vm, ix_lim, ix_lim1, ix_lim2, ix_lim3, Int.toNat_zero, i_neF, i_eqT, b1T, b1F, q] <;> rfl)
    · rw [if_neg (show ¬ (true && eqR (gM (xG s) j) (gB (xG s) j)) = true by rw [Bool.true_and]; exact fun e => z (of_decide_eq_true e))]
      (simp (disch := first | assumption | omega) only [i_add, i_sub, i_mul, i_lt, i_le, i_eq, i_ibt, i_ixn, i_ix, i_zero, am_letF, cond_true, cond_false, Option.bind_some, ↓reduceIte, m_si, m_sc, true_and, and_true, not_true_eq_false, not_false_eq_true, i_gtF, i_leT, i_geF, i_ltT, Int32.zero_add, Int.toNat_natCast, ix_own, ix_sum, ix_ver, ix_th, ix_ab, ix_st, ix_vm, ix_lim, ix_lim1, ix_lim2, ix_lim3, Int.toNat_zero, i_neF, i_eqT, b1T, b1F, q] <;> rfl)
theorem l_rightOnes (h : GS m r s) : ∃ m1, m_X9_rightOnes m = some (stL (fun k => thr (gU (xG s)) (k : Int) && eqR (gM (xG s) k) (gB (xG s) k)) 24, m1) ∧ GS m1 r s := by
  unfold m_X9_rightOnes
  refine Exists.elim (lo_inv (fun n j (t : Int32 × am_m) => m_X9_rightOnes_4 (fun u6 m7 => some (u6, m7)) n t.1 (am_i (j : Int)) t.2) (fun j t => t.1 = stL (fun k => thr (gU (xG s)) (k : Int) && eqR (gM (xG s) k) (gB (xG s) k)) j ∧ GS t.2 r s) 0 24 (fun t => some (t.1, t.2)) (s0 := (am_i 0, m)) (n := am_F) ⟨rfl, h⟩ (by omega) (am_Fv (by omega)) (fun n j t _ hj a => ?_) (fun n t a => rfl)) (fun t L => ?_)
  · obtain ⟨z1, m0⟩ := t
    obtain ⟨a1, a2⟩ := a
    dsimp only at a1 a2
    show ∃ s' : Int32 × am_m, m_X9_rightOnes_4 _ (n + 1) z1 _ m0 = m_X9_rightOnes_4 _ n s'.1 _ s'.2 ∧ s'.1 = (if (thr (gU (xG s)) (j : Int) && eqR (gM (xG s) j) (gB (xG s) j)) = true then stL _ j ||| ((am_i 1) <<< (am_i (j : Int) &&& 31)) else stL _ j) ∧ _
    rw [m_X9_rightOnes_4, s_t9 a2 (by omega) (by omega), a1]
    cases c : thr (gU (xG s)) (j : Int)
    · rw [if_neg (show ¬ (false && _) = true by rw [Bool.false_and]; decide)]
      refine ⟨(stL (fun k => thr (gU (xG s)) (k : Int) && eqR (gM (xG s) k) (gB (xG s) k)) j, m0), ?_, rfl, a2⟩
      simp (disch := first | assumption | omega) only [i_add, i_sub, i_mul, i_lt, i_le, i_eq, i_ibt, i_ixn, i_ix, i_zero, am_letF, cond_true, cond_false, Option.bind_some, ↓reduceIte, m_si, m_sc, true_and, and_true, not_true_eq_false, not_false_eq_true, i_gtF, i_leT, i_geF, i_ltT, Int32.zero_add, Int.toNat_natCast, ix_own, ix_sum, ix_ver, ix_th, ix_ab, ix_st, ix_vm, ix_lim, ix_lim1, ix_lim2, ix_lim3, Int.toNat_zero, i_neF, i_eqT, b1T, b1F]
      rw [or_0]
      rfl
    · obtain ⟨m1, e1, k1⟩ := s_X9_isRight a2 hj
      by_cases z : eqR (gM (xG s) j) (gB (xG s) j) = true
      · rw [z] at e1 ⊢
        rw [if_pos (show (true && true) = true from rfl)]
        refine ⟨(stL (fun k => thr (gU (xG s)) (k : Int) && eqR (gM (xG s) k) (gB (xG s) k)) j ||| ((am_i 1) <<< (am_i (j : Int) &&& 31)), m1), ?_, rfl, k1⟩
        (simp (disch := first | assumption | omega) only [i_add, i_sub, i_mul, i_lt, i_le, i_eq, i_ibt, i_ixn, i_ix, i_zero, am_letF, cond_true, cond_false, Option.bind_some, ↓reduceIte, m_si, m_sc, true_and, and_true, not_true_eq_false, not_false_eq_true, i_gtF, i_leT, i_geF, i_ltT, Int32.zero_add, Int.toNat_natCast, ix_own, ix_sum, ix_ver, ix_th, ix_ab, ix_st, ix_vm, ix_lim, ix_lim1, ix_lim2, ix_lim3, Int.toNat_zero, i_neF, i_eqT, b1T, b1F, e1] <;> rfl)
      · rw [Bool.eq_false_iff.mpr z] at e1 ⊢
        rw [if_neg (show ¬ (true && false) = true by decide)]
        refine ⟨(stL (fun k => thr (gU (xG s)) (k : Int) && eqR (gM (xG s) k) (gB (xG s) k)) j, m1), ?_, rfl, k1⟩
        simp (disch := first | assumption | omega) only [i_add, i_sub, i_mul, i_lt, i_le, i_eq, i_ibt, i_ixn, i_ix, i_zero, am_letF, cond_true, cond_false, Option.bind_some, ↓reduceIte, m_si, m_sc, true_and, and_true, not_true_eq_false, not_false_eq_true, i_gtF, i_leT, i_geF, i_ltT, Int32.zero_add, Int.toNat_natCast, ix_own, ix_sum, ix_ver, ix_th, ix_ab, ix_st, ix_vm, ix_lim, ix_lim1, ix_lim2, ix_lim3, Int.toNat_zero, i_neF, i_eqT, b1T, b1F, e1]
        rw [or_0]
        rfl
  · obtain ⟨⟨a1, a2⟩, a3⟩ := L
    refine ⟨t.2, ?_, a2⟩
    refine a3.trans ?_
    rw [a1]
theorem l_deepest (h : GS m r s) : m_X9_deepest m = some (am_i (hgt (gU (xG s)) (gD (xG s)) 0 24)) := by
  unfold m_X9_deepest
  refine lo_go (fun n j (t : Int32) => m_X9_deepest_4 m (fun u7 => some u7) n t (am_i (j : Int))) (fun j => am_i (hgt (gU (xG s)) (gD (xG s)) 0 j)) 0 24 rfl (by omega) (am_Fv (by omega)) (fun n j _ hj => ?_) (fun n => rfl)
  show m_X9_deepest_4 m _ (n + 1) _ _ = m_X9_deepest_4 m _ n (am_i ((if (thr (gU (xG s)) (j : Int) && inB (gU (xG s)) (gD (xG s)) j 0) = true then max (hgt (gU (xG s)) (gD (xG s)) 0 j) (gD (xG s) j - gD (xG s) 0) else hgt (gU (xG s)) (gD (xG s)) 0 j : Nat) : Int)) _
  have b1' := hgt_le h.tr 0 j
  rw [m_X9_deepest_4, s_t9 h (by omega) (by omega)]
  cases c : thr (gU (xG s)) (j : Int)
  · rw [if_neg (show ¬ (false && _) = true by rw [Bool.false_and]; decide)]
    (simp (disch := first | assumption | omega) only [i_add, i_sub, i_mul, i_lt, i_le, i_eq, i_ibt, i_ixn, i_ix, i_zero, am_letF, cond_true, cond_false, Option.bind_some, ↓reduceIte, m_si, m_sc, true_and, and_true, not_true_eq_false, not_false_eq_true, i_gtF, i_leT, i_geF, i_ltT, Int32.zero_add, Int.toNat_natCast, ix_own, ix_sum, ix_ver, ix_th, ix_ab, ix_st, ix_vm, ix_lim, ix_lim1, ix_lim2, ix_lim3, Int.toNat_zero, i_neF, i_eqT, b1T, b1F] <;> rfl)
  · obtain ⟨j', hj', ej, hj2⟩ := thr_i c
    have ej' : j = j' := by omega
    subst ej'
    have d1 := s_X9_depth h.tm h.tr hj hj2
    have d2 := h.tr.2.2.2.1 j
    have i0 := inB_0 h.tr hj hj2
    rw [if_pos (show (true && inB (gU (xG s)) (gD (xG s)) j 0) = true by rw [Bool.true_and]; exact i0), h.tr.2.1]
    by_cases z : gD (xG s) j ≤ hgt (gU (xG s)) (gD (xG s)) 0 j
    · rw [show max (hgt (gU (xG s)) (gD (xG s)) 0 j) (gD (xG s) j - 0) = hgt (gU (xG s)) (gD (xG s)) 0 j by omega]
      (simp (disch := first | assumption | omega) only [i_add, i_sub, i_mul, i_lt, i_le, i_eq, i_ibt, i_ixn, i_ix, i_zero, am_letF, cond_true, cond_false, Option.bind_some, ↓reduceIte, m_si, m_sc, true_and, and_true, not_true_eq_false, not_false_eq_true, i_gtF, i_leT, i_geF, i_ltT, Int32.zero_add, Int.toNat_natCast, ix_own, ix_sum, ix_ver, ix_th, ix_ab, ix_st, ix_vm, ix_lim, ix_lim1, ix_lim2, ix_lim3, Int.toNat_zero, i_neF, i_eqT, b1T, b1F, d1] <;> rfl)
    · rw [show max (hgt (gU (xG s)) (gD (xG s)) 0 j) (gD (xG s) j - 0) = gD (xG s) j by omega]
      (simp (disch := first | assumption | omega) only [i_add, i_sub, i_mul, i_lt, i_le, i_eq, i_ibt, i_ixn, i_ix, i_zero, am_letF, cond_true, cond_false, Option.bind_some, ↓reduceIte, m_si, m_sc, true_and, and_true, not_true_eq_false, not_false_eq_true, i_gtF, i_leT, i_geF, i_ltT, Int32.zero_add, Int.toNat_natCast, ix_own, ix_sum, ix_ver, ix_th, ix_ab, ix_st, ix_vm, ix_lim, ix_lim1, ix_lim2, ix_lim3, Int.toNat_zero, i_neF, i_eqT, b1T, b1F, d1] <;> rfl)
/-- all that is there, one category -/
def alC (g : Og) (c k : Nat) : Nat := if thr (gU g) (k : Int) = true then gO g k c else 0
theorem gB_0 {g : Og} (hI : IG g) (c : Nat) : gB g 0 c = su (alC g c) 24 := by
  refine su_congr 24 (fun k hk => ?_)
  show brP _ _ _ 0 c k = _
  unfold brP alC
  cases e : thr (gU g) (k : Int)
  · rfl
  · obtain ⟨k', hk', ek, hk2⟩ := thr_i e
    have ek' : k = k' := by omega
    subst ek'
    rw [show inB (gU g) (gD g) k (0 : Nat) = true from inB_0 hI.1 hk hk2]
    rfl
theorem l_ownEntries (h : GS m r s) : m_X8_ownEntries m = some (am_i (su (gB (xG s) 0) 64 : Nat)) := by
  have e : su (gB (xG s) 0) 64 = su (fun k => if thr (gU (xG s)) (k : Int) = true then su (gO (xG s) k) 64 else 0) 24 := by
    rw [su_congr 64 (fun c _ => gB_0 h.ig c)]
    show su (fun c => su (fun k => alC (xG s) c k) 24) 64 = _
    rw [su_swap]
    refine su_congr 24 (fun k hk => ?_)
    unfold alC
    cases thr (gU (xG s)) (k : Int)
    · exact su_0 (fun _ _ => rfl)
    · rfl
  rw [e]
  unfold m_X8_ownEntries
  refine lo_go (fun n j (t : Int32) => m_X8_ownEntries_4 m (fun u6 => some u6) n t (am_i (j : Int))) (fun j => am_i (su (fun k => if thr (gU (xG s)) (k : Int) = true then su (gO (xG s) k) 64 else 0) j : Nat)) 0 24 rfl (by omega) (am_Fv (by omega)) (fun n j _ hj => ?_) (fun n => rfl)
  show m_X8_ownEntries_4 m _ (n + 1) _ _ = m_X8_ownEntries_4 m _ n (am_i ((su (fun k => if thr (gU (xG s)) (k : Int) = true then su (gO (xG s) k) 64 else 0) j + (if thr (gU (xG s)) (j : Int) = true then su (gO (xG s) j) 64 else 0) : Nat) : Int)) _
  have q := s_X5_allOf (h.wc hj)
  rw [m_X8_ownEntries_4, s_t8 h (by omega) (by omega)]
  cases c : thr (gU (xG s)) (j : Int)
  · (simp (disch := first | assumption | omega) only [i_add, i_sub, i_mul, i_lt, i_le, i_eq, i_ibt, i_ixn, i_ix, i_zero, am_letF, cond_true, cond_false, Option.bind_some, ↓reduceIte, m_si, m_sc, true_and, and_true, not_true_eq_false, not_false_eq_true, i_gtF, i_leT, i_geF, i_ltT, Int32.zero_add, Int.toNat_natCast, ix_own, ix_sum, ix_ver, ix_th, ix_ab, ix_st, ix_vm, ix_lim, ix_lim1, ix_lim2, ix_lim3, Int.toNat_zero, i_neF, i_eqT, b1T, b1F] <;> rfl)
  · rw [if_pos rfl]
    (simp (disch := first | assumption | omega) only [i_add, i_sub, i_mul, i_lt, i_le, i_eq, i_ibt, i_ixn, i_ix, i_zero, am_letF, cond_true, cond_false, Option.bind_some, ↓reduceIte, m_si, m_sc, true_and, and_true, not_true_eq_false, not_false_eq_true, i_gtF, i_leT, i_geF, i_ltT, Int32.zero_add, Int.toNat_natCast, ix_own, ix_sum, ix_ver, ix_th, ix_ab, ix_st, ix_vm, ix_lim, ix_lim1, ix_lim2, ix_lim3, Int.toNat_zero, i_neF, i_eqT, b1T, b1F, q] <;> rfl)
def mkO (g : Og) : Nat → Int64
  | 0 => Int64.ofNat 0
  | j + 1 => if thr (gU g) (j : Int) = true then mkO g j ||| mkL (gO g j) 64 else mkO g j
theorem mkO_bit (g : Og) (c : Nat) (hc : c < 64) : ∀ n, (jn (mkO g n)).testBit c = decide (0 < su (alC g c) n) := by
  intro n
  induction n with
  | zero =>
    have : jn (mkO g 0) = 0 := by show jn (Int64.ofNat 0) = 0; decide
    rw [this, Nat.zero_testBit]
    rfl
  | succ n ih =>
    show (jn (if thr (gU g) (n : Int) = true then mkO g n ||| mkL (gO g n) 64 else mkO g n)).testBit c = decide (0 < su (alC g c) n + alC g c n)
    unfold alC
    by_cases e : thr (gU g) (n : Int) = true
    · rw [if_pos e, if_pos e, jn_or, Nat.testBit_or, ih, mkL_bit _ 64 (by omega), decide_eq_true hc, Bool.true_and, ← Bool.decide_or]
      unfold alC
      congr 1
      apply propext
      omega
    · rw [if_neg e, if_neg e, ih]
      rfl
theorem l_unused (h : GS m r s) : m_X8_unusedCategories m = some (am_i 64 - am_i (pos (gB (xG s) 0) : Nat)) := by
  have e : pop (jn (mkO (xG s) 24)) = pos (gB (xG s) 0) := by
    unfold pop pos cn
    refine su_congr 64 (fun c hc => ?_)
    show b1 _ = b1 (decide (0 < gB (xG s) 0 c))
    rw [mkO_bit _ _ hc, gB_0 h.ig]
  unfold m_X8_unusedCategories
  refine lo_go (fun n j (t : Int64) => m_X8_unusedCategories_4 m (fun u6 => (m_J13_bitCount_95d88 m u6).bind fun q7 => some ((am_i 64) - q7)) n t (am_i (j : Int))) (fun j => mkO (xG s) j) 0 24 rfl (by omega) (am_Fv (by omega)) (fun n j _ hj => ?_) (fun n => ?_)
  · show m_X8_unusedCategories_4 m _ (n + 1) _ _ = m_X8_unusedCategories_4 m _ n (if thr (gU (xG s)) (j : Int) = true then mkO (xG s) j ||| mkL (gO (xG s) j) 64 else mkO (xG s) j) _
    have q := s_X6_maskOf (h.wc hj)
    rw [m_X8_unusedCategories_4, s_t8 h (by omega) (by omega)]
    cases c : thr (gU (xG s)) (j : Int)
    · (simp (disch := first | assumption | omega) only [i_add, i_sub, i_mul, i_lt, i_le, i_eq, i_ibt, i_ixn, i_ix, i_zero, am_letF, cond_true, cond_false, Option.bind_some, ↓reduceIte, m_si, m_sc, true_and, and_true, not_true_eq_false, not_false_eq_true, i_gtF, i_leT, i_geF, i_ltT, Int32.zero_add, Int.toNat_natCast, ix_own, ix_sum, ix_ver, ix_th, ix_ab, ix_st, ix_vm, ix_lim, ix_lim1, ix_lim2, ix_lim3, Int.toNat_zero, i_neF, i_eqT, b1T, b1F] <;> rfl)
    · rw [if_pos rfl]
      (simp (disch := first | assumption | omega) only [i_add, i_sub, i_mul, i_lt, i_le, i_eq, i_ibt, i_ixn, i_ix, i_zero, am_letF, cond_true, cond_false, Option.bind_some, ↓reduceIte, m_si, m_sc, true_and, and_true, not_true_eq_false, not_false_eq_true, i_gtF, i_leT, i_geF, i_ltT, Int32.zero_add, Int.toNat_natCast, ix_own, ix_sum, ix_ver, ix_th, ix_ab, ix_st, ix_vm, ix_lim, ix_lim1, ix_lim2, ix_lim3, Int.toNat_zero, i_neF, i_eqT, b1T, b1F, q] <;> rfl)
  · show m_X8_unusedCategories_4 m _ (n + 1) _ _ = _
    rw [m_X8_unusedCategories_4, if_pos (by decide), s_bitCount, e]
    rfl
def noS (g : Og) (k : Nat) : Nat := if thr (gU g) (k : Int) = true then com (gM g k) (gM g k) else 0
theorem l_X8_sumNodes (h : GS m r s) : m_X8_sumNodes m = some (am_i (su (noS (xG s)) 24 : Nat)) := by
  unfold m_X8_sumNodes
  refine lo_go (fun n j (t : Int32) => m_X8_sumNodes_4 m (fun u7 => some u7) n t (am_i (j : Int))) (fun j => am_i (su (noS (xG s)) j : Nat)) 0 24 rfl (by omega) (am_Fv (by omega)) (fun n j _ hj => ?_) (fun n => rfl)
  show m_X8_sumNodes_4 m _ (n + 1) _ _ = m_X8_sumNodes_4 m _ n (am_i ((su (noS (xG s)) j + noS (xG s) j : Nat) : Int)) _
  have q := s_X6_maskOf (h.xc hj)
  have q2 := s_X6_nodesOf (m := m) (Bm_mk (gM (xG s) j))
  unfold noS
  rw [m_X8_sumNodes_4, s_t8 h (by omega) (by omega)]
  cases c : thr (gU (xG s)) (j : Int)
  · (simp (disch := first | assumption | omega) only [i_add, i_sub, i_mul, i_lt, i_le, i_eq, i_ibt, i_ixn, i_ix, i_zero, am_letF, cond_true, cond_false, Option.bind_some, ↓reduceIte, m_si, m_sc, true_and, and_true, not_true_eq_false, not_false_eq_true, i_gtF, i_leT, i_geF, i_ltT, Int32.zero_add, Int.toNat_natCast, ix_own, ix_sum, ix_ver, ix_th, ix_ab, ix_st, ix_vm, ix_lim, ix_lim1, ix_lim2, ix_lim3, Int.toNat_zero, i_neF, i_eqT, b1T, b1F] <;> rfl)
  · rw [if_pos rfl]
    (simp (disch := first | assumption | omega) only [i_add, i_sub, i_mul, i_lt, i_le, i_eq, i_ibt, i_ixn, i_ix, i_zero, am_letF, cond_true, cond_false, Option.bind_some, ↓reduceIte, m_si, m_sc, true_and, and_true, not_true_eq_false, not_false_eq_true, i_gtF, i_leT, i_geF, i_ltT, Int32.zero_add, Int.toNat_natCast, ix_own, ix_sum, ix_ver, ix_th, ix_ab, ix_st, ix_vm, ix_lim, ix_lim1, ix_lim2, ix_lim3, Int.toNat_zero, i_neF, i_eqT, b1T, b1F, q, q2] <;> rfl)
theorem s_X9_nodesAt {off : Nat} {f : Nat → Nat} (h : GS m r s) (hw : RowW m off f) (ho : off + 64 ≤ 15517) : ∃ m1, m_X9_nodesAt m (am_i off) = some (am_i (com f f : Nat), m1) ∧ GS m1 r s ∧ Fr (fun b => b = 3267) m m1 := by
  obtain ⟨m1, e1, f1, g1⟩ := s_X9_lays (a := 3267) hw ho (by decide)
  refine ⟨m1, ?_, h.sc1 (f1.mono (fun b hb => by rw [hb]; unfold Scr; omega)), f1⟩
  unfold m_X9_nodesAt
  rw [e1, Option.bind_some, s_X9_nodes g1]
  rfl
theorem l_X9_sumNodes (h : GS m r s) : ∃ m1, m_X9_sumNodes m = some (am_i (su (noS (xG s)) 24 : Nat), m1) ∧ GS m1 r s := by
  unfold m_X9_sumNodes
  refine Exists.elim (lo_inv (fun n j (t : Int32 × am_m) => m_X9_sumNodes_4 (fun u6 m7 => some (u6, m7)) n t.1 (am_i (j : Int)) t.2) (fun j t => t.1 = am_i (su (noS (xG s)) j : Nat) ∧ GS t.2 r s) 0 24 (fun t => some (t.1, t.2)) (s0 := (am_i 0, m)) (n := am_F) ⟨rfl, h⟩ (by omega) (am_Fv (by omega)) (fun n j t _ hj a => ?_) (fun n t a => rfl)) (fun t L => ?_)
  · obtain ⟨z1, m0⟩ := t
    obtain ⟨a1, a2⟩ := a
    dsimp only at a1 a2
    show ∃ s' : Int32 × am_m, m_X9_sumNodes_4 _ (n + 1) z1 _ m0 = m_X9_sumNodes_4 _ n s'.1 _ s'.2 ∧ s'.1 = am_i ((su (noS (xG s)) j + noS (xG s) j : Nat) : Int) ∧ _
    rw [m_X9_sumNodes_4, s_t9 a2 (by omega) (by omega), a1]
    cases c : thr (gU (xG s)) (j : Int)
    · have e : noS (xG s) j = 0 := by unfold noS; rw [c]; rfl
      rw [e]
      refine ⟨(am_i (su (noS (xG s)) j + 0 : Nat), m0), ?_, rfl, a2⟩
      (simp (disch := first | assumption | omega) only [i_add, i_sub, i_mul, i_lt, i_le, i_eq, i_ibt, i_ixn, i_ix, i_zero, am_letF, cond_true, cond_false, Option.bind_some, ↓reduceIte, m_si, m_sc, true_and, and_true, not_true_eq_false, not_false_eq_true, i_gtF, i_leT, i_geF, i_ltT, Int32.zero_add, Int.toNat_natCast, ix_own, ix_sum, ix_ver, ix_th, ix_ab, ix_st, ix_vm, ix_lim, ix_lim1, ix_lim2, ix_lim3, Int.toNat_zero, i_neF, i_eqT, b1T, b1F] <;> rfl)
    · have e : noS (xG s) j = com (gM (xG s) j) (gM (xG s) j) := by unfold noS; rw [c]; rfl
      obtain ⟨m1, e1, k1, _⟩ := s_X9_nodesAt a2 (a2.xm hj) (by omega)
      have e1' : m_X9_nodesAt m0 (am_i (1608 + 64 * (j : Int))) = some (am_i (com (gM (xG s) j) (gM (xG s) j) : Nat), m1) := by rw [← e1]; congr 2
      rw [e]
      refine ⟨(am_i ((su (noS (xG s)) j + com (gM (xG s) j) (gM (xG s) j) : Nat) : Int), m1), ?_, rfl, k1⟩
      unfold m_X9_sumAt
      (simp (disch := first | assumption | omega) only [i_add, i_sub, i_mul, i_lt, i_le, i_eq, i_ibt, i_ixn, i_ix, i_zero, am_letF, cond_true, cond_false, Option.bind_some, ↓reduceIte, m_si, m_sc, true_and, and_true, not_true_eq_false, not_false_eq_true, i_gtF, i_leT, i_geF, i_ltT, Int32.zero_add, Int.toNat_natCast, ix_own, ix_sum, ix_ver, ix_th, ix_ab, ix_st, ix_vm, ix_lim, ix_lim1, ix_lim2, ix_lim3, Int.toNat_zero, i_neF, i_eqT, b1T, b1F, e1'] <;> rfl)
  · obtain ⟨⟨a1, a2⟩, a3⟩ := L
    refine ⟨t.2, ?_, a2⟩
    refine a3.trans ?_
    rw [a1]
def imP (g gi : Og) (k : Nat) : Bool := decide (¬ gU g k = gU gi k)
theorem l_apart8 (h : GS m r s) : m_X8_apartFromImage m = some (if xF s = 1 then stL (imP (xG s) (xI s)) 24 else am_i 0) := by
  have hf := h.2.2.2.2.2.2.1.1
  unfold m_X8_apartFromImage
  rw [h.2.1.2.2.2.1.1]
  by_cases c : xF s = 1
  · rw [if_pos c, c, if_pos (by decide)]
    have hi := (h.2.1.2.2.2.1.2 c).1
    refine lo_go (fun n j (t : Int32) => m_X8_apartFromImage_13 m (fun u6 => some u6) n t (am_i (j : Int))) (fun j => stL (imP (xG s) (xI s)) j) 0 24 rfl (by omega) (am_Fv (by omega)) (fun n j _ hj => ?_) (fun n => rfl)
    show m_X8_apartFromImage_13 m _ (n + 1) _ _ = m_X8_apartFromImage_13 m _ n (if imP (xG s) (xI s) j = true then stL (imP (xG s) (xI s)) j ||| ((am_i 1) <<< (am_i (j : Int) &&& 31)) else stL (imP (xG s) (xI s)) j) _
    have e1 := h.2.1.1.1 j hj
    have e2 := hi.1 j hj
    have t1 := h.tr.2.2.1 j
    have t2 := (h.2.2.2.2.2.2.1.2 c).1.1.2.2.1 j
    rw [m_X8_apartFromImage_13]
    by_cases z : gU (xG s) j = gU (xI s) j
    · rw [if_neg (show ¬ imP (xG s) (xI s) j = true from fun e => of_decide_eq_true e z)]
      (simp (disch := first | assumption | omega) only [i_add, i_sub, i_mul, i_lt, i_le, i_eq, i_ibt, i_ixn, i_ix, i_zero, am_letF, cond_true, cond_false, Option.bind_some, ↓reduceIte, m_si, m_sc, true_and, and_true, not_true_eq_false, not_false_eq_true, i_gtF, i_leT, i_geF, i_ltT, Int32.zero_add, Int.toNat_natCast, ix_own, ix_sum, ix_ver, ix_th, ix_ab, ix_st, ix_vm, ix_lim, ix_lim1, ix_lim2, ix_lim3, Int.toNat_zero, i_neF, i_eqT, b1T, b1F, e1, e2] <;> rfl)
    · rw [if_pos (show imP (xG s) (xI s) j = true from decide_eq_true z)]
      (simp (disch := first | assumption | omega) only [i_add, i_sub, i_mul, i_lt, i_le, i_eq, i_ibt, i_ixn, i_ix, i_zero, am_letF, cond_true, cond_false, Option.bind_some, ↓reduceIte, m_si, m_sc, true_and, and_true, not_true_eq_false, not_false_eq_true, i_gtF, i_leT, i_geF, i_ltT, Int32.zero_add, Int.toNat_natCast, ix_own, ix_sum, ix_ver, ix_th, ix_ab, ix_st, ix_vm, ix_lim, ix_lim1, ix_lim2, ix_lim3, Int.toNat_zero, i_neF, i_eqT, b1T, b1F, e1, e2] <;> rfl)
  · rw [if_neg c, show xF s = 0 by omega, if_neg (by decide)]
theorem l_apart9 (h : GS m r s) : m_X9_unlikeOnes m = some (if xF s = 1 then stL (imP (xG s) (xI s)) 24 else am_i 0) := by
  have hf := h.2.2.2.2.2.2.1.1
  unfold m_X9_unlikeOnes
  by_cases c : xF s = 1
  · rw [if_pos c]
    have hi := (h.2.2.1.2.2.2.1.2 c).1
    refine lo_go (fun n j (t : Int32) => m_X9_unlikeOnes_4 m (fun u15 => some u15) n t (am_i (j : Int))) (fun j => stL (imP (xG s) (xI s)) j) 0 24 rfl (by omega) (am_Fv (by omega)) (fun n j _ hj => ?_) (fun n => rfl)
    show m_X9_unlikeOnes_4 m _ (n + 1) _ _ = m_X9_unlikeOnes_4 m _ n (if imP (xG s) (xI s) j = true then stL (imP (xG s) (xI s)) j ||| ((am_i 1) <<< (am_i (j : Int) &&& 31)) else stL (imP (xG s) (xI s)) j) _
    have e0 := h.2.2.1.2.2.2.1.1
    rw [c] at e0
    have e1 := h.2.2.1.1.1 j hj
    have e2 := hi.1 j hj
    have e3 := h.2.2.1.1.2.1 j hj
    have e4 := hi.2.1 j hj
    have t1 := h.tr.2.2.1 j
    have t2 := (h.2.2.2.2.2.2.1.2 c).1.1.2.2.1 j
    rw [Nat.zero_add] at e1 e2 e3 e4
    rw [m_X9_unlikeOnes_4, e0, if_neg (by rw [i_le (by omega) (by omega) (by omega) (by omega)]; omega), if_neg (by decide), i_add, i_add, i_add, i_ix (by omega) (by omega), i_ix (by omega) (by omega), i_ibt (by omega) (by omega) (by omega), i_ibt (by omega) (by omega) (by omega), cond_true, cond_true, cond_true, cond_true, cond_true, show ((0 : Int) + (j : Int)).toNat = j by omega, show ((24 : Int) + (j : Int)).toNat = 24 + j by omega, e1, e2]
    by_cases z1 : gU (xG s) j = -2
    · by_cases z2 : gU (xI s) j = -2
      · rw [if_neg (show ¬ imP (xG s) (xI s) j = true from fun e => of_decide_eq_true e (by omega)), if_pos z1, if_pos z2, if_neg (by decide), if_pos (by decide), if_pos (by decide), or_0]
        rfl
      · rw [if_pos (show imP (xG s) (xI s) j = true from decide_eq_true (by omega)), if_pos z1, if_neg z2, if_pos (by decide), if_neg (by decide)]
        rfl
    · by_cases z2 : gU (xI s) j = -2
      · rw [if_pos (show imP (xG s) (xI s) j = true from decide_eq_true (by omega)), if_neg z1, if_pos z2, if_pos (by decide), if_neg (by decide)]
        rfl
      · rw [if_neg z1, if_neg z2, if_neg (by decide), if_neg (by decide), e3 z1, e4 z2]
        by_cases z3 : gU (xG s) j = gU (xI s) j
        · rw [if_neg (show ¬ imP (xG s) (xI s) j = true from fun e => of_decide_eq_true e z3), if_pos (by rw [z3]), if_pos (by decide), or_0]
          rfl
        · rw [if_pos (show imP (xG s) (xI s) j = true from decide_eq_true z3), if_neg (by rw [i_eq (by omega) (by omega) (by omega) (by omega)]; exact z3), if_neg (by decide)]
          rfl
  · rw [if_neg c]
    show m_X9_unlikeOnes_4 m _ (999999 + 1) _ _ = _
    rw [m_X9_unlikeOnes_4, h.2.2.1.2.2.2.1.1, show xF s = 0 by omega, if_neg (by decide), if_pos (by decide)]
theorem cn_there (h : GS m r s) : cn (fun k => thr (gU (xG s)) (k : Int) && inB (gU (xG s)) (gD (xG s)) k ((0 : Nat) : Int)) 24 = cn (fun k => thr (gU (xG s)) (k : Int)) 24 := by
  refine cn_congr (fun k hk => ?_)
  cases c : thr (gU (xG s)) (k : Int)
  · rfl
  · obtain ⟨k', hk', ek, hk2⟩ := thr_i c
    have ek' : k = k' := by omega
    subst ek'
    rw [show inB (gU (xG s)) (gD (xG s)) k ((0 : Nat) : Int) = true from inB_0 h.tr hk hk2]
    rfl
theorem q_look (h : GS m r s) (a : Int32) : ∃ y m1 m2, m_X8_look m a = some (y, m1) ∧ m_X9_look m1 a = some (y, m2) ∧ Good m2 r := by
  obtain ⟨w, h5, h6, rfl⟩ := i_any a
  have hS := h.ig.2.2.2.1
  have sl9 : ∀ u, u < 24 → m 3262 (48 + u) = am_i (gS (xG s) u) := fun u hu => by have := h.2.2.1.1.2.2.1 u hu; rwa [Nat.zero_add] at this
  have hu0 : gU (xG s) 0 ≠ -2 := by rw [h.tr.1]; decide
  have p8 : m_X8_look m (am_i w) = (if am_i w = am_i 0 then some (stL (fun k => thr (gU (xG s)) (k : Int)) 24, m) else if am_i w = am_i 1 then some (stL (slP (gU (xG s)) (gS (xG s))) 24, m) else if am_i w = am_i 2 then (m_X8_rightSet m).bind fun q5 => some (q5.1, q5.2) else if am_i w = am_i 3 then some (am_i (cn (fun k => thr (gU (xG s)) (k : Int)) 24 : Nat), m) else if am_i w = am_i 4 then some (am_i (hgt (gU (xG s)) (gD (xG s)) 0 24), m) else if am_i w = am_i 5 then some (am_i (xN s : Nat), m) else if am_i w = am_i 6 then some (am_i ((xT s).1 : Nat), m) else if am_i w = am_i 7 then some (am_i (su (gB (xG s) 0) 64 : Nat), m) else if am_i w = am_i 8 then some (am_i (su (noS (xG s)) 24 : Nat), m) else if am_i w = am_i 9 then some (am_i 64 - am_i (pos (gB (xG s) 0) : Nat), m) else if am_i w = am_i 10 then some (am_i (bkN (xB s) : Nat), m) else if am_i w = am_i 11 then some (am_i (cn (bkP (xG s) (xB s)) (bkN (xB s)) : Nat), m) else if am_i w = am_i 12 then some (if xF s = 1 then stL (imP (xG s) (xI s)) 24 else am_i 0, m) else some (am_i (-1), m)) := by
    unfold m_X8_look
    have e4 := s_X1_heightOf h.tc h.tr (t := 0) (by decide) hu0
    rw [s_X1_thereSet h.tc h.tr, s_X1_staleSet h.tc h.tr h.2.1.1.2.1 hS, show m_X1_heightOf m 4 (am_i 0) = some (am_i (hgt (gU (xG s)) (gD (xG s)) 0 24)) from e4, l_ownEntries h, l_X8_sumNodes h, l_unused h, s_X8_brokenCount h, l_apart8 h, h.2.1.2.2.1.1, h.2.1.2.2.2.2.1.1, h.2.1.2.1.2.1]
    simp only [Option.bind_some, s_bitCounti, popi_stL]
  have p9 : m_X9_look m (am_i w) = (if am_i w = am_i 0 then some (stL (fun k => thr (gU (xG s)) (k : Int)) 24, m) else if am_i w = am_i 1 then some (stL (slP (gU (xG s)) (gS (xG s))) 24, m) else if am_i w = am_i 2 then (m_X9_rightOnes m).bind fun q5 => some (q5.1, q5.2) else if am_i w = am_i 3 then some (am_i (cn (fun k => thr (gU (xG s)) (k : Int)) 24 : Nat), m) else if am_i w = am_i 4 then some (am_i (hgt (gU (xG s)) (gD (xG s)) 0 24), m) else if am_i w = am_i 5 then some (am_i (xN s : Nat), m) else if am_i w = am_i 6 then some (am_i ((xT s).1 : Nat), m) else if am_i w = am_i 7 then (m_X9_laysBranch m (am_i 0) 3266).bind fun q13 => (m_X9_all q13 3266).bind fun q14 => some (q14, q13) else if am_i w = am_i 8 then (m_X9_sumNodes m).bind fun q16 => some (q16.1, q16.2) else if am_i w = am_i 9 then (m_X9_laysBranch m (am_i 0) 3266).bind fun q18 => (m_X9_positive q18 3266).bind fun q19 => some (((am_i 64) - q19), q18) else if am_i w = am_i 10 then some (am_i (bkN (xB s) : Nat), m) else if am_i w = am_i 11 then some (am_i (cn (bkP (xG s) (xB s)) (bkN (xB s)) : Nat), m) else if am_i w = am_i 12 then some (if xF s = 1 then stL (imP (xG s) (xI s)) 24 else am_i 0, m) else some (am_i (-1), m)) := by
    unfold m_X9_look
    have e3 := s_X9_branchMany h.tm h.tr (t := ((0 : Nat) : Int)) (by decide) (by decide)
    rw [cn_there h] at e3
    have e11 := s_X9_broken (i := -1) (w := 0) h (by decide) (by decide) (by decide) (by decide)
    rw [if_neg (bkF_no (by decide)), if_pos rfl] at e11
    rw [s_X9_there h.tm, s_X9_staleOnes h.tm sl9 hS, show m_X9_branchMany m (am_i 0) = some (am_i (cn (fun k => thr (gU (xG s)) (k : Int)) 24 : Nat)) from e3, l_deepest h, e11, l_apart9 h, h.2.2.1.2.2.1.1, h.2.2.1.2.2.2.2.1.1, show am_ib (am_i 15467) 15517 = true by decide, show am_ix (am_i 15467) = 15467 by decide, h.2.2.1.2.1.2.1]
    simp only [Option.bind_some, cond_true]
  rcases sw_n h5 h6 13 (by decide) with ⟨d, hd, rfl⟩ | hn
  · by_cases d2 : d = 2
    · obtain ⟨m1, e1, k1⟩ := l_rightSet h
      obtain ⟨m2, e2, k2⟩ := l_rightOnes k1
      refine ⟨stL (fun k => thr (gU (xG s)) (k : Int) && eqR (gM (xG s) k) (gB (xG s) k)) 24, m1, m2, ?_, ?_, k2.g⟩
      · rw [p8, d2, if_neg (by decide), if_neg (by decide), if_pos (by decide), e1]
        rfl
      · unfold m_X9_look
        rw [d2, if_neg (by decide), if_neg (by decide), if_pos (by decide), e2]
        rfl
    · obtain ⟨m7, e7, k7, f7, g7⟩ := l_branch9 (u := 0) (a := 3266) h (by decide) (Or.inl rfl)
      have e7 : m_X9_laysBranch m (am_i 0) 3266 = some m7 := e7
      obtain ⟨m8, e8, k8⟩ := l_X9_sumNodes h
      rw [p8]
      rcases (show d = 0 ∨ d = 1 ∨ d = 3 ∨ d = 4 ∨ d = 5 ∨ d = 6 ∨ d = 10 ∨ d = 11 ∨ d = 12 ∨ d = 7 ∨ d = 8 ∨ d = 9 by omega) with z | z | z | z | z | z | z | z | z | z | z | z <;> rw [z] at p9 ⊢
      · exact ⟨_, m, m, rfl, p9.trans rfl, h.g⟩
      · exact ⟨_, m, m, rfl, p9.trans rfl, h.g⟩
      · exact ⟨_, m, m, rfl, p9.trans rfl, h.g⟩
      · exact ⟨_, m, m, rfl, p9.trans rfl, h.g⟩
      · exact ⟨_, m, m, rfl, p9.trans rfl, h.g⟩
      · exact ⟨_, m, m, rfl, p9.trans rfl, h.g⟩
      · exact ⟨_, m, m, rfl, p9.trans rfl, h.g⟩
      · exact ⟨_, m, m, rfl, p9.trans rfl, h.g⟩
      · exact ⟨_, m, m, rfl, p9.trans rfl, h.g⟩
      · refine ⟨_, m, m7, rfl, p9.trans ?_, k7.g⟩
        rw [e7, Option.bind_some, s_X9_all g7]
        rfl
      · refine ⟨_, m, m8, rfl, p9.trans ?_, k8.g⟩
        rw [e8]
        rfl
      · refine ⟨_, m, m7, rfl, p9.trans ?_, k7.g⟩
        rw [e7, Option.bind_some, Option.bind_some, s_X9_positive g7]
        rfl
  · refine ⟨am_i (-1), m, m, ?_, ?_, h.g⟩
    · rw [p8, if_neg (hn 0 (by decide) (by decide)), if_neg (hn 1 (by decide) (by decide)), if_neg (hn 2 (by decide) (by decide)), if_neg (hn 3 (by decide) (by decide)), if_neg (hn 4 (by decide) (by decide)), if_neg (hn 5 (by decide) (by decide)), if_neg (hn 6 (by decide) (by decide)), if_neg (hn 7 (by decide) (by decide)), if_neg (hn 8 (by decide) (by decide)), if_neg (hn 9 (by decide) (by decide)), if_neg (hn 10 (by decide) (by decide)), if_neg (hn 11 (by decide) (by decide)), if_neg (hn 12 (by decide) (by decide))]
    · rw [p9, if_neg (hn 0 (by decide) (by decide)), if_neg (hn 1 (by decide) (by decide)), if_neg (hn 2 (by decide) (by decide)), if_neg (hn 3 (by decide) (by decide)), if_neg (hn 4 (by decide) (by decide)), if_neg (hn 5 (by decide) (by decide)), if_neg (hn 6 (by decide) (by decide)), if_neg (hn 7 (by decide) (by decide)), if_neg (hn 8 (by decide) (by decide)), if_neg (hn 9 (by decide) (by decide)), if_neg (hn 10 (by decide) (by decide)), if_neg (hn 11 (by decide) (by decide)), if_neg (hn 12 (by decide) (by decide))]
end Q5
