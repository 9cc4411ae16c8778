/-! ===== the law's calls, one by one: class and reference answer alike ===== -/
section CLS
variable {N : Nat} {xs : Nat → Int32} {z3 : Int32} {m : am_m} {r : am_rr}
theorem cl_0 (h : Good m r) (z : Hz N z3) : ∃ p, m_L_c0 N xs z3 m r = some p ∧ Good p.1 p.2 := by
  obtain ⟨s, h⟩ := h
  obtain ⟨z1, z2, z4, z5, z6⟩ := z
  unfold m_L_c0
  simp only [z1, z2, z4, cond_true]
  obtain ⟨y, m1, m2, e1, e2, g⟩ := q_add h (xs (am_ix (z3 + am_i 1))) (xs (am_ix (z3 + am_i 2))) (xs (am_ix (z3 + am_i 3)))
  rw [e1, Option.bind_some]
  dsimp only
  rw [e2, Option.bind_some]
  dsimp only
  rw [decide_eq_true (rfl : y = y), cond_true]
  exact ⟨(m2, r), rfl, g⟩
theorem cl_1 (h : Good m r) (z : Hz N z3) : ∃ p, m_L_c1 N xs z3 m r = some p ∧ Good p.1 p.2 := by
  obtain ⟨s, h⟩ := h
  obtain ⟨z1, z2, z4, z5, z6⟩ := z
  unfold m_L_c1
  simp only [z1, z2, cond_true]
  obtain ⟨y, m1, m2, e1, e2, g⟩ := q_comes h (xs (am_ix (z3 + am_i 1))) (xs (am_ix (z3 + am_i 2)))
  rw [e1, Option.bind_some]
  dsimp only
  rw [e2, Option.bind_some]
  dsimp only
  rw [decide_eq_true (rfl : y = y), cond_true]
  exact ⟨(m2, r), rfl, g⟩
theorem cl_2 (h : Good m r) (z : Hz N z3) : ∃ p, m_L_c2 N xs z3 m r = some p ∧ Good p.1 p.2 := by
  obtain ⟨s, h⟩ := h
  obtain ⟨z1, z2, z4, z5, z6⟩ := z
  unfold m_L_c2
  simp only [z1, cond_true]
  obtain ⟨y, m1, m2, e1, e2, g⟩ := q_goes h (xs (am_ix (z3 + am_i 1)))
  rw [e1, Option.bind_some]
  dsimp only
  rw [e2, Option.bind_some]
  dsimp only
  rw [decide_eq_true (rfl : y = y), cond_true]
  exact ⟨(m2, r), rfl, g⟩
theorem cl_3 (h : Good m r) (z : Hz N z3) : ∃ p, m_L_c3 N xs z3 m r = some p ∧ Good p.1 p.2 := by
  obtain ⟨s, h⟩ := h
  obtain ⟨z1, z2, z4, z5, z6⟩ := z
  unfold m_L_c3
  simp only [z1, z2, cond_true]
  obtain ⟨y, m1, m2, e1, e2, g⟩ := q_move h (xs (am_ix (z3 + am_i 1))) (xs (am_ix (z3 + am_i 2)))
  rw [e1, Option.bind_some]
  dsimp only
  rw [e2, Option.bind_some]
  dsimp only
  rw [decide_eq_true (rfl : y = y), cond_true]
  exact ⟨(m2, r), rfl, g⟩
theorem cl_4 (h : Good m r) (z : Hz N z3) : ∃ p, m_L_c4 N xs z3 m r = some p ∧ Good p.1 p.2 := by
  obtain ⟨s, h⟩ := h
  obtain ⟨z1, z2, z4, z5, z6⟩ := z
  unfold m_L_c4
  simp only [z1, z2, z4, z5, cond_true]
  obtain ⟨y, m1, m2, e1, e2, g⟩ := q_give h (xs (am_ix (z3 + am_i 1))) (xs (am_ix (z3 + am_i 2))) (xs (am_ix (z3 + am_i 3))) (xs (am_ix (z3 + am_i 4)))
  rw [e1, Option.bind_some]
  dsimp only
  rw [e2, Option.bind_some]
  dsimp only
  rw [decide_eq_true (rfl : y = y), cond_true]
  exact ⟨(m2, r), rfl, g⟩
theorem cl_5 (h : Good m r) (z : Hz N z3) : ∃ p, m_L_c5 N xs z3 m r = some p ∧ Good p.1 p.2 := by
  obtain ⟨s, h⟩ := h
  obtain ⟨z1, z2, z4, z5, z6⟩ := z
  unfold m_L_c5
  simp only [z1, cond_true]
  obtain ⟨y, m1, r1, m2, e1, e2, g⟩ := q_roll h (xs (am_ix (z3 + am_i 1)))
  rw [e1, Option.bind_some]
  dsimp only
  rw [e2, Option.bind_some]
  dsimp only
  rw [decide_eq_true (rfl : y = y), cond_true]
  exact ⟨(m2, r1), rfl, g⟩
theorem cl_6 (h : Good m r) (z : Hz N z3) : ∃ p, m_L_c6 N xs z3 m r = some p ∧ Good p.1 p.2 := by
  obtain ⟨s, h⟩ := h
  obtain ⟨z1, z2, z4, z5, z6⟩ := z
  unfold m_L_c6
  simp only [z1, z2, cond_true]
  obtain ⟨y, m1, m2, e1, e2, g⟩ := q_recode h (xs (am_ix (z3 + am_i 1))) (xs (am_ix (z3 + am_i 2)))
  rw [e1, Option.bind_some]
  dsimp only
  rw [e2, Option.bind_some]
  dsimp only
  rw [decide_eq_true (rfl : y = y), cond_true]
  exact ⟨(m2, r), rfl, g⟩
theorem cl_7 (h : Good m r) (z : Hz N z3) : ∃ p, m_L_c7 N xs z3 m r = some p ∧ Good p.1 p.2 := by
  obtain ⟨s, h⟩ := h
  obtain ⟨z1, z2, z4, z5, z6⟩ := z
  unfold m_L_c7
  simp only [z1, z2, z4, z5, cond_true]
  obtain ⟨y, m1, m2, e1, e2, g⟩ := q_limit h (xs (am_ix (z3 + am_i 1))) (xs (am_ix (z3 + am_i 2))) (xs (am_ix (z3 + am_i 3))) (xs (am_ix (z3 + am_i 4)))
  rw [e1, Option.bind_some]
  dsimp only
  rw [e2, Option.bind_some]
  dsimp only
  rw [decide_eq_true (rfl : y = y), cond_true]
  exact ⟨(m2, r), rfl, g⟩
theorem cl_8 (h : Good m r) (z : Hz N z3) : ∃ p, m_L_c8 N xs z3 m r = some p ∧ Good p.1 p.2 := by
  obtain ⟨s, h⟩ := h
  obtain ⟨z1, z2, z4, z5, z6⟩ := z
  unfold m_L_c8
  simp only [z1, z2, cond_true]
  obtain ⟨y, e1, e2⟩ := q_broken h (xs (am_ix (z3 + am_i 1))) (xs (am_ix (z3 + am_i 2)))
  rw [e1, Option.bind_some, e2, Option.bind_some, decide_eq_true (rfl : y = y), cond_true]
  exact ⟨(m, r), rfl, h.g⟩
theorem cl_9 (h : Good m r) (z : Hz N z3) : ∃ p, m_L_c9 N xs z3 m r = some p ∧ Good p.1 p.2 := by
  obtain ⟨s, h⟩ := h
  obtain ⟨z1, z2, z4, z5, z6⟩ := z
  unfold m_L_c9
  simp only [z1, cond_true]
  obtain ⟨y, m1, m2, e1, e2, g⟩ := q_state h (xs (am_ix (z3 + am_i 1)))
  rw [e1, Option.bind_some]
  dsimp only
  rw [e2, Option.bind_some]
  dsimp only
  rw [decide_eq_true (rfl : y = y), cond_true]
  exact ⟨(m2, r), rfl, g⟩
theorem cl_10 (h : Good m r) (z : Hz N z3) : ∃ p, m_L_c10 N xs z3 m r = some p ∧ Good p.1 p.2 := by
  obtain ⟨s, h⟩ := h
  obtain ⟨z1, z2, z4, z5, z6⟩ := z
  unfold m_L_c10
  simp only [z1, z2, z4, z5, z6, cond_true]
  obtain ⟨y, m1, m2, e1, e2, g⟩ := q_feed h (xs (am_ix (z3 + am_i 1))) (xs (am_ix (z3 + am_i 2))) (xs (am_ix (z3 + am_i 3))) (xs (am_ix (z3 + am_i 4))) (xs (am_ix (z3 + am_i 5)))
  rw [e1, Option.bind_some]
  dsimp only
  rw [e2, Option.bind_some]
  dsimp only
  rw [decide_eq_true (rfl : y = y), cond_true]
  exact ⟨(m2, r), rfl, g⟩
theorem cl_11 (h : Good m r) (z : Hz N z3) : ∃ p, m_L_c11 N xs z3 m r = some p ∧ Good p.1 p.2 := by
  obtain ⟨s, h⟩ := h
  obtain ⟨z1, z2, z4, z5, z6⟩ := z
  unfold m_L_c11
  simp only [z1, cond_true]
  obtain ⟨y, m1, m2, e1, e2, g⟩ := q_end h (xs (am_ix (z3 + am_i 1)))
  rw [e1, Option.bind_some]
  dsimp only
  rw [e2, Option.bind_some]
  dsimp only
  rw [decide_eq_true (rfl : y = y), cond_true]
  exact ⟨(m2, r), rfl, g⟩
theorem cl_12 (h : Good m r) (z : Hz N z3) : ∃ p, m_L_c12 N xs z3 m r = some p ∧ Good p.1 p.2 := by
  obtain ⟨s, h⟩ := h
  obtain ⟨z1, z2, z4, z5, z6⟩ := z
  unfold m_L_c12
  obtain ⟨y, m1, m2, e1, e2, g⟩ := q_text h 
  rw [e1, Option.bind_some]
  dsimp only
  rw [e2, Option.bind_some]
  dsimp only
  rw [decide_eq_true (rfl : y = y), cond_true]
  exact ⟨(m2, r), rfl, g⟩
theorem cl_13 (h : Good m r) (z : Hz N z3) : ∃ p, m_L_c13 N xs z3 m r = some p ∧ Good p.1 p.2 := by
  obtain ⟨s, h⟩ := h
  obtain ⟨z1, z2, z4, z5, z6⟩ := z
  unfold m_L_c13
  simp only [z1, cond_true]
  obtain ⟨y, e1, e2⟩ := q_fault h (xs (am_ix (z3 + am_i 1)))
  rw [e1, Option.bind_some, e2, Option.bind_some, decide_eq_true (rfl : y = y), cond_true]
  exact ⟨(m, r), rfl, h.g⟩
theorem cl_14 (h : Good m r) (z : Hz N z3) : ∃ p, m_L_c14 N xs z3 m r = some p ∧ Good p.1 p.2 := by
  obtain ⟨s, h⟩ := h
  obtain ⟨z1, z2, z4, z5, z6⟩ := z
  unfold m_L_c14
  obtain ⟨y, m1, m2, e1, e2, g⟩ := q_undo h 
  rw [e1, Option.bind_some]
  dsimp only
  rw [e2, Option.bind_some]
  dsimp only
  rw [decide_eq_true (rfl : y = y), cond_true]
  exact ⟨(m2, r), rfl, g⟩
theorem cl_15 (h : Good m r) (z : Hz N z3) : ∃ p, m_L_c15 N xs z3 m r = some p ∧ Good p.1 p.2 := by
  obtain ⟨s, h⟩ := h
  obtain ⟨z1, z2, z4, z5, z6⟩ := z
  unfold m_L_c15
  simp only [z1, z2, cond_true]
  obtain ⟨y, m1, m2, e1, e2, g⟩ := q_unit h (xs (am_ix (z3 + am_i 1))) (xs (am_ix (z3 + am_i 2)))
  rw [e1, Option.bind_some]
  dsimp only
  rw [e2, Option.bind_some]
  dsimp only
  rw [decide_eq_true (rfl : y = y), cond_true]
  exact ⟨(m2, r), rfl, g⟩
theorem cl_16 (h : Good m r) (z : Hz N z3) : ∃ p, m_L_c16 N xs z3 m r = some p ∧ Good p.1 p.2 := by
  obtain ⟨s, h⟩ := h
  obtain ⟨z1, z2, z4, z5, z6⟩ := z
  unfold m_L_c16
  simp only [z1, z2, cond_true]
  obtain ⟨y, e1, e2⟩ := q_below h (xs (am_ix (z3 + am_i 1))) (xs (am_ix (z3 + am_i 2)))
  rw [e1, Option.bind_some, e2, Option.bind_some, decide_eq_true (rfl : y = y), cond_true]
  exact ⟨(m, r), rfl, h.g⟩
theorem cl_17 (h : Good m r) (z : Hz N z3) : ∃ p, m_L_c17 N xs z3 m r = some p ∧ Good p.1 p.2 := by
  obtain ⟨s, h⟩ := h
  obtain ⟨z1, z2, z4, z5, z6⟩ := z
  unfold m_L_c17
  simp only [z1, z2, cond_true]
  obtain ⟨y, e1, e2⟩ := q_above h (xs (am_ix (z3 + am_i 1))) (xs (am_ix (z3 + am_i 2)))
  rw [e1, Option.bind_some, e2, Option.bind_some, decide_eq_true (rfl : y = y), cond_true]
  exact ⟨(m, r), rfl, h.g⟩
theorem cl_18 (h : Good m r) (z : Hz N z3) : ∃ p, m_L_c18 N xs z3 m r = some p ∧ Good p.1 p.2 := by
  obtain ⟨s, h⟩ := h
  obtain ⟨z1, z2, z4, z5, z6⟩ := z
  unfold m_L_c18
  simp only [z1, z2, cond_true]
  obtain ⟨y, e1, e2⟩ := q_both h (xs (am_ix (z3 + am_i 1))) (xs (am_ix (z3 + am_i 2)))
  rw [e1, Option.bind_some, e2, Option.bind_some, decide_eq_true (rfl : y = y), cond_true]
  exact ⟨(m, r), rfl, h.g⟩
theorem cl_19 (h : Good m r) (z : Hz N z3) : ∃ p, m_L_c19 N xs z3 m r = some p ∧ Good p.1 p.2 := by
  obtain ⟨s, h⟩ := h
  obtain ⟨z1, z2, z4, z5, z6⟩ := z
  unfold m_L_c19
  simp only [z1, z2, z4, cond_true]
  obtain ⟨y, m1, m2, e1, e2, g⟩ := q_of h (xs (am_ix (z3 + am_i 1))) (xs (am_ix (z3 + am_i 2))) (xs (am_ix (z3 + am_i 3)))
  rw [e1, Option.bind_some]
  dsimp only
  rw [e2, Option.bind_some]
  dsimp only
  rw [decide_eq_true (rfl : y = y), cond_true]
  exact ⟨(m2, r), rfl, g⟩
theorem cl_20 (h : Good m r) (z : Hz N z3) : ∃ p, m_L_c20 N xs z3 m r = some p ∧ Good p.1 p.2 := by
  obtain ⟨s, h⟩ := h
  obtain ⟨z1, z2, z4, z5, z6⟩ := z
  unfold m_L_c20
  simp only [z1, z2, cond_true]
  obtain ⟨y, e1, e2⟩ := q_ranked h (xs (am_ix (z3 + am_i 1))) (xs (am_ix (z3 + am_i 2)))
  rw [e1, Option.bind_some, e2, Option.bind_some, decide_eq_true (rfl : y = y), cond_true]
  exact ⟨(m, r), rfl, h.g⟩
theorem cl_21 (h : Good m r) (z : Hz N z3) : ∃ p, m_L_c21 N xs z3 m r = some p ∧ Good p.1 p.2 := by
  obtain ⟨s, h⟩ := h
  obtain ⟨z1, z2, z4, z5, z6⟩ := z
  unfold m_L_c21
  simp only [z1, z2, cond_true]
  obtain ⟨y, e1, e2⟩ := q_less h (xs (am_ix (z3 + am_i 1))) (xs (am_ix (z3 + am_i 2)))
  rw [e1, Option.bind_some, e2, Option.bind_some, decide_eq_true (rfl : y = y), cond_true]
  exact ⟨(m, r), rfl, h.g⟩
theorem cl_22 (h : Good m r) (z : Hz N z3) : ∃ p, m_L_c22 N xs z3 m r = some p ∧ Good p.1 p.2 := by
  obtain ⟨s, h⟩ := h
  obtain ⟨z1, z2, z4, z5, z6⟩ := z
  unfold m_L_c22
  simp only [z1, z2, z4, cond_true]
  obtain ⟨y, e1, e2⟩ := q_leader h (xs (am_ix (z3 + am_i 1))) (xs (am_ix (z3 + am_i 2))) (xs (am_ix (z3 + am_i 3)))
  rw [e1, Option.bind_some, e2, Option.bind_some, decide_eq_true (rfl : y = y), cond_true]
  exact ⟨(m, r), rfl, h.g⟩
theorem cl_23 (h : Good m r) (z : Hz N z3) : ∃ p, m_L_c23 N xs z3 m r = some p ∧ Good p.1 p.2 := by
  obtain ⟨s, h⟩ := h
  obtain ⟨z1, z2, z4, z5, z6⟩ := z
  unfold m_L_c23
  simp only [z1, cond_true]
  obtain ⟨y, m2, e1, e2, g⟩ := q_median h (xs (am_ix (z3 + am_i 1)))
  rw [e1, Option.bind_some, e2, Option.bind_some]
  dsimp only
  rw [decide_eq_true (rfl : y = y), cond_true]
  exact ⟨(m2, r), rfl, g⟩
theorem cl_24 (h : Good m r) (z : Hz N z3) : ∃ p, m_L_c24 N xs z3 m r = some p ∧ Good p.1 p.2 := by
  obtain ⟨s, h⟩ := h
  obtain ⟨z1, z2, z4, z5, z6⟩ := z
  unfold m_L_c24
  simp only [z1, z2, cond_true]
  obtain ⟨y, m2, e1, e2, g⟩ := q_heavy h (xs (am_ix (z3 + am_i 1))) (xs (am_ix (z3 + am_i 2)))
  rw [e1, Option.bind_some, e2, Option.bind_some]
  dsimp only
  rw [decide_eq_true (rfl : y = y), cond_true]
  exact ⟨(m2, r), rfl, g⟩
theorem cl_25 (h : Good m r) (z : Hz N z3) : ∃ p, m_L_c25 N xs z3 m r = some p ∧ Good p.1 p.2 := by
  obtain ⟨s, h⟩ := h
  obtain ⟨z1, z2, z4, z5, z6⟩ := z
  unfold m_L_c25
  simp only [z1, cond_true]
  obtain ⟨y, e1, e2⟩ := q_squares h (xs (am_ix (z3 + am_i 1)))
  rw [e1, Option.bind_some, e2, Option.bind_some, decide_eq_true (rfl : y = y), cond_true]
  exact ⟨(m, r), rfl, h.g⟩
theorem cl_26 (h : Good m r) (z : Hz N z3) : ∃ p, m_L_c26 N xs z3 m r = some p ∧ Good p.1 p.2 := by
  obtain ⟨s, h⟩ := h
  obtain ⟨z1, z2, z4, z5, z6⟩ := z
  unfold m_L_c26
  simp only [z1, z2, z4, cond_true]
  obtain ⟨y, m1, m2, e1, e2, g⟩ := q_seats h (xs (am_ix (z3 + am_i 1))) (xs (am_ix (z3 + am_i 2))) (xs (am_ix (z3 + am_i 3)))
  rw [e1, Option.bind_some]
  dsimp only
  rw [e2, Option.bind_some]
  dsimp only
  rw [decide_eq_true (rfl : y = y), cond_true]
  exact ⟨(m2, r), rfl, g⟩
theorem cl_27 (h : Good m r) (z : Hz N z3) : ∃ p, m_L_c27 N xs z3 m r = some p ∧ Good p.1 p.2 := by
  obtain ⟨s, h⟩ := h
  obtain ⟨z1, z2, z4, z5, z6⟩ := z
  unfold m_L_c27
  simp only [z1, z2, cond_true]
  obtain ⟨y, m2, e1, e2, g⟩ := q_percent h (xs (am_ix (z3 + am_i 1))) (xs (am_ix (z3 + am_i 2)))
  rw [e1, Option.bind_some, e2, Option.bind_some]
  dsimp only
  rw [decide_eq_true (rfl : y = y), cond_true]
  exact ⟨(m2, r), rfl, g⟩
theorem cl_28 (h : Good m r) (z : Hz N z3) : ∃ p, m_L_c28 N xs z3 m r = some p ∧ Good p.1 p.2 := by
  obtain ⟨s, h⟩ := h
  obtain ⟨z1, z2, z4, z5, z6⟩ := z
  unfold m_L_c28
  simp only [z1, z2, cond_true]
  obtain ⟨y, m2, e1, e2, g⟩ := q_quantile h (xs (am_ix (z3 + am_i 1))) (xs (am_ix (z3 + am_i 2)))
  rw [e1, Option.bind_some, e2, Option.bind_some]
  dsimp only
  rw [decide_eq_true (rfl : y = y), cond_true]
  exact ⟨(m2, r), rfl, g⟩
theorem cl_29 (h : Good m r) (z : Hz N z3) : ∃ p, m_L_c29 N xs z3 m r = some p ∧ Good p.1 p.2 := by
  obtain ⟨s, h⟩ := h
  obtain ⟨z1, z2, z4, z5, z6⟩ := z
  unfold m_L_c29
  simp only [z1, z2, cond_true]
  obtain ⟨y, m2, e1, e2, g⟩ := q_few h (xs (am_ix (z3 + am_i 1))) (xs (am_ix (z3 + am_i 2)))
  rw [e1, Option.bind_some, e2, Option.bind_some]
  dsimp only
  rw [decide_eq_true (rfl : y = y), cond_true]
  exact ⟨(m2, r), rfl, g⟩
theorem cl_30 (h : Good m r) (z : Hz N z3) : ∃ p, m_L_c30 N xs z3 m r = some p ∧ Good p.1 p.2 := by
  obtain ⟨s, h⟩ := h
  obtain ⟨z1, z2, z4, z5, z6⟩ := z
  unfold m_L_c30
  simp only [z1, z2, z4, cond_true]
  obtain ⟨y, m2, e1, e2, g⟩ := q_run h (xs (am_ix (z3 + am_i 1))) (xs (am_ix (z3 + am_i 2))) (xs (am_ix (z3 + am_i 3)))
  rw [e1, Option.bind_some, e2, Option.bind_some]
  dsimp only
  rw [decide_eq_true (rfl : y = y), cond_true]
  exact ⟨(m2, r), rfl, g⟩
theorem cl_31 (h : Good m r) (z : Hz N z3) : ∃ p, m_L_c31 N xs z3 m r = some p ∧ Good p.1 p.2 := by
  obtain ⟨s, h⟩ := h
  obtain ⟨z1, z2, z4, z5, z6⟩ := z
  unfold m_L_c31
  simp only [z1, cond_true]
  obtain ⟨y, m2, e1, e2, g⟩ := q_twin h (xs (am_ix (z3 + am_i 1)))
  rw [e1, Option.bind_some, e2, Option.bind_some]
  dsimp only
  rw [decide_eq_true (rfl : y = y), cond_true]
  exact ⟨(m2, r), rfl, g⟩
theorem cl_32 (h : Good m r) (z : Hz N z3) : ∃ p, m_L_c32 N xs z3 m r = some p ∧ Good p.1 p.2 := by
  obtain ⟨s, h⟩ := h
  obtain ⟨z1, z2, z4, z5, z6⟩ := z
  unfold m_L_c32
  simp only [z1, cond_true]
  obtain ⟨y, m1, m2, e1, e2, g⟩ := q_report h (xs (am_ix (z3 + am_i 1)))
  rw [e1, Option.bind_some]
  dsimp only
  rw [e2, Option.bind_some]
  dsimp only
  rw [decide_eq_true (rfl : y = y), cond_true]
  exact ⟨(m2, r), rfl, g⟩
theorem cl_33 (h : Good m r) (z : Hz N z3) : ∃ p, m_L_c33 N xs z3 m r = some p ∧ Good p.1 p.2 := by
  obtain ⟨s, h⟩ := h
  obtain ⟨z1, z2, z4, z5, z6⟩ := z
  unfold m_L_c33
  simp only [z1, cond_true]
  obtain ⟨y, e1, e2⟩ := q_sign h (xs (am_ix (z3 + am_i 1)))
  rw [e1, Option.bind_some, e2, Option.bind_some, decide_eq_true (rfl : y = y), cond_true]
  exact ⟨(m, r), rfl, h.g⟩
theorem cl_34 (h : Good m r) (z : Hz N z3) : ∃ p, m_L_c34 N xs z3 m r = some p ∧ Good p.1 p.2 := by
  obtain ⟨s, h⟩ := h
  obtain ⟨z1, z2, z4, z5, z6⟩ := z
  unfold m_L_c34
  simp only [z1, cond_true]
  obtain ⟨y, e1, e2⟩ := q_versions h (xs (am_ix (z3 + am_i 1)))
  rw [e1, Option.bind_some, e2, Option.bind_some, decide_eq_true (rfl : y = y), cond_true]
  exact ⟨(m, r), rfl, h.g⟩
theorem cl_35 (h : Good m r) (z : Hz N z3) : ∃ p, m_L_c35 N xs z3 m r = some p ∧ Good p.1 p.2 := by
  obtain ⟨s, h⟩ := h
  obtain ⟨z1, z2, z4, z5, z6⟩ := z
  unfold m_L_c35
  simp only [z1, z2, z4, cond_true]
  obtain ⟨y, e1, e2⟩ := q_was h (xs (am_ix (z3 + am_i 1))) (xs (am_ix (z3 + am_i 2))) (xs (am_ix (z3 + am_i 3)))
  rw [e1, Option.bind_some, e2, Option.bind_some, decide_eq_true (rfl : y = y), cond_true]
  exact ⟨(m, r), rfl, h.g⟩
theorem cl_36 (h : Good m r) (z : Hz N z3) : ∃ p, m_L_c36 N xs z3 m r = some p ∧ Good p.1 p.2 := by
  obtain ⟨s, h⟩ := h
  obtain ⟨z1, z2, z4, z5, z6⟩ := z
  unfold m_L_c36
  simp only [z1, z2, z4, cond_true]
  obtain ⟨y, m2, e1, e2, g⟩ := q_grew h (xs (am_ix (z3 + am_i 1))) (xs (am_ix (z3 + am_i 2))) (xs (am_ix (z3 + am_i 3)))
  rw [e1, Option.bind_some, e2, Option.bind_some]
  dsimp only
  rw [decide_eq_true (rfl : y = y), cond_true]
  exact ⟨(m2, r), rfl, g⟩
theorem cl_37 (h : Good m r) (z : Hz N z3) : ∃ p, m_L_c37 N xs z3 m r = some p ∧ Good p.1 p.2 := by
  obtain ⟨s, h⟩ := h
  obtain ⟨z1, z2, z4, z5, z6⟩ := z
  unfold m_L_c37
  simp only [z1, z2, cond_true]
  obtain ⟨y, m1, m2, e1, e2, g⟩ := q_halves h (xs (am_ix (z3 + am_i 1))) (xs (am_ix (z3 + am_i 2)))
  rw [e1, Option.bind_some]
  dsimp only
  rw [e2, Option.bind_some]
  dsimp only
  rw [decide_eq_true (rfl : y = y), cond_true]
  exact ⟨(m2, r), rfl, g⟩
theorem cl_38 (h : Good m r) (z : Hz N z3) : ∃ p, m_L_c38 N xs z3 m r = some p ∧ Good p.1 p.2 := by
  obtain ⟨s, h⟩ := h
  obtain ⟨z1, z2, z4, z5, z6⟩ := z
  unfold m_L_c38
  simp only [z1, z2, z4, cond_true]
  obtain ⟨y, e1, e2⟩ := q_chain h (xs (am_ix (z3 + am_i 1))) (xs (am_ix (z3 + am_i 2))) (xs (am_ix (z3 + am_i 3)))
  rw [e1, Option.bind_some, e2, Option.bind_some, decide_eq_true (rfl : y = y), cond_true]
  exact ⟨(m, r), rfl, h.g⟩
theorem cl_39 (h : Good m r) (z : Hz N z3) : ∃ p, m_L_c39 N xs z3 m r = some p ∧ Good p.1 p.2 := by
  obtain ⟨s, h⟩ := h
  obtain ⟨z1, z2, z4, z5, z6⟩ := z
  unfold m_L_c39
  simp only [z1, z2, cond_true]
  obtain ⟨y, e1, e2⟩ := q_hops h (xs (am_ix (z3 + am_i 1))) (xs (am_ix (z3 + am_i 2)))
  rw [e1, Option.bind_some, e2, Option.bind_some, decide_eq_true (rfl : y = y), cond_true]
  exact ⟨(m, r), rfl, h.g⟩
theorem cl_40 (h : Good m r) (z : Hz N z3) : ∃ p, m_L_c40 N xs z3 m r = some p ∧ Good p.1 p.2 := by
  obtain ⟨s, h⟩ := h
  obtain ⟨z1, z2, z4, z5, z6⟩ := z
  unfold m_L_c40
  simp only [z1, z2, z4, cond_true]
  obtain ⟨y, m1, m2, e1, e2, g⟩ := q_drawn h (xs (am_ix (z3 + am_i 1))) (xs (am_ix (z3 + am_i 2))) (xs (am_ix (z3 + am_i 3)))
  rw [e1, Option.bind_some]
  dsimp only
  rw [e2, Option.bind_some]
  dsimp only
  rw [decide_eq_true (rfl : y = y), cond_true]
  exact ⟨(m2, r), rfl, g⟩
theorem cl_41 (h : Good m r) (z : Hz N z3) : ∃ p, m_L_c41 N xs z3 m r = some p ∧ Good p.1 p.2 := by
  obtain ⟨s, h⟩ := h
  obtain ⟨z1, z2, z4, z5, z6⟩ := z
  unfold m_L_c41
  simp only [z1, z2, cond_true]
  obtain ⟨y, m2, e1, e2, g⟩ := q_unlike h (xs (am_ix (z3 + am_i 1))) (xs (am_ix (z3 + am_i 2)))
  rw [e1, Option.bind_some, e2, Option.bind_some]
  dsimp only
  rw [decide_eq_true (rfl : y = y), cond_true]
  exact ⟨(m2, r), rfl, g⟩
theorem cl_42 (h : Good m r) (z : Hz N z3) : ∃ p, m_L_c42 N xs z3 m r = some p ∧ Good p.1 p.2 := by
  obtain ⟨s, h⟩ := h
  obtain ⟨z1, z2, z4, z5, z6⟩ := z
  unfold m_L_c42
  simp only [z1, z2, z4, cond_true]
  obtain ⟨y, m2, e1, e2, g⟩ := q_shared h (xs (am_ix (z3 + am_i 1))) (xs (am_ix (z3 + am_i 2))) (xs (am_ix (z3 + am_i 3)))
  rw [e1, Option.bind_some, e2, Option.bind_some]
  dsimp only
  rw [decide_eq_true (rfl : y = y), cond_true]
  exact ⟨(m2, r), rfl, g⟩
theorem cl_43 (h : Good m r) (z : Hz N z3) : ∃ p, m_L_c43 N xs z3 m r = some p ∧ Good p.1 p.2 := by
  obtain ⟨s, h⟩ := h
  obtain ⟨z1, z2, z4, z5, z6⟩ := z
  unfold m_L_c43
  simp only [z1, cond_true]
  obtain ⟨y, e1, e2⟩ := q_leads h (xs (am_ix (z3 + am_i 1)))
  rw [e1, Option.bind_some, e2, Option.bind_some, decide_eq_true (rfl : y = y), cond_true]
  exact ⟨(m, r), rfl, h.g⟩
theorem cl_44 (h : Good m r) (z : Hz N z3) : ∃ p, m_L_c44 N xs z3 m r = some p ∧ Good p.1 p.2 := by
  obtain ⟨s, h⟩ := h
  obtain ⟨z1, z2, z4, z5, z6⟩ := z
  unfold m_L_c44
  simp only [z1, z2, cond_true]
  obtain ⟨y, e1, e2⟩ := q_where h (xs (am_ix (z3 + am_i 1))) (xs (am_ix (z3 + am_i 2)))
  rw [e1, Option.bind_some, e2, Option.bind_some, decide_eq_true (rfl : y = y), cond_true]
  exact ⟨(m, r), rfl, h.g⟩
theorem cl_45 (h : Good m r) (z : Hz N z3) : ∃ p, m_L_c45 N xs z3 m r = some p ∧ Good p.1 p.2 := by
  obtain ⟨s, h⟩ := h
  obtain ⟨z1, z2, z4, z5, z6⟩ := z
  unfold m_L_c45
  simp only [z1, cond_true]
  obtain ⟨y, m1, r1, m2, e1, e2, g⟩ := q_cost h (xs (am_ix (z3 + am_i 1)))
  rw [e1, Option.bind_some]
  dsimp only
  rw [e2, Option.bind_some]
  dsimp only
  rw [decide_eq_true (rfl : y = y), cond_true]
  exact ⟨(m2, r1), rfl, g⟩
theorem cl_46 (h : Good m r) (z : Hz N z3) : ∃ p, m_L_c46 N xs z3 m r = some p ∧ Good p.1 p.2 := by
  obtain ⟨s, h⟩ := h
  obtain ⟨z1, z2, z4, z5, z6⟩ := z
  unfold m_L_c46
  simp only [z1, z2, z4, cond_true]
  obtain ⟨y, m1, r1, m2, e1, e2, g⟩ := q_would h (xs (am_ix (z3 + am_i 1))) (xs (am_ix (z3 + am_i 2))) (xs (am_ix (z3 + am_i 3)))
  rw [e1, Option.bind_some]
  dsimp only
  rw [e2, Option.bind_some]
  dsimp only
  rw [decide_eq_true (rfl : y = y), cond_true]
  exact ⟨(m2, r1), rfl, g⟩
theorem cl_47 (h : Good m r) (z : Hz N z3) : ∃ p, m_L_c47 N xs z3 m r = some p ∧ Good p.1 p.2 := by
  obtain ⟨s, h⟩ := h
  obtain ⟨z1, z2, z4, z5, z6⟩ := z
  unfold m_L_c47
  simp only [z1, cond_true]
  obtain ⟨y, m1, m2, e1, e2, g⟩ := q_home h (xs (am_ix (z3 + am_i 1)))
  rw [e1, Option.bind_some]
  dsimp only
  rw [e2, Option.bind_some]
  dsimp only
  rw [decide_eq_true (rfl : y = y), cond_true]
  exact ⟨(m2, r), rfl, g⟩
theorem cl_48 (h : Good m r) (z : Hz N z3) : ∃ p, m_L_c48 N xs z3 m r = some p ∧ Good p.1 p.2 := by
  obtain ⟨s, h⟩ := h
  obtain ⟨z1, z2, z4, z5, z6⟩ := z
  unfold m_L_c48
  simp only [z1, cond_true]
  obtain ⟨y, e1, e2⟩ := q_count h (xs (am_ix (z3 + am_i 1)))
  rw [e1, Option.bind_some, e2, Option.bind_some, decide_eq_true (rfl : y = y), cond_true]
  exact ⟨(m, r), rfl, h.g⟩
theorem cl_49 (h : Good m r) (z : Hz N z3) : ∃ p, m_L_c49 N xs z3 m r = some p ∧ Good p.1 p.2 := by
  obtain ⟨s, h⟩ := h
  obtain ⟨z1, z2, z4, z5, z6⟩ := z
  unfold m_L_c49
  simp only [z1, cond_true]
  by_cases c : xs (am_ix (z3 + am_i 1)) = 0
  · obtain ⟨y, m1, m2, e1, e2, g⟩ := q_image0 h
    rw [if_pos c, e1, Option.bind_some, if_pos c]
    dsimp only
    rw [e2, Option.bind_some]
    dsimp only
    rw [decide_eq_true (rfl : y = y), cond_true]
    exact ⟨(m2, r), rfl, g⟩
  · obtain ⟨y, m1, m2, e1, e2, g⟩ := q_image1 h
    rw [if_neg c, e1, Option.bind_some, if_neg c]
    dsimp only
    rw [e2, Option.bind_some]
    dsimp only
    rw [decide_eq_true (rfl : y = y), cond_true]
    exact ⟨(m2, r), rfl, g⟩
theorem cl_50 (h : Good m r) (z : Hz N z3) : ∃ p, m_L_c50 N xs z3 m r = some p ∧ Good p.1 p.2 := by
  obtain ⟨s, h⟩ := h
  obtain ⟨z1, z2, z4, z5, z6⟩ := z
  unfold m_L_c50
  simp only [z1, cond_true]
  obtain ⟨y, m1, m2, e1, e2, g⟩ := q_look h (xs (am_ix (z3 + am_i 1)))
  rw [e1, Option.bind_some]
  dsimp only
  rw [e2, Option.bind_some]
  dsimp only
  rw [decide_eq_true (rfl : y = y), cond_true]
  exact ⟨(m2, r), rfl, g⟩
theorem sw_if {c : Prop} [Decidable c] {a b : Option (am_m × am_rr)} (ha : ∃ p, a = some p ∧ Good p.1 p.2) (hb : ∃ p, b = some p ∧ Good p.1 p.2) : ∃ p, (if c then a else b) = some p ∧ Good p.1 p.2 := by
  by_cases h : c
  · rw [if_pos h]; exact ha
  · rw [if_neg h]; exact hb
theorem sw_ok (h : Good m r) (z : Hz N z3) (c : Int32) : ∃ p, m_L_sw N xs z3 m r c = some p ∧ Good p.1 p.2 := by
  refine sw_if (cl_0 h z) ?_
  refine sw_if (cl_1 h z) ?_
  refine sw_if (cl_2 h z) ?_
  refine sw_if (cl_3 h z) ?_
  refine sw_if (cl_4 h z) ?_
  refine sw_if (cl_5 h z) ?_
  refine sw_if (cl_6 h z) ?_
  refine sw_if (cl_7 h z) ?_
  refine sw_if (cl_8 h z) ?_
  refine sw_if (cl_9 h z) ?_
  refine sw_if (cl_10 h z) ?_
  refine sw_if (cl_11 h z) ?_
  refine sw_if (cl_12 h z) ?_
  refine sw_if (cl_13 h z) ?_
  refine sw_if (cl_14 h z) ?_
  refine sw_if (cl_15 h z) ?_
  refine sw_if (cl_16 h z) ?_
  refine sw_if (cl_17 h z) ?_
  refine sw_if (cl_18 h z) ?_
  refine sw_if (cl_19 h z) ?_
  refine sw_if (cl_20 h z) ?_
  refine sw_if (cl_21 h z) ?_
  refine sw_if (cl_22 h z) ?_
  refine sw_if (cl_23 h z) ?_
  refine sw_if (cl_24 h z) ?_
  refine sw_if (cl_25 h z) ?_
  refine sw_if (cl_26 h z) ?_
  refine sw_if (cl_27 h z) ?_
  refine sw_if (cl_28 h z) ?_
  refine sw_if (cl_29 h z) ?_
  refine sw_if (cl_30 h z) ?_
  refine sw_if (cl_31 h z) ?_
  refine sw_if (cl_32 h z) ?_
  refine sw_if (cl_33 h z) ?_
  refine sw_if (cl_34 h z) ?_
  refine sw_if (cl_35 h z) ?_
  refine sw_if (cl_36 h z) ?_
  refine sw_if (cl_37 h z) ?_
  refine sw_if (cl_38 h z) ?_
  refine sw_if (cl_39 h z) ?_
  refine sw_if (cl_40 h z) ?_
  refine sw_if (cl_41 h z) ?_
  refine sw_if (cl_42 h z) ?_
  refine sw_if (cl_43 h z) ?_
  refine sw_if (cl_44 h z) ?_
  refine sw_if (cl_45 h z) ?_
  refine sw_if (cl_46 h z) ?_
  refine sw_if (cl_47 h z) ?_
  refine sw_if (cl_48 h z) ?_
  refine sw_if (cl_49 h z) ?_
  refine sw_if (cl_50 h z) ?_
  exact ⟨(m, r), rfl, h⟩
theorem ofN {n : Nat} (h : n ≤ 3072) : Int32.ofNat n = am_i (n : Int) := Int32.toInt_inj.mp ((nI_toInt (n := n) (by omega)).trans (i_toInt (by omega) (by omega)).symm)
theorem loop_ok (hN : N ≤ 3072) : ∀ (n i : Nat) (m : am_m) (r : am_rr), Good m r → 6 * i ≤ N + 5 → N + 6 - 6 * i < 6 * n → ∃ p, m_L_loop N xs n (am_i ((6 * i : Nat) : Int)) m r = some p := by
  intro n
  induction n with
  | zero => intro i m r _ h1 h2; omega
  | succ n ih =>
    intro i m r h h1 h2
    rw [m_L_loop, ofN hN, i_sub]
    by_cases c : (N : Int) - 6 < ((6 * i : Nat) : Int)
    · rw [if_pos (by rw [i_lt (by omega) (by omega) (by omega) (by omega)]; exact c)]
      exact ⟨_, rfl⟩
    · have z : Hz N (am_i ((6 * i : Nat) : Int)) := by
        refine ⟨?_, ?_, ?_, ?_, ?_⟩ <;> rw [i_add, i_ibt (by omega) (by omega) (by omega)]
      obtain ⟨p, e, g⟩ := sw_ok (xs := xs) h z (xs (am_ix (am_i ((6 * i : Nat) : Int))) &&& am_i 63)
      rw [if_neg (by rw [i_lt (by omega) (by omega) (by omega) (by omega)]; exact c), i_ibt (by omega) (by omega) (by omega), cond_true, e, Option.bind_some, i_add, show ((6 * i : Nat) : Int) + 6 = ((6 * (i + 1) : Nat) : Int) by omega]
      exact ih (i + 1) p.1 p.2 g (by omega) (by omega)
end CLS
