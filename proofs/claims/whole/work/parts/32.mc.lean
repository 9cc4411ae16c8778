/-! ===== mathematics, 3: the reference's rows ===== -/
section MC
variable {m : am_m} {a b u off : Nat} {f g : Nat → Nat}
theorem s_X9_isIn {x lo hi : Int} (h1 : -2147483648 ≤ x) (h2 : x ≤ 2147483647) (h3 : -2147483648 ≤ lo) (h4 : lo ≤ 2147483647) (h5 : -2147483648 ≤ hi) (h6 : hi ≤ 2147483647) : m_X9_isIn m (am_i x) (am_i lo) (am_i hi) = some (am_i (if lo ≤ x ∧ x ≤ hi then 1 else 0)) := by
  unfold m_X9_isIn
  by_cases c1 : x < lo
  · rw [if_neg (show ¬ (lo ≤ x ∧ x ≤ hi) by omega)]
    simp (disch := first | assumption | omega) only [i_add, i_sub, i_mul, i_lt, i_le, i_eq, i_ibt, i_ixn, i_ix, i_zero, am_letF, cond_true, cond_false, Option.bind_some, ↓reduceIte, m_si, m_sc, true_and, and_true, not_true_eq_false, not_false_eq_true, i_gtF, i_leT, i_geF, i_ltT, Int32.zero_add, Int.toNat_natCast, ix_own, ix_sum, ix_ver, ix_th, ix_ab, ix_st, ix_vm, ix_lim, ix_lim1, ix_lim2, ix_lim3, Int.toNat_zero, i_neF, i_eqT, b1T, b1F]
  · by_cases c2 : hi < x
    · rw [if_neg (show ¬ (lo ≤ x ∧ x ≤ hi) by omega)]
      simp (disch := first | assumption | omega) only [i_add, i_sub, i_mul, i_lt, i_le, i_eq, i_ibt, i_ixn, i_ix, i_zero, am_letF, cond_true, cond_false, Option.bind_some, ↓reduceIte, m_si, m_sc, true_and, and_true, not_true_eq_false, not_false_eq_true, i_gtF, i_leT, i_geF, i_ltT, Int32.zero_add, Int.toNat_natCast, ix_own, ix_sum, ix_ver, ix_th, ix_ab, ix_st, ix_vm, ix_lim, ix_lim1, ix_lim2, ix_lim3, Int.toNat_zero, i_neF, i_eqT, b1T, b1F]
    · rw [if_pos (show lo ≤ x ∧ x ≤ hi by omega)]
      simp (disch := first | assumption | omega) only [i_add, i_sub, i_mul, i_lt, i_le, i_eq, i_ibt, i_ixn, i_ix, i_zero, am_letF, cond_true, cond_false, Option.bind_some, ↓reduceIte, m_si, m_sc, true_and, and_true, not_true_eq_false, not_false_eq_true, i_gtF, i_leT, i_geF, i_ltT, Int32.zero_add, Int.toNat_natCast, ix_own, ix_sum, ix_ver, ix_th, ix_ab, ix_st, ix_vm, ix_lim, ix_lim1, ix_lim2, ix_lim3, Int.toNat_zero, i_neF, i_eqT, b1T, b1F]
theorem s_X9_lays (h : RowW m off f) (ho : off + 64 ≤ 15517) (ha : a ≠ 3262) : ∃ m', m_X9_lays m (am_i off) a = some m' ∧ Fr (fun b => b = a) m m' ∧ Row m' a f := by
  refine ⟨fun b i => if b = a ∧ i < 64 then m 3262 (off + i) else m b i, ?_, fun b hb => ?_, ⟨fun c hc => ?_, h.2⟩⟩
  · unfold m_X9_lays
    refine lo_go (fun n j s => m_X9_lays_2 (am_i off) a (am_i off) (fun m5 => some m5) n (am_i (j : Int)) s) (fun j b i => if b = a ∧ i < j then m 3262 (off + i) else m b i) 0 64 (by funext b i; rw [if_neg (fun e => Nat.not_lt_zero _ e.2)]) (by omega) (am_Fv (by omega)) (fun n j _ hj => ?_) (fun n => rfl)
    show m_X9_lays_2 (am_i off) a (am_i off) (fun m5 => some m5) (n + 1) _ _ = _
    rw [m_X9_lays_2]
    simp (disch := first | assumption | omega) only [i_add, i_sub, i_mul, i_lt, i_le, i_eq, i_ibt, i_ixn, i_ix, i_zero, am_letF, cond_true, cond_false, Option.bind_some, ↓reduceIte, m_si, m_sc, true_and, and_true, not_true_eq_false, not_false_eq_true, i_gtF, i_leT, i_geF, i_ltT, Int32.zero_add, Int.toNat_natCast, ix_own, ix_sum, ix_ver, ix_th, ix_ab, ix_st, ix_vm, ix_lim, ix_lim1, ix_lim2, ix_lim3, Int.toNat_zero, i_neF, i_eqT, b1T, b1F]
    rw [show ((off : Int) + (j : Int)).toNat = off + j by omega, if_neg (fun e => ha e.1.symm)]
    congr 1
    funext b i
    rw [m_si]
    by_cases e : b = a ∧ i = j
    · rw [if_pos e, if_pos ⟨e.1, by omega⟩, e.2]
    · rw [if_neg e]
      by_cases e2 : b = a ∧ i < j
      · rw [if_pos e2, if_pos ⟨e2.1, by omega⟩]
      · rw [if_neg e2, if_neg (fun e3 => e2 ⟨e3.1, by have := fun h => e ⟨e3.1, h⟩; omega⟩)]
  · funext i
    exact if_neg (fun e => hb e.1)
  · show (if a = a ∧ c < 64 then m 3262 (off + c) else m a c) = _
    rw [if_pos ⟨rfl, hc⟩]
    exact h.1 c hc
theorem s_X9_allOf (h : RowW m (1608 + 64 * u) f) (hu : u < 24) : ∃ m', m_X9_allOf m (am_i u) = some (am_i (su f 64 : Nat), m') ∧ Fr (fun b => b = 3266) m m' ∧ Row m' 3266 f := by
  obtain ⟨m', h1, h2, h3⟩ := s_X9_lays (a := 3266) h (by omega) (by decide)
  refine ⟨m', ?_, h2, h3⟩
  unfold m_X9_allOf m_X9_sumAt
  rw [Option.bind_some, i_mul, i_add, show (1608 : Int) + 64 * (u : Int) = ((1608 + 64 * u : Nat) : Int) by omega, h1, Option.bind_some, s_X9_all h3]
  rfl
theorem s_X9_rankedIn {r : Int} (h : RowW m (1608 + 64 * u) f) (hu : u < 24) (h1 : -2147483648 ≤ r) (h2 : r ≤ 2147483647) : m_X9_rankedIn m (am_i u) (am_i r) = some (am_i (catI f r)) := by
  unfold m_X9_rankedIn catI
  by_cases hr : 0 ≤ r
  · simp (disch := first | assumption | omega) only [i_add, i_sub, i_mul, i_lt, i_le, i_eq, i_ibt, i_ixn, i_ix, i_zero, am_letF, cond_true, cond_false, Option.bind_some, ↓reduceIte, m_si, m_sc, true_and, and_true, not_true_eq_false, not_false_eq_true, i_gtF, i_leT, i_geF, i_ltT, Int32.zero_add, Int.toNat_natCast, ix_own, ix_sum, ix_ver, ix_th, ix_ab, ix_st, ix_vm, ix_lim, ix_lim1, ix_lim2, ix_lim3, Int.toNat_zero, i_neF, i_eqT, b1T, b1F]
    obtain ⟨k, rfl⟩ : ∃ k : Nat, r = k := ⟨r.toNat, by omega⟩
    rw [Int.toNat_natCast]
    refine (lo_seek (fun n j s => m_X9_rankedIn_11 (am_i u) (am_i k) m (am_i u) (some (am_i (-1))) n s (am_i (j : Int))) (fun j => am_i ((k : Int) - (su f j : Nat))) 64 (fun c => decide (k < su f (c + 1))) (fun j => some (am_i (j : Int))) (some (am_i (-1))) (by show _ = am_i ((k : Int) - ((0 : Nat) : Int)); rw [Int.natCast_zero, Int.sub_zero]) (am_Fv (by omega)) ?_ ?_ ?_).trans ?_
    · intro n j hj hp
      have b1 := h.2 j
      have b2 := su_b h.2 j
      have hp' := of_decide_eq_false hp
      rw [su_s] at hp'
      show m_X9_rankedIn_11 (am_i u) (am_i k) m (am_i u) (some (am_i (-1))) (n + 1) _ _ = _
      rw [m_X9_rankedIn_11]
      unfold m_X9_sumAt
      simp (disch := first | assumption | omega) only [i_add, i_sub, i_mul, i_lt, i_le, i_eq, i_ibt, i_ixn, i_ix, i_zero, am_letF, cond_true, cond_false, Option.bind_some, ↓reduceIte, m_si, m_sc, true_and, and_true, not_true_eq_false, not_false_eq_true, i_gtF, i_leT, i_geF, i_ltT, Int32.zero_add, Int.toNat_natCast, ix_own, ix_sum, ix_ver, ix_th, ix_ab, ix_st, ix_vm, ix_lim, ix_lim1, ix_lim2, ix_lim3, Int.toNat_zero, i_neF, i_eqT, b1T, b1F, h.1]
      rw [su_i]
      congr 2
      omega
    · intro n j hj hp
      have b1 := h.2 j
      have b2 := su_b h.2 j
      have hp' := of_decide_eq_true hp
      rw [su_s] at hp'
      show m_X9_rankedIn_11 (am_i u) (am_i k) m (am_i u) (some (am_i (-1))) (n + 1) _ _ = _
      rw [m_X9_rankedIn_11]
      unfold m_X9_sumAt
      simp (disch := first | assumption | omega) only [i_add, i_sub, i_mul, i_lt, i_le, i_eq, i_ibt, i_ixn, i_ix, i_zero, am_letF, cond_true, cond_false, Option.bind_some, ↓reduceIte, m_si, m_sc, true_and, and_true, not_true_eq_false, not_false_eq_true, i_gtF, i_leT, i_geF, i_ltT, Int32.zero_add, Int.toNat_natCast, ix_own, ix_sum, ix_ver, ix_th, ix_ab, ix_st, ix_vm, ix_lim, ix_lim1, ix_lim2, ix_lim3, Int.toNat_zero, i_neF, i_eqT, b1T, b1F, h.1]
    · intro n; rfl
    · unfold cat; split <;> rfl
  · simp (disch := first | assumption | omega) only [i_add, i_sub, i_mul, i_lt, i_le, i_eq, i_ibt, i_ixn, i_ix, i_zero, am_letF, cond_true, cond_false, Option.bind_some, ↓reduceIte, m_si, m_sc, true_and, and_true, not_true_eq_false, not_false_eq_true, i_gtF, i_leT, i_geF, i_ltT, Int32.zero_add, Int.toNat_natCast, ix_own, ix_sum, ix_ver, ix_th, ix_ab, ix_st, ix_vm, ix_lim, ix_lim1, ix_lim2, ix_lim3, Int.toNat_zero, i_neF, i_eqT, b1T, b1F]
end MC
