/-! ===== mathematics, 2: rows ===== -/
section MB
variable {m : am_m} {a b : Nat} {f g : Nat → Nat}
theorem s_X9_all (h : Row m a f) : m_X9_all m a = some (am_i (su f 64 : Nat)) := by
  unfold m_X9_all
  refine lo_go (fun n j s => m_X9_all_4 a m (fun u3 => some u3) n s (am_i (j : Int))) (fun j => am_i (su f j : Nat)) 0 64 rfl (by omega) (am_Fv (by omega)) (fun n j _ hj => ?_) (fun n => rfl)
  show m_X9_all_4 a m (fun u3 => some u3) (n + 1) _ _ = _
  rw [m_X9_all_4]
  simp (disch := first | assumption | omega) only [i_add, i_sub, i_mul, i_lt, i_le, i_eq, i_ibt, i_ixn, i_ix, i_zero, am_letF, cond_true, cond_false, Option.bind_some, ↓reduceIte, m_si, m_sc, true_and, and_true, not_true_eq_false, not_false_eq_true, i_gtF, i_leT, i_geF, i_ltT, Int32.zero_add, Int.toNat_natCast, ix_own, ix_sum, ix_ver, ix_th, ix_ab, ix_st, ix_vm, ix_lim, ix_lim1, ix_lim2, ix_lim3, Int.toNat_zero, i_neF, i_eqT, b1T, b1F, h.1]
  rfl
theorem s_X5_totalOf {lo hi : Nat} (h : Row m a f) (h1 : lo ≤ hi + 1) (h2 : hi < 64) : m_X5_totalOf m a (am_i lo) (am_i hi) = some (am_i ((su f (hi + 1) : Nat) - (su f lo : Nat) : Int)) := by
  unfold m_X5_totalOf am_mx
  simp (disch := first | assumption | omega) only [i_add, i_sub, i_mul, i_lt, i_le, i_eq, i_ibt, i_ixn, i_ix, i_zero, am_letF, cond_true, cond_false, Option.bind_some, ↓reduceIte, m_si, m_sc, true_and, and_true, not_true_eq_false, not_false_eq_true, i_gtF, i_leT, i_geF, i_ltT, Int32.zero_add, Int.toNat_natCast, ix_own, ix_sum, ix_ver, ix_th, ix_ab, ix_st, ix_vm, ix_lim, ix_lim1, ix_lim2, ix_lim3, Int.toNat_zero, i_neF, i_eqT, b1T, b1F]
  refine lo_go (fun n j s => m_X5_totalOf_9 a (am_i lo) (am_i hi) m (am_i hi) (fun u4 => some u4) n s (am_i (j : Int))) (fun j => am_i ((su f j : Nat) - (su f lo : Nat) : Int)) lo (hi + 1) (by rw [Int.sub_self]) (by omega) (am_Fv (by omega)) (fun n j _ hj => ?_) (fun n => ?_)
  · show m_X5_totalOf_9 a _ _ m _ (fun u4 => some u4) (n + 1) _ _ = _
    rw [m_X5_totalOf_9]
    simp (disch := first | assumption | omega) only [i_add, i_sub, i_mul, i_lt, i_le, i_eq, i_ibt, i_ixn, i_ix, i_zero, am_letF, cond_true, cond_false, Option.bind_some, ↓reduceIte, m_si, m_sc, true_and, and_true, not_true_eq_false, not_false_eq_true, i_gtF, i_leT, i_geF, i_ltT, Int32.zero_add, Int.toNat_natCast, ix_own, ix_sum, ix_ver, ix_th, ix_ab, ix_st, ix_vm, ix_lim, ix_lim1, ix_lim2, ix_lim3, Int.toNat_zero, i_neF, i_eqT, b1T, b1F, h.1]
    rw [su_i]
    congr 2
    omega
  · show m_X5_totalOf_9 a _ _ m _ (fun u4 => some u4) (n + 1) _ _ = _
    rw [m_X5_totalOf_9]
    simp (disch := first | assumption | omega) only [i_add, i_sub, i_mul, i_lt, i_le, i_eq, i_ibt, i_ixn, i_ix, i_zero, am_letF, cond_true, cond_false, Option.bind_some, ↓reduceIte, m_si, m_sc, true_and, and_true, not_true_eq_false, not_false_eq_true, i_gtF, i_leT, i_geF, i_ltT, Int32.zero_add, Int.toNat_natCast, ix_own, ix_sum, ix_ver, ix_th, ix_ab, ix_st, ix_vm, ix_lim, ix_lim1, ix_lim2, ix_lim3, Int.toNat_zero, i_neF, i_eqT, b1T, b1F, h.1]
/-- nothing is in an empty span -/
theorem s_X5_total0 {hi : Int} (h1 : -1 ≤ hi) (h2 : hi < 0) : m_X5_totalOf m a (am_i 0) (am_i hi) = some (am_i 0) := by
  have e : hi = -1 := by omega
  rw [e]
  rfl
theorem s_X5_allOf (h : Row m a f) : m_X5_allOf m a = some (am_i (su f 64 : Nat)) := by
  unfold m_X5_allOf
  rw [show am_i 0 = am_i ((0 : Nat) : Int) from rfl, show am_i 63 = am_i ((63 : Nat) : Int) from rfl, s_X5_totalOf h (by omega) (by omega)]
  show some (am_i ((su f 64 : Nat) - ((0 : Nat) : Int))) = _
  rw [Int.natCast_zero, Int.sub_zero]
/-- by how much two numbers are apart -/
def un (f g : Nat → Nat) (c : Nat) : Nat := (f c - g c) + (g c - f c)
theorem un_b (hf : ∀ c, f c ≤ 1000000) (hg : ∀ c, g c ≤ 1000000) (c : Nat) : un f g c ≤ 1000000 := by
  have := hf c
  have := hg c
  unfold un
  omega
theorem s_X5_unlikeness (h : Row m a f) (h2 : Row m b g) : m_X5_unlikeness m a b = some (am_i (su (un f g) 64 : Nat)) := by
  unfold m_X5_unlikeness
  refine lo_go (fun n j s => m_X5_unlikeness_4 a b m (fun u4 => some u4) n s (am_i (j : Int))) (fun j => am_i (su (un f g) j : Nat)) 0 64 rfl (by omega) (am_Fv (by omega)) (fun n j _ hj => ?_) (fun n => rfl)
  show m_X5_unlikeness_4 a b m (fun u4 => some u4) (n + 1) _ _ = _
  rw [m_X5_unlikeness_4]
  have b1 := h.2 j
  have b2 := h2.2 j
  simp (disch := first | assumption | omega) only [i_add, i_sub, i_mul, i_lt, i_le, i_eq, i_ibt, i_ixn, i_ix, i_zero, am_letF, cond_true, cond_false, Option.bind_some, ↓reduceIte, m_si, m_sc, true_and, and_true, not_true_eq_false, not_false_eq_true, i_gtF, i_leT, i_geF, i_ltT, Int32.zero_add, Int.toNat_natCast, ix_own, ix_sum, ix_ver, ix_th, ix_ab, ix_st, ix_vm, ix_lim, ix_lim1, ix_lim2, ix_lim3, Int.toNat_zero, i_neF, i_eqT, b1T, b1F, h.1, h2.1, i_abs]
  rw [su_i]
  unfold un
  congr 2
  omega
theorem s_X9_unlike (h : Row m a f) (h2 : Row m b g) : m_X9_unlike m a b = some (am_i (su (un f g) 64 : Nat)) := by
  unfold m_X9_unlike
  refine lo_go (fun n j s => m_X9_unlike_4 a b m (fun u4 => some u4) n s (am_i (j : Int))) (fun j => am_i (su (un f g) j : Nat)) 0 64 rfl (by omega) (am_Fv (by omega)) (fun n j _ hj => ?_) (fun n => rfl)
  show m_X9_unlike_4 a b m (fun u4 => some u4) (n + 1) _ _ = _
  rw [m_X9_unlike_4]
  have b1 := h.2 j
  have b2 := h2.2 j
  by_cases hc : f j ≤ g j
  · simp (disch := first | assumption | omega) only [i_add, i_sub, i_mul, i_lt, i_le, i_eq, i_ibt, i_ixn, i_ix, i_zero, am_letF, cond_true, cond_false, Option.bind_some, ↓reduceIte, m_si, m_sc, true_and, and_true, not_true_eq_false, not_false_eq_true, i_gtF, i_leT, i_geF, i_ltT, Int32.zero_add, Int.toNat_natCast, ix_own, ix_sum, ix_ver, ix_th, ix_ab, ix_st, ix_vm, ix_lim, ix_lim1, ix_lim2, ix_lim3, Int.toNat_zero, i_neF, i_eqT, b1T, b1F, h.1, h2.1]
    rw [su_i]
    unfold un
    congr 2
    omega
  · simp (disch := first | assumption | omega) only [i_add, i_sub, i_mul, i_lt, i_le, i_eq, i_ibt, i_ixn, i_ix, i_zero, am_letF, cond_true, cond_false, Option.bind_some, ↓reduceIte, m_si, m_sc, true_and, and_true, not_true_eq_false, not_false_eq_true, i_gtF, i_leT, i_geF, i_ltT, Int32.zero_add, Int.toNat_natCast, ix_own, ix_sum, ix_ver, ix_th, ix_ab, ix_st, ix_vm, ix_lim, ix_lim1, ix_lim2, ix_lim3, Int.toNat_zero, i_neF, i_eqT, b1T, b1F, h.1, h2.1]
    rw [su_i]
    unfold un
    congr 2
    omega
theorem s_X5_lesserOf (h : Row m a f) (h2 : Row m b g) : m_X5_lesserOf m a b = some (am_i (su (fun c => min (f c) (g c)) 64 : Nat)) := by
  unfold m_X5_lesserOf
  refine lo_go (fun n j s => m_X5_lesserOf_4 a b m (fun u4 => some u4) n s (am_i (j : Int))) (fun j => am_i (su (fun c => min (f c) (g c)) j : Nat)) 0 64 rfl (by omega) (am_Fv (by omega)) (fun n j _ hj => ?_) (fun n => rfl)
  show m_X5_lesserOf_4 a b m (fun u4 => some u4) (n + 1) _ _ = _
  rw [m_X5_lesserOf_4]
  have b1 := h.2 j
  have b2 := h2.2 j
  unfold am_mn
  by_cases hc : g j < f j
  · simp (disch := first | assumption | omega) only [i_add, i_sub, i_mul, i_lt, i_le, i_eq, i_ibt, i_ixn, i_ix, i_zero, am_letF, cond_true, cond_false, Option.bind_some, ↓reduceIte, m_si, m_sc, true_and, and_true, not_true_eq_false, not_false_eq_true, i_gtF, i_leT, i_geF, i_ltT, Int32.zero_add, Int.toNat_natCast, ix_own, ix_sum, ix_ver, ix_th, ix_ab, ix_st, ix_vm, ix_lim, ix_lim1, ix_lim2, ix_lim3, Int.toNat_zero, i_neF, i_eqT, b1T, b1F, h.1, h2.1]
    rw [su_i]
    congr 2
    omega
  · simp (disch := first | assumption | omega) only [i_add, i_sub, i_mul, i_lt, i_le, i_eq, i_ibt, i_ixn, i_ix, i_zero, am_letF, cond_true, cond_false, Option.bind_some, ↓reduceIte, m_si, m_sc, true_and, and_true, not_true_eq_false, not_false_eq_true, i_gtF, i_leT, i_geF, i_ltT, Int32.zero_add, Int.toNat_natCast, ix_own, ix_sum, ix_ver, ix_th, ix_ab, ix_st, ix_vm, ix_lim, ix_lim1, ix_lim2, ix_lim3, Int.toNat_zero, i_neF, i_eqT, b1T, b1F, h.1, h2.1]
    rw [su_i]
    congr 2
    omega
/-- where a rank lies -/
def cat (f : Nat → Nat) (r : Nat) : Nat := fi (fun c => decide (r < su f (c + 1))) 64
def catI (f : Nat → Nat) (r : Int) : Int := if 0 ≤ r then (if cat f r.toNat < 64 then (cat f r.toNat : Int) else -1) else -1
theorem s_X5_categoryAt {r : Int} (h : Row m a f) (h1 : -2147483648 ≤ r) (h2 : r ≤ 2147483647) : m_X5_categoryAt m a (am_i r) = some (am_i (catI f r)) := by
  unfold m_X5_categoryAt catI
  by_cases hr : 0 ≤ r
  · simp (disch := first | assumption | omega) only [i_add, i_sub, i_mul, i_lt, i_le, i_eq, i_ibt, i_ixn, i_ix, i_zero, am_letF, cond_true, cond_false, Option.bind_some, ↓reduceIte, m_si, m_sc, true_and, and_true, not_true_eq_false, not_false_eq_true, i_gtF, i_leT, i_geF, i_ltT, Int32.zero_add, Int.toNat_natCast, ix_own, ix_sum, ix_ver, ix_th, ix_ab, ix_st, ix_vm, ix_lim, ix_lim1, ix_lim2, ix_lim3, Int.toNat_zero, i_neF, i_eqT, b1T, b1F]
    obtain ⟨k, rfl⟩ : ∃ k : Nat, r = k := ⟨r.toNat, by omega⟩
    rw [Int.toNat_natCast]
    refine (lo_seek (fun n j s => m_X5_categoryAt_10 a (am_i k) m (some (am_i (-1))) n s (am_i (j : Int))) (fun j => am_i ((k : Int) - (su f j : Nat))) 64 (fun c => decide (k < su f (c + 1))) (fun j => some (am_i (j : Int))) (some (am_i (-1))) (by show _ = am_i ((k : Int) - ((0 : Nat) : Int)); rw [Int.natCast_zero, Int.sub_zero]) (am_Fv (by omega)) ?_ ?_ ?_).trans ?_
    · intro n j hj hp
      have b1 := h.2 j
      have b2 := su_b h.2 j
      have hp' := of_decide_eq_false hp
      rw [su_s] at hp'
      show m_X5_categoryAt_10 a (am_i k) m (some (am_i (-1))) (n + 1) _ _ = _
      rw [m_X5_categoryAt_10]
      simp (disch := first | assumption | omega) only [i_add, i_sub, i_mul, i_lt, i_le, i_eq, i_ibt, i_ixn, i_ix, i_zero, am_letF, cond_true, cond_false, Option.bind_some, ↓reduceIte, m_si, m_sc, true_and, and_true, not_true_eq_false, not_false_eq_true, i_gtF, i_leT, i_geF, i_ltT, Int32.zero_add, Int.toNat_natCast, ix_own, ix_sum, ix_ver, ix_th, ix_ab, ix_st, ix_vm, ix_lim, ix_lim1, ix_lim2, ix_lim3, Int.toNat_zero, i_neF, i_eqT, b1T, b1F, h.1]
      rw [su_i]
      congr 2
      omega
    · intro n j hj hp
      have b1 := h.2 j
      have b2 := su_b h.2 j
      have hp' := of_decide_eq_true hp
      rw [su_s] at hp'
      show m_X5_categoryAt_10 a (am_i k) m (some (am_i (-1))) (n + 1) _ _ = _
      rw [m_X5_categoryAt_10]
      simp (disch := first | assumption | omega) only [i_add, i_sub, i_mul, i_lt, i_le, i_eq, i_ibt, i_ixn, i_ix, i_zero, am_letF, cond_true, cond_false, Option.bind_some, ↓reduceIte, m_si, m_sc, true_and, and_true, not_true_eq_false, not_false_eq_true, i_gtF, i_leT, i_geF, i_ltT, Int32.zero_add, Int.toNat_natCast, ix_own, ix_sum, ix_ver, ix_th, ix_ab, ix_st, ix_vm, ix_lim, ix_lim1, ix_lim2, ix_lim3, Int.toNat_zero, i_neF, i_eqT, b1T, b1F, h.1]
    · intro n; rfl
    · unfold cat; split <;> rfl
  · simp (disch := first | assumption | omega) only [i_add, i_sub, i_mul, i_lt, i_le, i_eq, i_ibt, i_ixn, i_ix, i_zero, am_letF, cond_true, cond_false, Option.bind_some, ↓reduceIte, m_si, m_sc, true_and, and_true, not_true_eq_false, not_false_eq_true, i_gtF, i_leT, i_geF, i_ltT, Int32.zero_add, Int.toNat_natCast, ix_own, ix_sum, ix_ver, ix_th, ix_ab, ix_st, ix_vm, ix_lim, ix_lim1, ix_lim2, ix_lim3, Int.toNat_zero, i_neF, i_eqT, b1T, b1F]
end MB
