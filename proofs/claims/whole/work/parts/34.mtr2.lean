/-! ===== mathematics, 5: trees, more ===== -/
section MT2
variable {m : am_m} {o : Nat} {up : Nat → Int} {d : Nat → Nat}
theorem s_X9_below {q : Nat} {i : Int} (h : TM m up) (hT : Tr up d) (hq : q < 24) (ht : up q ≠ -2) (h1 : -2147483648 ≤ i) (h2 : i ≤ 2147483647) : m_X9_below m (am_i q) (am_i i) = some (am_i (lowI up q i)) := by
  unfold m_X9_below
  rw [s_X9_isUnit h (by omega) (by omega), thr_t hq ht, Option.bind_some, if_pos (by rw [b1T]; decide)]
  refine (lo_seek (fun n j s => m_X9_below_15 (am_i q) (am_i i) m (am_i q) (am_i i) (some (am_i (-1))) n s (am_i (j : Int))) (fun j => am_i (cn (fun k => up k == (q : Int)) j : Nat)) 24 (fun k => (up k == (q : Int)) && ((cn (fun k => up k == (q : Int)) k : Nat) : Int) == i) (fun j => some (am_i (j : Int))) (some (am_i (-1))) rfl (am_Fv (by omega)) (fun n j hj hp => ?_) (fun n j hj hp => ?_) (fun n => rfl)).trans ?_
  · show m_X9_below_15 (am_i q) (am_i i) m (am_i q) (am_i i) (some (am_i (-1))) (n + 1) _ _ = _
    have e1 := hT.2.2.1 j
    have e2 := cn_le (fun k => up k == (q : Int)) j
    rw [m_X9_below_15, cn_s, s_X9_isUnit h (by omega) (by omega)]
    by_cases c0 : up j = -2
    · rw [thr_f c0, show (up j == (q : Int)) = false from beq_eq_false_iff_ne.mpr (by omega)]
      simp (disch := first | assumption | omega) only [i_add, i_sub, i_mul, i_lt, i_le, i_eq, i_ibt, i_ixn, i_ix, i_zero, am_letF, cond_true, cond_false, Option.bind_some, ↓reduceIte, m_si, m_sc, true_and, and_true, not_true_eq_false, not_false_eq_true, i_gtF, i_leT, i_geF, i_ltT, Int32.zero_add, Int.toNat_natCast, ix_own, ix_sum, ix_ver, ix_th, ix_ab, ix_st, ix_vm, ix_lim, ix_lim1, ix_lim2, ix_lim3, Int.toNat_zero, i_neF, i_eqT, b1T, b1F]
      first | done | rfl | (rw [if_neg (by omega)]; done) | (rw [if_neg (by omega)]; rfl) | (rw [if_pos (by omega)]; done) | (rw [if_pos (by omega)]; rfl)
    · have h' := h.2 j hj c0
      rw [thr_t hj c0]
      by_cases c : up j = q
      · rw [show (up j == (q : Int)) = true by rw [c]; exact beq_self_eq_true _] at hp ⊢
        have hp : ¬ ((cn (fun k => up k == (q : Int)) j : Nat) : Int) = i := fun e => by rw [Bool.true_and, beq_eq_false_iff_ne] at hp; exact hp e
        simp (disch := first | assumption | omega) only [i_add, i_sub, i_mul, i_lt, i_le, i_eq, i_ibt, i_ixn, i_ix, i_zero, am_letF, cond_true, cond_false, Option.bind_some, ↓reduceIte, m_si, m_sc, true_and, and_true, not_true_eq_false, not_false_eq_true, i_gtF, i_leT, i_geF, i_ltT, Int32.zero_add, Int.toNat_natCast, ix_own, ix_sum, ix_ver, ix_th, ix_ab, ix_st, ix_vm, ix_lim, ix_lim1, ix_lim2, ix_lim3, Int.toNat_zero, i_neF, i_eqT, b1T, b1F, h', hp]
        first | done | rfl | (rw [if_neg (by omega)]; done) | (rw [if_neg (by omega)]; rfl) | (rw [if_pos (by omega)]; done) | (rw [if_pos (by omega)]; rfl)
      · rw [show (up j == (q : Int)) = false from beq_eq_false_iff_ne.mpr c]
        simp (disch := first | assumption | omega) only [i_add, i_sub, i_mul, i_lt, i_le, i_eq, i_ibt, i_ixn, i_ix, i_zero, am_letF, cond_true, cond_false, Option.bind_some, ↓reduceIte, m_si, m_sc, true_and, and_true, not_true_eq_false, not_false_eq_true, i_gtF, i_leT, i_geF, i_ltT, Int32.zero_add, Int.toNat_natCast, ix_own, ix_sum, ix_ver, ix_th, ix_ab, ix_st, ix_vm, ix_lim, ix_lim1, ix_lim2, ix_lim3, Int.toNat_zero, i_neF, i_eqT, b1T, b1F, h']
        first | done | rfl | (rw [if_neg (by omega)]; done) | (rw [if_neg (by omega)]; rfl) | (rw [if_pos (by omega)]; done) | (rw [if_pos (by omega)]; rfl)
  · show m_X9_below_15 (am_i q) (am_i i) m (am_i q) (am_i i) (some (am_i (-1))) (n + 1) _ _ = _
    have e1 := hT.2.2.1 j
    have e2 := cn_le (fun k => up k == (q : Int)) j
    rw [Bool.and_eq_true] at hp
    have c := eq_of_beq hp.1
    have hp := eq_of_beq hp.2
    have h' := h.2 j hj (by omega)
    rw [m_X9_below_15, s_X9_isUnit h (by omega) (by omega), thr_t hj (by omega)]
    simp (disch := first | assumption | omega) only [i_add, i_sub, i_mul, i_lt, i_le, i_eq, i_ibt, i_ixn, i_ix, i_zero, am_letF, cond_true, cond_false, Option.bind_some, ↓reduceIte, m_si, m_sc, true_and, and_true, not_true_eq_false, not_false_eq_true, i_gtF, i_leT, i_geF, i_ltT, Int32.zero_add, Int.toNat_natCast, ix_own, ix_sum, ix_ver, ix_th, ix_ab, ix_st, ix_vm, ix_lim, ix_lim1, ix_lim2, ix_lim3, Int.toNat_zero, i_neF, i_eqT, b1T, b1F, h', hp]
    first | done | rfl | (rw [if_neg (by omega)]; done) | (rw [if_neg (by omega)]; rfl) | (rw [if_pos (by omega)]; done) | (rw [if_pos (by omega)]; rfl)
  · unfold lowI lowA
    generalize fi _ 24 = k
    by_cases e : k < 24
    · rw [if_pos e, if_pos e]
    · rw [if_neg e, if_neg e]
theorem inB_d {u t : Nat} (hT : Tr up d) (hu : u < 24) (ht : up u ≠ -2) (h : inB up d u t = true) : d t ≤ d u ∧ t < 24 ∧ up t ≠ -2 := by
  unfold inB at h
  have h := of_decide_eq_true h
  have h2 := fi_is _ _ h
  have h3 := eq_of_beq h2
  obtain ⟨p, g1, g2, g3, g4⟩ := hT.anc hu ht _ (Nat.le_of_lt_succ h)
  rw [g2] at h3
  have e : p = t := by omega
  rw [← e]
  exact ⟨by omega, g1, g3⟩
/-- how far down a branch goes -/
def hgt (up : Nat → Int) (d : Nat → Nat) (t : Nat) : Nat → Nat
  | 0 => 0
  | n + 1 => if (thr up n && inB up d n t) = true then max (hgt up d t n) (d n - d t) else hgt up d t n
theorem hgt_le (hT : Tr up d) (t : Nat) : ∀ n, hgt up d t n ≤ 12 := by
  intro n
  induction n with
  | zero => exact Nat.zero_le _
  | succ n ih =>
    unfold hgt
    have := hT.2.2.2.1 n
    split <;> omega
theorem s_X1_heightOf {t : Nat} (h : TC m o up) (hT : Tr up d) (ht : t < 24) (ht2 : up t ≠ -2) : m_X1_heightOf m o (am_i t) = some (am_i (hgt up d t 24)) := by
  unfold m_X1_heightOf
  have b1 := hT.2.2.2.1 t
  rw [s_X1_depthOf h hT ht ht2, Option.bind_some]
  refine lo_go (fun n j s => m_X1_heightOf_8 o (am_i t) m (am_i t) (fun u8 => (some (am_i (d t))).bind fun q9 => some (u8 - q9)) n s (am_i (j : Int))) (fun j => am_i ((d t + hgt up d t j : Nat) : Int)) 0 24 rfl (by omega) (am_Fv (by omega)) (fun n j _ hj => ?_) (fun n => ?_)
  · show m_X1_heightOf_8 o (am_i t) m (am_i t) _ (n + 1) _ _ = _
    have b2 := hgt_le hT t j
    have b3 := hT.2.2.2.1 j
    rw [m_X1_heightOf_8, s_X1_isThere h hT (by omega) (by omega)]
    show _ = m_X1_heightOf_8 o (am_i t) m (am_i t) _ n (am_i ((d t + (if (thr up j && inB up d j t) = true then max (hgt up d t j) (d j - d t) else hgt up d t j) : Nat) : Int)) _
    by_cases c : up j = -2
    · rw [thr_f c]
      simp (disch := first | assumption | omega) only [i_add, i_sub, i_mul, i_lt, i_le, i_eq, i_ibt, i_ixn, i_ix, i_zero, am_letF, cond_true, cond_false, Option.bind_some, ↓reduceIte, m_si, m_sc, true_and, and_true, not_true_eq_false, not_false_eq_true, i_gtF, i_leT, i_geF, i_ltT, Int32.zero_add, Int.toNat_natCast, ix_own, ix_sum, ix_ver, ix_th, ix_ab, ix_st, ix_vm, ix_lim, ix_lim1, ix_lim2, ix_lim3, Int.toNat_zero, i_neF, i_eqT, b1T, b1F, Bool.false_and]
      first | done | rfl | (rw [if_neg (by omega)]; done) | (rw [if_neg (by omega)]; rfl) | (rw [if_pos (by omega)]; done) | (rw [if_pos (by omega)]; rfl)
    · rw [thr_t hj c, s_X1_isInBranch h hT hj c (by omega) (by omega), s_X1_depthOf h hT hj c]
      cases e : inB up d j t
      · simp (disch := first | assumption | omega) only [i_add, i_sub, i_mul, i_lt, i_le, i_eq, i_ibt, i_ixn, i_ix, i_zero, am_letF, cond_true, cond_false, Option.bind_some, ↓reduceIte, m_si, m_sc, true_and, and_true, not_true_eq_false, not_false_eq_true, i_gtF, i_leT, i_geF, i_ltT, Int32.zero_add, Int.toNat_natCast, ix_own, ix_sum, ix_ver, ix_th, ix_ab, ix_st, ix_vm, ix_lim, ix_lim1, ix_lim2, ix_lim3, Int.toNat_zero, i_neF, i_eqT, b1T, b1F, Bool.true_and]
        first | done | rfl | (rw [if_neg (by omega)]; done) | (rw [if_neg (by omega)]; rfl) | (rw [if_pos (by omega)]; done) | (rw [if_pos (by omega)]; rfl)
      · have b4 := (inB_d hT hj c e).1
        unfold am_mx
        by_cases c2 : d t + hgt up d t j < d j
        · simp (disch := first | assumption | omega) only [i_add, i_sub, i_mul, i_lt, i_le, i_eq, i_ibt, i_ixn, i_ix, i_zero, am_letF, cond_true, cond_false, Option.bind_some, ↓reduceIte, m_si, m_sc, true_and, and_true, not_true_eq_false, not_false_eq_true, i_gtF, i_leT, i_geF, i_ltT, Int32.zero_add, Int.toNat_natCast, ix_own, ix_sum, ix_ver, ix_th, ix_ab, ix_st, ix_vm, ix_lim, ix_lim1, ix_lim2, ix_lim3, Int.toNat_zero, i_neF, i_eqT, b1T, b1F, Bool.true_and]
          rw [show max (hgt up d t j) (d j - d t) = d j - d t by omega, show d t + (d j - d t) = d j by omega]
          first | done | rfl | (rw [if_neg (by omega)]; done) | (rw [if_neg (by omega)]; rfl) | (rw [if_pos (by omega)]; done) | (rw [if_pos (by omega)]; rfl)
        · simp (disch := first | assumption | omega) only [i_add, i_sub, i_mul, i_lt, i_le, i_eq, i_ibt, i_ixn, i_ix, i_zero, am_letF, cond_true, cond_false, Option.bind_some, ↓reduceIte, m_si, m_sc, true_and, and_true, not_true_eq_false, not_false_eq_true, i_gtF, i_leT, i_geF, i_ltT, Int32.zero_add, Int.toNat_natCast, ix_own, ix_sum, ix_ver, ix_th, ix_ab, ix_st, ix_vm, ix_lim, ix_lim1, ix_lim2, ix_lim3, Int.toNat_zero, i_neF, i_eqT, b1T, b1F, Bool.true_and]
          rw [show max (hgt up d t j) (d j - d t) = hgt up d t j by omega]
          first | done | rfl | (rw [if_neg (by omega)]; done) | (rw [if_neg (by omega)]; rfl) | (rw [if_pos (by omega)]; done) | (rw [if_pos (by omega)]; rfl)
  · show m_X1_heightOf_8 o (am_i t) m (am_i t) _ (n + 1) _ _ = _
    have b2 := hgt_le hT t 24
    rw [m_X1_heightOf_8]
    simp (disch := first | assumption | omega) only [i_add, i_sub, i_mul, i_lt, i_le, i_eq, i_ibt, i_ixn, i_ix, i_zero, am_letF, cond_true, cond_false, Option.bind_some, ↓reduceIte, m_si, m_sc, true_and, and_true, not_true_eq_false, not_false_eq_true, i_gtF, i_leT, i_geF, i_ltT, Int32.zero_add, Int.toNat_natCast, ix_own, ix_sum, ix_ver, ix_th, ix_ab, ix_st, ix_vm, ix_lim, ix_lim1, ix_lim2, ix_lim3, Int.toNat_zero, i_neF, i_eqT, b1T, b1F]
    rw [show ((d t + hgt up d t 24 : Nat) : Int) - (d t : Int) = (hgt up d t 24 : Nat) by omega]
theorem s_X9_height {t : Nat} (h : TM m up) (hT : Tr up d) (ht : t < 24) (ht2 : up t ≠ -2) : m_X9_height m (am_i t) = some (am_i (hgt up d t 24)) := by
  unfold m_X9_height
  have b1 := hT.2.2.2.1 t
  refine lo_go (fun n j s => m_X9_height_4 (am_i t) m (am_i t) (fun u11 => some u11) n s (am_i (j : Int))) (fun j => am_i (hgt up d t j : Nat)) 0 24 rfl (by omega) (am_Fv (by omega)) (fun n j _ hj => ?_) (fun n => rfl)
  show m_X9_height_4 (am_i t) m (am_i t) _ (n + 1) _ _ = _
  have b2 := hgt_le hT t j
  have b3 := hT.2.2.2.1 j
  rw [m_X9_height_4, s_X9_isUnit h (by omega) (by omega), s_X9_depth h hT ht ht2]
  show _ = m_X9_height_4 (am_i t) m (am_i t) _ n (am_i ((if (thr up j && inB up d j t) = true then max (hgt up d t j) (d j - d t) else hgt up d t j : Nat) : Int)) _
  by_cases c : up j = -2
  · rw [thr_f c]
    simp (disch := first | assumption | omega) only [i_add, i_sub, i_mul, i_lt, i_le, i_eq, i_ibt, i_ixn, i_ix, i_zero, am_letF, cond_true, cond_false, Option.bind_some, ↓reduceIte, m_si, m_sc, true_and, and_true, not_true_eq_false, not_false_eq_true, i_gtF, i_leT, i_geF, i_ltT, Int32.zero_add, Int.toNat_natCast, ix_own, ix_sum, ix_ver, ix_th, ix_ab, ix_st, ix_vm, ix_lim, ix_lim1, ix_lim2, ix_lim3, Int.toNat_zero, i_neF, i_eqT, b1T, b1F, Bool.false_and]
    first | done | rfl | (rw [if_neg (by omega)]; done) | (rw [if_neg (by omega)]; rfl) | (rw [if_pos (by omega)]; done) | (rw [if_pos (by omega)]; rfl)
  · rw [thr_t hj c, s_X9_isIn_ h hT hj c (by omega) (by omega), s_X9_depth h hT hj c]
    cases e : inB up d j t
    · simp (disch := first | assumption | omega) only [i_add, i_sub, i_mul, i_lt, i_le, i_eq, i_ibt, i_ixn, i_ix, i_zero, am_letF, cond_true, cond_false, Option.bind_some, ↓reduceIte, m_si, m_sc, true_and, and_true, not_true_eq_false, not_false_eq_true, i_gtF, i_leT, i_geF, i_ltT, Int32.zero_add, Int.toNat_natCast, ix_own, ix_sum, ix_ver, ix_th, ix_ab, ix_st, ix_vm, ix_lim, ix_lim1, ix_lim2, ix_lim3, Int.toNat_zero, i_neF, i_eqT, b1T, b1F, Bool.true_and]
      first | done | rfl | (rw [if_neg (by omega)]; done) | (rw [if_neg (by omega)]; rfl) | (rw [if_pos (by omega)]; done) | (rw [if_pos (by omega)]; rfl)
    · have b4 := (inB_d hT hj c e).1
      by_cases c2 : (d j : Int) - (d t : Int) ≤ (hgt up d t j : Nat)
      · simp (disch := first | assumption | omega) only [i_add, i_sub, i_mul, i_lt, i_le, i_eq, i_ibt, i_ixn, i_ix, i_zero, am_letF, cond_true, cond_false, Option.bind_some, ↓reduceIte, m_si, m_sc, true_and, and_true, not_true_eq_false, not_false_eq_true, i_gtF, i_leT, i_geF, i_ltT, Int32.zero_add, Int.toNat_natCast, ix_own, ix_sum, ix_ver, ix_th, ix_ab, ix_st, ix_vm, ix_lim, ix_lim1, ix_lim2, ix_lim3, Int.toNat_zero, i_neF, i_eqT, b1T, b1F, Bool.true_and]
        rw [show max (hgt up d t j) (d j - d t) = hgt up d t j by omega]
        first | done | rfl | (rw [if_neg (by omega)]; done) | (rw [if_neg (by omega)]; rfl) | (rw [if_pos (by omega)]; done) | (rw [if_pos (by omega)]; rfl)
      · simp (disch := first | assumption | omega) only [i_add, i_sub, i_mul, i_lt, i_le, i_eq, i_ibt, i_ixn, i_ix, i_zero, am_letF, cond_true, cond_false, Option.bind_some, ↓reduceIte, m_si, m_sc, true_and, and_true, not_true_eq_false, not_false_eq_true, i_gtF, i_leT, i_geF, i_ltT, Int32.zero_add, Int.toNat_natCast, ix_own, ix_sum, ix_ver, ix_th, ix_ab, ix_st, ix_vm, ix_lim, ix_lim1, ix_lim2, ix_lim3, Int.toNat_zero, i_neF, i_eqT, b1T, b1F, Bool.true_and]
        rw [show max (hgt up d t j) (d j - d t) = d j - d t by omega, show (d j : Int) - (d t : Int) = ((d j - d t : Nat) : Int) by omega]
        first | done | rfl | (rw [if_neg (by omega)]; done) | (rw [if_neg (by omega)]; rfl) | (rw [if_pos (by omega)]; done) | (rw [if_pos (by omega)]; rfl)
theorem inB_0 {u : Nat} (hT : Tr up d) (hu : u < 24) (ht : up u ≠ -2) : inB up d u 0 = true := by
  unfold inB
  rw [decide_eq_true_eq]
  rcases Nat.lt_or_ge (fi (fun j => an up u j == 0) (d u + 1)) (d u + 1) with h | h
  · exact h
  · have h2 := fi_no (fun j => an up u j == 0) (d u + 1) (d u) (by omega)
    simp only [hT.top hu ht] at h2
    exact absurd h2 (by decide)
/-- whether a unit can be moved below another -/
def cmv (up : Nat → Int) (d : Nat → Nat) (x y : Int) : Bool := thr up x && (thr up y && (!(inB up d y.toNat x) && (!(up x.toNat == y) && decide (d y.toNat + 1 + hgt up d x.toNat 24 ≤ 12))))
theorem s_X1_canMove {x y : Int} (h : TC m o up) (hT : Tr up d) (h1 : -2147483648 ≤ x) (h2 : x ≤ 2147483647) (h3 : -2147483648 ≤ y) (h4 : y ≤ 2147483647) : m_X1_canMove m o (am_i x) (am_i y) = some (am_i (b1 (cmv up d x y))) := by
  unfold m_X1_canMove cmv
  rw [s_X1_isThere h hT h1 h2, s_X1_isThere h hT h3 h4]
  cases c1 : thr up x
  · rfl
  cases c2 : thr up y
  · rfl
  obtain ⟨u, hu, rfl, hu2⟩ := thr_i c1
  obtain ⟨v, hv, rfl, hv2⟩ := thr_i c2
  rw [s_X1_isInBranch h hT hv hv2 (by omega) (by omega)]
  rw [Option.bind_some, if_neg (by rw [b1T]; decide), Option.bind_some, if_neg (by rw [b1T]; decide), Option.bind_some]
  simp only [Int.toNat_natCast]
  cases c3 : inB up d v u
  · rw [if_pos (by rw [b1F]; decide), i_ibt (by omega) (by omega) (by omega), cond_true, i_ixn (by omega), h u hu, s_X1_depthOf h hT hv hv2, s_X1_heightOf h hT hu hu2]
    have e1 := hT.2.2.1 u
    have e2 := hT.2.2.2.1 v
    have e3 := hgt_le hT u 24
    by_cases c4 : up u = v
    · rw [c4, if_pos rfl, beq_self_eq_true]
      rfl
    · rw [if_neg (by rw [i_eq (by omega) (by omega) (by omega) (by omega)]; exact c4), Option.bind_some, Option.bind_some, i_add, i_add, beq_eq_false_iff_ne.mpr c4]
      have e4 := i_lt (a := 12) (b := (d v : Int) + 1 + (hgt up d u 24 : Nat)) (by omega) (by omega) (by omega) (by omega)
      by_cases c5 : d v + 1 + hgt up d u 24 ≤ 12
      · rw [if_neg (by rw [e4]; omega), decide_eq_true c5]
        rfl
      · rw [if_pos (by rw [e4]; omega), decide_eq_false c5]
        rfl
  · rw [if_neg (by rw [b1T]; decide)]
    rfl
theorem s_X9_canMove {x y : Int} (h : TM m up) (hT : Tr up d) (h1 : -2147483648 ≤ x) (h2 : x ≤ 2147483647) (h3 : -2147483648 ≤ y) (h4 : y ≤ 2147483647) : m_X9_canMove m (am_i x) (am_i y) = some (am_i (b1 (cmv up d x y))) := by
  unfold m_X9_canMove cmv
  rw [s_X9_isUnit h h1 h2, s_X9_isUnit h h3 h4]
  cases c1 : thr up x
  · rfl
  cases c2 : thr up y
  · rfl
  obtain ⟨u, hu, rfl, hu2⟩ := thr_i c1
  obtain ⟨v, hv, rfl, hv2⟩ := thr_i c2
  rw [s_X9_isIn_ h hT hv hv2 (by omega) (by omega)]
  rw [Option.bind_some, if_neg (by rw [b1T]; decide), Option.bind_some, if_neg (by rw [b1T]; decide), Option.bind_some]
  simp only [Int.toNat_natCast]
  have e5 := i_eq (a := (u : Int)) (b := 0) (by omega) (by omega) (by omega) (by omega)
  by_cases c0 : u = 0
  · rw [i_zero, if_pos (by rw [e5]; omega)]
    have e6 : inB up d v (u : Int) = true := by rw [c0]; exact inB_0 hT hv hv2
    rw [e6]
    rfl
  rw [if_neg (by rw [i_zero, e5]; omega)]
  cases c3 : inB up d v u
  · rw [if_neg (by rw [b1F]; decide), i_add, i_ibt (by omega) (by omega) (by omega), cond_true, i_ix (by omega) (by omega), ix_ab, h.2 u hu hu2, s_X9_depth h hT hv hv2, s_X9_height h hT hu hu2]
    have e1 := hT.2.2.1 u
    have e2 := hT.2.2.2.1 v
    have e3 := hgt_le hT u 24
    by_cases c4 : up u = v
    · rw [c4, if_neg (fun e => e rfl), beq_self_eq_true]
      rfl
    · rw [if_pos (by rw [i_eq (by omega) (by omega) (by omega) (by omega)]; exact c4), Option.bind_some, Option.bind_some, i_add, i_add, beq_eq_false_iff_ne.mpr c4]
      have e4 := i_lt (a := 12) (b := (d v : Int) + 1 + (hgt up d u 24 : Nat)) (by omega) (by omega) (by omega) (by omega)
      by_cases c5 : d v + 1 + hgt up d u 24 ≤ 12
      · rw [if_neg (by rw [e4]; omega), decide_eq_true c5]
        rfl
      · rw [if_pos (by rw [e4]; omega), decide_eq_false c5]
        rfl
  · rw [if_pos (by rw [b1T]; decide)]
    rfl
/-- where two meet -/
def meJ (up : Nat → Int) (d : Nat → Nat) (u v : Nat) : Nat := fi (fun j => inB up d v (an up u j)) (d u + 1)
def meI (up : Nat → Int) (d : Nat → Nat) (x y : Int) : Int := if (thr up x && thr up y) = true then an up x.toNat (meJ up d x.toNat y.toNat) else -1
theorem meJ_lt {u v : Nat} (hT : Tr up d) (hu : u < 24) (ht : up u ≠ -2) (hv : v < 24) (hv2 : up v ≠ -2) : meJ up d u v < d u + 1 := by
  unfold meJ
  rcases Nat.lt_or_ge (fi (fun j => inB up d v (an up u j)) (d u + 1)) (d u + 1) with h | h
  · exact h
  · have h2 := fi_no (fun j => inB up d v (an up u j)) (d u + 1) (d u) (by omega)
    simp only [hT.top hu ht] at h2
    rw [inB_0 hT hv hv2] at h2
    cases h2
theorem s_X1_meetingOf {x y : Int} (h : TC m o up) (hT : Tr up d) (h1 : -2147483648 ≤ x) (h2 : x ≤ 2147483647) (h3 : -2147483648 ≤ y) (h4 : y ≤ 2147483647) : m_X1_meetingOf m o (am_i x) (am_i y) = some (am_i (meI up d x y)) := by
  unfold m_X1_meetingOf meI
  rw [s_X1_isThere h hT h1 h2, s_X1_isThere h hT h3 h4]
  cases c1 : thr up x
  · rfl
  cases c2 : thr up y
  · rfl
  obtain ⟨u, hu, rfl, hu2⟩ := thr_i c1
  obtain ⟨v, hv, rfl, hv2⟩ := thr_i c2
  rw [Option.bind_some, if_neg (by rw [b1T]; decide), Option.bind_some, if_pos (by rw [b1T]; decide)]
  simp only [Int.toNat_natCast, Bool.and_self, if_true]
  have hd := hT.2.2.2.1 u
  have hJ := meJ_lt hT hu hu2 hv hv2
  refine (lo_seek (fun n j s => m_X1_meetingOf_23 o (am_i u) (am_i v) m (am_i v) (some (am_i (-1))) n s (am_i (j : Int))) (fun j => am_i (an up u j)) (d u + 1) (fun j => inB up d v (an up u j)) (fun j => some (am_i (an up u j))) (some (am_i (-1))) rfl (am_Fv (by omega)) (fun n j hj hp => ?_) (fun n j hj hp => ?_) (fun n => ?_)).trans ?_
  · obtain ⟨p, g1, g2, g3, g4⟩ := hT.anc hu hu2 j (by omega)
    show m_X1_meetingOf_23 o (am_i u) (am_i v) m (am_i v) (some (am_i (-1))) (n + 1) (am_i (an up u j)) _ = m_X1_meetingOf_23 o (am_i u) (am_i v) m (am_i v) (some (am_i (-1))) n (am_i (an up u (j + 1))) _
    rw [g2] at hp
    rw [m_X1_meetingOf_23, Tr.nx g2, g2, s_X1_isInBranch h hT hv hv2 (by omega) (by omega), s_X1_upperOf h hT g1 g3, hp]
    simp (disch := first | assumption | omega) only [i_add, i_sub, i_mul, i_lt, i_le, i_eq, i_ibt, i_ixn, i_ix, i_zero, am_letF, cond_true, cond_false, Option.bind_some, ↓reduceIte, m_si, m_sc, true_and, and_true, not_true_eq_false, not_false_eq_true, i_gtF, i_leT, i_geF, i_ltT, Int32.zero_add, Int.toNat_natCast, ix_own, ix_sum, ix_ver, ix_th, ix_ab, ix_st, ix_vm, ix_lim, ix_lim1, ix_lim2, ix_lim3, Int.toNat_zero, i_neF, i_eqT, b1T, b1F]
    first | done | rfl | (rw [if_neg (by omega)]; done) | (rw [if_neg (by omega)]; rfl) | (rw [if_pos (by omega)]; done) | (rw [if_pos (by omega)]; rfl)
  · obtain ⟨p, g1, g2, g3, g4⟩ := hT.anc hu hu2 j (by omega)
    show m_X1_meetingOf_23 o (am_i u) (am_i v) m (am_i v) (some (am_i (-1))) (n + 1) (am_i (an up u j)) _ = _
    rw [g2] at hp
    rw [m_X1_meetingOf_23, g2, s_X1_isInBranch h hT hv hv2 (by omega) (by omega), hp]
    simp (disch := first | assumption | omega) only [i_add, i_sub, i_mul, i_lt, i_le, i_eq, i_ibt, i_ixn, i_ix, i_zero, am_letF, cond_true, cond_false, Option.bind_some, ↓reduceIte, m_si, m_sc, true_and, and_true, not_true_eq_false, not_false_eq_true, i_gtF, i_leT, i_geF, i_ltT, Int32.zero_add, Int.toNat_natCast, ix_own, ix_sum, ix_ver, ix_th, ix_ab, ix_st, ix_vm, ix_lim, ix_lim1, ix_lim2, ix_lim3, Int.toNat_zero, i_neF, i_eqT, b1T, b1F]
    first | done | rfl | (rw [if_neg (by omega)]; done) | (rw [if_neg (by omega)]; rfl) | (rw [if_pos (by omega)]; done) | (rw [if_pos (by omega)]; rfl)
  · show m_X1_meetingOf_23 o (am_i u) (am_i v) m (am_i v) (some (am_i (-1))) (n + 1) (am_i (an up u (d u + 1))) _ = _
    rw [m_X1_meetingOf_23, hT.end hu hu2]
    by_cases c : 12 < ((d u + 1 : Nat) : Int)
    · simp (disch := first | assumption | omega) only [i_add, i_sub, i_mul, i_lt, i_le, i_eq, i_ibt, i_ixn, i_ix, i_zero, am_letF, cond_true, cond_false, Option.bind_some, ↓reduceIte, m_si, m_sc, true_and, and_true, not_true_eq_false, not_false_eq_true, i_gtF, i_leT, i_geF, i_ltT, Int32.zero_add, Int.toNat_natCast, ix_own, ix_sum, ix_ver, ix_th, ix_ab, ix_st, ix_vm, ix_lim, ix_lim1, ix_lim2, ix_lim3, Int.toNat_zero, i_neF, i_eqT, b1T, b1F]
    · simp (disch := first | assumption | omega) only [i_add, i_sub, i_mul, i_lt, i_le, i_eq, i_ibt, i_ixn, i_ix, i_zero, am_letF, cond_true, cond_false, Option.bind_some, ↓reduceIte, m_si, m_sc, true_and, and_true, not_true_eq_false, not_false_eq_true, i_gtF, i_leT, i_geF, i_ltT, Int32.zero_add, Int.toNat_natCast, ix_own, ix_sum, ix_ver, ix_th, ix_ab, ix_st, ix_vm, ix_lim, ix_lim1, ix_lim2, ix_lim3, Int.toNat_zero, i_neF, i_eqT, b1T, b1F]
  · unfold meJ at hJ ⊢
    rw [if_pos hJ]
theorem s_X9_both {x y : Int} (h : TM m up) (hT : Tr up d) (h1 : -2147483648 ≤ x) (h2 : x ≤ 2147483647) (h3 : -2147483648 ≤ y) (h4 : y ≤ 2147483647) : m_X9_both m (am_i x) (am_i y) = some (am_i (meI up d x y)) := by
  unfold m_X9_both meI
  rw [s_X9_isUnit h h1 h2, s_X9_isUnit h h3 h4]
  cases c1 : thr up x
  · rfl
  cases c2 : thr up y
  · rfl
  obtain ⟨u, hu, rfl, hu2⟩ := thr_i c1
  obtain ⟨v, hv, rfl, hv2⟩ := thr_i c2
  rw [Option.bind_some, if_neg (by rw [b1T]; decide), Option.bind_some, if_pos (by rw [b1T]; decide)]
  simp only [Int.toNat_natCast, Bool.and_self, if_true]
  have hd := hT.2.2.2.1 u
  have hJ := meJ_lt hT hu hu2 hv hv2
  refine lo_go (fun n j s => m_X9_both_20 (am_i u) (am_i v) m (am_i v) (fun u8 => some u8) n s) (fun j => am_i (an up u j)) 0 (meJ up d u v) rfl (Nat.zero_le _) (am_Fv (by omega)) (fun n j _ hj => ?_) (fun n => ?_)
  · obtain ⟨p, g1, g2, g3, g4⟩ := hT.anc hu hu2 j (by omega)
    show m_X9_both_20 (am_i u) (am_i v) m (am_i v) _ (n + 1) (am_i (an up u j)) = m_X9_both_20 (am_i u) (am_i v) m (am_i v) _ n (am_i (an up u (j + 1)))
    have hp := fi_no _ _ j hj
    rw [g2] at hp
    have h5 := h.2 p g1 g3
    rw [m_X9_both_20, Tr.nx g2, g2, s_X9_isIn_ h hT hv hv2 (by omega) (by omega), hp]
    simp (disch := first | assumption | omega) only [i_add, i_sub, i_mul, i_lt, i_le, i_eq, i_ibt, i_ixn, i_ix, i_zero, am_letF, cond_true, cond_false, Option.bind_some, ↓reduceIte, m_si, m_sc, true_and, and_true, not_true_eq_false, not_false_eq_true, i_gtF, i_leT, i_geF, i_ltT, Int32.zero_add, Int.toNat_natCast, ix_own, ix_sum, ix_ver, ix_th, ix_ab, ix_st, ix_vm, ix_lim, ix_lim1, ix_lim2, ix_lim3, Int.toNat_zero, i_neF, i_eqT, b1T, b1F, h5]
    first | done | rfl | (rw [if_neg (by omega)]; done) | (rw [if_neg (by omega)]; rfl) | (rw [if_pos (by omega)]; done) | (rw [if_pos (by omega)]; rfl)
  · obtain ⟨p, g1, g2, g3, g4⟩ := hT.anc hu hu2 (meJ up d u v) (by omega)
    show m_X9_both_20 (am_i u) (am_i v) m (am_i v) _ (n + 1) (am_i (an up u (meJ up d u v))) = _
    have hp := fi_is _ _ hJ
    change inB up d v (an up u (meJ up d u v)) = true at hp
    rw [g2] at hp
    rw [m_X9_both_20, g2, s_X9_isIn_ h hT hv hv2 (by omega) (by omega), hp]
    simp (disch := first | assumption | omega) only [i_add, i_sub, i_mul, i_lt, i_le, i_eq, i_ibt, i_ixn, i_ix, i_zero, am_letF, cond_true, cond_false, Option.bind_some, ↓reduceIte, m_si, m_sc, true_and, and_true, not_true_eq_false, not_false_eq_true, i_gtF, i_leT, i_geF, i_ltT, Int32.zero_add, Int.toNat_natCast, ix_own, ix_sum, ix_ver, ix_th, ix_ab, ix_st, ix_vm, ix_lim, ix_lim1, ix_lim2, ix_lim3, Int.toNat_zero, i_neF, i_eqT, b1T, b1F]
    first | done | rfl | (rw [if_neg (by omega)]; done) | (rw [if_neg (by omega)]; rfl) | (rw [if_pos (by omega)]; done) | (rw [if_pos (by omega)]; rfl)
end MT2
