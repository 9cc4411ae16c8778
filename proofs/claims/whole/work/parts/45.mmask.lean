/-! ===== mathematics, 16: rows as bits ===== -/
theorem jn_or (x y : Int64) : jn (x ||| y) = jn x ||| jn y := by
  unfold jn
  rw [Int64.toBitVec_or, BitVec.toNat_or]
theorem jn_bit : ∀ n : Nat, n < 64 → jn ((Int64.ofNat 1) <<< ((am_i (n : Int)).toInt64 &&& 63)) = 2 ^ n := by decide +kernel
theorem jn_inj {x y : Int64} (h : jn x = jn y) : x = y := by
  apply Int64.toBitVec_inj.mp
  exact BitVec.eq_of_toNat_eq h
/-- the set of the first n that are above 0 -/
def mkL (f : Nat → Nat) : Nat → Int64
  | 0 => Int64.ofNat 0
  | n + 1 => if f n = 0 then mkL f n else mkL f n ||| ((Int64.ofNat 1) <<< ((am_i (n : Int)).toInt64 &&& 63))
theorem mkL_bit (f : Nat → Nat) : ∀ n, n ≤ 64 → ∀ c, (jn (mkL f n)).testBit c = (decide (c < n) && decide (0 < f c)) := by
  intro n
  induction n with
  | zero =>
    intro _ c
    have : jn (mkL f 0) = 0 := by show jn (Int64.ofNat 0) = 0; decide
    rw [this, Nat.zero_testBit]
    simp
  | succ n ih =>
    intro hn c
    have h1 := ih (by omega) c
    show (jn (if f n = 0 then mkL f n else mkL f n ||| ((Int64.ofNat 1) <<< ((am_i (n : Int)).toInt64 &&& 63)))).testBit c = _
    by_cases h0 : f n = 0
    · rw [if_pos h0, h1]
      by_cases c1 : c = n
      · rw [c1, h0]; simp
      · have : (c < n) = (c < n + 1) := by apply propext; omega
        simp only [this]
    · rw [if_neg h0, jn_or, Nat.testBit_or, h1, jn_bit n (by omega), Nat.testBit_two_pow]
      by_cases c1 : c = n
      · rw [c1]
        simp [Nat.pos_of_ne_zero h0]
      · have : (c < n) = (c < n + 1) := by apply propext; omega
        simp only [this]
        have : decide (n = c) = false := decide_eq_false (fun e => c1 e.symm)
        rw [this, Bool.or_false]
section MM
variable {m : am_m} {a b : Nat} {f g : Nat → Nat}
theorem s_X6_maskOf (h : Row m a f) : m_X6_maskOf m a = some (mkL f 64) := by
  unfold m_X6_maskOf
  refine lo_go (fun n j s => m_X6_maskOf_4 a m (fun u5 => some u5) n s (am_i (j : Int))) (fun j => mkL f j) 0 64 rfl (by omega) (am_Fv (by omega)) (fun n j _ hj => ?_) (fun n => rfl)
  show m_X6_maskOf_4 a m _ (n + 1) _ _ = _
  have b1 := h.2 j
  rw [m_X6_maskOf_4, if_neg (by rw [i_le (by omega) (by omega) (by omega) (by omega)]; omega), if_neg (by rw [i_le (by omega) (by omega) (by omega) (by omega)]; omega), i_ibt (by omega) (by omega) (by omega), cond_true, i_ixn (by omega), h.1 j hj, i_add]
  show _ = m_X6_maskOf_4 a m _ n (if f j = 0 then mkL f j else mkL f j ||| ((Int64.ofNat 1) <<< ((am_i (j : Int)).toInt64 &&& 63))) _
  have e := i_le (a := (f j : Int)) (b := 0) (by omega) (by omega) (by omega) (by omega)
  by_cases c : f j = 0
  · rw [if_pos c, if_pos (by rw [i_zero, e]; omega)]
    rfl
  · rw [if_neg c, if_neg (by rw [i_zero, e]; omega)]
    rfl
/-- how many are above 0 -/
def pos (f : Nat → Nat) : Nat := cn (fun c => decide (0 < f c)) 64
theorem pop_mk (f : Nat → Nat) : pop (jn (mkL f 64)) = pos f := by
  unfold pop pos cn
  refine su_congr 64 (fun c hc => ?_)
  show b1 _ = b1 _
  rw [mkL_bit f 64 (Nat.le_refl _), decide_eq_true hc, Bool.true_and]
theorem s_X9_positive (h : Row m a f) : m_X9_positive m a = some (am_i (pos f : Nat)) := by
  unfold m_X9_positive
  refine lo_go (fun n j s => m_X9_positive_4 a m (fun u4 => some u4) n s (am_i (j : Int))) (fun j => am_i (cn (fun c => decide (0 < f c)) j : Nat)) 0 64 rfl (by omega) (am_Fv (by omega)) (fun n j _ hj => ?_) (fun n => rfl)
  show m_X9_positive_4 a m _ (n + 1) _ _ = _
  have b1' := h.2 j
  have e := i_le (a := (f j : Int)) (b := 0) (by omega) (by omega) (by omega) (by omega)
  have es : ((cn (fun c => decide (0 < f c)) (j + 1) : Nat) : Int) = (cn (fun c => decide (0 < f c)) j : Nat) + (b1 (decide (0 < f j)) : Nat) := rfl
  rw [m_X9_positive_4, if_neg (by rw [i_le (by omega) (by omega) (by omega) (by omega)]; omega), i_ibt (by omega) (by omega) (by omega), cond_true, i_ixn (by omega), h.1 j hj, i_add, i_add, i_add, es]
  by_cases c : 0 < f j
  · rw [decide_eq_true c, if_neg (by rw [i_zero, e]; omega)]
    rfl
  · rw [decide_eq_false c, if_pos (by rw [i_zero, e]; omega)]
    rfl
end MM
