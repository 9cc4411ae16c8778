/-! ===== mathematics, 10: rows, longs ===== -/
/-- the sum of squares of the first n -/
def sqL (f : Nat → Nat) : Nat → Int64
  | 0 => Int64.ofNat 0
  | n + 1 => sqL f n + ((am_i (f n : Int)).toInt64 * (am_i (f n : Int)).toInt64)
/-- the set of those of the first n that are heavy -/
def hvL (f : Nat → Nat) (y : Int64) : Nat → Int64
  | 0 => Int64.ofNat 0
  | n + 1 => if (lg_cmp ((100 : Int64) * (am_i (f n : Int)).toInt64) y) ≤ 0 then hvL f y n else (hvL f y n ||| ((Int64.ofNat 1) <<< ((am_i (n : Int)).toInt64 &&& 63)))
section ML
variable {m : am_m} {a u : Nat} {f : Nat → Nat} {β : Type}
theorem l_X8_squares_30 {x : Int32} {k : Int64 → Option Int64} (h : Row m a f) : m_X8_squares_30 x m a k am_F (Int64.ofNat 0) (am_i 0) = k (sqL f 64) := by
  refine lo_go (fun n j s => m_X8_squares_30 x m a k n s (am_i (j : Int))) (fun j => sqL f j) 0 64 rfl (by omega) (am_Fv (by omega)) (fun n j _ hj => ?_) (fun n => rfl)
  show m_X8_squares_30 x m a k (n + 1) _ _ = _
  rw [m_X8_squares_30, if_neg (by rw [i_le (by omega) (by omega) (by omega) (by omega)]; omega), i_ibt (by omega) (by omega) (by omega), cond_true, cond_true, i_ixn (by omega), h.1 j hj, i_add]
  rfl
theorem l_X9_squares_17 {x : Int32} {k : Int64 → Option Int64} (h : RowW m (1608 + 64 * u) f) (hu : u < 24) : m_X9_squares_17 x m (am_i u) k am_F (Int64.ofNat 0) (am_i 0) = k (sqL f 64) := by
  refine lo_go (fun n j s => m_X9_squares_17 x m (am_i u) k n s (am_i (j : Int))) (fun j => sqL f j) 0 64 rfl (by omega) (am_Fv (by omega)) (fun n j _ hj => ?_) (fun n => rfl)
  show m_X9_squares_17 x m (am_i u) k (n + 1) _ _ = _
  rw [m_X9_squares_17, if_neg (by rw [i_le (by omega) (by omega) (by omega) (by omega)]; omega)]
  unfold m_X9_sumAt
  rw [Option.bind_some, Option.bind_some, i_mul, i_add, i_add, i_ibt (by omega) (by omega) (by omega), cond_true, cond_true, i_ix (by omega) (by omega), ix_sum, h.1 j hj, i_add]
  rfl
theorem l_X8_heavy_46 {x1 x2 y2 : Int32} {y4 : Int64} {k : Int64 → Option Int64} (h : Row m a f) : m_X8_heavy_46 x1 x2 m y2 a y4 k am_F (Int64.ofNat 0) (am_i 0) = k (hvL f (y2.toInt64 * y4) 64) := by
  refine lo_go (fun n j s => m_X8_heavy_46 x1 x2 m y2 a y4 k n s (am_i (j : Int))) (fun j => hvL f (y2.toInt64 * y4) j) 0 64 rfl (by omega) (am_Fv (by omega)) (fun n j _ hj => ?_) (fun n => rfl)
  show m_X8_heavy_46 x1 x2 m y2 a y4 k (n + 1) _ _ = _
  rw [m_X8_heavy_46, if_neg (by rw [i_le (by omega) (by omega) (by omega) (by omega)]; omega), i_ibt (by omega) (by omega) (by omega), cond_true, i_ixn (by omega), h.1 j hj, i_add]
  show _ = m_X8_heavy_46 x1 x2 m y2 a y4 k n (if (lg_cmp ((100 : Int64) * (am_i (f j : Int)).toInt64) (y2.toInt64 * y4)) ≤ 0 then hvL f (y2.toInt64 * y4) j else (hvL f (y2.toInt64 * y4) j ||| ((Int64.ofNat 1) <<< ((am_i (j : Int)).toInt64 &&& 63)))) _
  split <;> rfl
theorem l_X9_heavy_32 {x1 x2 y2 y3 : Int32} {k : Int64 → Option (Int64 × am_m)} (h : RowW m (1608 + 64 * u) f) (hu : u < 24) : m_X9_heavy_32 x1 x2 m (am_i u) y2 y3 k am_F (Int64.ofNat 0) (am_i 0) = k (hvL f (y2.toInt64 * y3.toInt64) 64) := by
  refine lo_go (fun n j s => m_X9_heavy_32 x1 x2 m (am_i u) y2 y3 k n s (am_i (j : Int))) (fun j => hvL f (y2.toInt64 * y3.toInt64) j) 0 64 rfl (by omega) (am_Fv (by omega)) (fun n j _ hj => ?_) (fun n => rfl)
  show m_X9_heavy_32 x1 x2 m (am_i u) y2 y3 k (n + 1) _ _ = _
  rw [m_X9_heavy_32, if_neg (by rw [i_le (by omega) (by omega) (by omega) (by omega)]; omega)]
  unfold m_X9_sumAt
  rw [Option.bind_some, i_mul, i_add, i_add, i_ibt (by omega) (by omega) (by omega), cond_true, i_ix (by omega) (by omega), ix_sum, h.1 j hj, i_add]
  show _ = m_X9_heavy_32 x1 x2 m (am_i u) y2 y3 k n (if (lg_cmp ((100 : Int64) * (am_i (f j : Int)).toInt64) (y2.toInt64 * y3.toInt64)) ≤ 0 then hvL f (y2.toInt64 * y3.toInt64) j else (hvL f (y2.toInt64 * y3.toInt64) j ||| ((Int64.ofNat 1) <<< ((am_i (j : Int)).toInt64 &&& 63)))) _
  split <;> rfl
end ML
