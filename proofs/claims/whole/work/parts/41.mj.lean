/-! ===== mathematics, 12: longs as numbers ===== -/
def am_j (n : Int) : Int64 := Int64.ofInt n
theorem j_toInt {n : Int} (h1 : -9223372036854775808 ≤ n) (h2 : n ≤ 9223372036854775807) : (am_j n).toInt = n := Int64.toInt_ofInt_of_le h1 (by omega)
theorem j_add (a b : Int) : am_j a + am_j b = am_j (a + b) := (Int64.ofInt_add a b).symm
theorem j_mul (a b : Int) : am_j a * am_j b = am_j (a * b) := (Int64.ofInt_mul a b).symm
theorem j_of {n : Int} (h1 : -2147483648 ≤ n) (h2 : n ≤ 2147483647) : (am_i n).toInt64 = am_j n := by
  apply Int64.toInt_inj.mp
  rw [Int32.toInt_toInt64, i_toInt h1 h2, j_toInt (by omega) (by omega)]
theorem j_100 : (100 : Int64) = am_j 100 := by decide
theorem j_0 : Int64.ofNat 0 = am_j 0 := by decide
/-- longs compared -/
theorem j_cmp {a b : Int} (h1 : -9223372036854775808 ≤ a) (h2 : a ≤ 9223372036854775807) (h3 : -9223372036854775808 ≤ b) (h4 : b ≤ 9223372036854775807) : lg_cmp (am_j a) (am_j b) = am_i (if b < a then 1 else if a = b then 0 else -1) := by
  unfold lg_cmp
  have e1 : (am_j a > am_j b) = (b < a) := by
    apply propext
    show am_j b < am_j a ↔ _
    rw [Int64.lt_iff_toInt_lt, j_toInt h1 h2, j_toInt h3 h4]
  have e2 : (am_j a = am_j b) = (a = b) := by
    apply propext
    rw [← Int64.toInt_inj, j_toInt h1 h2, j_toInt h3 h4]
  by_cases c : b < a
  · rw [if_pos (by rw [e1]; exact c), if_pos c]; rfl
  · rw [if_neg (by rw [e1]; exact c), if_neg c]
    by_cases c2 : a = b
    · rw [if_pos (by rw [e2]; exact c2), if_pos c2]; rfl
    · rw [if_neg (by rw [e2]; exact c2), if_neg c2]; rfl
theorem j_lt0 {a b : Int} (h1 : -9223372036854775808 ≤ a) (h2 : a ≤ 9223372036854775807) (h3 : -9223372036854775808 ≤ b) (h4 : b ≤ 9223372036854775807) : (lg_cmp (am_j a) (am_j b) < 0) = (a < b) := by
  apply propext
  rw [j_cmp h1 h2 h3 h4]
  by_cases c : b < a
  · rw [if_pos c]
    exact ⟨fun e => absurd e (by decide), fun e => by omega⟩
  · rw [if_neg c]
    by_cases c2 : a = b
    · rw [if_pos c2]
      exact ⟨fun e => absurd e (by decide), fun e => by omega⟩
    · rw [if_neg c2]
      exact ⟨fun _ => by omega, fun _ => by decide⟩
theorem j_le0 {a b : Int} (h1 : -9223372036854775808 ≤ a) (h2 : a ≤ 9223372036854775807) (h3 : -9223372036854775808 ≤ b) (h4 : b ≤ 9223372036854775807) : (lg_cmp (am_j a) (am_j b) ≤ 0) = (a ≤ b) := by
  apply propext
  rw [j_cmp h1 h2 h3 h4]
  by_cases c : b < a
  · rw [if_pos c]
    exact ⟨fun e => absurd e (by decide), fun e => by omega⟩
  · rw [if_neg c]
    by_cases c2 : a = b
    · rw [if_pos c2]
      exact ⟨fun _ => by omega, fun _ => by decide⟩
    · rw [if_neg c2]
      exact ⟨fun _ => by omega, fun _ => by decide⟩
theorem j_eq0 {a b : Int} (h1 : -9223372036854775808 ≤ a) (h2 : a ≤ 9223372036854775807) (h3 : -9223372036854775808 ≤ b) (h4 : b ≤ 9223372036854775807) : (lg_cmp (am_j a) (am_j b) = 0) = (a = b) := by
  apply propext
  rw [j_cmp h1 h2 h3 h4]
  by_cases c : b < a
  · rw [if_pos c]
    exact ⟨fun e => absurd e (by decide), fun e => by omega⟩
  · rw [if_neg c]
    by_cases c2 : a = b
    · rw [if_pos c2]
      exact ⟨fun _ => c2, fun _ => by decide⟩
    · rw [if_neg c2]
      exact ⟨fun e => absurd e (by decide), fun e => absurd e c2⟩
/-- the quantile: the first whose numbers so far are p of a hundred of all -/
def qtl (f : Nat → Nat) (p : Nat) : Nat := fi (fun c => decide (p * su f 64 ≤ 100 * su f (c + 1))) 64
theorem qtl_lt (f : Nat → Nat) {p : Nat} (hp : p ≤ 100) : qtl f p < 64 := by
  unfold qtl
  rcases Nat.lt_or_ge (fi (fun c => decide (p * su f 64 ≤ 100 * su f (c + 1))) 64) 64 with h | h
  · exact h
  · have h2 := fi_no (fun c => decide (p * su f 64 ≤ 100 * su f (c + 1))) 64 63 (by omega)
    have h3 := of_decide_eq_false h2
    exact absurd (Nat.mul_le_mul_right (su f 64) hp) h3
section MJ
variable {m : am_m} {a u : Nat} {f : Nat → Nat}
theorem s_X5_quantileOf {p : Nat} (h : Row m a f) (hp : p ≤ 100) (hn : 0 < su f 64) : m_X5_quantileOf m a (am_i p) = some (am_i (qtl f p)) := by
  unfold m_X5_quantileOf
  have b := su_b h.2 64
  have hpn : p * su f 64 ≤ 100 * su f 64 := Nat.mul_le_mul_right _ hp
  rw [s_X5_allOf h, Option.bind_some, j_of (by omega) (by omega), j_0]
  have e0 : am_j ((p : Int) * (su f 64 : Nat)) = am_j ((p * su f 64 : Nat) : Int) := by rw [Int.natCast_mul]
  refine (lo_seek (fun n j s => m_X5_quantileOf_12 a (am_i p) m (am_i p) (am_j (su f 64 : Nat)) (some (am_i (-1))) n s (am_i (j : Int))) (fun j => am_j (su f j : Nat)) 64 (fun c => decide (p * su f 64 ≤ 100 * su f (c + 1))) (fun j => some (am_i (j : Int))) (some (am_i (-1))) rfl (am_Fv (by omega)) (fun n j hj hP => ?_) (fun n j hj hP => ?_) (fun n => rfl)).trans ?_
  · have hP := of_decide_eq_false hP
    have b2 := su_b h.2 (j + 1)
    show m_X5_quantileOf_12 a (am_i p) m (am_i p) (am_j (su f 64 : Nat)) (some (am_i (-1))) (n + 1) _ _ = _
    rw [m_X5_quantileOf_12, if_neg (by rw [i_le (by omega) (by omega) (by omega) (by omega)]; omega), j_0, if_neg (by rw [j_le0 (by omega) (by omega) (by omega) (by omega)]; omega), i_ibt (by omega) (by omega) (by omega), cond_true, i_ixn (by omega), h.1 j hj, j_of (by have := h.2 j; omega) (by have := h.2 j; omega), j_add, j_100, j_mul, j_of (by omega) (by omega), j_mul, e0, ← su_i, if_pos (by rw [j_lt0 (by omega) (by omega) (by omega) (by omega)]; omega), i_add]
    rfl
  · have hP := of_decide_eq_true hP
    have b2 := su_b h.2 (j + 1)
    show m_X5_quantileOf_12 a (am_i p) m (am_i p) (am_j (su f 64 : Nat)) (some (am_i (-1))) (n + 1) _ _ = _
    rw [m_X5_quantileOf_12, if_neg (by rw [i_le (by omega) (by omega) (by omega) (by omega)]; omega), j_0, if_neg (by rw [j_le0 (by omega) (by omega) (by omega) (by omega)]; omega), i_ibt (by omega) (by omega) (by omega), cond_true, i_ixn (by omega), h.1 j hj, j_of (by have := h.2 j; omega) (by have := h.2 j; omega), j_add, j_100, j_mul, j_of (by omega) (by omega), j_mul, e0, ← su_i, if_neg (by rw [j_lt0 (by omega) (by omega) (by omega) (by omega)]; omega)]
  · have := qtl_lt f hp
    unfold qtl at this ⊢
    rw [if_pos this]
theorem l_X9_quantile_30 {x1 x2 : Int32} {p : Nat} {k : Int32 → Option (Int32 × am_m)} (h : Row m 3266 f) (hp : p ≤ 100) (hS : su f 64 ≤ 20000000) : m_X9_quantile_30 x1 x2 m (am_i p) (am_i (su f 64 : Nat)) k am_F (am_i (f 0)) (am_i 0) = k (am_i (qtl f p)) := by
  have hq := qtl_lt f hp
  have hpn : p * su f 64 ≤ 100 * su f 64 := Nat.mul_le_mul_right _ hp
  have e0 : am_i ((p : Int) * (su f 64 : Nat)) = am_i ((p * su f 64 : Nat) : Int) := by rw [Int.natCast_mul]
  refine lo_go (fun n j s => m_X9_quantile_30 x1 x2 m (am_i p) (am_i (su f 64 : Nat)) k n s (am_i (j : Int))) (fun j => am_i (su f (j + 1) : Nat)) 0 (qtl f p) (by rw [su_s]; show am_i (f 0) = am_i ((0 + f 0 : Nat) : Int); rw [Nat.zero_add]) (Nat.zero_le _) (am_Fv (by omega)) (fun n j _ hj => ?_) (fun n => ?_)
  · have hP := of_decide_eq_false (fi_no _ _ j hj)
    have b2 : su f (j + 1) ≤ su f 64 := su_mono (by omega)
    show m_X9_quantile_30 x1 x2 m (am_i p) (am_i (su f 64 : Nat)) k (n + 1) _ _ = _
    rw [m_X9_quantile_30, i_mul, i_mul, e0, if_neg (by rw [i_le (by omega) (by omega) (by omega) (by omega)]; omega), i_add, i_ibt (by omega) (by omega) (by omega), cond_true, i_ix (by omega) (by omega), show ((j : Int) + 1).toNat = j + 1 by omega, h.1 (j + 1) (by omega), i_add, ← su_i]
    rfl
  · have hP := of_decide_eq_true (fi_is _ _ (show fi (fun c => decide (p * su f 64 ≤ 100 * su f (c + 1))) 64 < 64 from hq))
    change p * su f 64 ≤ 100 * su f (qtl f p + 1) at hP
    have b2 : su f (qtl f p + 1) ≤ su f 64 := su_mono (by omega)
    show m_X9_quantile_30 x1 x2 m (am_i p) (am_i (su f 64 : Nat)) k (n + 1) _ _ = _
    rw [m_X9_quantile_30, i_mul, i_mul, e0, if_pos (by rw [i_le (by omega) (by omega) (by omega) (by omega)]; omega)]
theorem s_X9_isPart {up : Nat → Int} {p : Int} (ht : TM m up) (h : RowW m (1608 + 64 * u) f) (hu : u < 24) (hu2 : up u ≠ -2) (h1 : -2147483648 ≤ p) (h2 : p ≤ 2147483647) : ∃ m', m_X9_isPart m (am_i u) (am_i p) = some (am_i (if 1 ≤ p ∧ p ≤ 100 ∧ 0 < su f 64 then 1 else 0), m') ∧ Fr (fun b => b = 3266) m m' ∧ (1 ≤ p ∧ p ≤ 100 → Row m' 3266 f) := by
  unfold m_X9_isPart
  rw [s_X9_isUnit ht (by omega) (by omega), thr_t hu hu2, Option.bind_some, if_neg (by rw [b1T]; decide), s_X9_isIn h1 h2 (by omega) (by omega) (by omega) (by omega), Option.bind_some]
  by_cases c : 1 ≤ p ∧ p ≤ 100
  · obtain ⟨m', g1, g2, g3⟩ := s_X9_allOf h hu
    refine ⟨m', ?_, g2, fun _ => g3⟩
    have b := su_b h.2 64
    rw [if_pos c, if_neg (by decide), g1, Option.bind_some]
    dsimp only
    by_cases c2 : 0 < su f 64
    · rw [if_neg (by rw [i_zero, i_le (by omega) (by omega) (by omega) (by omega)]; omega), if_pos ⟨c.1, c.2, c2⟩]
    · rw [if_pos (by rw [i_zero, i_le (by omega) (by omega) (by omega) (by omega)]; omega), if_neg (fun e => c2 e.2.2)]
  · refine ⟨m, ?_, Fr.refl _ _, fun e => absurd e c⟩
    rw [if_neg c, if_pos (by decide), if_neg (fun e => c ⟨e.1, e.2.1⟩)]
end MJ
