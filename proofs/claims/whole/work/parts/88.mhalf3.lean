/-! ===== mathematics: halves, the class's halving ===== -/
theorem sh12 : ∀ L : Nat, L < 13 → (am_i 1) <<< (am_i (L : Int) &&& 31) = am_i ((2 ^ L : Nat) : Int) := by decide +kernel
theorem mn12 : ∀ L : Nat, L < 13 → am_mn (am_i (L : Int)) (am_i 12) = am_i (L : Int) := by decide +kernel
theorem i_absN {x : Int} (h1 : -2147483647 ≤ x) (h2 : x ≤ 2147483647) : am_ab (am_i x) = am_i (x.natAbs : Nat) := by
  unfold am_ab
  by_cases c : 0 ≤ x
  · rw [if_pos (by rw [i_zero, i_le (by omega) (by omega) (by omega) (by omega)]; omega), show ((x.natAbs : Nat) : Int) = x by omega]
  · rw [if_neg (by rw [i_zero, i_le (by omega) (by omega) (by omega) (by omega)]; omega), i_zero, i_sub, show ((x.natAbs : Nat) : Int) = 0 - x by omega]
section HW
variable {m : am_m} {v : Nat → Nat} {a : Nat}
theorem hvZ_b (h : ∀ c, v c ≤ 15358464) {n : Nat} (hn : n ≤ 12) (c : Nat) : -184301568 ≤ hvZ v n c ∧ hvZ v n c ≤ 368603136 := by
  have b1 := hvS_le h (c := c) hn
  have b2 := su_b h n
  have q : n * 15358464 ≤ 12 * 15358464 := Nat.mul_le_mul_right _ hn
  unfold hvZ
  omega
theorem l_X5_halvingOf_30 {x2 : Int32} {L : Nat} {k : Int32 → Option Int32} (h : RowT m a v L) (hL : L ≤ 12) : m_X5_halvingOf_30 a x2 m (am_i (L : Int)) k am_F (am_i 0) (am_i (hvZ v L 0)) (am_i (hvA v L 0 : Nat)) (am_i 1) = k (am_i (hvB (hvA v L) (2 ^ L) : Nat)) := by
  have h2 : 2 ^ L ≤ 2 ^ 12 := Nat.pow_le_pow_right (by decide) hL
  have e12 : (2 : Nat) ^ 12 = 4096 := rfl
  have p0 : 1 ≤ 2 ^ L := Nat.one_le_two_pow
  refine lo_go (fun n j (t : Int32 × Int32 × Int32) => m_X5_halvingOf_30 a x2 m (am_i (L : Int)) k n t.1 t.2.1 t.2.2 (am_i (j : Int))) (fun j => (am_i (hvB (hvA v L) j : Nat), am_i (hvZ v L (j - 1)), am_i (hvA v L (hvB (hvA v L) j) : Nat))) 1 (2 ^ L) (n := am_F) (s0 := (am_i 0, am_i (hvZ v L 0), am_i (hvA v L 0 : Nat))) ?_ p0 (am_Fv (by omega)) (fun n j j1 hj => ?_) (fun n => ?_)
  · rw [hvB_1]; rfl
  · have zs := hvZ_s (v := v) hj hL (by omega)
    have t := tz_lt hj hL (by omega)
    have b1 := hvZ_b h.2 hL (j - 1)
    have b2 := hvZ_b h.2 hL j
    have b3 := hvZ_b h.2 hL (hvB (hvA v L) j)
    have b4 := h.2 (tz j)
    have b5 := su_b h.2 (tz j)
    have q5 : tz j * 15358464 ≤ 12 * 15358464 := Nat.mul_le_mul_right _ (by omega)
    have aj : hvA v L j = (hvZ v L j).natAbs := rfl
    have ab : hvA v L (hvB (hvA v L) j) = (hvZ v L (hvB (hvA v L) j)).natAbs := rfl
    have eB : hvB (hvA v L) (j + 1) = if hvA v L j < hvA v L (hvB (hvA v L) j) then j else hvB (hvA v L) j := rfl
    show m_X5_halvingOf_30 _ _ _ _ _ (n + 1) _ _ _ _ = m_X5_halvingOf_30 _ _ _ _ _ n (am_i (hvB (hvA v L) (j + 1) : Nat)) (am_i (hvZ v L j)) (am_i (hvA v L (hvB (hvA v L) (j + 1)) : Nat)) _
    rw [m_X5_halvingOf_30, sh12 L (by omega), if_neg (by rw [i_le (by omega) (by omega) (by omega) (by omega)]; omega), s_low (by omega) (by omega), Option.bind_some, i_ibt (by omega) (by omega) (by omega), cond_true, i_sub, s_totT h (by omega) (by omega), Option.bind_some, i_ixn (by omega), h.1 _ (by omega), i_sub, i_mul, i_add, ← zs, i_absN (by omega) (by omega), nj, eB, ← aj]
    by_cases c : hvA v L j < hvA v L (hvB (hvA v L) j)
    · rw [if_neg (by rw [i_le (by omega) (by omega) (by omega) (by omega)]; omega), if_pos c]
    · rw [if_pos (by rw [i_le (by omega) (by omega) (by omega) (by omega)]; omega), if_neg c]
  · show m_X5_halvingOf_30 _ _ _ _ _ (n + 1) _ _ _ (am_i ((2 ^ L : Nat) : Int)) = _
    rw [m_X5_halvingOf_30, sh12 L (by omega), if_pos (by rw [i_le (by omega) (by omega) (by omega) (by omega)]; omega)]
theorem hvS_0 (n : Nat) : hvS v 0 n = 0 := su_0 (fun c _ => by unfold hvV; rw [Nat.zero_testBit]; rfl)
theorem s_X5_halvingOf {L : Nat} (h : RowT m a v L) (hL : L ≤ 12) : m_X5_halvingOf m a (am_i (L : Int)) = some (am_i (hvB (hvA v L) (2 ^ L) : Nat)) := by
  have b5 := su_b h.2 L
  have q5 : L * 15358464 ≤ 12 * 15358464 := Nat.mul_le_mul_right _ hL
  have e0 : hvZ v L 0 = -((su v L : Nat) : Int) := by unfold hvZ; rw [hvS_0]; omega
  have a0 : hvA v L 0 = (hvZ v L 0).natAbs := rfl
  unfold m_X5_halvingOf
  rw [mn12 L (by omega), i_sub, s_totT h (Nat.le_refl L) hL, Option.bind_some, i_neg, ← e0, i_absN (by omega) (by omega), ← a0, l_X5_halvingOf_30 h hL]
end HW
