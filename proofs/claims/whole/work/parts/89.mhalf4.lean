/-! ===== mathematics: halves, the reference's choice ===== -/
theorem bit12 : ∀ a, a < 64 → ∀ b, b < 64 → fi (fun i => !(decide (((am_i ((64 * a + b : Nat) : Int)) >>> (am_i (i : Int) &&& 31)) &&& am_i 1 = am_i (b1 ((64 * a + b).testBit i) : Nat)))) 12 = 12 := by decide +kernel
theorem s_bit {c i : Nat} (hc : c < 4096) (hi : i < 12) : (am_i (c : Int) >>> (am_i (i : Int) &&& 31)) &&& am_i 1 = am_i (b1 (c.testBit i) : Nat) := by
  have q := bit12 (c / 64) (by omega) (c % 64) (by omega)
  rw [show 64 * (c / 64) + c % 64 = c by omega] at q
  have := fi_no (fun i => !(decide ((am_i (c : Int) >>> (am_i (i : Int) &&& 31)) &&& am_i 1 = am_i (b1 (c.testBit i) : Nat)))) 12 i (by omega)
  by_cases z : (am_i (c : Int) >>> (am_i (i : Int) &&& 31)) &&& am_i 1 = am_i (b1 (c.testBit i) : Nat)
  · exact z
  · have this : (!(decide ((am_i (c : Int) >>> (am_i (i : Int) &&& 31)) &&& am_i 1 = am_i (b1 (c.testBit i) : Nat)))) = false := this
    rw [decide_eq_false z] at this
    cases this
section HX
variable {m : am_m} {v : Nat → Nat}
theorem l_X9_halves_126 {x1 x2 y1 y2 y4 y5 y6 : Int32} {L c : Nat} {k : Int32 → Option (Int32 × am_m)} (h : RowT m 3269 v L) (hL : L ≤ 12) (hc : c < 4096) : m_X9_halves_126 x1 x2 m y1 y2 (am_i (L : Int)) y4 y5 y6 (am_i (c : Int)) k am_F (am_i 0) (am_i 0) = k (am_i (hvS v c L : Nat)) := by
  refine lo_go (fun n j (t : Int32) => m_X9_halves_126 x1 x2 m y1 y2 (am_i (L : Int)) y4 y5 y6 (am_i (c : Int)) k n t (am_i (j : Int))) (fun j => am_i (hvS v c j : Nat)) 0 L (n := am_F) (s0 := am_i 0) rfl (by omega) (am_Fv (by omega)) (fun n j _ hj => ?_) (fun n => ?_)
  · show m_X9_halves_126 _ _ _ _ _ _ _ _ _ _ _ (n + 1) _ _ = m_X9_halves_126 _ _ _ _ _ _ _ _ _ _ _ n (am_i ((hvS v c j + hvV v c j : Nat) : Int)) _
    have e : am_i (b1 (c.testBit j) : Nat) * am_i (v j : Int) = am_i ((hvV v c j : Nat) : Int) := by
      rw [i_mul]
      unfold hvV
      cases c.testBit j
      · rw [if_neg (by decide)]
        refine congrArg am_i ?_
        show ((0 : Nat) : Int) * _ = ((0 : Nat) : Int)
        omega
      · rw [if_pos rfl]
        refine congrArg am_i ?_
        show ((1 : Nat) : Int) * _ = _
        omega
    rw [m_X9_halves_126, if_neg (by rw [i_le (by omega) (by omega) (by omega) (by omega)]; omega), i_ibt (by omega) (by omega) (by omega), cond_true, s_bit hc (by omega), i_ixn (by omega), h.1 j (by omega), e, i_add, nj]
    rfl
  · show m_X9_halves_126 _ _ _ _ _ _ _ _ _ _ _ (n + 1) _ _ = _
    rw [m_X9_halves_126, if_pos (by rw [i_le (by omega) (by omega) (by omega) (by omega)]; omega)]
theorem l_X9_halves_112 {x1 x2 y1 y2 : Int32} {L : Nat} {k : Int32 → Int32 → Option (Int32 × am_m)} (h : RowT m 3269 v L) (hL : L ≤ 12) : m_X9_halves_112 x1 x2 m y1 y2 (am_i (L : Int)) (am_i (su v L : Nat)) k am_F (am_i 0) (am_i (su v L : Nat)) (am_i 1) = k (am_i (hvB (hvA v L) (2 ^ L) : Nat)) (am_i (hvA v L (hvB (hvA v L) (2 ^ L)) : Nat)) := by
  have h2 : 2 ^ L ≤ 2 ^ 12 := Nat.pow_le_pow_right (by decide) hL
  have e12 : (2 : Nat) ^ 12 = 4096 := rfl
  have p0 : 1 ≤ 2 ^ L := Nat.one_le_two_pow
  have b5 := su_b h.2 L
  have q5 : L * 15358464 ≤ 12 * 15358464 := Nat.mul_le_mul_right _ hL
  refine lo_go (fun n j (t : Int32 × Int32) => m_X9_halves_112 x1 x2 m y1 y2 (am_i (L : Int)) (am_i (su v L : Nat)) k n t.1 t.2 (am_i (j : Int))) (fun j => (am_i (hvB (hvA v L) j : Nat), am_i (hvA v L (hvB (hvA v L) j) : Nat))) 1 (2 ^ L) (n := am_F) (s0 := (am_i 0, am_i (su v L : Nat))) ?_ p0 (am_Fv (by omega)) (fun n j j1 hj => ?_) (fun n => ?_)
  · rw [hvB_1]
    have : hvA v L 0 = su v L := by unfold hvA hvZ; rw [hvS_0]; omega
    rw [this]; rfl
  · have b1 := hvS_le h.2 (c := j) hL
    have b3 := hvZ_b h.2 hL (hvB (hvA v L) j)
    have aj : hvA v L j = (2 * (hvS v j L : Nat) - (su v L : Nat) : Int).natAbs := rfl
    have ab : hvA v L (hvB (hvA v L) j) = (hvZ v L (hvB (hvA v L) j)).natAbs := rfl
    have eB : hvB (hvA v L) (j + 1) = if hvA v L j < hvA v L (hvB (hvA v L) j) then j else hvB (hvA v L) j := rfl
    show m_X9_halves_112 _ _ _ _ _ _ _ _ (n + 1) _ _ _ = m_X9_halves_112 _ _ _ _ _ _ _ _ n (am_i (hvB (hvA v L) (j + 1) : Nat)) (am_i (hvA v L (hvB (hvA v L) (j + 1)) : Nat)) _
    rw [m_X9_halves_112, sh12 L (by omega), if_neg (by rw [i_le (by omega) (by omega) (by omega) (by omega)]; omega), l_X9_halves_126 h hL (by omega), i_mul, i_sub, i_sub, nj, eB]
    by_cases c0 : 2 * hvS v j L ≤ su v L
    · rw [if_pos (by rw [i_le (by omega) (by omega) (by omega) (by omega)]; omega), show ((su v L : Nat) : Int) - 2 * (hvS v j L : Nat) = (hvA v L j : Nat) by omega]
      by_cases c : hvA v L j < hvA v L (hvB (hvA v L) j)
      · rw [if_pos (by rw [i_lt (by omega) (by omega) (by omega) (by omega)]; omega), if_pos c]
      · rw [if_neg (by rw [i_lt (by omega) (by omega) (by omega) (by omega)]; omega), if_neg c]
    · rw [if_neg (by rw [i_le (by omega) (by omega) (by omega) (by omega)]; omega), show 2 * ((hvS v j L : Nat) : Int) - (su v L : Nat) = (hvA v L j : Nat) by omega]
      by_cases c : hvA v L j < hvA v L (hvB (hvA v L) j)
      · rw [if_pos (by rw [i_lt (by omega) (by omega) (by omega) (by omega)]; omega), if_pos c]
      · rw [if_neg (by rw [i_lt (by omega) (by omega) (by omega) (by omega)]; omega), if_neg c]
  · show m_X9_halves_112 _ _ _ _ _ _ _ _ (n + 1) _ _ (am_i ((2 ^ L : Nat) : Int)) = _
    rw [m_X9_halves_112, sh12 L (by omega), if_pos (by rw [i_le (by omega) (by omega) (by omega) (by omega)]; omega)]
end HX
