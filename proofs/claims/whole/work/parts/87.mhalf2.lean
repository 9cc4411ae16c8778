/-! ===== mathematics: halves, the class's best choice ===== -/
/-- a row of totals -/
def RowT (m : am_m) (a : Nat) (v : Nat → Nat) (N : Nat) : Prop := (∀ c, c < N → m a c = am_i (v c)) ∧ ∀ c, v c ≤ 15358464
section HV
variable {m : am_m} {v : Nat → Nat} {a : Nat}
theorem s_totT {N : Nat} (h : RowT m a v N) {n : Nat} (hN : n ≤ N) (hn : n ≤ 12) : m_X5_totalOf m a (am_i 0) (am_i ((n : Int) - 1)) = some (am_i (su v n : Nat)) := by
  have bd : ∀ j, j ≤ 12 → su v j ≤ 184301568 := fun j hj => by
    have := su_b h.2 j
    have q : j * 15358464 ≤ 12 * 15358464 := Nat.mul_le_mul_right _ hj
    omega
  unfold m_X5_totalOf
  rw [show am_mx (am_i 0) (am_i 0) = am_i 0 by decide]
  refine lo_go (fun z j s => m_X5_totalOf_9 a (am_i 0) (am_i ((n : Int) - 1)) m (am_i ((n : Int) - 1)) (fun u4 => some u4) z s (am_i (j : Int))) (fun j => am_i (su v j : Nat)) 0 n (n := am_F) (s0 := am_i 0) rfl (by omega) (am_Fv (by omega)) (fun z j _ hj => ?_) (fun z => ?_)
  · have b0 := bd j (by omega)
    have b2 := h.2 j
    show m_X5_totalOf_9 _ _ _ _ _ _ (z + 1) _ _ = m_X5_totalOf_9 _ _ _ _ _ _ z (am_i ((su v j + v j : Nat) : Int)) _
    rw [m_X5_totalOf_9, if_neg (by rw [i_lt (by omega) (by omega) (by omega) (by omega)]; omega), if_neg (by rw [i_le (by omega) (by omega) (by omega) (by omega)]; omega), i_ibt (by omega) (by omega) (by omega), cond_true, i_ixn (by omega), h.1 j (by omega), i_add, nj]
    rfl
  · show m_X5_totalOf_9 _ _ _ _ _ _ (z + 1) _ _ = _
    rw [m_X5_totalOf_9, if_pos (by rw [i_lt (by omega) (by omega) (by omega) (by omega)]; omega)]
/-- how far a choice is from the half, twice -/
def hvZ (v : Nat → Nat) (n c : Nat) : Int := 2 * (hvS v c n : Nat) - (su v n : Nat)
def hvA (v : Nat → Nat) (n c : Nat) : Nat := (hvZ v n c).natAbs
/-- the best of the choices below c, the first -/
def hvB (A : Nat → Nat) : Nat → Nat
  | 0 => 0
  | c + 1 => if A c < A (hvB A c) then c else hvB A c
theorem hvS_le (h : ∀ c, v c ≤ 15358464) {n c : Nat} (hn : n ≤ 12) : hvS v c n ≤ 184301568 := by
  have := su_b (f := hvV v c) (B := 15358464) (fun i => by
    unfold hvV
    have := h i
    split <;> omega) n
  have q : n * 15358464 ≤ 12 * 15358464 := Nat.mul_le_mul_right _ hn
  show su (hvV v c) n ≤ _
  omega
theorem hvB_lt (A : Nat → Nat) : ∀ c, 0 < c → hvB A c < c
  | 0, h => absurd h (Nat.lt_irrefl 0)
  | c + 1, _ => by
    show (if A c < A (hvB A c) then c else hvB A c) < c + 1
    have := hvB_lt A c
    split
    · omega
    · cases c with
      | zero => exact Nat.lt_succ_self 0
      | succ c => have := this (by omega); omega
theorem hvB_1 (A : Nat → Nat) : hvB A 1 = 0 := if_neg (Nat.lt_irrefl _)
theorem hvZ_s {n c : Nat} (hc : c < 2 ^ n) (hn : n ≤ 12) (h0 : 0 < c) : hvZ v n c = hvZ v n (c - 1) + 2 * ((v (tz c) : Int) - (su v (tz c) : Nat)) := by
  have h2 : 2 ^ n ≤ 2 ^ 12 := Nat.pow_le_pow_right (by decide) hn
  have e12 : (2 : Nat) ^ 12 = 4096 := rfl
  have t := tz_lt hc hn h0
  have q := hvS_s (v := v) (c := c) (by omega) h0 n hn
  rw [if_pos t, show min n (tz c) = tz c by omega] at q
  unfold hvZ
  omega
end HV
