/-! ===== mathematics: the class's numbers ===== -/
def pz (j : Nat) : Nat := if j ≤ 9 then 10 ^ (9 - j) else 0
theorem pz_s : ∀ j : Nat, j < 10 → am_i (pz j : Nat) / am_i 10 = am_i (pz (j + 1) : Nat) := by decide +kernel
theorem pz_b : ∀ j : Nat, j < 10 → 0 < pz j ∧ pz j ≤ 1000000000 ∧ (j = 9 ↔ pz j = 1) := by decide
theorem pz_d (n : Nat) {i : Nat} (hi : i < 9) : n / pz i = n / pz (i + 1) / 10 := by
  have e : 10 ^ (9 - i) = 10 ^ (9 - (i + 1)) * 10 := by rw [show 9 - i = (9 - (i + 1)) + 1 by omega, Nat.pow_succ]
  unfold pz
  rw [if_pos (by omega), if_pos (by omega), e, Nat.div_div_eq_div_mul]
/-- what is put after j powers -/
def pnS (q : Rp) (n : Nat) : Nat → Rp
  | 0 => q
  | j + 1 => if n / pz j = 0 ∧ j < 9 then q else rN q (n / pz j)
theorem pnS_z {q : Rp} {n : Nat} (j : Nat) (hj : j < 10) (h : n / pz j ≤ 9) (hn : n ≤ 2147483647) : pnS q n j = q := by
  cases j with
  | zero => rfl
  | succ i =>
    refine if_pos ⟨?_, by omega⟩
    rw [pz_d n (show i < 9 by omega)]
    generalize n / pz (i + 1) = y at h ⊢
    omega
theorem pnS_p {q : Rp} {n : Nat} (j : Nat) (hj : j < 10) (h : ¬ n / pz j ≤ 9) (hn : n ≤ 2147483647) : pnS q n j = rN q (n / pz j / 10) := by
  cases j with
  | zero =>
    refine absurd ?_ h
    show n / 10 ^ 9 ≤ 9
    have : n / 10 ^ 9 ≤ 2147483647 / 10 ^ 9 := Nat.div_le_div_right hn
    exact Nat.le_trans this (by decide)
  | succ i =>
    have e := pz_d n (show i < 9 by omega)
    show (if n / pz i = 0 ∧ i < 9 then q else rN q (n / pz i)) = _
    have nz : ¬ n / pz i = 0 := by
      rw [e]
      generalize n / pz (i + 1) = y at h ⊢
      omega
    rw [if_neg (fun y => nz y.1), e]
theorem pnS_n {q : Rp} {n : Nat} (j : Nat) (hj : j < 10) (hn : n ≤ 2147483647) : rN q (n / pz j) = rA (pnS q n j) (48 + (n / pz j % 10 : Nat)) := by
  have hy : n / pz j ≤ n := Nat.div_le_self _ _
  rw [rN_e (by omega)]
  by_cases c : n / pz j ≤ 9
  · rw [if_pos c, pnS_z j hj c hn]
  · rw [if_neg c, pnS_p j hj c hn]
section RPr
variable {m : am_m} {q : Rp} {x : Int} {n : Nat}
theorem s_putNumber {f : Nat} (hf : 0 < f) (hf2 : f ≤ 9) (hn : n < 10 ^ f) (h : RPC m q) (hl : q.1 + f ≤ 64) : ∃ m', m_X3_putNumber m (am_i (n : Int)) = some m' ∧ Fr F6 m m' ∧ RPC m' (rN q n) := by
  have hn2 : n ≤ 2147483647 := Nat.le_trans (Nat.le_of_lt hn) (Nat.le_trans (Nat.pow_le_pow_right (by decide) hf2) (by decide))
  unfold m_X3_putNumber
  refine Exists.elim (lo_inv (fun z j (t : am_m) => m_X3_putNumber_3 (am_i (n : Int)) (am_i (n : Int)) (fun m8 => some m8) z (am_i (pz j : Nat)) t) (fun j t => Fr F6 m t ∧ RPC t (pnS q n j)) 0 10 (fun t => some t) (n := am_F) (s0 := m) ⟨Fr.refl _ _, h⟩ (by omega) (am_Fv (by omega)) (fun z j t _ hj a => ?_) (fun z t a => rfl)) (fun t L => ⟨t, L.2, L.1.1, ?_⟩)
  · obtain ⟨a1, a2⟩ := a
    obtain ⟨z0, z1, z9⟩ := pz_b j hj
    have hy : n / pz j ≤ n := Nat.div_le_self _ _
    have el := rN_len (q := q) hf (by omega) (Nat.lt_of_le_of_lt hy hn)
    have en := pnS_n (q := q) j hj hn2
    have ez : n / pz j = 0 ↔ n < pz j := by rw [Nat.div_eq_zero_iff]; omega
    have dg : am_i 48 + (am_i (n : Int) / am_i (pz j : Nat) - am_i (n : Int) / am_i (pz j : Nat) / am_i 10 * am_i 10) = am_i (48 + (n / pz j % 10 : Nat)) := by
      rw [show am_i (n : Int) / am_i (pz j : Nat) = am_i ((n / pz j : Nat) : Int) from i_div (a := (n : Int)) (b := (pz j : Nat)) (by omega) (by omega) (by omega) (by omega)]
      exact i_dig (by omega)
    have nz : am_nz (am_i (pz j : Nat)) = true := by
      unfold am_nz
      rw [decide_eq_true_iff, i_zero, i_eq (by omega) (by omega) (by omega) (by omega)]
      omega
    have put : ¬ (n / pz j = 0 ∧ j < 9) → ∃ s', ((m_X3_put t (am_i 48 + (am_i (n : Int) / am_i (pz j : Nat) - am_i (n : Int) / am_i (pz j : Nat) / am_i 10 * am_i 10))).bind fun q4 => m_X3_putNumber_3 (am_i (n : Int)) (am_i (n : Int)) (fun m8 => some m8) z (am_i (pz j : Nat) / am_i 10) q4) = m_X3_putNumber_3 (am_i (n : Int)) (am_i (n : Int)) (fun m8 => some m8) z (am_i (pz (j + 1) : Nat)) s' ∧ Fr F6 m s' ∧ RPC s' (pnS q n (j + 1)) := by
      intro hc
      rw [dg, pz_s j hj]
      rw [en] at el
      have el' : (pnS q n j).1 + 1 ≤ q.1 + f := el
      obtain ⟨m1, e1, f1, h1⟩ := s_put (x := 48 + (n / pz j % 10 : Nat)) a2 (by omega)
      refine ⟨m1, by rw [e1]; rfl, a1.trans f1, ?_⟩
      show RPC m1 (if n / pz j = 0 ∧ j < 9 then q else rN q (n / pz j))
      rw [if_neg hc, en]
      exact h1
    show ∃ s', m_X3_putNumber_3 _ _ _ (z + 1) _ t = m_X3_putNumber_3 _ _ _ z _ s' ∧ _
    rw [m_X3_putNumber_3, if_neg (by rw [i_zero, i_le (by omega) (by omega) (by omega) (by omega)]; omega), nz, cond_true]
    by_cases c : pz j ≤ n
    · rw [if_pos (by rw [i_le (by omega) (by omega) (by omega) (by omega)]; omega)]
      exact put (fun e => by have := ez.mp e.1; omega)
    · rw [if_neg (by rw [i_le (by omega) (by omega) (by omega) (by omega)]; omega)]
      by_cases c9 : j = 9
      · rw [if_neg (fun y => y (by rw [z9.mp c9]; rfl))]
        exact put (fun e => by omega)
      · have z9' : ¬ pz j = 1 := fun e => c9 (z9.mpr e)
        rw [if_pos (by rw [i_eq (by omega) (by omega) (by omega) (by omega)]; omega), pz_s j hj]
        refine ⟨t, rfl, a1, ?_⟩
        have y0 := ez.mpr (by omega)
        rw [pnS_z j hj (by omega) hn2] at a2
        show RPC t (if n / pz j = 0 ∧ j < 9 then q else rN q (n / pz j))
        rw [if_pos ⟨y0, by omega⟩]
        exact a2
  · have := L.1.2
    have e : pnS q n 10 = rN q n := by
      show (if n / pz 9 = 0 ∧ 9 < 9 then q else rN q (n / pz 9)) = rN q n
      rw [if_neg (by omega), show pz 9 = 1 from rfl, Nat.div_one]
    rw [e] at this
    exact this
theorem s_sayN {f : Nat} (hf : 0 < f) (hf2 : f ≤ 9) (hn : n < 10 ^ f) (h : RPM m q) (hl : q.1 + f ≤ 64) : ∃ m', m_X9_saysNumber 20 m (am_i (n : Int)) = some m' ∧ F7 m m' ∧ RPM m' (rN q n) := by
  have hn2 : n ≤ 2147483647 := Nat.le_trans (Nat.le_of_lt hn) (Nat.le_trans (Nat.pow_le_pow_right (by decide) hf2) (by decide))
  have el := rN_len (q := q) hf (by omega) hn
  exact s_saysNumber 20 n (by decide) (Nat.lt_of_le_of_lt hn2 (by decide)) hn2 h (by show (rN q n).1 ≤ 64; omega)
end RPr
