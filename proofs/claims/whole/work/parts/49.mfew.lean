/-! ===== mathematics: how few leaders have p of a hundred ===== -/
section MF
variable {m : am_m} {a u : Nat} {f : Nat → Nat}
def fwK (f : Nat → Nat) (p : Nat) : Nat := fi (fun k => decide (p * su f 64 ≤ 100 * su (lv f) (k + 1))) 64 + 1
theorem fw_f {p j : Nat} (hp1 : 1 ≤ p) (hn : 0 < su f 64) (hj : j < fwK f p) : ¬ (p * su f 64 ≤ 100 * su (lv f) j) := by
  unfold fwK at hj
  cases j with
  | zero =>
    have : 1 * su f 64 ≤ p * su f 64 := Nat.mul_le_mul_right _ hp1
    show ¬ (p * su f 64 ≤ 100 * 0)
    omega
  | succ t =>
    exact of_decide_eq_false (fi_no (fun k => decide (p * su f 64 ≤ 100 * su (lv f) (k + 1))) 64 t (by omega))
theorem fw_l {p j : Nat} (hp1 : 1 ≤ p) (hp : p ≤ 100) (hn : 0 < su f 64) (hj : j < fwK f p) : ∃ b : Nat, b < 64 ∧ ldI f (j : Int) = (b : Int) ∧ lv f j = f b := by
  by_cases q : ldI f (j : Int) = -1
  · have h1 := fw_f hp1 hn hj
    rw [lv_end q] at h1
    exact absurd (Nat.mul_le_mul_right (su f 64) hp) h1
  · obtain ⟨b, g1, g2, g3, g4, g5⟩ := ldI_is q
    refine ⟨b, g1, g4, ?_⟩
    unfold lv
    rw [g5, if_pos g1]
theorem fwK_le (f : Nat → Nat) {p : Nat} (hp1 : 1 ≤ p) (hp : p ≤ 100) (hn : 0 < su f 64) : fwK f p ≤ 64 := by
  rcases Nat.lt_or_ge 64 (fwK f p) with h | h
  · obtain ⟨b, g1, g2, _⟩ := fw_l (f := f) (j := 64) hp1 hp hn h
    rw [ldI_64 (by omega)] at g2
    omega
  · exact h
theorem fw_t {p : Nat} (hp1 : 1 ≤ p) (hp : p ≤ 100) (hn : 0 < su f 64) : p * su f 64 ≤ 100 * su (lv f) (fwK f p) := by
  have := fwK_le f hp1 hp hn
  have h2 : fi (fun k => decide (p * su f 64 ≤ 100 * su (lv f) (k + 1))) 64 < 64 := by unfold fwK at this; omega
  exact of_decide_eq_true (fi_is (fun k => decide (p * su f 64 ≤ 100 * su (lv f) (k + 1))) 64 h2)
theorem s_X5_fewestOf0 {p : Int32} (h : Row m a f) (hn : su f 64 = 0) : m_X5_fewestOf m a p = some (am_i (-1)) := by
  have e : ldI f 0 = -1 := ldI_no (fun c hc hc2 => by
    have h1 : su f (c + 1) ≤ su f 64 := su_mono (by omega)
    have h2 : su f (c + 1) = su f c + f c := rfl
    omega)
  unfold m_X5_fewestOf
  rw [s_X5_allOf h, Option.bind_some]
  show m_X5_fewestOf_15 a p m p _ _ (999999 + 1) _ _ _ = _
  rw [m_X5_fewestOf_15, s_X5_leaderBehind h (by decide) (by decide), ld_first, e]
  rw [if_neg (by decide), Option.bind_some, if_neg (by decide)]
theorem s_X5_fewestOf {p : Nat} (h : Row m a f) (hp1 : 1 ≤ p) (hp : p ≤ 100) (hn : 0 < su f 64) : m_X5_fewestOf m a (am_i p) = some (am_i (fwK f p : Nat)) := by
  unfold m_X5_fewestOf
  have b := su_b h.2 64
  have hpn : p * su f 64 ≤ 100 * su f 64 := Nat.mul_le_mul_right _ hp
  rw [s_X5_allOf h, Option.bind_some, j_of (by omega) (by omega), j_0]
  have e0 : am_j ((p : Int) * (su f 64 : Nat)) = am_j ((p * su f 64 : Nat) : Int) := by rw [Int.natCast_mul]
  have hK := fwK_le f hp1 hp hn
  obtain ⟨K, hKe⟩ : ∃ K, fwK f p = K + 1 := ⟨_, rfl⟩
  have step : ∀ n j, j ≤ K → m_X5_fewestOf_15 a (am_i p) m (am_i p) (am_j (su f 64 : Nat)) (some (am_i (-1))) (n + 1) (am_j (su (lv f) j : Nat)) (am_i (ldI f ((j : Int) - 1))) (am_i ((j : Int) + 1)) = if p * su f 64 ≤ 100 * su (lv f) (j + 1) then some (am_i ((j : Int) + 1)) else m_X5_fewestOf_15 a (am_i p) m (am_i p) (am_j (su f 64 : Nat)) (some (am_i (-1))) n (am_j (su (lv f) (j + 1) : Nat)) (am_i (ldI f (((j + 1 : Nat) : Int) - 1))) (am_i (((j + 1 : Nat) : Int) + 1)) := by
    intro n j hj
    have r1 := ldI_r (f := f) ((j : Int) - 1)
    obtain ⟨c, hc, hc2, hc3⟩ := fw_l (f := f) (j := j) hp1 hp hn (by omega)
    have r2 := ld_step (f := f) j (fun i hi => by
      obtain ⟨c2, _, q2, _⟩ := fw_l (f := f) (j := i) hp1 hp hn (by omega)
      rw [q2]
      apply Bool.eq_false_iff.mpr
      intro z
      have : (c2 : Int) = -1 := by simpa using z
      omega)
    have b3 := lv_le (f := f) (j + 1)
    have b4 := h.2 c
    have e1 : su (lv f) (j + 1) = su (lv f) j + f c := by rw [su_s, hc3]
    rw [m_X5_fewestOf_15, if_neg (by rw [i_lt (by omega) (by omega) (by omega) (by omega)]; omega), s_X5_leaderBehind h r1.1 r1.2, r2, hc2, Option.bind_some, if_pos (by rw [i_eq (by omega) (by omega) (by omega) (by omega)]; omega), i_ibt (by omega) (by omega) (by omega), cond_true, i_ixn (by omega), h.1 c hc, j_of (by omega) (by omega), j_add, j_100, j_mul, j_of (by omega) (by omega), j_mul, e0, i_add, show ((j + 1 : Nat) : Int) - 1 = (j : Int) by omega, hc2]
    have e2 : ((su (lv f) j : Nat) : Int) + (f c : Nat) = (su (lv f) (j + 1) : Nat) := by rw [e1]; rfl
    rw [e2]
    by_cases q : p * su f 64 ≤ 100 * su (lv f) (j + 1)
    · rw [if_pos q, if_neg (by rw [j_lt0 (by omega) (by omega) (by omega) (by omega)]; omega)]
    · rw [if_neg q, if_pos (by rw [j_lt0 (by omega) (by omega) (by omega) (by omega)]; omega)]
      rfl
  refine (lo_go (fun n j (s : Int64) => m_X5_fewestOf_15 a (am_i p) m (am_i p) (am_j (su f 64 : Nat)) (some (am_i (-1))) n s (am_i (ldI f ((j : Int) - 1))) (am_i ((j : Int) + 1))) (fun j => am_j (su (lv f) j : Nat)) 0 K (k := some (am_i (fwK f p : Nat))) rfl (by omega) (am_Fv (by omega)) (fun n j _ hj => ?_) (fun n => ?_)).symm.trans ?_ |>.symm
  · show m_X5_fewestOf_15 a (am_i p) m (am_i p) (am_j (su f 64 : Nat)) (some (am_i (-1))) (n + 1) _ _ _ = _
    rw [step n j (by omega), if_neg (fw_f hp1 hn (by omega))]
  · show m_X5_fewestOf_15 a (am_i p) m (am_i p) (am_j (su f 64 : Nat)) (some (am_i (-1))) (n + 1) _ _ _ = _
    rw [step n K (by omega), if_pos (by rw [← hKe]; exact fw_t hp1 hp hn), hKe]
    rfl
  · show m_X5_fewestOf_15 _ _ _ _ _ _ _ _ (am_i (ldI f (((0 : Nat) : Int) - 1))) _ = _
    rw [ldI_neg (by omega)]
    rfl
theorem l_X9_few_25 {x1 x2 : Int32} {p : Nat} {k : Int32 → Option (Int32 × am_m)} (h : RowW m (1608 + 64 * u) f) (hu : u < 24) (hp1 : 1 ≤ p) (hp : p ≤ 100) (hn : 0 < su f 64) (hS : su f 64 ≤ 20000000) : m_X9_few_25 x1 x2 m (am_i u) (am_i p) (am_i (su f 64 : Nat)) k am_F (am_i 0) (am_i 0) = k (am_i (fwK f p : Nat)) := by
  have hK := fwK_le f hp1 hp hn
  have hpn : p * su f 64 ≤ 100 * su f 64 := Nat.mul_le_mul_right _ hp
  have e0 : am_i ((p : Int) * (su f 64 : Nat)) = am_i ((p * su f 64 : Nat) : Int) := by rw [Int.natCast_mul]
  refine lo_go (fun n j s => m_X9_few_25 x1 x2 m (am_i u) (am_i p) (am_i (su f 64 : Nat)) k n s (am_i (j : Int))) (fun j => am_i (su (lv f) j : Nat)) 0 (fwK f p) rfl (Nat.zero_le _) (am_Fv (by omega)) (fun n j _ hj => ?_) (fun n => ?_)
  · have q := fw_f hp1 hn hj
    obtain ⟨c, hc, hc2, hc3⟩ := fw_l (f := f) (j := j) hp1 hp hn hj
    have b3 := lv_le (f := f) j
    have b4 := h.2 c
    show m_X9_few_25 x1 x2 m (am_i u) (am_i p) (am_i (su f 64 : Nat)) k (n + 1) _ _ = m_X9_few_25 x1 x2 m (am_i u) (am_i p) (am_i (su f 64 : Nat)) k n (am_i ((su (lv f) j + lv f j : Nat) : Int)) _
    rw [m_X9_few_25, i_mul, i_mul, e0, if_neg (by rw [i_le (by omega) (by omega) (by omega) (by omega)]; omega), s_X9_leaderOf h hu (by omega) (by omega), hc2, hc3]
    unfold m_X9_sumAt
    (simp (disch := first | assumption | omega) only [i_add, i_sub, i_mul, i_lt, i_le, i_eq, i_ibt, i_ixn, i_ix, i_zero, am_letF, cond_true, cond_false, Option.bind_some, ↓reduceIte, m_si, m_sc, true_and, and_true, not_true_eq_false, not_false_eq_true, i_gtF, i_leT, i_geF, i_ltT, Int32.zero_add, Int.toNat_natCast, ix_own, ix_sum, ix_ver, ix_th, ix_ab, ix_st, ix_vm, ix_lim, ix_lim1, ix_lim2, ix_lim3, Int.toNat_zero, i_neF, i_eqT, b1T, b1F, h.1] <;> rfl)
  · have q := fw_t hp1 hp hn
    have b3 := lv_le (f := f) (fwK f p)
    show m_X9_few_25 x1 x2 m (am_i u) (am_i p) (am_i (su f 64 : Nat)) k (n + 1) _ _ = _
    rw [m_X9_few_25, i_mul, i_mul, e0, if_pos (by rw [i_le (by omega) (by omega) (by omega) (by omega)]; omega)]
end MF
