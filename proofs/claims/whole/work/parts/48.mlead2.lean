/-! ===== mathematics: leaders, the mirrors ===== -/
/-- a loop that looks for the first, the states behind it left open -/
theorem lo_seek2 {σ β : Type} (F : Nat → Nat → σ → Option β) (S : Nat → σ) (N : Nat) (P : Nat → Bool) (e : Nat → Option β) (k : Option β) {n : Nat} {s0 : σ} (h0 : s0 = S 0) (hn : N < n) (hs : ∀ n j, j < N → (∀ i, i ≤ j → P i = false) → F (n + 1) j (S j) = F n (j + 1) (S (j + 1))) (hf : ∀ n j, j < N → (∀ i, i < j → P i = false) → P j = true → F (n + 1) j (S j) = e j) (he : ∀ n, (∀ i, i < N → P i = false) → F (n + 1) N (S N) = k) : F n 0 s0 = if fi P N < N then e (fi P N) else k := by
  rw [h0]
  have hle := fi_le P N
  by_cases h : fi P N < N
  · rw [if_pos h]
    exact lo_run (N := fi P N) (fun n j hj => hs n j (by omega) (fun i hi => fi_no P N i (by omega))) (fun n => hf n _ h (fun i hi => fi_no P N i hi) (fi_is P N h)) n 0 (by omega) (by omega)
  · rw [if_neg h]
    have e : fi P N = N := by omega
    exact lo_run (N := N) (fun n j hj => hs n j hj (fun i hi => fi_no P N i (by omega))) (fun n => he n (fun i hi => fi_no P N i (by omega))) n 0 (by omega) (by omega)
theorem ld_step {f : Nat → Nat} (j : Nat) (hp : ∀ i, i < j → (ldI f (i : Int) == -1) = false) : bsL f (aft f (ldI f ((j : Int) - 1))) 64 = ldI f (j : Int) := by
  cases j with
  | zero =>
    rw [ldI_neg (show ((0 : Nat) : Int) - 1 < 0 by omega)]
    exact ld_first
  | succ t =>
    have q := hp t (by omega)
    have := ld_next (f := f) (i := (t : Int)) (by simpa using q)
    rw [show ((t + 1 : Nat) : Int) - 1 = (t : Int) by omega]
    exact this
section LE
variable {m : am_m} {a b u : Nat} {f : Nat → Nat}
theorem s_X5_leadsOver {p q : Nat} (h : Row m a f) (hp : p < 64) (hq : q < 64) : m_X5_leadsOver m a (am_i p) (am_i q) = some (am_i (b1 (decide (f q < f p ∨ f p = f q ∧ p < q)))) := by
  unfold m_X5_leadsOver
  have b1 := h.2 p
  have b2 := h.2 q
  by_cases c1 : f q < f p
  · rw [decide_eq_true (show f q < f p ∨ f p = f q ∧ p < q from Or.inl c1)]
    simp (disch := first | assumption | omega) only [i_add, i_sub, i_mul, i_lt, i_le, i_eq, i_ibt, i_ixn, i_ix, i_zero, am_letF, cond_true, cond_false, Option.bind_some, ↓reduceIte, m_si, m_sc, true_and, and_true, not_true_eq_false, not_false_eq_true, i_gtF, i_leT, i_geF, i_ltT, Int32.zero_add, Int.toNat_natCast, ix_own, ix_sum, ix_ver, ix_th, ix_ab, ix_st, ix_vm, ix_lim, ix_lim1, ix_lim2, ix_lim3, Int.toNat_zero, i_neF, i_eqT, b1T, b1F, h.1]
  · by_cases c2 : f p = f q
    · by_cases c3 : p < q
      · rw [decide_eq_true (show f q < f p ∨ f p = f q ∧ p < q from Or.inr ⟨c2, c3⟩)]
        simp (disch := first | assumption | omega) only [i_add, i_sub, i_mul, i_lt, i_le, i_eq, i_ibt, i_ixn, i_ix, i_zero, am_letF, cond_true, cond_false, Option.bind_some, ↓reduceIte, m_si, m_sc, true_and, and_true, not_true_eq_false, not_false_eq_true, i_gtF, i_leT, i_geF, i_ltT, Int32.zero_add, Int.toNat_natCast, ix_own, ix_sum, ix_ver, ix_th, ix_ab, ix_st, ix_vm, ix_lim, ix_lim1, ix_lim2, ix_lim3, Int.toNat_zero, i_neF, i_eqT, b1T, b1F, h.1]
      · rw [decide_eq_false (show ¬ (f q < f p ∨ f p = f q ∧ p < q) by omega)]
        simp (disch := first | assumption | omega) only [i_add, i_sub, i_mul, i_lt, i_le, i_eq, i_ibt, i_ixn, i_ix, i_zero, am_letF, cond_true, cond_false, Option.bind_some, ↓reduceIte, m_si, m_sc, true_and, and_true, not_true_eq_false, not_false_eq_true, i_gtF, i_leT, i_geF, i_ltT, Int32.zero_add, Int.toNat_natCast, ix_own, ix_sum, ix_ver, ix_th, ix_ab, ix_st, ix_vm, ix_lim, ix_lim1, ix_lim2, ix_lim3, Int.toNat_zero, i_neF, i_eqT, b1T, b1F, h.1]
    · rw [decide_eq_false (show ¬ (f q < f p ∨ f p = f q ∧ p < q) by omega)]
      simp (disch := first | assumption | omega) only [i_add, i_sub, i_mul, i_lt, i_le, i_eq, i_ibt, i_ixn, i_ix, i_zero, am_letF, cond_true, cond_false, Option.bind_some, ↓reduceIte, m_si, m_sc, true_and, and_true, not_true_eq_false, not_false_eq_true, i_gtF, i_leT, i_geF, i_ltT, Int32.zero_add, Int.toNat_natCast, ix_own, ix_sum, ix_ver, ix_th, ix_ab, ix_st, ix_vm, ix_lim, ix_lim1, ix_lim2, ix_lim3, Int.toNat_zero, i_neF, i_eqT, b1T, b1F, h.1]
theorem s_X5_leaderBehind {L : Int} (h : Row m a f) (hL : -1 ≤ L) (hL2 : L < 64) : m_X5_leaderBehind m a (am_i L) = some (am_i (bsL f (aft f L) 64)) := by
  unfold m_X5_leaderBehind
  refine lo_go (fun n j s => m_X5_leaderBehind_4 a (am_i L) m (am_i L) (fun u15 => some u15) n s (am_i (j : Int))) (fun j => am_i (bsL f (aft f L) j)) 0 64 rfl (by omega) (am_Fv (by omega)) (fun n j _ hj => ?_) (fun n => rfl)
  show m_X5_leaderBehind_4 a _ m _ (fun u15 => some u15) (n + 1) _ _ = m_X5_leaderBehind_4 a _ m _ (fun u15 => some u15) n (am_i (if aft f L j = true then (if bsL f (aft f L) j = -1 then (j : Int) else if f (bsL f (aft f L) j).toNat < f j then (j : Int) else bsL f (aft f L) j) else bsL f (aft f L) j)) _
  rw [m_X5_leaderBehind_4]
  have b1 := h.2 j
  have hB := bsL_b f (aft f L) j
  have key : ∀ P : Int, (∀ x y : Int, P = x → x = y → am_i P = am_i y) := fun P x y e1 e2 => by rw [e1, e2]
  clear key
  generalize bsL f (aft f L) j = B at hB ⊢
  by_cases c0 : f j = 0
  · have e : aft f L j = false := by unfold aft; simp [c0]
    rw [if_neg (show ¬ aft f L j = true by rw [e]; decide)]
    (simp (disch := first | assumption | omega) only [i_add, i_sub, i_mul, i_lt, i_le, i_eq, i_ibt, i_ixn, i_ix, i_zero, am_letF, cond_true, cond_false, Option.bind_some, ↓reduceIte, m_si, m_sc, true_and, and_true, not_true_eq_false, not_false_eq_true, i_gtF, i_leT, i_geF, i_ltT, Int32.zero_add, Int.toNat_natCast, ix_own, ix_sum, ix_ver, ix_th, ix_ab, ix_st, ix_vm, ix_lim, ix_lim1, ix_lim2, ix_lim3, Int.toNat_zero, i_neF, i_eqT, b1T, b1F, h.1] <;> rfl)
  · by_cases c1 : L < 0
    · have e : aft f L j = true := by unfold aft; simp [c1]; omega
      rw [if_pos e]
      rcases hB with rfl | ⟨b, hb, rfl⟩
      · rw [if_pos rfl]
        (simp (disch := first | assumption | omega) only [i_add, i_sub, i_mul, i_lt, i_le, i_eq, i_ibt, i_ixn, i_ix, i_zero, am_letF, cond_true, cond_false, Option.bind_some, ↓reduceIte, m_si, m_sc, true_and, and_true, not_true_eq_false, not_false_eq_true, i_gtF, i_leT, i_geF, i_ltT, Int32.zero_add, Int.toNat_natCast, ix_own, ix_sum, ix_ver, ix_th, ix_ab, ix_st, ix_vm, ix_lim, ix_lim1, ix_lim2, ix_lim3, Int.toNat_zero, i_neF, i_eqT, b1T, b1F, h.1] <;> rfl)
      · have b2 := h.2 b
        rw [if_neg (show ¬ (b : Int) = -1 by omega), Int.toNat_natCast]
        by_cases c2 : f b < f j
        · rw [if_pos c2]
          (simp (disch := first | assumption | omega) only [i_add, i_sub, i_mul, i_lt, i_le, i_eq, i_ibt, i_ixn, i_ix, i_zero, am_letF, cond_true, cond_false, Option.bind_some, ↓reduceIte, m_si, m_sc, true_and, and_true, not_true_eq_false, not_false_eq_true, i_gtF, i_leT, i_geF, i_ltT, Int32.zero_add, Int.toNat_natCast, ix_own, ix_sum, ix_ver, ix_th, ix_ab, ix_st, ix_vm, ix_lim, ix_lim1, ix_lim2, ix_lim3, Int.toNat_zero, i_neF, i_eqT, b1T, b1F, h.1] <;> rfl)
        · rw [if_neg c2]
          (simp (disch := first | assumption | omega) only [i_add, i_sub, i_mul, i_lt, i_le, i_eq, i_ibt, i_ixn, i_ix, i_zero, am_letF, cond_true, cond_false, Option.bind_some, ↓reduceIte, m_si, m_sc, true_and, and_true, not_true_eq_false, not_false_eq_true, i_gtF, i_leT, i_geF, i_ltT, Int32.zero_add, Int.toNat_natCast, ix_own, ix_sum, ix_ver, ix_th, ix_ab, ix_st, ix_vm, ix_lim, ix_lim1, ix_lim2, ix_lim3, Int.toNat_zero, i_neF, i_eqT, b1T, b1F, h.1] <;> rfl)
    · obtain ⟨l, rfl⟩ : ∃ l : Nat, L = l := ⟨L.toNat, by omega⟩
      have b3 := h.2 l
      have s1 := s_X5_leadsOver (p := l) (q := j) h (by omega) hj
      by_cases c3 : f j < f l ∨ f l = f j ∧ l < j
      · have e : aft f (l : Int) j = true := by unfold aft; rw [Int.toNat_natCast, decide_eq_true c3, Bool.or_true, Bool.and_true]; exact decide_eq_true (by omega)
        rw [decide_eq_true c3] at s1
        rw [if_pos e]
        rcases hB with rfl | ⟨b, hb, rfl⟩
        · rw [if_pos rfl]
          (simp (disch := first | assumption | omega) only [i_add, i_sub, i_mul, i_lt, i_le, i_eq, i_ibt, i_ixn, i_ix, i_zero, am_letF, cond_true, cond_false, Option.bind_some, ↓reduceIte, m_si, m_sc, true_and, and_true, not_true_eq_false, not_false_eq_true, i_gtF, i_leT, i_geF, i_ltT, Int32.zero_add, Int.toNat_natCast, ix_own, ix_sum, ix_ver, ix_th, ix_ab, ix_st, ix_vm, ix_lim, ix_lim1, ix_lim2, ix_lim3, Int.toNat_zero, i_neF, i_eqT, b1T, b1F, h.1, s1] <;> rfl)
        · have b2 := h.2 b
          rw [if_neg (show ¬ (b : Int) = -1 by omega), Int.toNat_natCast]
          by_cases c2 : f b < f j
          · rw [if_pos c2]
            (simp (disch := first | assumption | omega) only [i_add, i_sub, i_mul, i_lt, i_le, i_eq, i_ibt, i_ixn, i_ix, i_zero, am_letF, cond_true, cond_false, Option.bind_some, ↓reduceIte, m_si, m_sc, true_and, and_true, not_true_eq_false, not_false_eq_true, i_gtF, i_leT, i_geF, i_ltT, Int32.zero_add, Int.toNat_natCast, ix_own, ix_sum, ix_ver, ix_th, ix_ab, ix_st, ix_vm, ix_lim, ix_lim1, ix_lim2, ix_lim3, Int.toNat_zero, i_neF, i_eqT, b1T, b1F, h.1, s1] <;> rfl)
          · rw [if_neg c2]
            (simp (disch := first | assumption | omega) only [i_add, i_sub, i_mul, i_lt, i_le, i_eq, i_ibt, i_ixn, i_ix, i_zero, am_letF, cond_true, cond_false, Option.bind_some, ↓reduceIte, m_si, m_sc, true_and, and_true, not_true_eq_false, not_false_eq_true, i_gtF, i_leT, i_geF, i_ltT, Int32.zero_add, Int.toNat_natCast, ix_own, ix_sum, ix_ver, ix_th, ix_ab, ix_st, ix_vm, ix_lim, ix_lim1, ix_lim2, ix_lim3, Int.toNat_zero, i_neF, i_eqT, b1T, b1F, h.1, s1] <;> rfl)
      · have e : ¬ aft f (l : Int) j = true := by
          unfold aft
          rw [Int.toNat_natCast, decide_eq_false c3, Bool.or_false, decide_eq_false c1, Bool.and_false]
          decide
        rw [decide_eq_false c3] at s1
        rw [if_neg e]
        (simp (disch := first | assumption | omega) only [i_add, i_sub, i_mul, i_lt, i_le, i_eq, i_ibt, i_ixn, i_ix, i_zero, am_letF, cond_true, cond_false, Option.bind_some, ↓reduceIte, m_si, m_sc, true_and, and_true, not_true_eq_false, not_false_eq_true, i_gtF, i_leT, i_geF, i_ltT, Int32.zero_add, Int.toNat_natCast, ix_own, ix_sum, ix_ver, ix_th, ix_ab, ix_st, ix_vm, ix_lim, ix_lim1, ix_lim2, ix_lim3, Int.toNat_zero, i_neF, i_eqT, b1T, b1F, h.1, s1] <;> rfl)
theorem s_X5_leaderAt {i : Int} (h : Row m a f) (h1 : -2147483648 ≤ i) (h2 : i ≤ 2147483647) : m_X5_leaderAt m a (am_i i) = some (am_i (ldI f i)) := by
  unfold m_X5_leaderAt
  by_cases hi : i < 0
  · rw [ldI_neg hi]
    show m_X5_leaderAt_4 a (am_i i) m (am_i i) _ (999999 + 1) _ _ = _
    rw [m_X5_leaderAt_4]
    simp (disch := first | assumption | omega) only [i_add, i_sub, i_mul, i_lt, i_le, i_eq, i_ibt, i_ixn, i_ix, i_zero, am_letF, cond_true, cond_false, Option.bind_some, ↓reduceIte, m_si, m_sc, true_and, and_true, not_true_eq_false, not_false_eq_true, i_gtF, i_leT, i_geF, i_ltT, Int32.zero_add, Int.toNat_natCast, ix_own, ix_sum, ix_ver, ix_th, ix_ab, ix_st, ix_vm, ix_lim, ix_lim1, ix_lim2, ix_lim3, Int.toNat_zero, i_neF, i_eqT, b1T, b1F]
  · obtain ⟨k, rfl⟩ : ∃ k : Nat, i = k := ⟨i.toNat, by omega⟩
    refine (lo_seek2 (fun n j s => m_X5_leaderAt_4 a (am_i k) m (am_i k) (fun u5 => if (am_i 64) ≤ (am_i k) then some (am_i (-1)) else some u5) n s (am_i (j : Int))) (fun j => am_i (ldI f ((j : Int) - 1))) (min (k + 1) 64) (fun j => ldI f (j : Int) == -1) (fun _ => some (am_i (-1))) (some (am_i (ldI f k))) (by show _ = am_i (ldI f (((0 : Nat) : Int) - 1)); rw [ldI_neg (by omega)]) (am_Fv (by omega)) ?_ ?_ ?_).trans ?_
    · intro n j hj hp
      have r1 := ldI_r (f := f) ((j : Int) - 1)
      have r2 := ld_step (f := f) j (fun i hi => hp i (by omega))
      have r3 : ¬ ldI f (j : Int) = -1 := by have := hp j (Nat.le_refl _); simpa using this
      have r4 := ldI_r (f := f) (j : Int)
      show m_X5_leaderAt_4 a (am_i k) m (am_i k) _ (n + 1) (am_i (ldI f ((j : Int) - 1))) _ = m_X5_leaderAt_4 a (am_i k) m (am_i k) _ n (am_i (ldI f (((j + 1 : Nat) : Int) - 1))) _
      rw [m_X5_leaderAt_4, s_X5_leaderBehind h r1.1 r1.2, r2, show ((j + 1 : Nat) : Int) - 1 = (j : Int) by omega]
      simp (disch := first | assumption | omega) only [i_add, i_sub, i_mul, i_lt, i_le, i_eq, i_ibt, i_ixn, i_ix, i_zero, am_letF, cond_true, cond_false, Option.bind_some, ↓reduceIte, m_si, m_sc, true_and, and_true, not_true_eq_false, not_false_eq_true, i_gtF, i_leT, i_geF, i_ltT, Int32.zero_add, Int.toNat_natCast, ix_own, ix_sum, ix_ver, ix_th, ix_ab, ix_st, ix_vm, ix_lim, ix_lim1, ix_lim2, ix_lim3, Int.toNat_zero, i_neF, i_eqT, b1T, b1F]
      rfl
    · intro n j hj hp hp2
      have r1 := ldI_r (f := f) ((j : Int) - 1)
      have r2 := ld_step (f := f) j hp
      have r3 : ldI f (j : Int) = -1 := by simpa using hp2
      show m_X5_leaderAt_4 a (am_i k) m (am_i k) _ (n + 1) (am_i (ldI f ((j : Int) - 1))) _ = _
      rw [m_X5_leaderAt_4, s_X5_leaderBehind h r1.1 r1.2, r2, r3]
      simp (disch := first | assumption | omega) only [i_add, i_sub, i_mul, i_lt, i_le, i_eq, i_ibt, i_ixn, i_ix, i_zero, am_letF, cond_true, cond_false, Option.bind_some, ↓reduceIte, m_si, m_sc, true_and, and_true, not_true_eq_false, not_false_eq_true, i_gtF, i_leT, i_geF, i_ltT, Int32.zero_add, Int.toNat_natCast, ix_own, ix_sum, ix_ver, ix_th, ix_ab, ix_st, ix_vm, ix_lim, ix_lim1, ix_lim2, ix_lim3, Int.toNat_zero, i_neF, i_eqT, b1T, b1F]
    · intro n hp
      have r1 := ldI_r (f := f) (k : Int)
      show m_X5_leaderAt_4 a (am_i k) m (am_i k) _ (n + 1) (am_i (ldI f (((min (k + 1) 64 : Nat) : Int) - 1))) _ = _
      rw [m_X5_leaderAt_4]
      by_cases c : 64 ≤ k
      · rw [ldI_64 (show (64 : Int) ≤ (k : Int) by omega), show min (k + 1) 64 = 64 by omega]
        simp (disch := first | assumption | omega) only [i_add, i_sub, i_mul, i_lt, i_le, i_eq, i_ibt, i_ixn, i_ix, i_zero, am_letF, cond_true, cond_false, Option.bind_some, ↓reduceIte, m_si, m_sc, true_and, and_true, not_true_eq_false, not_false_eq_true, i_gtF, i_leT, i_geF, i_ltT, Int32.zero_add, Int.toNat_natCast, ix_own, ix_sum, ix_ver, ix_th, ix_ab, ix_st, ix_vm, ix_lim, ix_lim1, ix_lim2, ix_lim3, Int.toNat_zero, i_neF, i_eqT, b1T, b1F]
      · rw [show min (k + 1) 64 = k + 1 by omega, show ((k + 1 : Nat) : Int) - 1 = (k : Int) by omega]
        simp (disch := first | assumption | omega) only [i_add, i_sub, i_mul, i_lt, i_le, i_eq, i_ibt, i_ixn, i_ix, i_zero, am_letF, cond_true, cond_false, Option.bind_some, ↓reduceIte, m_si, m_sc, true_and, and_true, not_true_eq_false, not_false_eq_true, i_gtF, i_leT, i_geF, i_ltT, Int32.zero_add, Int.toNat_natCast, ix_own, ix_sum, ix_ver, ix_th, ix_ab, ix_st, ix_vm, ix_lim, ix_lim1, ix_lim2, ix_lim3, Int.toNat_zero, i_neF, i_eqT, b1T, b1F]
    · by_cases q : fi (fun j => ldI f (j : Int) == -1) (min (k + 1) 64) < min (k + 1) 64
      · have := fi_is (fun j => ldI f (j : Int) == -1) _ q
        have e : ldI f ((fi (fun j => ldI f (j : Int) == -1) (min (k + 1) 64) : Nat) : Int) = -1 := by simpa using this
        rw [if_pos q, ldI_end e (by omega)]
      · rw [if_neg q]
theorem s_X5_firstLeader (h : Row m a f) : m_X5_firstLeader m a = some (am_i (ldI f 0)) := by
  unfold m_X5_firstLeader
  rw [s_X5_leaderAt h (by decide) (by decide)]
  rfl
theorem s_X9_leadsAhead {p q : Nat} (h : RowW m (1608 + 64 * u) f) (hu : u < 24) (hp : p < 64) (hq : q < 64) : m_X9_leadsAhead m (am_i u) (am_i p) (am_i q) = some (am_i (b1 (decide (f q < f p ∨ f p = f q ∧ p < q)))) := by
  unfold m_X9_leadsAhead m_X9_sumAt
  have b1 := h.2 p
  have b2 := h.2 q
  by_cases c1 : f q < f p
  · rw [decide_eq_true (show f q < f p ∨ f p = f q ∧ p < q from Or.inl c1)]
    simp (disch := first | assumption | omega) only [i_add, i_sub, i_mul, i_lt, i_le, i_eq, i_ibt, i_ixn, i_ix, i_zero, am_letF, cond_true, cond_false, Option.bind_some, ↓reduceIte, m_si, m_sc, true_and, and_true, not_true_eq_false, not_false_eq_true, i_gtF, i_leT, i_geF, i_ltT, Int32.zero_add, Int.toNat_natCast, ix_own, ix_sum, ix_ver, ix_th, ix_ab, ix_st, ix_vm, ix_lim, ix_lim1, ix_lim2, ix_lim3, Int.toNat_zero, i_neF, i_eqT, b1T, b1F, h.1]
  · by_cases c2 : f p = f q
    · by_cases c3 : p < q
      · rw [decide_eq_true (show f q < f p ∨ f p = f q ∧ p < q from Or.inr ⟨c2, c3⟩)]
        simp (disch := first | assumption | omega) only [i_add, i_sub, i_mul, i_lt, i_le, i_eq, i_ibt, i_ixn, i_ix, i_zero, am_letF, cond_true, cond_false, Option.bind_some, ↓reduceIte, m_si, m_sc, true_and, and_true, not_true_eq_false, not_false_eq_true, i_gtF, i_leT, i_geF, i_ltT, Int32.zero_add, Int.toNat_natCast, ix_own, ix_sum, ix_ver, ix_th, ix_ab, ix_st, ix_vm, ix_lim, ix_lim1, ix_lim2, ix_lim3, Int.toNat_zero, i_neF, i_eqT, b1T, b1F, h.1]
      · rw [decide_eq_false (show ¬ (f q < f p ∨ f p = f q ∧ p < q) by omega)]
        simp (disch := first | assumption | omega) only [i_add, i_sub, i_mul, i_lt, i_le, i_eq, i_ibt, i_ixn, i_ix, i_zero, am_letF, cond_true, cond_false, Option.bind_some, ↓reduceIte, m_si, m_sc, true_and, and_true, not_true_eq_false, not_false_eq_true, i_gtF, i_leT, i_geF, i_ltT, Int32.zero_add, Int.toNat_natCast, ix_own, ix_sum, ix_ver, ix_th, ix_ab, ix_st, ix_vm, ix_lim, ix_lim1, ix_lim2, ix_lim3, Int.toNat_zero, i_neF, i_eqT, b1T, b1F, h.1]
    · rw [decide_eq_false (show ¬ (f q < f p ∨ f p = f q ∧ p < q) by omega)]
      simp (disch := first | assumption | omega) only [i_add, i_sub, i_mul, i_lt, i_le, i_eq, i_ibt, i_ixn, i_ix, i_zero, am_letF, cond_true, cond_false, Option.bind_some, ↓reduceIte, m_si, m_sc, true_and, and_true, not_true_eq_false, not_false_eq_true, i_gtF, i_leT, i_geF, i_ltT, Int32.zero_add, Int.toNat_natCast, ix_own, ix_sum, ix_ver, ix_th, ix_ab, ix_st, ix_vm, ix_lim, ix_lim1, ix_lim2, ix_lim3, Int.toNat_zero, i_neF, i_eqT, b1T, b1F, h.1]
theorem l_X9_leaderOf_31 {c : Nat} {i : Int32} {k : Int32 → Option Int32} (h : RowW m (1608 + 64 * u) f) (hu : u < 24) (hc : c < 64) : m_X9_leaderOf_31 (am_i u) i m (am_i u) i (am_i c) k am_F (am_i 0) (am_i 0) = k (am_i (rk f c : Nat)) := by
  refine lo_go (fun n j s => m_X9_leaderOf_31 (am_i u) i m (am_i u) i (am_i c) k n s (am_i (j : Int))) (fun j => am_i (cn (fun d => ahd f d c) j : Nat)) 0 64 rfl (by omega) (am_Fv (by omega)) (fun n j _ hj => ?_) (fun n => rfl)
  show m_X9_leaderOf_31 _ i m _ i _ k (n + 1) _ _ = m_X9_leaderOf_31 _ i m _ i _ k n (am_i (((cn (fun d => ahd f d c) (j + 1) : Nat)) : Int)) _
  rw [m_X9_leaderOf_31, cn_s, s_X9_leadsAhead h hu hj hc]
  have b1 := h.2 j
  have b2 := h.2 c
  unfold m_X9_sumAt
  by_cases c0 : j = c
  · rw [c0, ahd_n c]
    (simp (disch := first | assumption | omega) only [i_add, i_sub, i_mul, i_lt, i_le, i_eq, i_ibt, i_ixn, i_ix, i_zero, am_letF, cond_true, cond_false, Option.bind_some, ↓reduceIte, m_si, m_sc, true_and, and_true, not_true_eq_false, not_false_eq_true, i_gtF, i_leT, i_geF, i_ltT, Int32.zero_add, Int.toNat_natCast, ix_own, ix_sum, ix_ver, ix_th, ix_ab, ix_st, ix_vm, ix_lim, ix_lim1, ix_lim2, ix_lim3, Int.toNat_zero, i_neF, i_eqT, b1T, b1F] <;> rfl)
  · by_cases c1 : f j = 0
    · have e : ahd f j c = false := by unfold ahd; rw [decide_eq_false]; omega
      rw [e]
      (simp (disch := first | assumption | omega) only [i_add, i_sub, i_mul, i_lt, i_le, i_eq, i_ibt, i_ixn, i_ix, i_zero, am_letF, cond_true, cond_false, Option.bind_some, ↓reduceIte, m_si, m_sc, true_and, and_true, not_true_eq_false, not_false_eq_true, i_gtF, i_leT, i_geF, i_ltT, Int32.zero_add, Int.toNat_natCast, ix_own, ix_sum, ix_ver, ix_th, ix_ab, ix_st, ix_vm, ix_lim, ix_lim1, ix_lim2, ix_lim3, Int.toNat_zero, i_neF, i_eqT, b1T, b1F, h.1] <;> rfl)
    · by_cases c2 : f c < f j ∨ f j = f c ∧ j < c
      · have e : ahd f j c = true := ahd_i.mpr ⟨by omega, c2⟩
        rw [e, decide_eq_true c2]
        (simp (disch := first | assumption | omega) only [i_add, i_sub, i_mul, i_lt, i_le, i_eq, i_ibt, i_ixn, i_ix, i_zero, am_letF, cond_true, cond_false, Option.bind_some, ↓reduceIte, m_si, m_sc, true_and, and_true, not_true_eq_false, not_false_eq_true, i_gtF, i_leT, i_geF, i_ltT, Int32.zero_add, Int.toNat_natCast, ix_own, ix_sum, ix_ver, ix_th, ix_ab, ix_st, ix_vm, ix_lim, ix_lim1, ix_lim2, ix_lim3, Int.toNat_zero, i_neF, i_eqT, b1T, b1F, h.1] <;> rfl)
      · have e : ahd f j c = false := by unfold ahd; rw [decide_eq_false]; omega
        rw [e, decide_eq_false c2]
        (simp (disch := first | assumption | omega) only [i_add, i_sub, i_mul, i_lt, i_le, i_eq, i_ibt, i_ixn, i_ix, i_zero, am_letF, cond_true, cond_false, Option.bind_some, ↓reduceIte, m_si, m_sc, true_and, and_true, not_true_eq_false, not_false_eq_true, i_gtF, i_leT, i_geF, i_ltT, Int32.zero_add, Int.toNat_natCast, ix_own, ix_sum, ix_ver, ix_th, ix_ab, ix_st, ix_vm, ix_lim, ix_lim1, ix_lim2, ix_lim3, Int.toNat_zero, i_neF, i_eqT, b1T, b1F, h.1] <;> rfl)
theorem s_X9_leaderOf {i : Int} (h : RowW m (1608 + 64 * u) f) (hu : u < 24) (h1 : -2147483648 ≤ i) (h2 : i ≤ 2147483647) : m_X9_leaderOf m (am_i u) (am_i i) = some (am_i (ldI f i)) := by
  unfold m_X9_leaderOf
  refine (lo_seek (fun n j (s : Int32) => m_X9_leaderOf_2 (am_i u) (am_i i) m (am_i u) (am_i i) (some (am_i (-1))) n s) (fun j => am_i (j : Nat)) 64 (fun c => decide (0 < f c) && ((rk f c : Nat) : Int) == i) (fun j => some (am_i (j : Int))) (some (am_i (-1))) rfl (am_Fv (by omega)) ?_ ?_ (fun n => rfl)).trans ?_
  · intro n j hj hp
    have b1 := h.2 j
    have b2 := cn_le (fun d => ahd f d j) 64
    show m_X9_leaderOf_2 _ _ m _ _ _ (n + 1) _ = _
    rw [m_X9_leaderOf_2, l_X9_leaderOf_31 h hu hj]
    unfold m_X9_sumAt
    by_cases c0 : f j = 0
    · (simp (disch := first | assumption | omega) only [i_add, i_sub, i_mul, i_lt, i_le, i_eq, i_ibt, i_ixn, i_ix, i_zero, am_letF, cond_true, cond_false, Option.bind_some, ↓reduceIte, m_si, m_sc, true_and, and_true, not_true_eq_false, not_false_eq_true, i_gtF, i_leT, i_geF, i_ltT, Int32.zero_add, Int.toNat_natCast, ix_own, ix_sum, ix_ver, ix_th, ix_ab, ix_st, ix_vm, ix_lim, ix_lim1, ix_lim2, ix_lim3, Int.toNat_zero, i_neF, i_eqT, b1T, b1F, h.1] <;> rfl)
    · have hp2 : ¬ ((rk f j : Nat) : Int) = i := by
        rw [decide_eq_true (show 0 < f j by omega), Bool.true_and] at hp
        simpa using hp
      have b3 : rk f j ≤ 64 := b2
      (simp (disch := first | assumption | omega) only [i_add, i_sub, i_mul, i_lt, i_le, i_eq, i_ibt, i_ixn, i_ix, i_zero, am_letF, cond_true, cond_false, Option.bind_some, ↓reduceIte, m_si, m_sc, true_and, and_true, not_true_eq_false, not_false_eq_true, i_gtF, i_leT, i_geF, i_ltT, Int32.zero_add, Int.toNat_natCast, ix_own, ix_sum, ix_ver, ix_th, ix_ab, ix_st, ix_vm, ix_lim, ix_lim1, ix_lim2, ix_lim3, Int.toNat_zero, i_neF, i_eqT, b1T, b1F, h.1] <;> rfl)
  · intro n j hj hp
    have b1 := h.2 j
    have b2 := cn_le (fun d => ahd f d j) 64
    rw [Bool.and_eq_true] at hp
    have c0 := of_decide_eq_true hp.1
    have hp2 : ((rk f j : Nat) : Int) = i := by simpa using hp.2
    have b3 : rk f j ≤ 64 := b2
    show m_X9_leaderOf_2 _ _ m _ _ _ (n + 1) _ = _
    rw [m_X9_leaderOf_2, l_X9_leaderOf_31 h hu hj]
    unfold m_X9_sumAt
    (simp (disch := first | assumption | omega) only [i_add, i_sub, i_mul, i_lt, i_le, i_eq, i_ibt, i_ixn, i_ix, i_zero, am_letF, cond_true, cond_false, Option.bind_some, ↓reduceIte, m_si, m_sc, true_and, and_true, not_true_eq_false, not_false_eq_true, i_gtF, i_leT, i_geF, i_ltT, Int32.zero_add, Int.toNat_natCast, ix_own, ix_sum, ix_ver, ix_th, ix_ab, ix_st, ix_vm, ix_lim, ix_lim1, ix_lim2, ix_lim3, Int.toNat_zero, i_neF, i_eqT, b1T, b1F, h.1] <;> rfl)
  · unfold ldI ldA
    split <;> rfl
end LE
