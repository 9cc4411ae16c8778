/-! ===== mathematics: limit; comes ===== -/
section LM
variable {m : am_m} {r : am_rr} {s : Sx}
/-- where a limit stands: the first that is told so, behind all if none -/
def ltA (k : Bk) (u l h : Nat) : Nat := fi (fun i => decide (bkU k i = u ∧ bkL k i = l ∧ bkH k i = h)) (bkN k)
theorem s_X0_limitAt {k : Bk} {u l h : Nat} (hB : BC m 2970 k) (hK : IB k) (hu : u < 24) (hl : l < 64) (hh : h < 64) : m_X0_limitAt m 2970 (am_i u) (am_i l) (am_i h) = some (am_i (if ltA k u l h < bkN k then (ltA k u l h : Int) else -1)) := by
  unfold m_X0_limitAt
  have hn := hK.1
  refine (lo_seek (fun n j (t : Int32) => m_X0_limitAt_3 2970 (am_i u) (am_i l) (am_i h) m (am_i u) (am_i l) (am_i h) (some (am_i (-1))) n t) (fun j => am_i (j : Nat)) (bkN k) (fun i => decide (bkU k i = u ∧ bkL k i = l ∧ bkH k i = h)) (fun j => some (am_i (j : Int))) (some (am_i (-1))) rfl (am_Fv (by omega)) ?_ ?_ ?_).trans ?_
  · intro n j hj hp
    have hp := of_decide_eq_false hp
    obtain ⟨e1, e2, e3, e4⟩ := hB.2.2.1 j hj (by omega)
    have hb := hK.2 j hj
    show m_X0_limitAt_3 _ _ _ _ m _ _ _ _ (n + 1) _ = _
    rw [m_X0_limitAt_3, hB.2.1, if_neg (by rw [i_le (by omega) (by omega) (by omega) (by omega)]; omega), if_neg (by rw [i_le (by omega) (by omega) (by omega) (by omega)]; omega), i_ibt (by omega) (by omega) (by omega), cond_true, cond_true, cond_true, i_ixn (by omega), e1, e2, e3, i_add]
    by_cases c1 : bkU k j = u
    · rw [if_neg (by rw [c1]; exact fun z => z rfl)]
      by_cases c2 : bkL k j = l
      · rw [if_neg (by rw [c2]; exact fun z => z rfl), if_pos (by rw [i_eq (by omega) (by omega) (by omega) (by omega)]; omega)]
        rfl
      · rw [if_pos (by rw [i_eq (by omega) (by omega) (by omega) (by omega)]; omega)]
        rfl
    · rw [if_pos (by rw [i_eq (by omega) (by omega) (by omega) (by omega)]; omega)]
      rfl
  · intro n j hj hp
    have hp := of_decide_eq_true hp
    obtain ⟨e1, e2, e3, e4⟩ := hB.2.2.1 j hj (by omega)
    show m_X0_limitAt_3 _ _ _ _ m _ _ _ _ (n + 1) _ = _
    rw [m_X0_limitAt_3, hB.2.1, if_neg (by rw [i_le (by omega) (by omega) (by omega) (by omega)]; omega), if_neg (by rw [i_le (by omega) (by omega) (by omega) (by omega)]; omega), i_ibt (by omega) (by omega) (by omega), cond_true, cond_true, cond_true, i_ixn (by omega), e1, e2, e3, hp.1, hp.2.1, hp.2.2, if_neg (fun z => z rfl), if_neg (fun z => z rfl), if_neg (fun z => z rfl)]
  · intro n
    show m_X0_limitAt_3 _ _ _ _ m _ _ _ _ (n + 1) _ = _
    rw [m_X0_limitAt_3, hB.2.1, if_pos (by rw [i_le (by omega) (by omega) (by omega) (by omega)]; omega)]
  · unfold ltA
    split <;> rfl
theorem lx (i : Nat) (hi : i ≤ 12) : am_ix (am_i 15468 + am_i 4 * am_i (i : Int)) = 15468 + 4 * i ∧ am_ix (am_i 15468 + am_i 4 * am_i (i : Int) + am_i 1) = 15468 + 4 * i + 1 ∧ am_ix (am_i 15468 + am_i 4 * am_i (i : Int) + am_i 2) = 15468 + 4 * i + 2 ∧ am_ix (am_i 15468 + am_i 4 * am_i (i : Int) + am_i 3) = 15468 + 4 * i + 3 := by
  refine ⟨?_, ?_, ?_, ?_⟩
  · rw [i_mul, i_add, i_ix (by omega) (by omega)]; omega
  · rw [i_mul, i_add, i_add, i_ix (by omega) (by omega)]; omega
  · rw [i_mul, i_add, i_add, i_ix (by omega) (by omega)]; omega
  · rw [i_mul, i_add, i_add, i_ix (by omega) (by omega)]; omega
theorem ly (i : Nat) (hi : i < 12) : am_ib (am_i 15468 + am_i 4 * am_i (i : Int)) 15517 = true ∧ am_ib (am_i 15468 + am_i 4 * am_i (i : Int) + am_i 1) 15517 = true ∧ am_ib (am_i 15468 + am_i 4 * am_i (i : Int) + am_i 2) 15517 = true ∧ am_ib (am_i 15468 + am_i 4 * am_i (i : Int) + am_i 3) 15517 = true := by
  refine ⟨?_, ?_, ?_, ?_⟩
  · rw [i_mul, i_add, i_ibt (by omega) (by omega) (by omega)]
  · rw [i_mul, i_add, i_add, i_ibt (by omega) (by omega) (by omega)]
  · rw [i_mul, i_add, i_add, i_ibt (by omega) (by omega) (by omega)]
  · rw [i_mul, i_add, i_add, i_ibt (by omega) (by omega) (by omega)]
theorem l_X9_limit_55 {kb : Bk} {u l h : Nat} {x1 x2 x3 x4 y4 : Int32} {k : Int32 → Option (Int32 × am_m)} (hB : BM m 3262 kb) (hK : IB kb) (hu : u < 24) (hl : l < 64) (hh : h < 64) : m_X9_limit_55 x1 x2 x3 x4 m (am_i u) (am_i l) (am_i h) y4 (am_i (bkN kb)) k am_F (am_i 0) = k (am_i (ltA kb u l h)) := by
  have hn := hK.1
  refine (lo_seek (fun n j (t : Int32) => m_X9_limit_55 x1 x2 x3 x4 m (am_i u) (am_i l) (am_i h) y4 (am_i (bkN kb)) k n t) (fun j => am_i (j : Nat)) (bkN kb) (fun i => decide (bkU kb i = u ∧ bkL kb i = l ∧ bkH kb i = h)) (fun j => k (am_i (j : Int))) (k (am_i (bkN kb : Int))) rfl (am_Fv (by omega)) ?_ ?_ ?_).trans ?_
  · intro n j hj hp
    have hp := of_decide_eq_false hp
    obtain ⟨e1, e2, e3, e4⟩ := hB.2.2.1 j hj (by omega)
    have hb := hK.2 j hj
    obtain ⟨v1, v2, v3, v4⟩ := lx j (by omega)
    obtain ⟨w1, w2, w3, w4⟩ := ly j (by omega)
    show m_X9_limit_55 _ _ _ _ m _ _ _ _ _ k (n + 1) _ = _
    rw [m_X9_limit_55, if_neg (by rw [i_le (by omega) (by omega) (by omega) (by omega)]; omega), w1, w2, w3, cond_true, cond_true, cond_true, v1, v2, v3, e1, e2, e3, i_add]
    by_cases c1 : bkU kb j = u
    · rw [if_neg (by rw [c1]; exact fun z => z rfl)]
      by_cases c2 : bkL kb j = l
      · rw [if_neg (by rw [c2]; exact fun z => z rfl), if_neg (by rw [i_eq (by omega) (by omega) (by omega) (by omega)]; omega)]
        rfl
      · rw [if_pos (by rw [i_eq (by omega) (by omega) (by omega) (by omega)]; omega)]
        rfl
    · rw [if_pos (by rw [i_eq (by omega) (by omega) (by omega) (by omega)]; omega)]
      rfl
  · intro n j hj hp
    have hp := of_decide_eq_true hp
    obtain ⟨e1, e2, e3, e4⟩ := hB.2.2.1 j hj (by omega)
    obtain ⟨v1, v2, v3, v4⟩ := lx j (by omega)
    obtain ⟨w1, w2, w3, w4⟩ := ly j (by omega)
    show m_X9_limit_55 _ _ _ _ m _ _ _ _ _ k (n + 1) _ = _
    rw [m_X9_limit_55, if_neg (by rw [i_le (by omega) (by omega) (by omega) (by omega)]; omega), w1, w2, w3, cond_true, cond_true, cond_true, v1, v2, v3, e1, e2, e3, hp.1, hp.2.1, hp.2.2, if_neg (fun z => z rfl), if_neg (fun z => z rfl), if_pos rfl]
  · intro n
    show m_X9_limit_55 _ _ _ _ m _ _ _ _ _ k (n + 1) _ = _
    rw [m_X9_limit_55, if_pos (by rw [i_le (by omega) (by omega) (by omega) (by omega)]; omega)]
  · have hle := fi_le (fun i => decide (bkU kb i = u ∧ bkL kb i = l ∧ bkH kb i = h)) (bkN kb)
    unfold ltA
    by_cases c : fi (fun i => decide (bkU kb i = u ∧ bkL kb i = l ∧ bkH kb i = h)) (bkN kb) < bkN kb
    · rw [if_pos c]
    · rw [if_neg c]
      congr 2
      omega
/-- a limit told: in its place -/
def ltT (k : Bk) (a u l h n : Nat) : Bk := (bkC k, (if a < bkN k then bkN k else bkN k + 1), (fun i => if i = a then u else bkU k i), (fun i => if i = a then l else bkL k i), (fun i => if i = a then h else bkH k i), (fun i => if i = a then n else bkM k i), bkD k)
/-- a limit dropped -/
def ltD (k : Bk) (a : Nat) : Bk := (bkC k, bkN k - 1, (fun i => if a ≤ i then bkU k (i + 1) else bkU k i), (fun i => if a ≤ i then bkL k (i + 1) else bkL k i), (fun i => if a ≤ i then bkH k (i + 1) else bkH k i), (fun i => if a ≤ i then bkM k (i + 1) else bkM k i), bkD k)
theorem ltT_BC {m' : am_m} {k : Bk} {a u l h n : Nat} (hB : BC m 2970 k) (ha : a ≤ bkN k) (ha2 : a < 12) (e0 : m' = am_si (am_si (am_si (am_si (am_si m 2970 5 (am_i (if a < bkN k then bkN k else bkN k + 1 : Nat))) (aB 2970 1) a (am_i u)) (aB 2970 2) a (am_i l)) (aB 2970 3) a (am_i h)) (aB 2970 4) a (am_i n)) : BC m' 2970 (ltT k a u l h n) := by
  subst e0
  refine ⟨fun i hi => ?_, ?_, fun i hi hi2 => ?_, ?_⟩
  · rw [si_ne (by unfold aB; omega), si_ne (by unfold aB; omega), si_ne (by unfold aB; omega), si_ne (by unfold aB; omega), si_ne (by unfold aB; omega)]
    exact hB.1 i hi
  · rw [si_ne (by unfold aB; omega), si_ne (by unfold aB; omega), si_ne (by unfold aB; omega), si_ne (by unfold aB; omega), si_at]
    rfl
  · have hi : i < (if a < bkN k then bkN k else bkN k + 1) := hi
    show _ = am_i ((if i = a then u else bkU k i : Nat) : Int) ∧ _ = am_i ((if i = a then l else bkL k i : Nat) : Int) ∧ _ = am_i ((if i = a then h else bkH k i : Nat) : Int) ∧ _ = am_i ((if i = a then n else bkM k i : Nat) : Int)
    by_cases c : i = a
    · rw [if_pos c, if_pos c, if_pos c, if_pos c, c]
      refine ⟨?_, ?_, ?_, ?_⟩
      · rw [si_ne (by unfold aB; omega), si_ne (by unfold aB; omega), si_ne (by unfold aB; omega), si_at]
      · rw [si_ne (by unfold aB; omega), si_ne (by unfold aB; omega), si_at]
      · rw [si_ne (by unfold aB; omega), si_at]
      · rw [si_at]
    · rw [if_neg c, if_neg c, if_neg c, if_neg c]
      obtain ⟨q1, q2, q3, q4⟩ := hB.2.2.1 i (by split at hi <;> omega) hi2
      refine ⟨?_, ?_, ?_, ?_⟩
      · rw [si_ne (by unfold aB; omega), si_ne (by unfold aB; omega), si_ne (by unfold aB; omega), si_o c, si_ne (by unfold aB; omega)]; exact q1
      · rw [si_ne (by unfold aB; omega), si_ne (by unfold aB; omega), si_o c, si_ne (by unfold aB; omega), si_ne (by unfold aB; omega)]; exact q2
      · rw [si_ne (by unfold aB; omega), si_o c, si_ne (by unfold aB; omega), si_ne (by unfold aB; omega), si_ne (by unfold aB; omega)]; exact q3
      · rw [si_o c, si_ne (by unfold aB; omega), si_ne (by unfold aB; omega), si_ne (by unfold aB; omega), si_ne (by unfold aB; omega)]; exact q4
  · rw [si_ne (by unfold aB; omega), si_ne (by unfold aB; omega), si_ne (by unfold aB; omega), si_ne (by unfold aB; omega), si_o (by decide)]
    exact hB.2.2.2
theorem ltT_BM {m' : am_m} {k : Bk} {a u l h n : Nat} (hB : BM m 3262 k) (ha : a ≤ bkN k) (ha2 : a < 12) (e0 : m' = am_si (am_si (am_si (am_si (am_si m 3262 (15468 + 4 * a) (am_i u)) 3262 (15468 + 4 * a + 1) (am_i l)) 3262 (15468 + 4 * a + 2) (am_i h)) 3262 (15468 + 4 * a + 3) (am_i n)) 3262 15467 (am_i (if a < bkN k then bkN k else bkN k + 1 : Nat))) : BM m' 3262 (ltT k a u l h n) := by
  subst e0
  refine ⟨fun i hi => ?_, ?_, fun i hi hi2 => ?_, ?_⟩
  · rw [si_o (by omega), si_o (by omega), si_o (by omega), si_o (by omega), si_o (by omega)]
    exact hB.1 i hi
  · rw [si_at]
    rfl
  · have hi : i < (if a < bkN k then bkN k else bkN k + 1) := hi
    show _ = am_i ((if i = a then u else bkU k i : Nat) : Int) ∧ _ = am_i ((if i = a then l else bkL k i : Nat) : Int) ∧ _ = am_i ((if i = a then h else bkH k i : Nat) : Int) ∧ _ = am_i ((if i = a then n else bkM k i : Nat) : Int)
    by_cases c : i = a
    · rw [if_pos c, if_pos c, if_pos c, if_pos c, c]
      refine ⟨?_, ?_, ?_, ?_⟩
      · rw [si_o (by omega), si_o (by omega), si_o (by omega), si_o (by omega), si_at]
      · rw [si_o (by omega), si_o (by omega), si_o (by omega), si_at]
      · rw [si_o (by omega), si_o (by omega), si_at]
      · rw [si_o (by omega), si_at]
    · rw [if_neg c, if_neg c, if_neg c, if_neg c]
      obtain ⟨q1, q2, q3, q4⟩ := hB.2.2.1 i (by split at hi <;> omega) hi2
      refine ⟨?_, ?_, ?_, ?_⟩
      · rw [si_o (by omega), si_o (by omega), si_o (by omega), si_o (by omega), si_o (by omega)]; exact q1
      · rw [si_o (by omega), si_o (by omega), si_o (by omega), si_o (by omega), si_o (by omega)]; exact q2
      · rw [si_o (by omega), si_o (by omega), si_o (by omega), si_o (by omega), si_o (by omega)]; exact q3
      · rw [si_o (by omega), si_o (by omega), si_o (by omega), si_o (by omega), si_o (by omega)]; exact q4
  · rw [si_o (by omega), si_o (by omega), si_o (by omega), si_o (by omega), si_o (by omega)]
    exact hB.2.2.2
theorem ltT_IB {k : Bk} {a u l h n : Nat} (hK : IB k) (ha : a ≤ bkN k) (ha2 : a < 12) (hu : u < 24) (hl : l ≤ h) (hh : h < 64) (hn : n ≤ 999999) : IB (ltT k a u l h n) := by
  have h1 := hK.1
  refine ⟨?_, fun i hi => ?_⟩
  · show (if a < bkN k then bkN k else bkN k + 1) ≤ 12
    split <;> omega
  · have hi : i < (if a < bkN k then bkN k else bkN k + 1) := hi
    show (if i = a then u else bkU k i) < 24 ∧ (if i = a then l else bkL k i) ≤ (if i = a then h else bkH k i) ∧ (if i = a then h else bkH k i) < 64 ∧ (if i = a then n else bkM k i) ≤ 999999
    by_cases c : i = a
    · rw [if_pos c, if_pos c, if_pos c, if_pos c]
      exact ⟨hu, hl, hh, hn⟩
    · rw [if_neg c, if_neg c, if_neg c, if_neg c]
      exact hK.2 i (by split at hi <;> omega)
theorem ltD_IB {k : Bk} {a : Nat} (hK : IB k) : IB (ltD k a) := by
  have h1 := hK.1
  refine ⟨by show bkN k - 1 ≤ 12; omega, fun i hi => ?_⟩
  have hi : i < bkN k - 1 := hi
  show (if a ≤ i then bkU k (i + 1) else bkU k i) < 24 ∧ (if a ≤ i then bkL k (i + 1) else bkL k i) ≤ (if a ≤ i then bkH k (i + 1) else bkH k i) ∧ (if a ≤ i then bkH k (i + 1) else bkH k i) < 64 ∧ (if a ≤ i then bkM k (i + 1) else bkM k i) ≤ 999999
  by_cases c : a ≤ i
  · rw [if_pos c, if_pos c, if_pos c, if_pos c]
    exact hK.2 (i + 1) (by omega)
  · rw [if_neg c, if_neg c, if_neg c, if_neg c]
    exact hK.2 i (by omega)
/-- the class's rows of limits, those from a on moved down, as far as j -/
def ldJ (m0 : am_m) (k : Bk) (a j : Nat) (q : am_m) : Prop := (∀ b, ¬ (2972 ≤ b ∧ b < 2976) → q b = m0 b) ∧ ∀ i, i < 12 → ∀ f, f < 4 → q (aB 2970 (f + 1)) i = if a ≤ i ∧ i < j then m0 (aB 2970 (f + 1)) (i + 1) else m0 (aB 2970 (f + 1)) i
theorem s_X0_dropLimit {k : Bk} {u l h : Nat} (hB : BC m 2970 k) (hK : IB k) (hu : u < 24) (hl : l < 64) (hh : h < 64) (hc : ltA k u l h < bkN k) : ∃ m', m_X0_dropLimit m 2970 (am_i u) (am_i l) (am_i h) = some (am_i 1, m') ∧ (∀ b, ¬ (2970 ≤ b ∧ b < 2976) → m' b = m b) ∧ BC m' 2970 (ltD k (ltA k u l h)) := by
  have hn := hK.1
  unfold m_X0_dropLimit
  rw [s_X0_limitAt hB hK hu hl hh, if_pos hc, Option.bind_some]
  generalize ltA k u l h = a at hc ⊢
  rw [if_pos (by rw [i_eq (by omega) (by omega) (by omega) (by omega)]; omega), am_letF, hB.2.1, i_sub, show (bkN k : Int) - 1 = ((bkN k - 1 : Nat) : Int) by omega]
  generalize hM : am_si m 2970 5 (am_i ((bkN k - 1 : Nat) : Int)) = M
  have M5 : M 2970 5 = am_i ((bkN k - 1 : Nat) : Int) := by rw [← hM, si_at]
  have Mo : ∀ b, b ≠ 2970 → M b = m b := fun b hb => by rw [← hM, si_ne hb]
  refine Exists.elim (lo_inv (fun n j (q : am_m) => m_X0_dropLimit_31 2970 (am_i u) (am_i l) (am_i h) (fun m18 => some (am_i 1, m18)) n (am_i (j : Int)) q) (fun j q => ldJ M k a j q) a (bkN k - 1) (fun q => some (am_i 1, q)) (s0 := M) (n := am_F) ⟨fun _ _ => rfl, fun i hi f hf => (if_neg (by omega)).symm⟩ (by omega) (am_Fv (by omega)) (fun n j q hj1 hj a => ?_) (fun n q a => ?_)) (fun q L => ?_)
  · obtain ⟨a1, a2⟩ := a
    refine ⟨am_si (am_si (am_si (am_si q (aB 2970 1) j (q (aB 2970 1) (j + 1))) (aB 2970 2) j (q (aB 2970 2) (j + 1))) (aB 2970 3) j (q (aB 2970 3) (j + 1))) (aB 2970 4) j (q (aB 2970 4) (j + 1)), ?_, fun b hb => ?_, fun i hi f hf => ?_⟩
    · show m_X0_dropLimit_31 _ _ _ _ _ (n + 1) _ q = _
      have e1 : am_i (j : Int) + am_i 1 = am_i ((j + 1 : Nat) : Int) := by rw [i_add]; rfl
      have e2 : q 2970 5 = am_i ((bkN k - 1 : Nat) : Int) := by rw [a1 2970 (by omega)]; exact M5
      rw [m_X0_dropLimit_31, e2, if_neg (by rw [i_le (by omega) (by omega) (by omega) (by omega)]; omega), e1, if_neg (by rw [i_le (by omega) (by omega) (by omega) (by omega)]; omega), i_ibt (by omega) (by omega) (by omega), i_ibt (by omega) (by omega) (by omega), i_ixn (by omega), i_ixn (by omega)]
      simp only [cond_true, am_letF]
      rw [si_ne (show aB 2970 2 ≠ aB 2970 1 by decide), si_ne (show aB 2970 3 ≠ aB 2970 2 by decide), si_ne (show aB 2970 3 ≠ aB 2970 1 by decide), si_ne (show aB 2970 4 ≠ aB 2970 3 by decide), si_ne (show aB 2970 4 ≠ aB 2970 2 by decide), si_ne (show aB 2970 4 ≠ aB 2970 1 by decide)]
    · rw [si_ne (by unfold aB; omega), si_ne (by unfold aB; omega), si_ne (by unfold aB; omega), si_ne (by unfold aB; omega)]
      exact a1 b hb
    · have q1 := a2 i hi f hf
      have q2 := a2 (j + 1) (by omega) f hf
      rw [if_neg (by omega)] at q2
      have key : am_si (am_si (am_si (am_si q (aB 2970 1) j (q (aB 2970 1) (j + 1))) (aB 2970 2) j (q (aB 2970 2) (j + 1))) (aB 2970 3) j (q (aB 2970 3) (j + 1))) (aB 2970 4) j (q (aB 2970 4) (j + 1)) (aB 2970 (f + 1)) i = if i = j then q (aB 2970 (f + 1)) (j + 1) else q (aB 2970 (f + 1)) i := by
        rcases (show f = 0 ∨ f = 1 ∨ f = 2 ∨ f = 3 by omega) with z | z | z | z <;> rw [z]
        · rw [si_ne (by decide), si_ne (by decide), si_ne (by decide), m_si]
          simp only [true_and]
        · rw [si_ne (by decide), si_ne (by decide), m_si]
          simp only [true_and]
          rw [si_ne (by decide)]
        · rw [si_ne (by decide), m_si]
          simp only [true_and]
          rw [si_ne (by decide), si_ne (by decide)]
        · rw [m_si]
          simp only [true_and]
          rw [si_ne (by decide), si_ne (by decide), si_ne (by decide)]
      rw [key]
      by_cases c : i = j
      · rw [if_pos c, if_pos (by omega), q2, c]
      · rw [if_neg c, q1]
        by_cases c2 : a ≤ i ∧ i < j
        · rw [if_pos c2, if_pos (by omega)]
        · rw [if_neg c2, if_neg (by omega)]
  · have e2 : q 2970 5 = am_i ((bkN k - 1 : Nat) : Int) := by rw [a.1 2970 (by omega)]; exact M5
    show m_X0_dropLimit_31 _ _ _ _ _ (n + 1) _ q = _
    rw [m_X0_dropLimit_31, e2, if_pos (by rw [i_le (by omega) (by omega) (by omega) (by omega)]; omega)]
  · obtain ⟨⟨a1, a2⟩, a3⟩ := L
    refine ⟨q, a3, fun b hb => by rw [a1 b (by omega), Mo b (by omega)], fun i hi => ?_, ?_, fun i hi hi2 => ?_, ?_⟩
    · rw [a1 _ (by unfold aB; omega), Mo _ (by unfold aB; omega)]; exact hB.1 i hi
    · rw [a1 _ (by omega)]; exact M5
    · have hi : i < bkN k - 1 := hi
      have g0 := a2 i hi2 0 (by decide)
      have g1 := a2 i hi2 1 (by decide)
      have g2 := a2 i hi2 2 (by decide)
      have g3 := a2 i hi2 3 (by decide)
      rw [Mo _ (by unfold aB; omega)] at g0 g1 g2 g3
      show _ = am_i ((if a ≤ i then bkU k (i + 1) else bkU k i : Nat) : Int) ∧ _ = am_i ((if a ≤ i then bkL k (i + 1) else bkL k i : Nat) : Int) ∧ _ = am_i ((if a ≤ i then bkH k (i + 1) else bkH k i : Nat) : Int) ∧ _ = am_i ((if a ≤ i then bkM k (i + 1) else bkM k i : Nat) : Int)
      by_cases c : a ≤ i
      · obtain ⟨v1, v2, v3, v4⟩ := hB.2.2.1 (i + 1) (by omega) (by omega)
        rw [if_pos (show a ≤ i ∧ i < bkN k - 1 from ⟨c, hi⟩)] at g0 g1 g2 g3
        rw [if_pos c, if_pos c, if_pos c, if_pos c]
        exact ⟨g0.trans v1, g1.trans v2, g2.trans v3, g3.trans v4⟩
      · obtain ⟨v1, v2, v3, v4⟩ := hB.2.2.1 i (by omega) (by omega)
        rw [if_neg (show ¬ (a ≤ i ∧ i < bkN k - 1) from fun z => c z.1)] at g0 g1 g2 g3
        rw [if_neg c, if_neg c, if_neg c, if_neg c]
        exact ⟨g0.trans v1, g1.trans v2, g2.trans v3, g3.trans v4⟩
    · rw [a1 _ (by omega), ← hM, si_o (by decide)]; exact hB.2.2.2
/-- the reference's limits moved down, as far as j -/
theorem l_X9_limit_144 {k : Bk} {a : Nat} {x1 x2 x3 x4 : Int32} {kk : am_m → Option (Int32 × am_m)} (hB : BM m 3262 k) (hK : IB k) (ha : a < bkN k) : ∃ m', m_X9_limit_144 x1 x2 x3 x4 (am_i (bkN k)) kk am_F (am_i (4 * (a : Int))) m = kk m' ∧ (∀ b, b ≠ 3262 → m' b = m b) ∧ (∀ i, ¬ (15468 + 4 * a ≤ i ∧ i < 15468 + 4 * bkN k - 4) → m' 3262 i = m 3262 i) ∧ ∀ i, 15468 + 4 * a ≤ i → i < 15468 + 4 * bkN k - 4 → m' 3262 i = m 3262 (i + 4) := by
  have hn := hK.1
  refine Exists.elim (lo_inv (fun n j (q : am_m) => m_X9_limit_144 x1 x2 x3 x4 (am_i (bkN k)) kk n (am_i (j : Int)) q) (fun j q => (∀ b, b ≠ 3262 → q b = m b) ∧ (∀ i, ¬ (15468 + 4 * a ≤ i ∧ i < 15468 + j) → q 3262 i = m 3262 i) ∧ ∀ i, 15468 + 4 * a ≤ i → i < 15468 + j → q 3262 i = m 3262 (i + 4)) (4 * a) (4 * bkN k - 4) kk (s0 := m) (n := am_F) ⟨fun _ _ => rfl, fun _ _ => rfl, fun i h1 h2 => by omega⟩ (by omega) (am_Fv (by omega)) (fun n j q hj1 hj w => ?_) (fun n q w => ?_)) (fun q L => ?_)
  · obtain ⟨w1, w2, w3⟩ := w
    refine ⟨am_si q 3262 (15468 + j) (q 3262 (15468 + j + 4)), ?_, fun b hb => by rw [si_ne hb]; exact w1 b hb, fun i hi => ?_, fun i h1 h2 => ?_⟩
    · show m_X9_limit_144 _ _ _ _ _ _ (n + 1) _ q = _
      rw [m_X9_limit_144, i_mul, i_sub, if_neg (by rw [i_le (by omega) (by omega) (by omega) (by omega)]; omega), i_add, i_add, i_ibt (by omega) (by omega) (by omega), i_ibt (by omega) (by omega) (by omega), cond_true, cond_true, am_letF, i_ix (by omega) (by omega), i_ix (by omega) (by omega), show ((15468 : Int) + (j : Int) + 4).toNat = 15468 + j + 4 by omega, show ((15468 : Int) + (j : Int)).toNat = 15468 + j by omega, i_add]
      rfl
    · rw [si_o (by omega)]; exact w2 i (by omega)
    · by_cases c : i = 15468 + j
      · rw [c, si_at]; exact w2 _ (by omega)
      · rw [si_o c]; exact w3 i h1 (by omega)
  · show m_X9_limit_144 _ _ _ _ _ _ (n + 1) _ q = _
    rw [m_X9_limit_144, i_mul, i_sub, if_pos (by rw [i_le (by omega) (by omega) (by omega) (by omega)]; omega)]
  · obtain ⟨⟨w1, w2, w3⟩, w4⟩ := L
    refine ⟨q, ?_, w1, fun i hi => w2 i (by omega), fun i h1 h2 => w3 i h1 (by omega)⟩
    rw [show (4 : Int) * (a : Int) = ((4 * a : Nat) : Int) by omega]
    exact w4
end LM
