/-! ===== mathematics: runs ===== -/
def rst (f : Nat → Nat) (c : Nat) : Bool := decide (0 < f c) && (decide (c = 0) || decide (f (c - 1) = 0))
def rcn (f : Nat → Nat) (n : Nat) : Nat := cn (rst f) n
/-- where the i-th run starts -/
def rsS (f : Nat → Nat) (i : Nat) : Nat := fi (fun c => rst f c && (rcn f c == i)) 64
/-- where the run that starts at c ends -/
def ren (f : Nat → Nat) (c : Nat) : Nat := c + fi (fun t => decide (64 ≤ c + t + 1) || decide (f (c + t + 1) = 0)) 64
section RU
variable {f : Nat → Nat}
theorem rst_i {c : Nat} : rst f c = true ↔ 0 < f c ∧ (c = 0 ∨ f (c - 1) = 0) := by
  unfold rst
  rw [Bool.and_eq_true, Bool.or_eq_true, decide_eq_true_iff, decide_eq_true_iff, decide_eq_true_iff]
theorem rcn_s (n : Nat) : rcn f (n + 1) = rcn f n + b1 (rst f n) := rfl
theorem rcn_mono {a b : Nat} (h : a ≤ b) : rcn f a ≤ rcn f b := su_mono h
theorem rcn_lt {a b : Nat} (h : a < b) (ha : rst f a = true) : rcn f a < rcn f b := by
  have h1 : rcn f (a + 1) ≤ rcn f b := rcn_mono h
  rw [rcn_s, ha] at h1
  exact h1
theorem rsS_of {c : Nat} (hc : c < 64) (h : rst f c = true) : rsS f (rcn f c) = c := by
  refine fi_eq (fun j hj => ?_) (fun _ => ?_) (by omega)
  · refine Bool.eq_false_iff.mpr (fun z => ?_)
    rw [Bool.and_eq_true] at z
    have h1 := rcn_lt hj z.1
    have h2 : rcn f j = rcn f c := by simpa using z.2
    omega
  · show (rst f c && (rcn f c == rcn f c)) = true
    rw [h]
    simp
theorem rsS_ex : ∀ n, n ≤ 64 → ∀ i, i < rcn f n → rsS f i < n ∧ rst f (rsS f i) = true ∧ rcn f (rsS f i) = i := by
  intro n
  induction n with
  | zero => intro _ i h; exact absurd h (Nat.not_lt_zero _)
  | succ n ih =>
    intro hn i hi
    by_cases q : i < rcn f n
    · obtain ⟨h1, h2, h3⟩ := ih (by omega) i q
      exact ⟨by omega, h2, h3⟩
    · rw [rcn_s] at hi
      cases c : rst f n
      · rw [c] at hi
        exact absurd hi q
      · have e : rcn f n = i := by rw [c] at hi; have : b1 true = 1 := rfl; omega
        have h1 := rsS_of (by omega) c
        rw [e] at h1
        rw [h1]
        exact ⟨by omega, c, e⟩
theorem rcn_half : ∀ n, 2 * rcn f n ≤ n + b1 (decide (0 < n ∧ 0 < f (n - 1))) := by
  intro n
  induction n with
  | zero => exact Nat.zero_le _
  | succ n ih =>
    rw [rcn_s]
    cases c : rst f n
    · have h1 := b1_le (decide (0 < n ∧ 0 < f (n - 1)))
      have : b1 false = 0 := rfl
      omega
    · have h2 := rst_i.mp c
      have h3 : decide (0 < n ∧ 0 < f (n - 1)) = false := decide_eq_false (by omega)
      rw [h3] at ih
      have h4 : decide (0 < n + 1 ∧ 0 < f (n + 1 - 1)) = true := decide_eq_true ⟨by omega, h2.1⟩
      rw [h4]
      have a1 : b1 false = 0 := rfl
      have a2 : b1 true = 1 := rfl
      omega
theorem rcn_32 : ∀ n, n ≤ 64 → rcn f n ≤ 32 := by
  intro n hn
  have h1 := rcn_half (f := f) n
  have h2 := b1_le (decide (0 < n ∧ 0 < f (n - 1)))
  omega
/-- a run from s as far as e, all below j looked at -/
def runOK (f : Nat → Nat) (j s e : Nat) : Prop := s ≤ e ∧ e < j ∧ (∀ c, s ≤ c → c ≤ e → 0 < f c) ∧ (e + 1 = j ∨ f (e + 1) = 0)
theorem ren_ok {c : Nat} (hc : c < 64) (h : 0 < f c) : runOK f 64 c (ren f c) := by
  have key : fi (fun t => decide (64 ≤ c + t + 1) || decide (f (c + t + 1) = 0)) 64 < 64 := by
    rcases Nat.lt_or_ge (fi (fun t => decide (64 ≤ c + t + 1) || decide (f (c + t + 1) = 0)) 64) 64 with z | z
    · exact z
    · have := fi_no (fun t => decide (64 ≤ c + t + 1) || decide (f (c + t + 1) = 0)) 64 63 (by omega)
      rw [Bool.or_eq_false_iff] at this
      have := of_decide_eq_false this.1
      omega
  have h1 := fi_is (fun t => decide (64 ≤ c + t + 1) || decide (f (c + t + 1) = 0)) 64 key
  have h2 : ∀ t, t < fi (fun t => decide (64 ≤ c + t + 1) || decide (f (c + t + 1) = 0)) 64 → c + t + 1 < 64 ∧ 0 < f (c + t + 1) := by
    intro t ht
    have := fi_no (fun t => decide (64 ≤ c + t + 1) || decide (f (c + t + 1) = 0)) 64 t ht
    rw [Bool.or_eq_false_iff] at this
    have a1 := of_decide_eq_false this.1
    have a2 := of_decide_eq_false this.2
    omega
  unfold ren
  generalize fi (fun t => decide (64 ≤ c + t + 1) || decide (f (c + t + 1) = 0)) 64 = T at *
  rw [Bool.or_eq_true] at h1
  have h3 : c + T < 64 := by
    cases T with
    | zero => omega
    | succ T => have := h2 T (by omega); omega
  refine ⟨by omega, h3, fun x hx hx2 => ?_, ?_⟩
  · by_cases e : x = c
    · rw [e]; exact h
    · have := (h2 (x - c - 1) (by omega)).2
      rwa [show c + (x - c - 1) + 1 = x by omega] at this
  · rcases h1 with h1 | h1
    · have := of_decide_eq_true h1
      exact Or.inl (by omega)
    · exact Or.inr (of_decide_eq_true h1)
theorem run_uni {s e e' : Nat} (h : runOK f 64 s e) (h' : runOK f 64 s e') : e = e' := by
  obtain ⟨a1, a2, a3, a4⟩ := h
  obtain ⟨b1', b2, b3, b4⟩ := h'
  rcases Nat.lt_trichotomy e e' with q | q | q
  · have := b3 (e + 1) (by omega) (by omega)
    omega
  · exact q
  · have := a3 (e' + 1) (by omega) (by omega)
    omega
/-- what a run has -/
def rtt (f : Nat → Nat) (s e : Nat) : Int := ((su f (e + 1) : Nat) : Int) - (su f s : Nat)
theorem rtt_b {s e : Nat} (hS : su f 64 ≤ 15358464) (hs : s ≤ e) (he : e < 64) : 0 ≤ rtt f s e ∧ rtt f s e ≤ 15358464 := by
  have a1 : su f (e + 1) ≤ su f 64 := su_mono (by omega)
  have a2 : su f s ≤ su f (e + 1) := su_mono (by omega)
  unfold rtt
  omega
/-- the best by a size: which, and how much -/
def bst (z : Nat → Int) : Nat → Int × Int
  | 0 => (-1, 0)
  | k + 1 => if (bst z k).2 < z k then ((k : Int), z k) else bst z k
theorem bst_r (z : Nat → Int) : ∀ k, ((bst z k).1 = -1 ∧ (bst z k).2 = 0) ∨ ∃ i : Nat, i < k ∧ (bst z k).1 = i ∧ (bst z k).2 = z i := by
  intro k
  induction k with
  | zero => exact Or.inl ⟨rfl, rfl⟩
  | succ k ih =>
    unfold bst
    split
    · exact Or.inr ⟨k, by omega, rfl, rfl⟩
    · rcases ih with h | ⟨i, h1, h2⟩
      · exact Or.inl h
      · exact Or.inr ⟨i, by omega, h2⟩
variable {m : am_m} {a u : Nat}
theorem s_X5_startsRun {c : Nat} (h : Row m a f) (hc : c < 64) : m_X5_startsRun m a (am_i c) = some (am_i (b1 (rst f c))) := by
  unfold m_X5_startsRun
  have b1' := h.2 c
  have b2 := h.2 (c - 1)
  have e1 := h.1 c hc
  by_cases c0 : f c = 0
  · rw [show rst f c = false from Bool.eq_false_iff.mpr (fun z => by have := rst_i.mp z; omega)]
    (simp (disch := first | assumption | omega) only [i_add, i_sub, i_mul, i_lt, i_le, i_eq, i_ibt, i_ixn, i_ix, i_zero, am_letF, cond_true, cond_false, Option.bind_some, ↓reduceIte, m_si, m_sc, true_and, and_true, not_true_eq_false, not_false_eq_true, i_gtF, i_leT, i_geF, i_ltT, Int32.zero_add, Int.toNat_natCast, ix_own, ix_sum, ix_ver, ix_th, ix_ab, ix_st, ix_vm, ix_lim, ix_lim1, ix_lim2, ix_lim3, Int.toNat_zero, i_neF, i_eqT, b1T, b1F, e1] <;> rfl)
  · by_cases c1 : c = 0
    · rw [show rst f c = true from rst_i.mpr ⟨by omega, Or.inl c1⟩]
      rw [c1] at e1 c0 b1' ⊢
      (simp (disch := first | assumption | omega) only [i_add, i_sub, i_mul, i_lt, i_le, i_eq, i_ibt, i_ixn, i_ix, i_zero, am_letF, cond_true, cond_false, Option.bind_some, ↓reduceIte, m_si, m_sc, true_and, and_true, not_true_eq_false, not_false_eq_true, i_gtF, i_leT, i_geF, i_ltT, Int32.zero_add, Int.toNat_natCast, ix_own, ix_sum, ix_ver, ix_th, ix_ab, ix_st, ix_vm, ix_lim, ix_lim1, ix_lim2, ix_lim3, Int.toNat_zero, i_neF, i_eqT, b1T, b1F, e1] <;> rfl)
    · have e2 := h.1 (c - 1) (by omega)
      have e3 : am_i (c : Int) - am_i 1 = am_i ((c - 1 : Nat) : Int) := by rw [i_sub]; congr 1; omega
      rw [e3]
      by_cases c2 : f (c - 1) = 0
      · rw [show rst f c = true from rst_i.mpr ⟨by omega, Or.inr c2⟩]
        (simp (disch := first | assumption | omega) only [i_add, i_sub, i_mul, i_lt, i_le, i_eq, i_ibt, i_ixn, i_ix, i_zero, am_letF, cond_true, cond_false, Option.bind_some, ↓reduceIte, m_si, m_sc, true_and, and_true, not_true_eq_false, not_false_eq_true, i_gtF, i_leT, i_geF, i_ltT, Int32.zero_add, Int.toNat_natCast, ix_own, ix_sum, ix_ver, ix_th, ix_ab, ix_st, ix_vm, ix_lim, ix_lim1, ix_lim2, ix_lim3, Int.toNat_zero, i_neF, i_eqT, b1T, b1F, e1, e2] <;> rfl)
      · rw [show rst f c = false from Bool.eq_false_iff.mpr (fun z => by have := rst_i.mp z; omega)]
        (simp (disch := first | assumption | omega) only [i_add, i_sub, i_mul, i_lt, i_le, i_eq, i_ibt, i_ixn, i_ix, i_zero, am_letF, cond_true, cond_false, Option.bind_some, ↓reduceIte, m_si, m_sc, true_and, and_true, not_true_eq_false, not_false_eq_true, i_gtF, i_leT, i_geF, i_ltT, Int32.zero_add, Int.toNat_natCast, ix_own, ix_sum, ix_ver, ix_th, ix_ab, ix_st, ix_vm, ix_lim, ix_lim1, ix_lim2, ix_lim3, Int.toNat_zero, i_neF, i_eqT, b1T, b1F, e1, e2] <;> rfl)
theorem s_X5_runEnd {c : Nat} (h : Row m a f) (hc : c < 64) (hf : 0 < f c) : m_X5_runEnd m a (am_i c) = some (am_i (ren f c)) := by
  have hok := ren_ok hc hf
  unfold m_X5_runEnd
  refine lo_go (fun n j t => m_X5_runEnd_2 a (am_i c) m (fun u4 => some u4) n t) (fun j => am_i ((c + j : Nat) : Int)) 0 (ren f c - c) rfl (by omega) (am_Fv (by have := hok.2.1; omega)) (fun n j _ hj => ?_) (fun n => ?_)
  · have q := hok.2.2.1 (c + j + 1) (by omega) (by omega)
    have q2 := hok.2.1
    have b2 := h.2 (c + j + 1)
    have e1 := h.1 (c + j + 1) (by omega)
    have e2 : am_i ((c + j : Nat) : Int) + am_i 1 = am_i ((c + j + 1 : Nat) : Int) := by rw [i_add]; rfl
    show m_X5_runEnd_2 a _ m _ (n + 1) _ = _
    rw [m_X5_runEnd_2, e2]
    (simp (disch := first | assumption | omega) only [i_add, i_sub, i_mul, i_lt, i_le, i_eq, i_ibt, i_ixn, i_ix, i_zero, am_letF, cond_true, cond_false, Option.bind_some, ↓reduceIte, m_si, m_sc, true_and, and_true, not_true_eq_false, not_false_eq_true, i_gtF, i_leT, i_geF, i_ltT, Int32.zero_add, Int.toNat_natCast, ix_own, ix_sum, ix_ver, ix_th, ix_ab, ix_st, ix_vm, ix_lim, ix_lim1, ix_lim2, ix_lim3, Int.toNat_zero, i_neF, i_eqT, b1T, b1F, e1] <;> rfl)
  · have q := hok.2.2.2
    have q2 := hok.2.1
    have q3 := hok.1
    have e2 : am_i ((c + (ren f c - c) : Nat) : Int) + am_i 1 = am_i ((ren f c + 1 : Nat) : Int) := by rw [i_add, show ((c + (ren f c - c) : Nat) : Int) + 1 = ((ren f c + 1 : Nat) : Int) by omega]
    show m_X5_runEnd_2 a _ m _ (n + 1) _ = _
    rw [m_X5_runEnd_2, e2, show c + (ren f c - c) = ren f c by omega]
    by_cases c1 : ren f c + 1 = 64
    · rw [if_pos (by rw [i_le (by omega) (by omega) (by omega) (by omega)]; omega)]
    · have e1 := h.1 (ren f c + 1) (by omega)
      have e3 : f (ren f c + 1) = 0 := by omega
      rw [e3] at e1
      (simp (disch := first | assumption | omega) only [i_add, i_sub, i_mul, i_lt, i_le, i_eq, i_ibt, i_ixn, i_ix, i_zero, am_letF, cond_true, cond_false, Option.bind_some, ↓reduceIte, m_si, m_sc, true_and, and_true, not_true_eq_false, not_false_eq_true, i_gtF, i_leT, i_geF, i_ltT, Int32.zero_add, Int.toNat_natCast, ix_own, ix_sum, ix_ver, ix_th, ix_ab, ix_st, ix_vm, ix_lim, ix_lim1, ix_lim2, ix_lim3, Int.toNat_zero, i_neF, i_eqT, b1T, b1F, e1] <;> rfl)
theorem s_X5_runCount (h : Row m a f) : m_X5_runCount m a = some (am_i (rcn f 64 : Nat)) := by
  unfold m_X5_runCount
  refine lo_go (fun n j t => m_X5_runCount_4 a m (fun u4 => some u4) n t (am_i (j : Int))) (fun j => am_i (rcn f j : Nat)) 0 64 rfl (by omega) (am_Fv (by omega)) (fun n j _ hj => ?_) (fun n => rfl)
  show m_X5_runCount_4 a m _ (n + 1) _ _ = m_X5_runCount_4 a m _ n (am_i ((rcn f j + b1 (rst f j) : Nat) : Int)) _
  have q := s_X5_startsRun h hj
  rw [m_X5_runCount_4]
  cases c : rst f j
  · rw [c] at q
    (simp (disch := first | assumption | omega) only [i_add, i_sub, i_mul, i_lt, i_le, i_eq, i_ibt, i_ixn, i_ix, i_zero, am_letF, cond_true, cond_false, Option.bind_some, ↓reduceIte, m_si, m_sc, true_and, and_true, not_true_eq_false, not_false_eq_true, i_gtF, i_leT, i_geF, i_ltT, Int32.zero_add, Int.toNat_natCast, ix_own, ix_sum, ix_ver, ix_th, ix_ab, ix_st, ix_vm, ix_lim, ix_lim1, ix_lim2, ix_lim3, Int.toNat_zero, i_neF, i_eqT, b1T, b1F, q] <;> rfl)
  · rw [c] at q
    (simp (disch := first | assumption | omega) only [i_add, i_sub, i_mul, i_lt, i_le, i_eq, i_ibt, i_ixn, i_ix, i_zero, am_letF, cond_true, cond_false, Option.bind_some, ↓reduceIte, m_si, m_sc, true_and, and_true, not_true_eq_false, not_false_eq_true, i_gtF, i_leT, i_geF, i_ltT, Int32.zero_add, Int.toNat_natCast, ix_own, ix_sum, ix_ver, ix_th, ix_ab, ix_st, ix_vm, ix_lim, ix_lim1, ix_lim2, ix_lim3, Int.toNat_zero, i_neF, i_eqT, b1T, b1F, q] <;> rfl)
/-- the i-th run's start, none -/
def rsI (f : Nat → Nat) (i : Int) : Int := if 0 ≤ i ∧ i < (rcn f 64 : Nat) then (rsS f i.toNat : Int) else -1
theorem l_X5_runAt_32 {i : Int} (h : Row m a f) (h1 : -2147483648 ≤ i) (h2 : i ≤ 2147483647) : m_X5_runAt_32 a (am_i i) m (am_i i) (some (am_i (-1))) am_F (am_i 0) (am_i 0) = some (am_i (rsI f i)) := by
  refine (lo_seek (fun n j t => m_X5_runAt_32 a (am_i i) m (am_i i) (some (am_i (-1))) n t (am_i (j : Int))) (fun j => am_i (rcn f j : Nat)) 64 (fun c => rst f c && (((rcn f c : Nat) : Int) == i)) (fun j => some (am_i (j : Int))) (some (am_i (-1))) rfl (am_Fv (by omega)) ?_ ?_ (fun n => rfl)).trans ?_
  · intro n j hj hp
    have q := s_X5_startsRun h hj
    have q2 := rcn_32 (f := f) j (by omega)
    show m_X5_runAt_32 a _ m _ _ (n + 1) _ _ = m_X5_runAt_32 a _ m _ _ n (am_i ((rcn f j + b1 (rst f j) : Nat) : Int)) _
    rw [m_X5_runAt_32]
    cases c : rst f j
    · rw [c] at q
      (simp (disch := first | assumption | omega) only [i_add, i_sub, i_mul, i_lt, i_le, i_eq, i_ibt, i_ixn, i_ix, i_zero, am_letF, cond_true, cond_false, Option.bind_some, ↓reduceIte, m_si, m_sc, true_and, and_true, not_true_eq_false, not_false_eq_true, i_gtF, i_leT, i_geF, i_ltT, Int32.zero_add, Int.toNat_natCast, ix_own, ix_sum, ix_ver, ix_th, ix_ab, ix_st, ix_vm, ix_lim, ix_lim1, ix_lim2, ix_lim3, Int.toNat_zero, i_neF, i_eqT, b1T, b1F, q] <;> rfl)
    · rw [c] at q hp
      have hp2 : ¬ ((rcn f j : Nat) : Int) = i := by simpa using hp
      (simp (disch := first | assumption | omega) only [i_add, i_sub, i_mul, i_lt, i_le, i_eq, i_ibt, i_ixn, i_ix, i_zero, am_letF, cond_true, cond_false, Option.bind_some, ↓reduceIte, m_si, m_sc, true_and, and_true, not_true_eq_false, not_false_eq_true, i_gtF, i_leT, i_geF, i_ltT, Int32.zero_add, Int.toNat_natCast, ix_own, ix_sum, ix_ver, ix_th, ix_ab, ix_st, ix_vm, ix_lim, ix_lim1, ix_lim2, ix_lim3, Int.toNat_zero, i_neF, i_eqT, b1T, b1F, q] <;> rfl)
  · intro n j hj hp
    have q := s_X5_startsRun h hj
    have q2 := rcn_32 (f := f) j (by omega)
    rw [Bool.and_eq_true] at hp
    have hp2 : ((rcn f j : Nat) : Int) = i := by simpa using hp.2
    rw [hp.1] at q
    show m_X5_runAt_32 a _ m _ _ (n + 1) _ _ = _
    rw [m_X5_runAt_32]
    (simp (disch := first | assumption | omega) only [i_add, i_sub, i_mul, i_lt, i_le, i_eq, i_ibt, i_ixn, i_ix, i_zero, am_letF, cond_true, cond_false, Option.bind_some, ↓reduceIte, m_si, m_sc, true_and, and_true, not_true_eq_false, not_false_eq_true, i_gtF, i_leT, i_geF, i_ltT, Int32.zero_add, Int.toNat_natCast, ix_own, ix_sum, ix_ver, ix_th, ix_ab, ix_st, ix_vm, ix_lim, ix_lim1, ix_lim2, ix_lim3, Int.toNat_zero, i_neF, i_eqT, b1T, b1F, q] <;> rfl)
  · unfold rsI
    by_cases c : 0 ≤ i ∧ i < (rcn f 64 : Nat)
    · obtain ⟨k, rfl⟩ : ∃ k : Nat, i = k := ⟨i.toNat, by omega⟩
      obtain ⟨g1, g2, g3⟩ := rsS_ex (f := f) 64 (by omega) k (by omega)
      have e : fi (fun c => rst f c && (((rcn f c : Nat) : Int) == (k : Int))) 64 = rsS f k := by
        refine fi_congr (fun j _ => ?_)
        cases rst f j
        · rfl
        · rw [Bool.true_and, Bool.true_and]
          by_cases z : rcn f j = k
          · rw [z]; simp
          · rw [beq_eq_false_iff_ne.mpr z, beq_eq_false_iff_ne.mpr (by omega)]
      rw [e, if_pos g1, if_pos c, Int.toNat_natCast]
    · rw [if_neg c, if_neg]
      intro z
      have := fi_is (fun c => rst f c && (((rcn f c : Nat) : Int) == i)) 64 z
      rw [Bool.and_eq_true] at this
      have e : ((rcn f (fi (fun c => rst f c && (((rcn f c : Nat) : Int) == i)) 64) : Nat) : Int) = i := by simpa using this.2
      have := rcn_lt z this.1
      omega
/-- a run's size: how long, or how much -/
def rsz (f : Nat → Nat) (b : Int) (i : Nat) : Int := if b = 0 then rtt f (rsS f i) (ren f (rsS f i)) else (ren f (rsS f i) : Int) - (rsS f i : Int) + 1
theorem rsz_b (hS : su f 64 ≤ 15358464) {b : Int} {i : Nat} (hi : i < rcn f 64) : 0 ≤ rsz f b i ∧ rsz f b i ≤ 15358464 := by
  obtain ⟨g1, g2, g3⟩ := rsS_ex (f := f) 64 (by omega) i hi
  have g4 := ren_ok g1 (rst_i.mp g2).1
  unfold rsz
  split
  · exact rtt_b hS g4.1 g4.2.1
  · have := g4.1
    have := g4.2.1
    omega
theorem s_X5_greatestRun {b : Int} (h : Row m a f) (hS : su f 64 ≤ 15358464) (hb : b = 0 ∨ b = 1) : m_X5_greatestRun m a (am_i b) = some (am_i (rsI f (bst (rsz f b) (rcn f 64)).1)) := by
  unfold m_X5_greatestRun
  refine lo_go (fun n j (t : Int32 × Int32) => m_X5_greatestRun_7 a (am_i b) m (am_i b) (fun u9 => some u9) n t.1 t.2 (am_i (j : Int))) (fun j => (am_i (rsI f (bst (rsz f b) (rcn f j)).1), am_i (bst (rsz f b) (rcn f j)).2)) 0 64 (n := am_F) (s0 := (am_i (-1), am_i 0)) rfl (by omega) (am_Fv (by omega)) (fun n j _ hj => ?_) (fun n => rfl)
  show m_X5_greatestRun_7 a _ m _ _ (n + 1) (am_i (rsI f (bst (rsz f b) (rcn f j)).1)) (am_i (bst (rsz f b) (rcn f j)).2) _ = m_X5_greatestRun_7 a _ m _ _ n (am_i (rsI f (bst (rsz f b) (rcn f (j + 1))).1)) (am_i (bst (rsz f b) (rcn f (j + 1))).2) _
  have q := s_X5_startsRun h hj
  rw [m_X5_greatestRun_7, rcn_s]
  cases c : rst f j
  · rw [c] at q
    (simp (disch := first | assumption | omega) only [i_add, i_sub, i_mul, i_lt, i_le, i_eq, i_ibt, i_ixn, i_ix, i_zero, am_letF, cond_true, cond_false, Option.bind_some, ↓reduceIte, m_si, m_sc, true_and, and_true, not_true_eq_false, not_false_eq_true, i_gtF, i_leT, i_geF, i_ltT, Int32.zero_add, Int.toNat_natCast, ix_own, ix_sum, ix_ver, ix_th, ix_ab, ix_st, ix_vm, ix_lim, ix_lim1, ix_lim2, ix_lim3, Int.toNat_zero, i_neF, i_eqT, b1T, b1F, q] <;> rfl)
  · rw [c] at q
    have hf := (rst_i.mp c).1
    have q2 := s_X5_runEnd h hj hf
    have q3 := ren_ok hj hf
    have q5 := q3.1
    have q6 := q3.2.1
    have q4 := s_X5_totalOf (lo := j) (hi := ren f j) h (by omega) q3.2.1
    have e1 : rsS f (rcn f j) = j := rsS_of hj c
    have hr : rcn f j < rcn f 64 := rcn_lt (by omega) c
    have sb := rsz_b (f := f) (b := b) hS hr
    have mb : 0 ≤ (bst (rsz f b) (rcn f j)).2 ∧ (bst (rsz f b) (rcn f j)).2 ≤ 15358464 := by
      rcases bst_r (rsz f b) (rcn f j) with ⟨-, g2⟩ | ⟨i, g1, -, g3⟩
      · rw [g2]; omega
      · rw [g3]; exact rsz_b hS (by omega)
    have eB : bst (rsz f b) (rcn f j + b1 true) = if (bst (rsz f b) (rcn f j)).2 < rsz f b (rcn f j) then ((rcn f j : Int), rsz f b (rcn f j)) else bst (rsz f b) (rcn f j) := rfl
    have eI : rsI f ((rcn f j : Nat) : Int) = (j : Int) := by
      unfold rsI
      rw [if_pos ⟨by omega, by omega⟩, Int.toNat_natCast, e1]
    rw [eB]
    generalize bst (rsz f b) (rcn f j) = BB at mb ⊢
    rcases hb with rfl | rfl
    · have ez : rsz f 0 (rcn f j) = rtt f j (ren f j) := by unfold rsz; rw [if_pos rfl, e1]
      rw [ez] at sb ⊢
      unfold rtt at sb ⊢
      by_cases z : BB.2 < ((su f (ren f j + 1) : Nat) : Int) - (su f j : Nat)
      · rw [if_pos z, show rsI f (((rcn f j : Nat) : Int), ((su f (ren f j + 1) : Nat) : Int) - (su f j : Nat)).1 = (j : Int) from eI]
        (simp (disch := first | assumption | omega) only [i_add, i_sub, i_mul, i_lt, i_le, i_eq, i_ibt, i_ixn, i_ix, i_zero, am_letF, cond_true, cond_false, Option.bind_some, ↓reduceIte, m_si, m_sc, true_and, and_true, not_true_eq_false, not_false_eq_true, i_gtF, i_leT, i_geF, i_ltT, Int32.zero_add, Int.toNat_natCast, ix_own, ix_sum, ix_ver, ix_th, ix_ab, ix_st, ix_vm, ix_lim, ix_lim1, ix_lim2, ix_lim3, Int.toNat_zero, i_neF, i_eqT, b1T, b1F, q, q2, q4] <;> rfl)
      · rw [if_neg z]
        (simp (disch := first | assumption | omega) only [i_add, i_sub, i_mul, i_lt, i_le, i_eq, i_ibt, i_ixn, i_ix, i_zero, am_letF, cond_true, cond_false, Option.bind_some, ↓reduceIte, m_si, m_sc, true_and, and_true, not_true_eq_false, not_false_eq_true, i_gtF, i_leT, i_geF, i_ltT, Int32.zero_add, Int.toNat_natCast, ix_own, ix_sum, ix_ver, ix_th, ix_ab, ix_st, ix_vm, ix_lim, ix_lim1, ix_lim2, ix_lim3, Int.toNat_zero, i_neF, i_eqT, b1T, b1F, q, q2, q4] <;> rfl)
    · have ez : rsz f 1 (rcn f j) = (ren f j : Int) - (j : Int) + 1 := by unfold rsz; rw [if_neg (by decide), e1]
      rw [ez] at sb ⊢
      by_cases z : BB.2 < (ren f j : Int) - (j : Int) + 1
      · rw [if_pos z, show rsI f (((rcn f j : Nat) : Int), (ren f j : Int) - (j : Int) + 1).1 = (j : Int) from eI]
        (simp (disch := first | assumption | omega) only [i_add, i_sub, i_mul, i_lt, i_le, i_eq, i_ibt, i_ixn, i_ix, i_zero, am_letF, cond_true, cond_false, Option.bind_some, ↓reduceIte, m_si, m_sc, true_and, and_true, not_true_eq_false, not_false_eq_true, i_gtF, i_leT, i_geF, i_ltT, Int32.zero_add, Int.toNat_natCast, ix_own, ix_sum, ix_ver, ix_th, ix_ab, ix_st, ix_vm, ix_lim, ix_lim1, ix_lim2, ix_lim3, Int.toNat_zero, i_neF, i_eqT, b1T, b1F, q, q2] <;> rfl)
      · rw [if_neg z]
        (simp (disch := first | assumption | omega) only [i_add, i_sub, i_mul, i_lt, i_le, i_eq, i_ibt, i_ixn, i_ix, i_zero, am_letF, cond_true, cond_false, Option.bind_some, ↓reduceIte, m_si, m_sc, true_and, and_true, not_true_eq_false, not_false_eq_true, i_gtF, i_leT, i_geF, i_ltT, Int32.zero_add, Int.toNat_natCast, ix_own, ix_sum, ix_ver, ix_th, ix_ab, ix_st, ix_vm, ix_lim, ix_lim1, ix_lim2, ix_lim3, Int.toNat_zero, i_neF, i_eqT, b1T, b1F, q, q2] <;> rfl)
end RU
