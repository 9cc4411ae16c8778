/-! ===== mathematics: calls that ask, 7: grew ===== -/
def grA (G : Nat → Int) : Nat → Nat
  | 0 => 0
  | j + 1 => if G (grA G j) < G j then j else grA G j
def grZ (G : Nat → Int) : Nat → Nat
  | 0 => 0
  | j + 1 => if G j < G (grZ G j) then j else grZ G j
theorem grA_lt (G : Nat → Int) : ∀ j, j ≤ 64 → grA G j < 64 ∧ (grA G j < j ∨ grA G j = 0) := by
  intro j
  induction j with
  | zero => intro _; exact ⟨Nat.zero_lt_succ 63, Or.inr rfl⟩
  | succ j ih =>
    intro hj
    have := ih (by omega)
    unfold grA
    split <;> omega
theorem grZ_lt (G : Nat → Int) : ∀ j, j ≤ 64 → grZ G j < 64 ∧ (grZ G j < j ∨ grZ G j = 0) := by
  intro j
  induction j with
  | zero => intro _; exact ⟨Nat.zero_lt_succ 63, Or.inr rfl⟩
  | succ j ih =>
    intro hj
    have := ih (by omega)
    unfold grZ
    split <;> omega
def grC (G : Nat → Int) (j : Nat) : Nat := cn (fun c => decide (¬ G c = 0)) j
section Q7
variable {m : am_m} {r : am_rr} {s : Sx}
theorem l_X8_grew_63 {a b : Nat} {f g : Nat → Nat} {x1 x2 x3 y3 : Int32} {k : Int32 → Int32 → Int32 → Option Int32} (hf : Row m a f) (hg : Row m b g) : m_X8_grew_63 x1 x2 x3 m r y3 a b k am_F (am_i 0) (am_i 0) (am_i 0) (am_i 0) = k (am_i (grA (fun c => (f c : Int) - g c) 64)) (am_i (grZ (fun c => (f c : Int) - g c) 64)) (am_i (grC (fun c => (f c : Int) - g c) 64)) := by
  refine lo_go (fun n j (t : Int32 × Int32 × Int32) => m_X8_grew_63 x1 x2 x3 m r y3 a b k n t.1 t.2.1 t.2.2 (am_i (j : Int))) (fun j => (am_i (grA (fun c => (f c : Int) - g c) j), am_i (grZ (fun c => (f c : Int) - g c) j), am_i (grC (fun c => (f c : Int) - g c) j))) 0 64 rfl (by omega) (am_Fv (by omega)) (fun n j _ hj => ?_) (fun n => rfl)
  have hA := (grA_lt (fun c => (f c : Int) - g c) j (by omega)).1
  have hZ := (grZ_lt (fun c => (f c : Int) - g c) j (by omega)).1
  show m_X8_grew_63 x1 x2 x3 m r y3 a b k (n + 1) (am_i (grA _ j)) (am_i (grZ _ j)) (am_i (grC _ j)) _ = m_X8_grew_63 x1 x2 x3 m r y3 a b k n (am_i ((if (f (grA (fun c => (f c : Int) - g c) j) : Int) - g (grA (fun c => (f c : Int) - g c) j) < (f j : Int) - g j then j else grA (fun c => (f c : Int) - g c) j : Nat) : Int)) (am_i ((if (f j : Int) - g j < (f (grZ (fun c => (f c : Int) - g c) j) : Int) - g (grZ (fun c => (f c : Int) - g c) j) then j else grZ (fun c => (f c : Int) - g c) j : Nat) : Int)) (am_i ((grC (fun c => (f c : Int) - g c) j + b1 (decide (¬ (f j : Int) - g j = 0)) : Nat) : Int)) _
  generalize grA (fun c => (f c : Int) - g c) j = A at hA ⊢
  generalize grZ (fun c => (f c : Int) - g c) j = Z at hZ ⊢
  generalize grC (fun c => (f c : Int) - g c) j = C
  have e1 := hf.1 j hj
  have e2 := hg.1 j hj
  have e3 := hf.1 A hA
  have e4 := hg.1 A hA
  have e5 := hf.1 Z hZ
  have e6 := hg.1 Z hZ
  have c1 := hf.2 j
  have c2 := hg.2 j
  have c3 := hf.2 A
  have c4 := hg.2 A
  have c5 := hf.2 Z
  have c6 := hg.2 Z
  rw [m_X8_grew_63]
  by_cases h1 : (f A : Int) - g A < (f j : Int) - g j
  · rw [if_pos h1]
    by_cases h2 : (f j : Int) - g j < (f Z : Int) - g Z
    · rw [if_pos h2]
      by_cases h3 : (f j : Int) - g j = 0
      · rw [decide_eq_false (show ¬ ¬ (f j : Int) - g j = 0 from fun z => z h3), show C + b1 false = C from rfl]
        (simp (disch := first | assumption | omega) only [i_add, i_sub, i_mul, i_lt, i_le, i_eq, i_ibt, i_ixn, i_ix, i_zero, am_letF, cond_true, cond_false, Option.bind_some, ↓reduceIte, m_si, m_sc, true_and, and_true, not_true_eq_false, not_false_eq_true, i_gtF, i_leT, i_geF, i_ltT, Int32.zero_add, Int.toNat_natCast, ix_own, ix_sum, ix_ver, ix_th, ix_ab, ix_st, ix_vm, ix_lim, ix_lim1, ix_lim2, ix_lim3, Int.toNat_zero, i_neF, i_eqT, b1T, b1F, e1, e2, e3, e4, e5, e6] <;> rfl)
      · rw [decide_eq_true h3]
        (simp (disch := first | assumption | omega) only [i_add, i_sub, i_mul, i_lt, i_le, i_eq, i_ibt, i_ixn, i_ix, i_zero, am_letF, cond_true, cond_false, Option.bind_some, ↓reduceIte, m_si, m_sc, true_and, and_true, not_true_eq_false, not_false_eq_true, i_gtF, i_leT, i_geF, i_ltT, Int32.zero_add, Int.toNat_natCast, ix_own, ix_sum, ix_ver, ix_th, ix_ab, ix_st, ix_vm, ix_lim, ix_lim1, ix_lim2, ix_lim3, Int.toNat_zero, i_neF, i_eqT, b1T, b1F, e1, e2, e3, e4, e5, e6] <;> rfl)
    · rw [if_neg h2]
      by_cases h3 : (f j : Int) - g j = 0
      · rw [decide_eq_false (show ¬ ¬ (f j : Int) - g j = 0 from fun z => z h3), show C + b1 false = C from rfl]
        (simp (disch := first | assumption | omega) only [i_add, i_sub, i_mul, i_lt, i_le, i_eq, i_ibt, i_ixn, i_ix, i_zero, am_letF, cond_true, cond_false, Option.bind_some, ↓reduceIte, m_si, m_sc, true_and, and_true, not_true_eq_false, not_false_eq_true, i_gtF, i_leT, i_geF, i_ltT, Int32.zero_add, Int.toNat_natCast, ix_own, ix_sum, ix_ver, ix_th, ix_ab, ix_st, ix_vm, ix_lim, ix_lim1, ix_lim2, ix_lim3, Int.toNat_zero, i_neF, i_eqT, b1T, b1F, e1, e2, e3, e4, e5, e6] <;> rfl)
      · rw [decide_eq_true h3]
        (simp (disch := first | assumption | omega) only [i_add, i_sub, i_mul, i_lt, i_le, i_eq, i_ibt, i_ixn, i_ix, i_zero, am_letF, cond_true, cond_false, Option.bind_some, ↓reduceIte, m_si, m_sc, true_and, and_true, not_true_eq_false, not_false_eq_true, i_gtF, i_leT, i_geF, i_ltT, Int32.zero_add, Int.toNat_natCast, ix_own, ix_sum, ix_ver, ix_th, ix_ab, ix_st, ix_vm, ix_lim, ix_lim1, ix_lim2, ix_lim3, Int.toNat_zero, i_neF, i_eqT, b1T, b1F, e1, e2, e3, e4, e5, e6] <;> rfl)
  · rw [if_neg h1]
    by_cases h2 : (f j : Int) - g j < (f Z : Int) - g Z
    · rw [if_pos h2]
      by_cases h3 : (f j : Int) - g j = 0
      · rw [decide_eq_false (show ¬ ¬ (f j : Int) - g j = 0 from fun z => z h3), show C + b1 false = C from rfl]
        (simp (disch := first | assumption | omega) only [i_add, i_sub, i_mul, i_lt, i_le, i_eq, i_ibt, i_ixn, i_ix, i_zero, am_letF, cond_true, cond_false, Option.bind_some, ↓reduceIte, m_si, m_sc, true_and, and_true, not_true_eq_false, not_false_eq_true, i_gtF, i_leT, i_geF, i_ltT, Int32.zero_add, Int.toNat_natCast, ix_own, ix_sum, ix_ver, ix_th, ix_ab, ix_st, ix_vm, ix_lim, ix_lim1, ix_lim2, ix_lim3, Int.toNat_zero, i_neF, i_eqT, b1T, b1F, e1, e2, e3, e4, e5, e6] <;> rfl)
      · rw [decide_eq_true h3]
        (simp (disch := first | assumption | omega) only [i_add, i_sub, i_mul, i_lt, i_le, i_eq, i_ibt, i_ixn, i_ix, i_zero, am_letF, cond_true, cond_false, Option.bind_some, ↓reduceIte, m_si, m_sc, true_and, and_true, not_true_eq_false, not_false_eq_true, i_gtF, i_leT, i_geF, i_ltT, Int32.zero_add, Int.toNat_natCast, ix_own, ix_sum, ix_ver, ix_th, ix_ab, ix_st, ix_vm, ix_lim, ix_lim1, ix_lim2, ix_lim3, Int.toNat_zero, i_neF, i_eqT, b1T, b1F, e1, e2, e3, e4, e5, e6] <;> rfl)
    · rw [if_neg h2]
      by_cases h3 : (f j : Int) - g j = 0
      · rw [decide_eq_false (show ¬ ¬ (f j : Int) - g j = 0 from fun z => z h3), show C + b1 false = C from rfl]
        (simp (disch := first | assumption | omega) only [i_add, i_sub, i_mul, i_lt, i_le, i_eq, i_ibt, i_ixn, i_ix, i_zero, am_letF, cond_true, cond_false, Option.bind_some, ↓reduceIte, m_si, m_sc, true_and, and_true, not_true_eq_false, not_false_eq_true, i_gtF, i_leT, i_geF, i_ltT, Int32.zero_add, Int.toNat_natCast, ix_own, ix_sum, ix_ver, ix_th, ix_ab, ix_st, ix_vm, ix_lim, ix_lim1, ix_lim2, ix_lim3, Int.toNat_zero, i_neF, i_eqT, b1T, b1F, e1, e2, e3, e4, e5, e6] <;> rfl)
      · rw [decide_eq_true h3]
        (simp (disch := first | assumption | omega) only [i_add, i_sub, i_mul, i_lt, i_le, i_eq, i_ibt, i_ixn, i_ix, i_zero, am_letF, cond_true, cond_false, Option.bind_some, ↓reduceIte, m_si, m_sc, true_and, and_true, not_true_eq_false, not_false_eq_true, i_gtF, i_leT, i_geF, i_ltT, Int32.zero_add, Int.toNat_natCast, ix_own, ix_sum, ix_ver, ix_th, ix_ab, ix_st, ix_vm, ix_lim, ix_lim1, ix_lim2, ix_lim3, Int.toNat_zero, i_neF, i_eqT, b1T, b1F, e1, e2, e3, e4, e5, e6] <;> rfl)
/-- the reference's row of differences, as far as j -/
def dfR (m : am_m) (G : Nat → Int) (j : Nat) : am_m := fun b i => if b = 3266 ∧ i < j then am_i (G i) else m b i
theorem dfR_ne {G : Nat → Int} {j b : Nat} (h : b ≠ 3266) : dfR m G j b = m b := by
  funext i
  exact if_neg (fun e => h e.1)
theorem dfR_at {G : Nat → Int} {j i : Nat} (h : i < j) : dfR m G j 3266 i = am_i (G i) := if_pos ⟨rfl, h⟩
theorem dfR_s {G : Nat → Int} {j : Nat} : am_si (dfR m G j) 3266 j (am_i (G j)) = dfR m G (j + 1) := by
  funext b i
  rw [m_si]
  show (if b = 3266 ∧ i = j then am_i (G j) else if b = 3266 ∧ i < j then am_i (G i) else m b i) = if b = 3266 ∧ i < j + 1 then am_i (G i) else m b i
  by_cases e : b = 3266 ∧ i = j
  · rw [if_pos e, if_pos ⟨e.1, by omega⟩, e.2]
  · rw [if_neg e]
    by_cases e2 : b = 3266 ∧ i < j
    · rw [if_pos e2, if_pos ⟨e2.1, by omega⟩]
    · rw [if_neg e2, if_neg (fun e3 => e2 ⟨e3.1, by have : i ≠ j := fun z => e ⟨e3.1, z⟩; omega⟩)]
theorem l_X9_grew_52 {u v : Nat} {f g : Nat → Nat} {x1 x2 x3 y3 : Int32} {k : Int32 → Int32 → Int32 → am_m → Option (Int32 × am_m)} (hu : u < 24) (hv : v < 8) (hf : RowW m (3168 + 64 * (8 * u + 0)) f) (hg : RowW m (3168 + 64 * (8 * u + v)) g) : m_X9_grew_52 x1 x2 x3 (am_i u) (am_i v) y3 k am_F (am_i 0) (am_i 0) (am_i 0) (am_i 0) m = k (am_i (grA (fun c => (f c : Int) - g c) 64)) (am_i (grZ (fun c => (f c : Int) - g c) 64)) (am_i (grC (fun c => (f c : Int) - g c) 64)) (dfR m (fun c => (f c : Int) - g c) 64) := by
  refine lo_go (fun n j (t : Int32 × Int32 × Int32 × am_m) => m_X9_grew_52 x1 x2 x3 (am_i u) (am_i v) y3 k n t.1 t.2.1 t.2.2.1 (am_i (j : Int)) t.2.2.2) (fun j => (am_i (grA (fun c => (f c : Int) - g c) j), am_i (grZ (fun c => (f c : Int) - g c) j), am_i (grC (fun c => (f c : Int) - g c) j), dfR m (fun c => (f c : Int) - g c) j)) 0 64 (n := am_F) (s0 := (am_i 0, am_i 0, am_i 0, m)) (by
    show _ = (_, _, _, dfR m _ 0)
    have : dfR m (fun c => (f c : Int) - g c) 0 = m := by funext b i; exact if_neg (fun e => Nat.not_lt_zero _ e.2)
    rw [this]
    rfl) (by omega) (am_Fv (by omega)) (fun n j _ hj => ?_) (fun n => rfl)
  have hA := grA_lt (fun c => (f c : Int) - g c) j (by omega)
  have hZ := grZ_lt (fun c => (f c : Int) - g c) j (by omega)
  show m_X9_grew_52 x1 x2 x3 _ _ y3 k (n + 1) (am_i (grA _ j)) (am_i (grZ _ j)) (am_i (grC _ j)) _ (dfR m (fun c => (f c : Int) - g c) j) = m_X9_grew_52 x1 x2 x3 _ _ y3 k n (am_i ((if (f (grA (fun c => (f c : Int) - g c) j) : Int) - g (grA (fun c => (f c : Int) - g c) j) < (f j : Int) - g j then j else grA (fun c => (f c : Int) - g c) j : Nat) : Int)) (am_i ((if (f j : Int) - g j < (f (grZ (fun c => (f c : Int) - g c) j) : Int) - g (grZ (fun c => (f c : Int) - g c) j) then j else grZ (fun c => (f c : Int) - g c) j : Nat) : Int)) (am_i ((grC (fun c => (f c : Int) - g c) j + b1 (decide (¬ (f j : Int) - g j = 0)) : Nat) : Int)) _ (dfR m (fun c => (f c : Int) - g c) (j + 1))
  generalize grA (fun c => (f c : Int) - g c) j = A at hA ⊢
  generalize grZ (fun c => (f c : Int) - g c) j = Z at hZ ⊢
  generalize grC (fun c => (f c : Int) - g c) j = C
  have c1 := hf.2 j
  have c2 := hg.2 j
  have c3 := hf.2 A
  have c4 := hg.2 A
  have c5 := hf.2 Z
  have c6 := hg.2 Z
  have w1 : am_ix (am_i 3168 + am_i 64 * (am_i 8 * am_i (u : Int) + am_i 0) + am_i (j : Int)) = 3168 + 64 * (8 * u + 0) + j := by rw [i_mul, i_add, i_mul, i_add, i_add, i_ix (by omega) (by omega)]; omega
  have w2 : am_ix (am_i 3168 + am_i 64 * (am_i 8 * am_i (u : Int) + am_i (v : Int)) + am_i (j : Int)) = 3168 + 64 * (8 * u + v) + j := by rw [i_mul, i_add, i_mul, i_add, i_add, i_ix (by omega) (by omega)]; omega
  have w3 : am_ib (am_i 3168 + am_i 64 * (am_i 8 * am_i (u : Int) + am_i 0) + am_i (j : Int)) 15517 = true := by rw [i_mul, i_add, i_mul, i_add, i_add, i_ibt (by omega) (by omega) (by omega)]
  have w4 : am_ib (am_i 3168 + am_i 64 * (am_i 8 * am_i (u : Int) + am_i (v : Int)) + am_i (j : Int)) 15517 = true := by rw [i_mul, i_add, i_mul, i_add, i_add, i_ibt (by omega) (by omega) (by omega)]
  rw [m_X9_grew_52]
  unfold m_X9_versionAt
  rw [if_neg (by rw [i_le (by omega) (by omega) (by omega) (by omega)]; omega), Option.bind_some, w3, cond_true, Option.bind_some, w4, cond_true, i_ibt (by omega) (by omega) (by omega), cond_true, am_letF, w1, w2, dfR_ne (show 3262 ≠ 3266 by decide), hf.1 j hj, hg.1 j hj, i_sub, i_ixn (by omega), dfR_s]
  have e1 : dfR m (fun c => (f c : Int) - g c) (j + 1) 3266 j = am_i ((f j : Int) - g j) := dfR_at (by omega)
  have e2 : dfR m (fun c => (f c : Int) - g c) (j + 1) 3266 A = am_i ((f A : Int) - g A) := dfR_at (by omega)
  have e3 : dfR m (fun c => (f c : Int) - g c) (j + 1) 3266 Z = am_i ((f Z : Int) - g Z) := dfR_at (by omega)
  generalize dfR m (fun c => (f c : Int) - g c) (j + 1) = M at e1 e2 e3 ⊢
  have hA1 := hA.1
  have hZ1 := hZ.1
  by_cases h1 : (f A : Int) - g A < (f j : Int) - g j
  · rw [if_pos h1]
    by_cases h2 : (f j : Int) - g j < (f Z : Int) - g Z
    · rw [if_pos h2]
      by_cases h3 : (f j : Int) - g j = 0
      · rw [decide_eq_false (show ¬ ¬ (f j : Int) - g j = 0 from fun z => z h3), show C + b1 false = C from rfl]
        simp (disch := first | assumption | omega) only [i_add, i_sub, i_mul, i_lt, i_le, i_eq, i_ibt, i_ixn, i_ix, i_zero, am_letF, cond_true, cond_false, Option.bind_some, ↓reduceIte, m_si, m_sc, true_and, and_true, not_true_eq_false, not_false_eq_true, i_gtF, i_leT, i_geF, i_ltT, Int32.zero_add, Int.toNat_natCast, ix_own, ix_sum, ix_ver, ix_th, ix_ab, ix_st, ix_vm, ix_lim, ix_lim1, ix_lim2, ix_lim3, Int.toNat_zero, i_neF, i_eqT, b1T, b1F, e1, e2, e3, Int.add_zero]
        rfl
      · rw [decide_eq_true h3]
        (simp (disch := first | assumption | omega) only [i_add, i_sub, i_mul, i_lt, i_le, i_eq, i_ibt, i_ixn, i_ix, i_zero, am_letF, cond_true, cond_false, Option.bind_some, ↓reduceIte, m_si, m_sc, true_and, and_true, not_true_eq_false, not_false_eq_true, i_gtF, i_leT, i_geF, i_ltT, Int32.zero_add, Int.toNat_natCast, ix_own, ix_sum, ix_ver, ix_th, ix_ab, ix_st, ix_vm, ix_lim, ix_lim1, ix_lim2, ix_lim3, Int.toNat_zero, i_neF, i_eqT, b1T, b1F, e1, e2, e3] <;> rfl)
    · rw [if_neg h2]
      by_cases h3 : (f j : Int) - g j = 0
      · rw [decide_eq_false (show ¬ ¬ (f j : Int) - g j = 0 from fun z => z h3), show C + b1 false = C from rfl]
        simp (disch := first | assumption | omega) only [i_add, i_sub, i_mul, i_lt, i_le, i_eq, i_ibt, i_ixn, i_ix, i_zero, am_letF, cond_true, cond_false, Option.bind_some, ↓reduceIte, m_si, m_sc, true_and, and_true, not_true_eq_false, not_false_eq_true, i_gtF, i_leT, i_geF, i_ltT, Int32.zero_add, Int.toNat_natCast, ix_own, ix_sum, ix_ver, ix_th, ix_ab, ix_st, ix_vm, ix_lim, ix_lim1, ix_lim2, ix_lim3, Int.toNat_zero, i_neF, i_eqT, b1T, b1F, e1, e2, e3, Int.add_zero]
        rfl
      · rw [decide_eq_true h3]
        (simp (disch := first | assumption | omega) only [i_add, i_sub, i_mul, i_lt, i_le, i_eq, i_ibt, i_ixn, i_ix, i_zero, am_letF, cond_true, cond_false, Option.bind_some, ↓reduceIte, m_si, m_sc, true_and, and_true, not_true_eq_false, not_false_eq_true, i_gtF, i_leT, i_geF, i_ltT, Int32.zero_add, Int.toNat_natCast, ix_own, ix_sum, ix_ver, ix_th, ix_ab, ix_st, ix_vm, ix_lim, ix_lim1, ix_lim2, ix_lim3, Int.toNat_zero, i_neF, i_eqT, b1T, b1F, e1, e2, e3] <;> rfl)
  · rw [if_neg h1]
    by_cases h2 : (f j : Int) - g j < (f Z : Int) - g Z
    · rw [if_pos h2]
      by_cases h3 : (f j : Int) - g j = 0
      · rw [decide_eq_false (show ¬ ¬ (f j : Int) - g j = 0 from fun z => z h3), show C + b1 false = C from rfl]
        simp (disch := first | assumption | omega) only [i_add, i_sub, i_mul, i_lt, i_le, i_eq, i_ibt, i_ixn, i_ix, i_zero, am_letF, cond_true, cond_false, Option.bind_some, ↓reduceIte, m_si, m_sc, true_and, and_true, not_true_eq_false, not_false_eq_true, i_gtF, i_leT, i_geF, i_ltT, Int32.zero_add, Int.toNat_natCast, ix_own, ix_sum, ix_ver, ix_th, ix_ab, ix_st, ix_vm, ix_lim, ix_lim1, ix_lim2, ix_lim3, Int.toNat_zero, i_neF, i_eqT, b1T, b1F, e1, e2, e3, Int.add_zero]
        rfl
      · rw [decide_eq_true h3]
        (simp (disch := first | assumption | omega) only [i_add, i_sub, i_mul, i_lt, i_le, i_eq, i_ibt, i_ixn, i_ix, i_zero, am_letF, cond_true, cond_false, Option.bind_some, ↓reduceIte, m_si, m_sc, true_and, and_true, not_true_eq_false, not_false_eq_true, i_gtF, i_leT, i_geF, i_ltT, Int32.zero_add, Int.toNat_natCast, ix_own, ix_sum, ix_ver, ix_th, ix_ab, ix_st, ix_vm, ix_lim, ix_lim1, ix_lim2, ix_lim3, Int.toNat_zero, i_neF, i_eqT, b1T, b1F, e1, e2, e3] <;> rfl)
    · rw [if_neg h2]
      by_cases h3 : (f j : Int) - g j = 0
      · rw [decide_eq_false (show ¬ ¬ (f j : Int) - g j = 0 from fun z => z h3), show C + b1 false = C from rfl]
        simp (disch := first | assumption | omega) only [i_add, i_sub, i_mul, i_lt, i_le, i_eq, i_ibt, i_ixn, i_ix, i_zero, am_letF, cond_true, cond_false, Option.bind_some, ↓reduceIte, m_si, m_sc, true_and, and_true, not_true_eq_false, not_false_eq_true, i_gtF, i_leT, i_geF, i_ltT, Int32.zero_add, Int.toNat_natCast, ix_own, ix_sum, ix_ver, ix_th, ix_ab, ix_st, ix_vm, ix_lim, ix_lim1, ix_lim2, ix_lim3, Int.toNat_zero, i_neF, i_eqT, b1T, b1F, e1, e2, e3, Int.add_zero]
        rfl
      · rw [decide_eq_true h3]
        (simp (disch := first | assumption | omega) only [i_add, i_sub, i_mul, i_lt, i_le, i_eq, i_ibt, i_ixn, i_ix, i_zero, am_letF, cond_true, cond_false, Option.bind_some, ↓reduceIte, m_si, m_sc, true_and, and_true, not_true_eq_false, not_false_eq_true, i_gtF, i_leT, i_geF, i_ltT, Int32.zero_add, Int.toNat_natCast, ix_own, ix_sum, ix_ver, ix_th, ix_ab, ix_st, ix_vm, ix_lim, ix_lim1, ix_lim2, ix_lim3, Int.toNat_zero, i_neF, i_eqT, b1T, b1F, e1, e2, e3] <;> rfl)
theorem s_X1_hasVersion {x v : Int} (h : GS m r s) (h1 : -2147483648 ≤ x) (h2 : x ≤ 2147483647) (h3 : -2147483648 ≤ v) (h4 : v ≤ 2147483647) : m_X1_hasVersion m 4 (am_i x) (am_i v) = some (am_i (if thr (gU (xG s)) x = true ∧ 0 ≤ v ∧ v < gC (xG s) x.toNat then 1 else 0)) := by
  unfold m_X1_hasVersion
  rw [s_t8 h h1 h2]
  cases c : thr (gU (xG s)) x
  · rw [if_neg (show ¬ (false = true ∧ _) from fun e => by cases e.1)]
    rfl
  · obtain ⟨u, hu, rfl, hu2⟩ := thr_i c
    have e1 := h.2.1.1.2.2.2.2.1 u hu
    have e3 := h.ig.2.2.2.2.1 u
    rw [Int.toNat_natCast]
    by_cases c1 : 0 ≤ v ∧ v < gC (xG s) u
    · rw [if_pos (show true = true ∧ 0 ≤ v ∧ v < gC (xG s) u from ⟨rfl, c1⟩)]
      simp (disch := first | assumption | omega) only [i_add, i_sub, i_mul, i_lt, i_le, i_eq, i_ibt, i_ixn, i_ix, i_zero, am_letF, cond_true, cond_false, Option.bind_some, ↓reduceIte, m_si, m_sc, true_and, and_true, not_true_eq_false, not_false_eq_true, i_gtF, i_leT, i_geF, i_ltT, Int32.zero_add, Int.toNat_natCast, ix_own, ix_sum, ix_ver, ix_th, ix_ab, ix_st, ix_vm, ix_lim, ix_lim1, ix_lim2, ix_lim3, Int.toNat_zero, i_neF, i_eqT, b1T, b1F, e1]
    · rw [if_neg (show ¬ (true = true ∧ 0 ≤ v ∧ v < gC (xG s) u) from fun e => c1 e.2)]
      by_cases c2 : v < 0
      · simp (disch := first | assumption | omega) only [i_add, i_sub, i_mul, i_lt, i_le, i_eq, i_ibt, i_ixn, i_ix, i_zero, am_letF, cond_true, cond_false, Option.bind_some, ↓reduceIte, m_si, m_sc, true_and, and_true, not_true_eq_false, not_false_eq_true, i_gtF, i_leT, i_geF, i_ltT, Int32.zero_add, Int.toNat_natCast, ix_own, ix_sum, ix_ver, ix_th, ix_ab, ix_st, ix_vm, ix_lim, ix_lim1, ix_lim2, ix_lim3, Int.toNat_zero, i_neF, i_eqT, b1T, b1F, e1]
      · simp (disch := first | assumption | omega) only [i_add, i_sub, i_mul, i_lt, i_le, i_eq, i_ibt, i_ixn, i_ix, i_zero, am_letF, cond_true, cond_false, Option.bind_some, ↓reduceIte, m_si, m_sc, true_and, and_true, not_true_eq_false, not_false_eq_true, i_gtF, i_leT, i_geF, i_ltT, Int32.zero_add, Int.toNat_natCast, ix_own, ix_sum, ix_ver, ix_th, ix_ab, ix_st, ix_vm, ix_lim, ix_lim1, ix_lim2, ix_lim3, Int.toNat_zero, i_neF, i_eqT, b1T, b1F, e1]
theorem q_grew (h : GS m r s) (a b c : Int32) : ∃ y m', m_X8_grew m r a b c = some y ∧ m_X9_grew m a b c = some (y, m') ∧ Good m' r := by
  obtain ⟨x, h1, h2, rfl⟩ := i_any a
  obtain ⟨v, h3, h4, rfl⟩ := i_any b
  obtain ⟨w, h5, h6, rfl⟩ := i_any c
  cases c : thr (gU (xG s)) x
  · refine ⟨am_i (-100000), m, ?_, ?_, h.g⟩
    · unfold m_X8_grew
      rw [s_X1_hasVersion h h1 h2 h3 h4, c, if_neg (show ¬ (false = true ∧ _) from fun e => by cases e.1)]
      by_cases c1 : v < 1
      · rw [if_pos (by rw [i_lt (by omega) (by omega) (by omega) (by omega)]; exact c1)]
      · rw [if_neg (by rw [i_lt (by omega) (by omega) (by omega) (by omega)]; exact c1)]
        rfl
    · unfold m_X9_grew
      rw [s_t9 h h1 h2, c]
      rfl
  · obtain ⟨u, hu, rfl, hu2⟩ := thr_i c
    have e2 := h.2.2.1.1.2.2.2.2.2.1 u hu
    rw [Nat.zero_add] at e2
    have e3 := h.ig.2.2.2.2.1 u
    have e4 : am_ix (am_i 3144 + am_i (u : Int)) = 3144 + u := by rw [i_add, i_ix (by omega) (by omega)]; omega
    have e5 : am_ib (am_i 3144 + am_i (u : Int)) 15517 = true := by rw [i_add, i_ibt (by omega) (by omega) (by omega)]
    by_cases c1 : 1 ≤ v ∧ v ≤ (gC (xG s) u : Int) - 1
    · obtain ⟨w', rfl⟩ : ∃ w : Nat, v = w := ⟨v.toNat, by omega⟩
      have f1 : Row m (r (4 + 54) (8 * u + 0)) (gV (xG s) u 0) := ⟨fun c hc => h.2.1.1.2.2.2.2.2 u hu 0 (by omega) (by omega) c hc, fun c => Nat.le_trans (h.ig.2.2.2.2.2.1 u 0 c) (by decide)⟩
      have f2 : Row m (r (4 + 54) (8 * u + w')) (gV (xG s) u w') := ⟨fun c hc => h.2.1.1.2.2.2.2.2 u hu w' (by omega) (by omega) c hc, fun c => Nat.le_trans (h.ig.2.2.2.2.2.1 u w' c) (by decide)⟩
      have g1 : RowW m (3168 + 64 * (8 * u + 0)) (gV (xG s) u 0) := ⟨fun c hc => by have := h.2.2.1.1.2.2.2.2.2.2 u hu 0 (by omega) (by omega) c hc; rwa [Nat.zero_add] at this, fun c => Nat.le_trans (h.ig.2.2.2.2.2.1 u 0 c) (by decide)⟩
      have g2 : RowW m (3168 + 64 * (8 * u + w')) (gV (xG s) u w') := ⟨fun c hc => by have := h.2.2.1.1.2.2.2.2.2.2 u hu w' (by omega) (by omega) c hc; rwa [Nat.zero_add] at this, fun c => Nat.le_trans (h.ig.2.2.2.2.2.1 u w' c) (by decide)⟩
      have x8 : am_ix (am_i (u : Int) * am_i 8) = 8 * u + 0 := by rw [i_mul, i_ix (by omega) (by omega)]; omega
      have x9 : am_ix (am_i (u : Int) * am_i 8 + am_i (w' : Int)) = 8 * u + w' := by rw [i_mul, i_add, i_ix (by omega) (by omega)]; omega
      have b8 : am_ib (am_i (u : Int) * am_i 8) 192 = true := by rw [i_mul, i_ibt (by omega) (by omega) (by omega)]
      have b9 : am_ib (am_i (u : Int) * am_i 8 + am_i (w' : Int)) 192 = true := by rw [i_mul, i_add, i_ibt (by omega) (by omega) (by omega)]
      have hA := (grA_lt (fun c => (gV (xG s) u 0 c : Int) - gV (xG s) u w' c) 64 (by omega)).1
      have hZ := (grZ_lt (fun c => (gV (xG s) u 0 c : Int) - gV (xG s) u w' c) 64 (by omega)).1
      have p8 : m_X8_grew m r (am_i u) (am_i w') (am_i w) = (if am_i w = am_i 0 then some (am_i (grA (fun c => (gV (xG s) u 0 c : Int) - gV (xG s) u w' c) 64)) else if am_i w = am_i 1 then some (am_i ((gV (xG s) u 0 (grA (fun c => (gV (xG s) u 0 c : Int) - gV (xG s) u w' c) 64) : Int) - gV (xG s) u w' (grA (fun c => (gV (xG s) u 0 c : Int) - gV (xG s) u w' c) 64))) else if am_i w = am_i 2 then some (am_i (grZ (fun c => (gV (xG s) u 0 c : Int) - gV (xG s) u w' c) 64)) else if am_i w = am_i 3 then some (am_i ((gV (xG s) u w' (grZ (fun c => (gV (xG s) u 0 c : Int) - gV (xG s) u w' c) 64) : Int) - gV (xG s) u 0 (grZ (fun c => (gV (xG s) u 0 c : Int) - gV (xG s) u w' c) 64))) else if am_i w = am_i 4 then some (am_i (grC (fun c => (gV (xG s) u 0 c : Int) - gV (xG s) u w' c) 64)) else some (am_i (-100000))) := by
        unfold m_X8_grew
        rw [if_neg (by rw [i_lt (by omega) (by omega) (by omega) (by omega)]; omega), s_X1_hasVersion h h1 h2 h3 h4, if_pos (show thr (gU (xG s)) (u : Int) = true ∧ (0 : Int) ≤ (w' : Int) ∧ (w' : Int) < gC (xG s) (u : Int).toNat from ⟨c, by omega, by rw [Int.toNat_natCast]; omega⟩), Option.bind_some, if_pos (by decide), b8, cond_true, b9, cond_true, x8, x9, l_X8_grew_63 f1 f2, i_ibt (by omega) (by omega) (by omega), cond_true, cond_true, i_ibt (by omega) (by omega) (by omega), cond_true, cond_true, i_ixn (by omega), i_ixn (by omega), f1.1 _ hA, f2.1 _ hA, f1.1 _ hZ, f2.1 _ hZ, i_sub, i_sub]
      have p9 : 0 ≤ w ∧ w ≤ 4 → m_X9_grew m (am_i u) (am_i w') (am_i w) = (if ¬ am_i w = 0 then if ¬ am_i w = am_i 1 then if ¬ am_i w = am_i 2 then if ¬ am_i w = am_i 3 then some (am_i (grC (fun c => (gV (xG s) u 0 c : Int) - gV (xG s) u w' c) 64), dfR m (fun c => (gV (xG s) u 0 c : Int) - gV (xG s) u w' c) 64) else some (-(am_i ((gV (xG s) u 0 (grZ (fun c => (gV (xG s) u 0 c : Int) - gV (xG s) u w' c) 64) : Int) - gV (xG s) u w' (grZ (fun c => (gV (xG s) u 0 c : Int) - gV (xG s) u w' c) 64))), dfR m (fun c => (gV (xG s) u 0 c : Int) - gV (xG s) u w' c) 64) else some (am_i (grZ (fun c => (gV (xG s) u 0 c : Int) - gV (xG s) u w' c) 64), dfR m (fun c => (gV (xG s) u 0 c : Int) - gV (xG s) u w' c) 64) else some (am_i ((gV (xG s) u 0 (grA (fun c => (gV (xG s) u 0 c : Int) - gV (xG s) u w' c) 64) : Int) - gV (xG s) u w' (grA (fun c => (gV (xG s) u 0 c : Int) - gV (xG s) u w' c) 64)), dfR m (fun c => (gV (xG s) u 0 c : Int) - gV (xG s) u w' c) 64) else some (am_i (grA (fun c => (gV (xG s) u 0 c : Int) - gV (xG s) u w' c) 64), dfR m (fun c => (gV (xG s) u 0 c : Int) - gV (xG s) u w' c) 64)) := by
        intro c3
        unfold m_X9_grew
        rw [s_t9 h h1 h2, c, Option.bind_some, if_neg (by decide), e5, cond_true, e4, e2, i_sub, s_X9_isIn h3 h4 (by decide) (by decide) (by omega) (by omega), if_pos c1, Option.bind_some, if_neg (by decide), s_X9_isIn h5 h6 (by decide) (by decide) (by decide) (by decide), if_pos c3, Option.bind_some, if_pos (by decide), l_X9_grew_52 hu (by omega) g1 g2, i_ibt (by omega) (by omega) (by omega), cond_true, i_ibt (by omega) (by omega) (by omega), cond_true, i_ixn (by omega), i_ixn (by omega), dfR_at hA, dfR_at hZ]
      have kD : GS (dfR m (fun c => (gV (xG s) u 0 c : Int) - gV (xG s) u w' c) 64) r s := h.sc1 (fun b hb => dfR_ne (fun e => hb (by rw [e]; unfold Scr; omega)))
      rcases sw_n h5 h6 5 (by decide) with ⟨d, hd, rfl⟩ | hn
      · have p9 := p9 ⟨by omega, by omega⟩
        rw [p8]
        rcases (show d = 0 ∨ d = 1 ∨ d = 2 ∨ d = 3 ∨ d = 4 by omega) with z | z | z | z | z <;> rw [z] at p9 ⊢
        · exact ⟨_, _, rfl, p9.trans rfl, kD.g⟩
        · exact ⟨_, _, rfl, p9.trans rfl, kD.g⟩
        · exact ⟨_, _, rfl, p9.trans rfl, kD.g⟩
        · refine ⟨_, _, rfl, p9.trans ?_, kD.g⟩
          rw [i_neg, Int.neg_sub]
          rfl
        · exact ⟨_, _, rfl, p9.trans rfl, kD.g⟩
      · refine ⟨am_i (-100000), m, ?_, ?_, h.g⟩
        · rw [p8, if_neg (hn 0 (by decide) (by decide)), if_neg (hn 1 (by decide) (by decide)), if_neg (hn 2 (by decide) (by decide)), if_neg (hn 3 (by decide) (by decide)), if_neg (hn 4 (by decide) (by decide))]
        · unfold m_X9_grew
          have w4 : ¬ (0 ≤ w ∧ w ≤ 4) := by
            intro z
            have := hn w z.1 (by omega)
            exact this rfl
          rw [s_t9 h h1 h2, c, Option.bind_some, if_neg (by decide), e5, cond_true, e4, e2, i_sub, s_X9_isIn h3 h4 (by decide) (by decide) (by omega) (by omega), if_pos c1, Option.bind_some, if_neg (by decide), s_X9_isIn h5 h6 (by decide) (by decide) (by decide) (by decide), if_neg w4, Option.bind_some, if_neg (by decide)]
    · refine ⟨am_i (-100000), m, ?_, ?_, h.g⟩
      · unfold m_X8_grew
        rw [s_X1_hasVersion h h1 h2 h3 h4]
        by_cases c2 : v < 1
        · rw [if_pos (by rw [i_lt (by omega) (by omega) (by omega) (by omega)]; exact c2)]
        · rw [if_neg (by rw [i_lt (by omega) (by omega) (by omega) (by omega)]; exact c2), if_neg (show ¬ (thr (gU (xG s)) (u : Int) = true ∧ 0 ≤ v ∧ v < gC (xG s) (u : Int).toNat) from fun z => by rw [Int.toNat_natCast] at z; omega)]
          rfl
      · unfold m_X9_grew
        rw [s_t9 h h1 h2, c, Option.bind_some, if_neg (by decide), e5, cond_true, e4, e2, i_sub, s_X9_isIn h3 h4 (by decide) (by decide) (by omega) (by omega), if_neg c1, Option.bind_some, if_pos (by decide)]
end Q7
