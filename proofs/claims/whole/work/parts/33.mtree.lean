/-! ===== mathematics, 4: trees ===== -/
/-- a tree: up says what lies above (-1 for the head, -2 for what is not there), d how deep -/
def Tr (up : Nat → Int) (d : Nat → Nat) : Prop := up 0 = -1 ∧ d 0 = 0 ∧ (∀ u, -2 ≤ up u ∧ up u < 24) ∧ (∀ u, d u ≤ 12) ∧ ∀ u, u < 24 → u ≠ 0 → up u = -2 ∨ ∃ p : Nat, p < 24 ∧ up u = (p : Int) ∧ up p ≠ -2 ∧ d u = d p + 1
/-- the j-th above -/
def an (up : Nat → Int) (u : Nat) : Nat → Int
  | 0 => u
  | j + 1 => if an up u j < 0 then -1 else up (an up u j).toNat
theorem Tr.up {up : Nat → Int} {d : Nat → Nat} (h : Tr up d) {u : Nat} (hu : u < 24) (ht : up u ≠ -2) : (u = 0 ∧ up u = -1) ∨ (u ≠ 0 ∧ ∃ p : Nat, p < 24 ∧ up u = (p : Int) ∧ up p ≠ -2 ∧ d u = d p + 1) := by
  by_cases h0 : u = 0
  · exact Or.inl ⟨h0, by rw [h0]; exact h.1⟩
  · rcases h.2.2.2.2 u hu h0 with h1 | h1
    · exact absurd h1 ht
    · exact Or.inr ⟨h0, h1⟩
theorem Tr.anc {up : Nat → Int} {d : Nat → Nat} (h : Tr up d) {u : Nat} (hu : u < 24) (ht : up u ≠ -2) : ∀ j, j ≤ d u → ∃ p : Nat, p < 24 ∧ an up u j = (p : Int) ∧ up p ≠ -2 ∧ d u = d p + j := by
  intro j
  induction j with
  | zero => intro _; exact ⟨u, hu, rfl, ht, rfl⟩
  | succ j ih =>
    intro hj
    obtain ⟨p, h1, h2, h3, h4⟩ := ih (by omega)
    rcases h.up h1 h3 with ⟨h5, h6⟩ | ⟨h5, q, h6, h7, h8, h9⟩
    · exfalso
      rw [h5, h.2.1] at h4
      omega
    · refine ⟨q, h6, ?_, h8, by omega⟩
      show (if an up u j < 0 then -1 else up (an up u j).toNat) = _
      rw [h2, if_neg (by omega), Int.toNat_natCast, h7]
theorem Tr.top {up : Nat → Int} {d : Nat → Nat} (h : Tr up d) {u : Nat} (hu : u < 24) (ht : up u ≠ -2) : an up u (d u) = 0 := by
  obtain ⟨p, h1, h2, h3, h4⟩ := h.anc hu ht (d u) (Nat.le_refl _)
  rcases h.up h1 h3 with ⟨h5, h6⟩ | ⟨h5, q, h6, h7, h8, h9⟩
  · rw [h2, h5]; rfl
  · omega
theorem Tr.end {up : Nat → Int} {d : Nat → Nat} (h : Tr up d) {u : Nat} (hu : u < 24) (ht : up u ≠ -2) : an up u (d u + 1) = -1 := by
  show (if an up u (d u) < 0 then -1 else up (an up u (d u)).toNat) = _
  rw [h.top hu ht, if_neg (by omega)]
  exact h.1
/-- what lies above is there -/
theorem Tr.nx {up : Nat → Int} {u j p : Nat} (h : an up u j = (p : Int)) : an up u (j + 1) = up p := by
  show (if an up u j < 0 then -1 else up (an up u j).toNat) = _
  rw [h, if_neg (by omega), Int.toNat_natCast]
/-- whether it lies in the branch of t -/
def inB (up : Nat → Int) (d : Nat → Nat) (u : Nat) (t : Int) : Bool := decide (fi (fun j => an up u j == t) (d u + 1) < d u + 1)
/-- a class's Org at o has this tree -/
def TC (m : am_m) (o : Nat) (up : Nat → Int) : Prop := ∀ u, u < 24 → m (aU o) u = am_i (up u)
/-- the reference's row at off has this tree -/
def TM (m : am_m) (up : Nat → Int) : Prop := (∀ u, u < 24 → m 3262 u = am_i (if up u = -2 then 0 else 1)) ∧ ∀ u, u < 24 → up u ≠ -2 → m 3262 (24 + u) = am_i (up u)
section MT
variable {m : am_m} {o : Nat} {up : Nat → Int} {d : Nat → Nat}
/-- whether a number is a unit that is there -/
def thr (up : Nat → Int) (x : Int) : Bool := decide (0 ≤ x ∧ x < 24 ∧ up x.toNat ≠ -2)
theorem s_X1_isThere {x : Int} (h : TC m o up) (hT : Tr up d) (h1 : -2147483648 ≤ x) (h2 : x ≤ 2147483647) : m_X1_isThere m o (am_i x) = some (am_i (b1 (thr up x))) := by
  unfold m_X1_isThere thr b1
  by_cases c1 : x < 0
  · simp (disch := first | assumption | omega) only [i_add, i_sub, i_mul, i_lt, i_le, i_eq, i_ibt, i_ixn, i_ix, i_zero, am_letF, cond_true, cond_false, Option.bind_some, ↓reduceIte, m_si, m_sc, true_and, and_true, not_true_eq_false, not_false_eq_true, i_gtF, i_leT, i_geF, i_ltT, Int32.zero_add, Int.toNat_natCast, ix_own, ix_sum, ix_ver, ix_th, ix_ab, ix_st, ix_vm, ix_lim, ix_lim1, ix_lim2, ix_lim3, Int.toNat_zero, i_neF, i_eqT, b1T, b1F]
    simp [show ¬ 0 ≤ x by omega]
  · by_cases c2 : 24 ≤ x
    · simp (disch := first | assumption | omega) only [i_add, i_sub, i_mul, i_lt, i_le, i_eq, i_ibt, i_ixn, i_ix, i_zero, am_letF, cond_true, cond_false, Option.bind_some, ↓reduceIte, m_si, m_sc, true_and, and_true, not_true_eq_false, not_false_eq_true, i_gtF, i_leT, i_geF, i_ltT, Int32.zero_add, Int.toNat_natCast, ix_own, ix_sum, ix_ver, ix_th, ix_ab, ix_st, ix_vm, ix_lim, ix_lim1, ix_lim2, ix_lim3, Int.toNat_zero, i_neF, i_eqT, b1T, b1F]
      simp [show ¬ x < 24 by omega]
    · obtain ⟨k, rfl⟩ : ∃ k : Nat, x = k := ⟨x.toNat, by omega⟩
      have e1 := hT.2.2.1 k
      unfold TC at h
      by_cases c3 : up k = -2
      · simp (disch := first | assumption | omega) only [i_add, i_sub, i_mul, i_lt, i_le, i_eq, i_ibt, i_ixn, i_ix, i_zero, am_letF, cond_true, cond_false, Option.bind_some, ↓reduceIte, m_si, m_sc, true_and, and_true, not_true_eq_false, not_false_eq_true, i_gtF, i_leT, i_geF, i_ltT, Int32.zero_add, Int.toNat_natCast, ix_own, ix_sum, ix_ver, ix_th, ix_ab, ix_st, ix_vm, ix_lim, ix_lim1, ix_lim2, ix_lim3, Int.toNat_zero, i_neF, i_eqT, b1T, b1F, h]
        simp [c3]
      · simp (disch := first | assumption | omega) only [i_add, i_sub, i_mul, i_lt, i_le, i_eq, i_ibt, i_ixn, i_ix, i_zero, am_letF, cond_true, cond_false, Option.bind_some, ↓reduceIte, m_si, m_sc, true_and, and_true, not_true_eq_false, not_false_eq_true, i_gtF, i_leT, i_geF, i_ltT, Int32.zero_add, Int.toNat_natCast, ix_own, ix_sum, ix_ver, ix_th, ix_ab, ix_st, ix_vm, ix_lim, ix_lim1, ix_lim2, ix_lim3, Int.toNat_zero, i_neF, i_eqT, b1T, b1F, h]
        have c4 : k < 24 := by omega
        simp [c3, c4]
theorem s_X9_isUnit {x : Int} (h : TM m up) (h1 : -2147483648 ≤ x) (h2 : x ≤ 2147483647) : m_X9_isUnit m (am_i x) = some (am_i (b1 (thr up x))) := by
  unfold m_X9_isUnit thr b1
  rw [s_X9_isIn h1 h2 (by decide) (by decide) (by decide) (by decide), Option.bind_some]
  by_cases c1 : 0 ≤ x ∧ x ≤ 23
  · rw [if_pos c1]
    obtain ⟨k, rfl⟩ : ∃ k : Nat, x = k := ⟨x.toNat, by omega⟩
    have h3 := h.1
    by_cases c3 : up k = -2
    · simp (disch := first | assumption | omega) only [i_add, i_sub, i_mul, i_lt, i_le, i_eq, i_ibt, i_ixn, i_ix, i_zero, am_letF, cond_true, cond_false, Option.bind_some, ↓reduceIte, m_si, m_sc, true_and, and_true, not_true_eq_false, not_false_eq_true, i_gtF, i_leT, i_geF, i_ltT, Int32.zero_add, Int.toNat_natCast, ix_own, ix_sum, ix_ver, ix_th, ix_ab, ix_st, ix_vm, ix_lim, ix_lim1, ix_lim2, ix_lim3, Int.toNat_zero, i_neF, i_eqT, b1T, b1F, h3, c3]
      simp [c3]
    · simp (disch := first | assumption | omega) only [i_add, i_sub, i_mul, i_lt, i_le, i_eq, i_ibt, i_ixn, i_ix, i_zero, am_letF, cond_true, cond_false, Option.bind_some, ↓reduceIte, m_si, m_sc, true_and, and_true, not_true_eq_false, not_false_eq_true, i_gtF, i_leT, i_geF, i_ltT, Int32.zero_add, Int.toNat_natCast, ix_own, ix_sum, ix_ver, ix_th, ix_ab, ix_st, ix_vm, ix_lim, ix_lim1, ix_lim2, ix_lim3, Int.toNat_zero, i_neF, i_eqT, b1T, b1F, h3, c3]
      have c4 : k < 24 := by omega
      simp [c3, c4]
  · rw [if_neg c1]
    simp (disch := first | assumption | omega) only [i_add, i_sub, i_mul, i_lt, i_le, i_eq, i_ibt, i_ixn, i_ix, i_zero, am_letF, cond_true, cond_false, Option.bind_some, ↓reduceIte, m_si, m_sc, true_and, and_true, not_true_eq_false, not_false_eq_true, i_gtF, i_leT, i_geF, i_ltT, Int32.zero_add, Int.toNat_natCast, ix_own, ix_sum, ix_ver, ix_th, ix_ab, ix_st, ix_vm, ix_lim, ix_lim1, ix_lim2, ix_lim3, Int.toNat_zero, i_neF, i_eqT, b1T, b1F]
    have c2 : ¬ (0 ≤ x ∧ x < 24 ∧ up x.toNat ≠ -2) := fun e => c1 ⟨e.1, by omega⟩
    simp only [c2, decide_false]
    rfl

theorem thr_t {u : Nat} (hu : u < 24) (ht : up u ≠ -2) : thr up u = true := by
  unfold thr
  simp only [Int.toNat_natCast, decide_eq_true_eq]
  exact ⟨by omega, by omega, ht⟩
theorem thr_i {x : Int} (h : thr up x = true) : ∃ u : Nat, u < 24 ∧ x = u ∧ up u ≠ -2 := by
  unfold thr at h
  have h := of_decide_eq_true h
  exact ⟨x.toNat, by omega, by omega, h.2.2⟩
theorem thr_f {u : Nat} (ht : up u = -2) : thr up u = false := by
  unfold thr
  simp [ht]
theorem thr_n {x : Int} (hx : x < 0) : thr up x = false := by
  unfold thr
  simp [show ¬ 0 ≤ x by omega]
theorem s_X1_upperOf {u : Nat} (h : TC m o up) (hT : Tr up d) (hu : u < 24) (ht : up u ≠ -2) : m_X1_upperOf m o (am_i u) = some (am_i (up u)) := by
  unfold m_X1_upperOf
  rw [s_X1_isThere h hT (by omega) (by omega), thr_t hu ht]
  have e1 := hT.2.2.1 u
  unfold TC at h
  simp (disch := first | assumption | omega) only [i_add, i_sub, i_mul, i_lt, i_le, i_eq, i_ibt, i_ixn, i_ix, i_zero, am_letF, cond_true, cond_false, Option.bind_some, ↓reduceIte, m_si, m_sc, true_and, and_true, not_true_eq_false, not_false_eq_true, i_gtF, i_leT, i_geF, i_ltT, Int32.zero_add, Int.toNat_natCast, ix_own, ix_sum, ix_ver, ix_th, ix_ab, ix_st, ix_vm, ix_lim, ix_lim1, ix_lim2, ix_lim3, Int.toNat_zero, i_neF, i_eqT, b1T, b1F, h]
theorem s_X1_upperOf0 {x : Int} (h : TC m o up) (hT : Tr up d) (h1 : -2147483648 ≤ x) (h2 : x ≤ 2147483647) (hx : thr up x = false) : m_X1_upperOf m o (am_i x) = some (am_i (-1)) := by
  unfold m_X1_upperOf
  rw [s_X1_isThere h hT h1 h2, hx]
  simp (disch := first | assumption | omega) only [i_add, i_sub, i_mul, i_lt, i_le, i_eq, i_ibt, i_ixn, i_ix, i_zero, am_letF, cond_true, cond_false, Option.bind_some, ↓reduceIte, m_si, m_sc, true_and, and_true, not_true_eq_false, not_false_eq_true, i_gtF, i_leT, i_geF, i_ltT, Int32.zero_add, Int.toNat_natCast, ix_own, ix_sum, ix_ver, ix_th, ix_ab, ix_st, ix_vm, ix_lim, ix_lim1, ix_lim2, ix_lim3, Int.toNat_zero, i_neF, i_eqT, b1T, b1F, b1]
  rfl
theorem s_X1_depthOf {u : Nat} (h : TC m o up) (hT : Tr up d) (hu : u < 24) (ht : up u ≠ -2) : m_X1_depthOf m o (am_i u) = some (am_i (d u)) := by
  unfold m_X1_depthOf
  rw [s_X1_upperOf h hT hu ht, Option.bind_some]
  have hd := hT.2.2.2.1 u
  have e0 : up u = an up u 1 := (Tr.nx (j := 0) rfl).symm
  refine lo_go (fun n j s => m_X1_depthOf_8 o (am_i u) m (fun u5 => some u5) n (am_i (j : Int)) s) (fun j => am_i (an up u (j + 1))) 0 (d u) (by rw [e0]) (Nat.zero_le _) (am_Fv (by omega)) (fun n j _ hj => ?_) (fun n => ?_)
  · obtain ⟨p, h1, h2, h3, h4⟩ := hT.anc hu ht (j + 1) (by omega)
    show m_X1_depthOf_8 o (am_i u) m (fun u5 => some u5) (n + 1) _ (am_i (an up u (j + 1))) = m_X1_depthOf_8 o (am_i u) m (fun u5 => some u5) n _ (am_i (an up u (j + 1 + 1)))
    rw [m_X1_depthOf_8, Tr.nx h2, h2, s_X1_upperOf h hT h1 h3]
    simp (disch := first | assumption | omega) only [i_add, i_sub, i_mul, i_lt, i_le, i_eq, i_ibt, i_ixn, i_ix, i_zero, am_letF, cond_true, cond_false, Option.bind_some, ↓reduceIte, m_si, m_sc, true_and, and_true, not_true_eq_false, not_false_eq_true, i_gtF, i_leT, i_geF, i_ltT, Int32.zero_add, Int.toNat_natCast, ix_own, ix_sum, ix_ver, ix_th, ix_ab, ix_st, ix_vm, ix_lim, ix_lim1, ix_lim2, ix_lim3, Int.toNat_zero, i_neF, i_eqT, b1T, b1F]
    first | done | rfl | (rw [if_neg (by omega)]; done) | (rw [if_neg (by omega)]; rfl) | (rw [if_pos (by omega)]; done) | (rw [if_pos (by omega)]; rfl)
  · show m_X1_depthOf_8 o (am_i u) m (fun u5 => some u5) (n + 1) _ (am_i (an up u (d u + 1))) = _
    rw [m_X1_depthOf_8, hT.end hu ht, if_pos rfl]
theorem s_X9_depth {u : Nat} (h : TM m up) (hT : Tr up d) (hu : u < 24) (ht : up u ≠ -2) : m_X9_depth m (am_i u) = some (am_i (d u)) := by
  unfold m_X9_depth
  have hd := hT.2.2.2.1 u
  have e0 : up u = an up u 1 := (Tr.nx (j := 0) rfl).symm
  simp (disch := first | assumption | omega) only [i_add, i_sub, i_mul, i_lt, i_le, i_eq, i_ibt, i_ixn, i_ix, i_zero, am_letF, cond_true, cond_false, Option.bind_some, ↓reduceIte, m_si, m_sc, true_and, and_true, not_true_eq_false, not_false_eq_true, i_gtF, i_leT, i_geF, i_ltT, Int32.zero_add, Int.toNat_natCast, ix_own, ix_sum, ix_ver, ix_th, ix_ab, ix_st, ix_vm, ix_lim, ix_lim1, ix_lim2, ix_lim3, Int.toNat_zero, i_neF, i_eqT, b1T, b1F]
  rw [h.2 u hu ht]
  refine lo_go (fun n j s => m_X9_depth_12 (am_i u) m (fun u4 => some u4) n (am_i (j : Int)) s) (fun j => am_i (an up u (j + 1))) 0 (d u) (by rw [e0]) (Nat.zero_le _) (am_Fv (by omega)) (fun n j _ hj => ?_) (fun n => ?_)
  · obtain ⟨p, h1, h2, h3, h4⟩ := hT.anc hu ht (j + 1) (by omega)
    show m_X9_depth_12 (am_i u) m (fun u4 => some u4) (n + 1) _ (am_i (an up u (j + 1))) = m_X9_depth_12 (am_i u) m (fun u4 => some u4) n _ (am_i (an up u (j + 1 + 1)))
    rw [m_X9_depth_12, Tr.nx h2, h2]
    have h5 := h.2 p h1 h3
    simp (disch := first | assumption | omega) only [i_add, i_sub, i_mul, i_lt, i_le, i_eq, i_ibt, i_ixn, i_ix, i_zero, am_letF, cond_true, cond_false, Option.bind_some, ↓reduceIte, m_si, m_sc, true_and, and_true, not_true_eq_false, not_false_eq_true, i_gtF, i_leT, i_geF, i_ltT, Int32.zero_add, Int.toNat_natCast, ix_own, ix_sum, ix_ver, ix_th, ix_ab, ix_st, ix_vm, ix_lim, ix_lim1, ix_lim2, ix_lim3, Int.toNat_zero, i_neF, i_eqT, b1T, b1F, h5]
    first | done | rfl | (rw [if_neg (by omega)]; done) | (rw [if_neg (by omega)]; rfl) | (rw [if_pos (by omega)]; done) | (rw [if_pos (by omega)]; rfl)
  · show m_X9_depth_12 (am_i u) m (fun u4 => some u4) (n + 1) _ (am_i (an up u (d u + 1))) = _
    rw [m_X9_depth_12, hT.end hu ht, if_pos rfl]
theorem s_X1_isInBranch {u : Nat} {t : Int} (h : TC m o up) (hT : Tr up d) (hu : u < 24) (ht : up u ≠ -2) (h1 : -2147483648 ≤ t) (h2 : t ≤ 2147483647) : m_X1_isInBranch m o (am_i u) (am_i t) = some (am_i (b1 (inB up d u t))) := by
  unfold m_X1_isInBranch
  have hd := hT.2.2.2.1 u
  refine (lo_seek (fun n j s => m_X1_isInBranch_5 o (am_i u) (am_i t) m (am_i t) (some (am_i 0)) n s (am_i (j : Int))) (fun j => am_i (an up u j)) (d u + 1) (fun j => an up u j == t) (fun j => some (am_i 1)) (some (am_i 0)) rfl (am_Fv (by omega)) (fun n j hj hp => ?_) (fun n j hj hp => ?_) (fun n => ?_)).trans ?_
  · obtain ⟨p, g1, g2, g3, g4⟩ := hT.anc hu ht j (by omega)
    have hp : ¬ (p : Int) = t := by rw [← g2]; exact fun e => by rw [e] at hp; simp at hp
    show m_X1_isInBranch_5 o (am_i u) (am_i t) m (am_i t) (some (am_i 0)) (n + 1) (am_i (an up u j)) _ = m_X1_isInBranch_5 o (am_i u) (am_i t) m (am_i t) (some (am_i 0)) n (am_i (an up u (j + 1))) _
    rw [m_X1_isInBranch_5, Tr.nx g2, g2, s_X1_upperOf h hT g1 g3]
    simp (disch := first | assumption | omega) only [i_add, i_sub, i_mul, i_lt, i_le, i_eq, i_ibt, i_ixn, i_ix, i_zero, am_letF, cond_true, cond_false, Option.bind_some, ↓reduceIte, m_si, m_sc, true_and, and_true, not_true_eq_false, not_false_eq_true, i_gtF, i_leT, i_geF, i_ltT, Int32.zero_add, Int.toNat_natCast, ix_own, ix_sum, ix_ver, ix_th, ix_ab, ix_st, ix_vm, ix_lim, ix_lim1, ix_lim2, ix_lim3, Int.toNat_zero, i_neF, i_eqT, b1T, b1F, hp]
    first | done | rfl | (rw [if_neg (by omega)]; done) | (rw [if_neg (by omega)]; rfl) | (rw [if_pos (by omega)]; done) | (rw [if_pos (by omega)]; rfl)
  · obtain ⟨p, g1, g2, g3, g4⟩ := hT.anc hu ht j (by omega)
    have hp : (p : Int) = t := by rw [← g2]; exact eq_of_beq hp
    show m_X1_isInBranch_5 o (am_i u) (am_i t) m (am_i t) (some (am_i 0)) (n + 1) (am_i (an up u j)) _ = _
    rw [m_X1_isInBranch_5, g2]
    simp (disch := first | assumption | omega) only [i_add, i_sub, i_mul, i_lt, i_le, i_eq, i_ibt, i_ixn, i_ix, i_zero, am_letF, cond_true, cond_false, Option.bind_some, ↓reduceIte, m_si, m_sc, true_and, and_true, not_true_eq_false, not_false_eq_true, i_gtF, i_leT, i_geF, i_ltT, Int32.zero_add, Int.toNat_natCast, ix_own, ix_sum, ix_ver, ix_th, ix_ab, ix_st, ix_vm, ix_lim, ix_lim1, ix_lim2, ix_lim3, Int.toNat_zero, i_neF, i_eqT, b1T, b1F, hp]
    first | done | rfl | (rw [if_neg (by omega)]; done) | (rw [if_neg (by omega)]; rfl) | (rw [if_pos (by omega)]; done) | (rw [if_pos (by omega)]; rfl)
  · show m_X1_isInBranch_5 o (am_i u) (am_i t) m (am_i t) (some (am_i 0)) (n + 1) (am_i (an up u (d u + 1))) _ = _
    rw [m_X1_isInBranch_5, hT.end hu ht]
    by_cases c : 12 < ((d u + 1 : Nat) : Int)
    · simp (disch := first | assumption | omega) only [i_add, i_sub, i_mul, i_lt, i_le, i_eq, i_ibt, i_ixn, i_ix, i_zero, am_letF, cond_true, cond_false, Option.bind_some, ↓reduceIte, m_si, m_sc, true_and, and_true, not_true_eq_false, not_false_eq_true, i_gtF, i_leT, i_geF, i_ltT, Int32.zero_add, Int.toNat_natCast, ix_own, ix_sum, ix_ver, ix_th, ix_ab, ix_st, ix_vm, ix_lim, ix_lim1, ix_lim2, ix_lim3, Int.toNat_zero, i_neF, i_eqT, b1T, b1F]
    · simp (disch := first | assumption | omega) only [i_add, i_sub, i_mul, i_lt, i_le, i_eq, i_ibt, i_ixn, i_ix, i_zero, am_letF, cond_true, cond_false, Option.bind_some, ↓reduceIte, m_si, m_sc, true_and, and_true, not_true_eq_false, not_false_eq_true, i_gtF, i_leT, i_geF, i_ltT, Int32.zero_add, Int.toNat_natCast, ix_own, ix_sum, ix_ver, ix_th, ix_ab, ix_st, ix_vm, ix_lim, ix_lim1, ix_lim2, ix_lim3, Int.toNat_zero, i_neF, i_eqT, b1T, b1F]
  · unfold inB b1
    by_cases c : fi (fun j => an up u j == t) (d u + 1) < d u + 1
    · simp [c]
    · simp [c]
theorem s_X9_isIn_ {u : Nat} {t : Int} (h : TM m up) (hT : Tr up d) (hu : u < 24) (ht : up u ≠ -2) (h0 : 0 ≤ t) (h2 : t ≤ 2147483647) : m_X9_isIn_ m (am_i u) (am_i t) = some (am_i (b1 (inB up d u t))) := by
  unfold m_X9_isIn_
  have hd := hT.2.2.2.1 u
  refine (lo_seek (fun n j s => m_X9_isIn__2 (am_i u) (am_i t) m (am_i t) (fun u4 => if ¬ u4 = am_i t then some (am_i 0) else some (am_i 1)) n s) (fun j => am_i (an up u j)) (d u + 1) (fun j => an up u j == t) (fun j => some (am_i 1)) (some (am_i 0)) rfl (am_Fv (by omega)) (fun n j hj hp => ?_) (fun n j hj hp => ?_) (fun n => ?_)).trans ?_
  · obtain ⟨p, g1, g2, g3, g4⟩ := hT.anc hu ht j (by omega)
    have hp : ¬ (p : Int) = t := by rw [← g2]; exact fun e => by rw [e] at hp; simp at hp
    show m_X9_isIn__2 (am_i u) (am_i t) m (am_i t) _ (n + 1) (am_i (an up u j)) = m_X9_isIn__2 (am_i u) (am_i t) m (am_i t) _ n (am_i (an up u (j + 1)))
    rw [m_X9_isIn__2, Tr.nx g2, g2]
    have h5 := h.2 p g1 g3
    simp (disch := first | assumption | omega) only [i_add, i_sub, i_mul, i_lt, i_le, i_eq, i_ibt, i_ixn, i_ix, i_zero, am_letF, cond_true, cond_false, Option.bind_some, ↓reduceIte, m_si, m_sc, true_and, and_true, not_true_eq_false, not_false_eq_true, i_gtF, i_leT, i_geF, i_ltT, Int32.zero_add, Int.toNat_natCast, ix_own, ix_sum, ix_ver, ix_th, ix_ab, ix_st, ix_vm, ix_lim, ix_lim1, ix_lim2, ix_lim3, Int.toNat_zero, i_neF, i_eqT, b1T, b1F, hp, h5]
    first | done | rfl | (rw [if_neg (by omega)]; done) | (rw [if_neg (by omega)]; rfl) | (rw [if_pos (by omega)]; done) | (rw [if_pos (by omega)]; rfl)
  · obtain ⟨p, g1, g2, g3, g4⟩ := hT.anc hu ht j (by omega)
    have hp : (p : Int) = t := by rw [← g2]; exact eq_of_beq hp
    show m_X9_isIn__2 (am_i u) (am_i t) m (am_i t) _ (n + 1) (am_i (an up u j)) = _
    rw [m_X9_isIn__2, g2]
    simp (disch := first | assumption | omega) only [i_add, i_sub, i_mul, i_lt, i_le, i_eq, i_ibt, i_ixn, i_ix, i_zero, am_letF, cond_true, cond_false, Option.bind_some, ↓reduceIte, m_si, m_sc, true_and, and_true, not_true_eq_false, not_false_eq_true, i_gtF, i_leT, i_geF, i_ltT, Int32.zero_add, Int.toNat_natCast, ix_own, ix_sum, ix_ver, ix_th, ix_ab, ix_st, ix_vm, ix_lim, ix_lim1, ix_lim2, ix_lim3, Int.toNat_zero, i_neF, i_eqT, b1T, b1F, hp]
    first | done | rfl | (rw [if_neg (by omega)]; done) | (rw [if_neg (by omega)]; rfl) | (rw [if_pos (by omega)]; done) | (rw [if_pos (by omega)]; rfl)
  · show m_X9_isIn__2 (am_i u) (am_i t) m (am_i t) _ (n + 1) (am_i (an up u (d u + 1))) = _
    rw [m_X9_isIn__2, hT.end hu ht]
    simp (disch := first | assumption | omega) only [i_add, i_sub, i_mul, i_lt, i_le, i_eq, i_ibt, i_ixn, i_ix, i_zero, am_letF, cond_true, cond_false, Option.bind_some, ↓reduceIte, m_si, m_sc, true_and, and_true, not_true_eq_false, not_false_eq_true, i_gtF, i_leT, i_geF, i_ltT, Int32.zero_add, Int.toNat_natCast, ix_own, ix_sum, ix_ver, ix_th, ix_ab, ix_st, ix_vm, ix_lim, ix_lim1, ix_lim2, ix_lim3, Int.toNat_zero, i_neF, i_eqT, b1T, b1F]
    first | done | rfl | (rw [if_neg (by omega)]; done) | (rw [if_neg (by omega)]; rfl) | (rw [if_pos (by omega)]; done) | (rw [if_pos (by omega)]; rfl)
  · unfold inB b1
    by_cases c : fi (fun j => an up u j == t) (d u + 1) < d u + 1
    · simp [c]
    · simp [c]
/-- how many below n P holds of -/
def cn (P : Nat → Bool) (n : Nat) : Nat := su (fun k => b1 (P k)) n
theorem b1_le (b : Bool) : b1 b ≤ 1 := by cases b <;> decide
theorem cn_le (P : Nat → Bool) (n : Nat) : cn P n ≤ n := by
  have := su_b (f := fun k => b1 (P k)) (fun k => b1_le _) n
  unfold cn
  omega
theorem cn_s {P : Nat → Bool} (n : Nat) : ((cn P (n + 1) : Nat) : Int) = (cn P n : Nat) + (b1 (P n) : Nat) := rfl
theorem cn_congr {P Q : Nat → Bool} {n : Nat} (h : ∀ k, k < n → P k = Q k) : cn P n = cn Q n := su_congr n (fun k hk => by show b1 _ = b1 _; rw [h k hk])
theorem s_X1_branchSize {t : Int} (h : TC m o up) (hT : Tr up d) (h1 : -2147483648 ≤ t) (h2 : t ≤ 2147483647) : m_X1_branchSize m o (am_i t) = some (am_i (cn (fun k => thr up k && inB up d k t) 24)) := by
  unfold m_X1_branchSize
  refine lo_go (fun n j s => m_X1_branchSize_4 o (am_i t) m (am_i t) (fun u6 => some u6) n s (am_i (j : Int))) (fun j => am_i (cn (fun k => thr up k && inB up d k t) j : Nat)) 0 24 rfl (by omega) (am_Fv (by omega)) (fun n j _ hj => ?_) (fun n => rfl)
  show m_X1_branchSize_4 o (am_i t) m (am_i t) (fun u6 => some u6) (n + 1) _ _ = _
  rw [m_X1_branchSize_4, s_X1_isThere h hT (by omega) (by omega), cn_s]
  by_cases c : up j = -2
  · rw [thr_f c]
    simp (disch := first | assumption | omega) only [i_add, i_sub, i_mul, i_lt, i_le, i_eq, i_ibt, i_ixn, i_ix, i_zero, am_letF, cond_true, cond_false, Option.bind_some, ↓reduceIte, m_si, m_sc, true_and, and_true, not_true_eq_false, not_false_eq_true, i_gtF, i_leT, i_geF, i_ltT, Int32.zero_add, Int.toNat_natCast, ix_own, ix_sum, ix_ver, ix_th, ix_ab, ix_st, ix_vm, ix_lim, ix_lim1, ix_lim2, ix_lim3, Int.toNat_zero, i_neF, i_eqT, b1T, b1F, Bool.false_and]
    first | done | rfl | (rw [if_neg (by omega)]; done) | (rw [if_neg (by omega)]; rfl) | (rw [if_pos (by omega)]; done) | (rw [if_pos (by omega)]; rfl)
  · rw [thr_t hj c]
    simp (disch := first | assumption | omega) only [i_add, i_sub, i_mul, i_lt, i_le, i_eq, i_ibt, i_ixn, i_ix, i_zero, am_letF, cond_true, cond_false, Option.bind_some, ↓reduceIte, m_si, m_sc, true_and, and_true, not_true_eq_false, not_false_eq_true, i_gtF, i_leT, i_geF, i_ltT, Int32.zero_add, Int.toNat_natCast, ix_own, ix_sum, ix_ver, ix_th, ix_ab, ix_st, ix_vm, ix_lim, ix_lim1, ix_lim2, ix_lim3, Int.toNat_zero, i_neF, i_eqT, b1T, b1F, Bool.true_and]
    rw [s_X1_isInBranch h hT hj c h1 h2]
    cases e : inB up d j t
    · simp (disch := first | assumption | omega) only [i_add, i_sub, i_mul, i_lt, i_le, i_eq, i_ibt, i_ixn, i_ix, i_zero, am_letF, cond_true, cond_false, Option.bind_some, ↓reduceIte, m_si, m_sc, true_and, and_true, not_true_eq_false, not_false_eq_true, i_gtF, i_leT, i_geF, i_ltT, Int32.zero_add, Int.toNat_natCast, ix_own, ix_sum, ix_ver, ix_th, ix_ab, ix_st, ix_vm, ix_lim, ix_lim1, ix_lim2, ix_lim3, Int.toNat_zero, i_neF, i_eqT, b1T, b1F]
      first | done | rfl | (rw [if_neg (by omega)]; done) | (rw [if_neg (by omega)]; rfl) | (rw [if_pos (by omega)]; done) | (rw [if_pos (by omega)]; rfl)
    · simp (disch := first | assumption | omega) only [i_add, i_sub, i_mul, i_lt, i_le, i_eq, i_ibt, i_ixn, i_ix, i_zero, am_letF, cond_true, cond_false, Option.bind_some, ↓reduceIte, m_si, m_sc, true_and, and_true, not_true_eq_false, not_false_eq_true, i_gtF, i_leT, i_geF, i_ltT, Int32.zero_add, Int.toNat_natCast, ix_own, ix_sum, ix_ver, ix_th, ix_ab, ix_st, ix_vm, ix_lim, ix_lim1, ix_lim2, ix_lim3, Int.toNat_zero, i_neF, i_eqT, b1T, b1F]
      first | done | rfl | (rw [if_neg (by omega)]; done) | (rw [if_neg (by omega)]; rfl) | (rw [if_pos (by omega)]; done) | (rw [if_pos (by omega)]; rfl)
theorem s_X9_branchMany {t : Int} (h : TM m up) (hT : Tr up d) (h0 : 0 ≤ t) (h2 : t ≤ 2147483647) : m_X9_branchMany m (am_i t) = some (am_i (cn (fun k => thr up k && inB up d k t) 24)) := by
  unfold m_X9_branchMany
  refine lo_go (fun n j s => m_X9_branchMany_4 (am_i t) m (am_i t) (fun u6 => some u6) n s (am_i (j : Int))) (fun j => am_i (cn (fun k => thr up k && inB up d k t) j : Nat)) 0 24 rfl (by omega) (am_Fv (by omega)) (fun n j _ hj => ?_) (fun n => rfl)
  show m_X9_branchMany_4 (am_i t) m (am_i t) (fun u6 => some u6) (n + 1) _ _ = _
  rw [m_X9_branchMany_4, s_X9_isUnit h (by omega) (by omega), cn_s]
  by_cases c : up j = -2
  · rw [thr_f c]
    simp (disch := first | assumption | omega) only [i_add, i_sub, i_mul, i_lt, i_le, i_eq, i_ibt, i_ixn, i_ix, i_zero, am_letF, cond_true, cond_false, Option.bind_some, ↓reduceIte, m_si, m_sc, true_and, and_true, not_true_eq_false, not_false_eq_true, i_gtF, i_leT, i_geF, i_ltT, Int32.zero_add, Int.toNat_natCast, ix_own, ix_sum, ix_ver, ix_th, ix_ab, ix_st, ix_vm, ix_lim, ix_lim1, ix_lim2, ix_lim3, Int.toNat_zero, i_neF, i_eqT, b1T, b1F, Bool.false_and]
    first | done | rfl | (rw [if_neg (by omega)]; done) | (rw [if_neg (by omega)]; rfl) | (rw [if_pos (by omega)]; done) | (rw [if_pos (by omega)]; rfl)
  · rw [thr_t hj c]
    simp (disch := first | assumption | omega) only [i_add, i_sub, i_mul, i_lt, i_le, i_eq, i_ibt, i_ixn, i_ix, i_zero, am_letF, cond_true, cond_false, Option.bind_some, ↓reduceIte, m_si, m_sc, true_and, and_true, not_true_eq_false, not_false_eq_true, i_gtF, i_leT, i_geF, i_ltT, Int32.zero_add, Int.toNat_natCast, ix_own, ix_sum, ix_ver, ix_th, ix_ab, ix_st, ix_vm, ix_lim, ix_lim1, ix_lim2, ix_lim3, Int.toNat_zero, i_neF, i_eqT, b1T, b1F, Bool.true_and]
    rw [s_X9_isIn_ h hT hj c h0 h2]
    cases e : inB up d j t
    · simp (disch := first | assumption | omega) only [i_add, i_sub, i_mul, i_lt, i_le, i_eq, i_ibt, i_ixn, i_ix, i_zero, am_letF, cond_true, cond_false, Option.bind_some, ↓reduceIte, m_si, m_sc, true_and, and_true, not_true_eq_false, not_false_eq_true, i_gtF, i_leT, i_geF, i_ltT, Int32.zero_add, Int.toNat_natCast, ix_own, ix_sum, ix_ver, ix_th, ix_ab, ix_st, ix_vm, ix_lim, ix_lim1, ix_lim2, ix_lim3, Int.toNat_zero, i_neF, i_eqT, b1T, b1F]
      first | done | rfl | (rw [if_neg (by omega)]; done) | (rw [if_neg (by omega)]; rfl) | (rw [if_pos (by omega)]; done) | (rw [if_pos (by omega)]; rfl)
    · simp (disch := first | assumption | omega) only [i_add, i_sub, i_mul, i_lt, i_le, i_eq, i_ibt, i_ixn, i_ix, i_zero, am_letF, cond_true, cond_false, Option.bind_some, ↓reduceIte, m_si, m_sc, true_and, and_true, not_true_eq_false, not_false_eq_true, i_gtF, i_leT, i_geF, i_ltT, Int32.zero_add, Int.toNat_natCast, ix_own, ix_sum, ix_ver, ix_th, ix_ab, ix_st, ix_vm, ix_lim, ix_lim1, ix_lim2, ix_lim3, Int.toNat_zero, i_neF, i_eqT, b1T, b1F]
      first | done | rfl | (rw [if_neg (by omega)]; done) | (rw [if_neg (by omega)]; rfl) | (rw [if_pos (by omega)]; done) | (rw [if_pos (by omega)]; rfl)
/-- how many lie right below -/
def lowC (up : Nat → Int) (t : Int) : Nat := cn (fun k => up k == t) 24
theorem s_X1_lowerCount {t : Int} (h : TC m o up) (hT : Tr up d) (ht : thr up t = true) : m_X1_lowerCount m o (am_i t) = some (am_i (lowC up t)) := by
  obtain ⟨q, hq, rfl, hq2⟩ := thr_i ht
  unfold m_X1_lowerCount lowC
  refine lo_go (fun n j s => m_X1_lowerCount_4 o (am_i q) m (am_i q) (fun u6 => some u6) n s (am_i (j : Int))) (fun j => am_i (cn (fun k => up k == (q : Int)) j : Nat)) 0 24 rfl (by omega) (am_Fv (by omega)) (fun n j _ hj => ?_) (fun n => rfl)
  show m_X1_lowerCount_4 o (am_i q) m (am_i q) (fun u6 => some u6) (n + 1) _ _ = _
  have e1 := hT.2.2.1 j
  have h' := h j hj
  rw [m_X1_lowerCount_4, s_X1_isThere h hT (by omega) (by omega), ht, cn_s]
  by_cases c : up j = q
  · rw [show (up j == (q : Int)) = true by rw [c]; exact beq_self_eq_true _]
    simp (disch := first | assumption | omega) only [i_add, i_sub, i_mul, i_lt, i_le, i_eq, i_ibt, i_ixn, i_ix, i_zero, am_letF, cond_true, cond_false, Option.bind_some, ↓reduceIte, m_si, m_sc, true_and, and_true, not_true_eq_false, not_false_eq_true, i_gtF, i_leT, i_geF, i_ltT, Int32.zero_add, Int.toNat_natCast, ix_own, ix_sum, ix_ver, ix_th, ix_ab, ix_st, ix_vm, ix_lim, ix_lim1, ix_lim2, ix_lim3, Int.toNat_zero, i_neF, i_eqT, b1T, b1F, h']
    first | done | rfl | (rw [if_neg (by omega)]; done) | (rw [if_neg (by omega)]; rfl) | (rw [if_pos (by omega)]; done) | (rw [if_pos (by omega)]; rfl)
  · rw [show (up j == (q : Int)) = false from beq_eq_false_iff_ne.mpr c]
    simp (disch := first | assumption | omega) only [i_add, i_sub, i_mul, i_lt, i_le, i_eq, i_ibt, i_ixn, i_ix, i_zero, am_letF, cond_true, cond_false, Option.bind_some, ↓reduceIte, m_si, m_sc, true_and, and_true, not_true_eq_false, not_false_eq_true, i_gtF, i_leT, i_geF, i_ltT, Int32.zero_add, Int.toNat_natCast, ix_own, ix_sum, ix_ver, ix_th, ix_ab, ix_st, ix_vm, ix_lim, ix_lim1, ix_lim2, ix_lim3, Int.toNat_zero, i_neF, i_eqT, b1T, b1F, h']
    first | done | rfl | (rw [if_neg (by omega)]; done) | (rw [if_neg (by omega)]; rfl) | (rw [if_pos (by omega)]; done) | (rw [if_pos (by omega)]; rfl)
theorem s_X1_lowerCount0 {t : Int} (h : TC m o up) (hT : Tr up d) (h1 : -2147483648 ≤ t) (h2 : t ≤ 2147483647) (ht : thr up t = false) : m_X1_lowerCount m o (am_i t) = some (am_i 0) := by
  unfold m_X1_lowerCount
  refine lo_go (fun n j s => m_X1_lowerCount_4 o (am_i t) m (am_i t) (fun u6 => some u6) n s (am_i (j : Int))) (fun j => am_i 0) 0 24 rfl (by omega) (am_Fv (by omega)) (fun n j _ hj => ?_) (fun n => rfl)
  show m_X1_lowerCount_4 o (am_i t) m (am_i t) (fun u6 => some u6) (n + 1) _ _ = _
  rw [m_X1_lowerCount_4, s_X1_isThere h hT h1 h2, ht]
  simp (disch := first | assumption | omega) only [i_add, i_sub, i_mul, i_lt, i_le, i_eq, i_ibt, i_ixn, i_ix, i_zero, am_letF, cond_true, cond_false, Option.bind_some, ↓reduceIte, m_si, m_sc, true_and, and_true, not_true_eq_false, not_false_eq_true, i_gtF, i_leT, i_geF, i_ltT, Int32.zero_add, Int.toNat_natCast, ix_own, ix_sum, ix_ver, ix_th, ix_ab, ix_st, ix_vm, ix_lim, ix_lim1, ix_lim2, ix_lim3, Int.toNat_zero, i_neF, i_eqT, b1T, b1F]
  first | done | rfl | (rw [if_neg (by omega)]; done) | (rw [if_neg (by omega)]; rfl) | (rw [if_pos (by omega)]; done) | (rw [if_pos (by omega)]; rfl)
theorem s_X9_belowMany {q : Nat} (h : TM m up) (hT : Tr up d) (hq : q < 24) : m_X9_belowMany m (am_i q) = some (am_i (lowC up q)) := by
  unfold m_X9_belowMany lowC
  refine lo_go (fun n j s => m_X9_belowMany_4 (am_i q) m (am_i q) (fun u6 => some u6) n s (am_i (j : Int))) (fun j => am_i (cn (fun k => up k == (q : Int)) j : Nat)) 0 24 rfl (by omega) (am_Fv (by omega)) (fun n j _ hj => ?_) (fun n => rfl)
  show m_X9_belowMany_4 (am_i q) m (am_i q) (fun u6 => some u6) (n + 1) _ _ = _
  have e1 := hT.2.2.1 j
  rw [m_X9_belowMany_4, s_X9_isUnit h (by omega) (by omega), cn_s]
  by_cases c0 : up j = -2
  · rw [thr_f c0, show (up j == (q : Int)) = false from beq_eq_false_iff_ne.mpr (by omega)]
    simp (disch := first | assumption | omega) only [i_add, i_sub, i_mul, i_lt, i_le, i_eq, i_ibt, i_ixn, i_ix, i_zero, am_letF, cond_true, cond_false, Option.bind_some, ↓reduceIte, m_si, m_sc, true_and, and_true, not_true_eq_false, not_false_eq_true, i_gtF, i_leT, i_geF, i_ltT, Int32.zero_add, Int.toNat_natCast, ix_own, ix_sum, ix_ver, ix_th, ix_ab, ix_st, ix_vm, ix_lim, ix_lim1, ix_lim2, ix_lim3, Int.toNat_zero, i_neF, i_eqT, b1T, b1F]
    first | done | rfl | (rw [if_neg (by omega)]; done) | (rw [if_neg (by omega)]; rfl) | (rw [if_pos (by omega)]; done) | (rw [if_pos (by omega)]; rfl)
  · have h' := h.2 j hj c0
    rw [thr_t hj c0]
    by_cases c : up j = q
    · rw [show (up j == (q : Int)) = true by rw [c]; exact beq_self_eq_true _]
      simp (disch := first | assumption | omega) only [i_add, i_sub, i_mul, i_lt, i_le, i_eq, i_ibt, i_ixn, i_ix, i_zero, am_letF, cond_true, cond_false, Option.bind_some, ↓reduceIte, m_si, m_sc, true_and, and_true, not_true_eq_false, not_false_eq_true, i_gtF, i_leT, i_geF, i_ltT, Int32.zero_add, Int.toNat_natCast, ix_own, ix_sum, ix_ver, ix_th, ix_ab, ix_st, ix_vm, ix_lim, ix_lim1, ix_lim2, ix_lim3, Int.toNat_zero, i_neF, i_eqT, b1T, b1F, h']
      first | done | rfl | (rw [if_neg (by omega)]; done) | (rw [if_neg (by omega)]; rfl) | (rw [if_pos (by omega)]; done) | (rw [if_pos (by omega)]; rfl)
    · rw [show (up j == (q : Int)) = false from beq_eq_false_iff_ne.mpr c]
      simp (disch := first | assumption | omega) only [i_add, i_sub, i_mul, i_lt, i_le, i_eq, i_ibt, i_ixn, i_ix, i_zero, am_letF, cond_true, cond_false, Option.bind_some, ↓reduceIte, m_si, m_sc, true_and, and_true, not_true_eq_false, not_false_eq_true, i_gtF, i_leT, i_geF, i_ltT, Int32.zero_add, Int.toNat_natCast, ix_own, ix_sum, ix_ver, ix_th, ix_ab, ix_st, ix_vm, ix_lim, ix_lim1, ix_lim2, ix_lim3, Int.toNat_zero, i_neF, i_eqT, b1T, b1F, h']
      first | done | rfl | (rw [if_neg (by omega)]; done) | (rw [if_neg (by omega)]; rfl) | (rw [if_pos (by omega)]; done) | (rw [if_pos (by omega)]; rfl)
/-- the i-th right below: the first k that is right below with i of them ahead -/
def lowA (up : Nat → Int) (t : Int) (i : Int) : Nat := fi (fun k => (up k == t) && ((cn (fun k => up k == t) k : Nat) : Int) == i) 24
def lowI (up : Nat → Int) (t : Int) (i : Int) : Int := if lowA up t i < 24 then (lowA up t i : Int) else -1
theorem s_X1_lowerAt {q : Nat} {i : Int} (h : TC m o up) (hT : Tr up d) (hq : q < 24) (ht : up q ≠ -2) (h1 : -2147483648 ≤ i) (h2 : i ≤ 2147483647) : m_X1_lowerAt m o (am_i q) (am_i i) = some (am_i (lowI up q i)) := by
  unfold m_X1_lowerAt
  rw [s_X1_isThere h hT (by omega) (by omega), thr_t hq ht, Option.bind_some, if_neg (by rw [b1T]; decide)]
  by_cases c : 0 ≤ i
  · rw [if_pos (by rw [i_zero, i_le (by decide) (by decide) h1 h2]; exact c)]
    refine (lo_seek (fun n j s => m_X1_lowerAt_19 o (am_i q) (am_i i) m (am_i q) (am_i i) (some (am_i (-1))) n s (am_i (j : Int))) (fun j => am_i (cn (fun k => up k == (q : Int)) j : Nat)) 24 (fun k => (up k == (q : Int)) && ((cn (fun k => up k == (q : Int)) k : Nat) : Int) == i) (fun j => some (am_i (j : Int))) (some (am_i (-1))) rfl (am_Fv (by omega)) (fun n j hj hp => ?_) (fun n j hj hp => ?_) (fun n => rfl)).trans ?_
    · show m_X1_lowerAt_19 o (am_i q) (am_i i) m (am_i q) (am_i i) (some (am_i (-1))) (n + 1) _ _ = _
      have e1 := hT.2.2.1 j
      have e2 := cn_le (fun k => up k == (q : Int)) j
      have h' := h j hj
      rw [m_X1_lowerAt_19, cn_s]
      by_cases c : up j = q
      · rw [show (up j == (q : Int)) = true by rw [c]; exact beq_self_eq_true _] at hp ⊢
        have hp : ¬ ((cn (fun k => up k == (q : Int)) j : Nat) : Int) = i := fun e => by rw [Bool.true_and, beq_eq_false_iff_ne] at hp; exact hp e
        simp (disch := first | assumption | omega) only [i_add, i_sub, i_mul, i_lt, i_le, i_eq, i_ibt, i_ixn, i_ix, i_zero, am_letF, cond_true, cond_false, Option.bind_some, ↓reduceIte, m_si, m_sc, true_and, and_true, not_true_eq_false, not_false_eq_true, i_gtF, i_leT, i_geF, i_ltT, Int32.zero_add, Int.toNat_natCast, ix_own, ix_sum, ix_ver, ix_th, ix_ab, ix_st, ix_vm, ix_lim, ix_lim1, ix_lim2, ix_lim3, Int.toNat_zero, i_neF, i_eqT, b1T, b1F, h', hp]
        first | done | rfl | (rw [if_neg (by omega)]; done) | (rw [if_neg (by omega)]; rfl) | (rw [if_pos (by omega)]; done) | (rw [if_pos (by omega)]; rfl)
      · rw [show (up j == (q : Int)) = false from beq_eq_false_iff_ne.mpr c]
        simp (disch := first | assumption | omega) only [i_add, i_sub, i_mul, i_lt, i_le, i_eq, i_ibt, i_ixn, i_ix, i_zero, am_letF, cond_true, cond_false, Option.bind_some, ↓reduceIte, m_si, m_sc, true_and, and_true, not_true_eq_false, not_false_eq_true, i_gtF, i_leT, i_geF, i_ltT, Int32.zero_add, Int.toNat_natCast, ix_own, ix_sum, ix_ver, ix_th, ix_ab, ix_st, ix_vm, ix_lim, ix_lim1, ix_lim2, ix_lim3, Int.toNat_zero, i_neF, i_eqT, b1T, b1F, h']
        first | done | rfl | (rw [if_neg (by omega)]; done) | (rw [if_neg (by omega)]; rfl) | (rw [if_pos (by omega)]; done) | (rw [if_pos (by omega)]; rfl)
    · show m_X1_lowerAt_19 o (am_i q) (am_i i) m (am_i q) (am_i i) (some (am_i (-1))) (n + 1) _ _ = _
      have e1 := hT.2.2.1 j
      have e2 := cn_le (fun k => up k == (q : Int)) j
      have h' := h j hj
      rw [Bool.and_eq_true] at hp
      have c := eq_of_beq hp.1
      have hp := eq_of_beq hp.2
      rw [m_X1_lowerAt_19]
      simp (disch := first | assumption | omega) only [i_add, i_sub, i_mul, i_lt, i_le, i_eq, i_ibt, i_ixn, i_ix, i_zero, am_letF, cond_true, cond_false, Option.bind_some, ↓reduceIte, m_si, m_sc, true_and, and_true, not_true_eq_false, not_false_eq_true, i_gtF, i_leT, i_geF, i_ltT, Int32.zero_add, Int.toNat_natCast, ix_own, ix_sum, ix_ver, ix_th, ix_ab, ix_st, ix_vm, ix_lim, ix_lim1, ix_lim2, ix_lim3, Int.toNat_zero, i_neF, i_eqT, b1T, b1F, h', hp]
      first | done | rfl | (rw [if_neg (by omega)]; done) | (rw [if_neg (by omega)]; rfl) | (rw [if_pos (by omega)]; done) | (rw [if_pos (by omega)]; rfl)
    · unfold lowI lowA
      generalize fi _ 24 = k
      by_cases e : k < 24
      · rw [if_pos e, if_pos e]
      · rw [if_neg e, if_neg e]
  · rw [if_neg (by rw [i_zero, i_le (by decide) (by decide) h1 h2]; exact c)]
    unfold lowI
    rw [if_neg]
    unfold lowA
    rw [show fi (fun k => (up k == (q : Int)) && ((cn (fun k => up k == (q : Int)) k : Nat) : Int) == i) 24 = 24 from fi_eq (fun j _ => by
      have : ¬ ((cn (fun k => up k == (q : Int)) j : Nat) : Int) = i := by omega
      rw [beq_eq_false_iff_ne.mpr this, Bool.and_false]) (fun e => absurd e (by decide)) (by decide)]
    decide
end MT
