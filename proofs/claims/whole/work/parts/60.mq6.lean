/-! ===== mathematics: calls that ask, 6: hops, chain ===== -/
section Q6
variable {up : Nat → Int} {d : Nat → Nat}
theorem an_add {u j p : Nat} (h : an up u j = (p : Int)) : ∀ i, an up p i = an up u (j + i) := by
  intro i
  induction i with
  | zero => rw [Nat.add_zero, h]; rfl
  | succ i ih =>
    show (if an up p i < 0 then -1 else up (an up p i).toNat) = (if an up u (j + i) < 0 then -1 else up (an up u (j + i)).toNat)
    rw [ih]
/-- k is one of the first J from u up -/
def ancP (up : Nat → Int) (u J k : Nat) : Bool := decide (fi (fun j => an up u j == (k : Int)) J < J)
theorem ancP_i {u J k : Nat} : ancP up u J k = true ↔ ∃ j, j < J ∧ an up u j = (k : Int) := by
  unfold ancP
  rw [decide_eq_true_iff]
  constructor
  · intro h
    exact ⟨_, h, by have := fi_is (fun j => an up u j == (k : Int)) J h; simpa using this⟩
  · rintro ⟨j, h1, h2⟩
    rcases Nat.lt_or_ge (fi (fun j => an up u j == (k : Int)) J) J with h | h
    · exact h
    · have := fi_no (fun j => an up u j == (k : Int)) J j (by omega)
      rw [h2] at this
      simp at this
theorem ancP_cn (hT : Tr up d) {u : Nat} (hu : u < 24) (ht : up u ≠ -2) : ∀ J, J ≤ d u + 1 → cn (ancP up u J) 24 = J := by
  intro J
  induction J with
  | zero =>
    intro _
    refine su_0 (fun c _ => ?_)
    show b1 (ancP up u 0 c) = 0
    rfl
  | succ J ih =>
    intro hJ
    obtain ⟨p, h1, h2, h3, h4⟩ := hT.anc hu ht J (by omega)
    have e : cn (ancP up u (J + 1)) 24 = cn (ancP up u J) 24 + 1 := by
      refine cn_one (k := p) h1 (fun k hk hkp => ?_) ?_ (ancP_i.mpr ⟨J, by omega, h2⟩)
      · by_cases c : ancP up u J k = true
        · obtain ⟨j, j1, j2⟩ := ancP_i.mp c
          rw [c, ancP_i.mpr ⟨j, by omega, j2⟩]
        · rw [Bool.eq_false_iff.mpr c]
          refine (Bool.eq_false_iff.mpr (fun z => ?_)).symm
          obtain ⟨j, j1, j2⟩ := ancP_i.mp z
          by_cases q : j = J
          · rw [q, h2] at j2
            omega
          · exact c (ancP_i.mpr ⟨j, by omega, j2⟩)
      · refine Bool.eq_false_iff.mpr (fun z => ?_)
        obtain ⟨j, j1, j2⟩ := ancP_i.mp z
        obtain ⟨p', g1, g2, g3, g4⟩ := hT.anc hu ht j (by omega)
        rw [j2] at g2
        have : p' = p := by omega
        rw [this] at g4
        omega
    rw [e, ih (by omega)]
/-- from a up to t: as many as they lie apart, and one -/
theorem path_cn (hT : Tr up d) {a t : Nat} (ha : a < 24) (ha2 : up a ≠ -2) (h : inB up d a t = true) : cn (fun k => inB up d k t && inB up d a k && thr up k) 24 = d a - d t + 1 := by
  obtain ⟨w, w1, w2, w3⟩ := inB_e hT ha ha2 h
  rw [← ancP_cn hT ha ha2 (d a - d t + 1) (by omega)]
  refine cn_congr (fun k hk => ?_)
  have key : (inB up d k t && inB up d a k && thr up (k : Int)) = true ↔ ancP up a (d a - d t + 1) k = true := by
    rw [Bool.and_eq_true, Bool.and_eq_true, ancP_i]
    constructor
    · rintro ⟨⟨h1, h2⟩, h3⟩
      obtain ⟨k', hk', ek, hk2⟩ := thr_i h3
      have ek' : k = k' := by omega
      subst ek'
      obtain ⟨j, j1, j2, j3⟩ := inB_e hT ha ha2 h2
      have := (inB_d hT hk hk2 h1).1
      exact ⟨j, by omega, j2⟩
    · rintro ⟨j, j1, j2⟩
      obtain ⟨p, p1, p2, p3, p4⟩ := hT.anc ha ha2 j (by omega)
      rw [j2] at p2
      have : p = k := by omega
      subst this
      refine ⟨⟨?_, inB_i j2 (by omega)⟩, thr_t p1 p3⟩
      refine inB_i (j := w - j) ?_ (by omega)
      rw [an_add j2, show j + (w - j) = w by omega]
      exact w2
  cases c : ancP up a (d a - d t + 1) k
  · exact Bool.eq_false_iff.mpr (fun z => by rw [key.mp z] at c; cases c)
  · exact key.mpr c
theorem cn_or {P Q : Nat → Bool} : ∀ n, cn (fun k => P k || Q k) n + cn (fun k => P k && Q k) n = cn P n + cn Q n := by
  intro n
  induction n with
  | zero => rfl
  | succ n ih =>
    show cn (fun k => P k || Q k) n + b1 (P n || Q n) + (cn (fun k => P k && Q k) n + b1 (P n && Q n)) = cn P n + b1 (P n) + (cn Q n + b1 (Q n))
    cases P n <;> cases Q n <;> simp only [Bool.or_false, Bool.or_true, Bool.and_false, Bool.and_true, Bool.false_or, Bool.true_or, Bool.false_and, Bool.true_and] <;> omega
/-- on the way between two that meet at t -/
def btP (up : Nat → Int) (d : Nat → Nat) (a b t k : Nat) : Bool := inB up d k t && (inB up d a k || inB up d b k)
theorem inB_t {u v w : Nat} (hT : Tr up d) (hu : u < 24) (hu2 : up u ≠ -2) (h : inB up d u v = true) (h2 : inB up d v w = true) : inB up d u w = true := by
  obtain ⟨i, i1, i2, i3⟩ := inB_e hT hu hu2 h
  have hv := inB_d hT hu hu2 h
  obtain ⟨j, j1, j2, j3⟩ := inB_e hT hv.2.1 hv.2.2 h2
  refine inB_i (j := i + j) ?_ (by omega)
  rw [← an_add i2]
  exact j2
/-- where two meet: both lie in its branch, and nothing below it has both in its own -/
theorem me_is (hT : Tr up d) {a b : Nat} (ha : a < 24) (ha2 : up a ≠ -2) (hb : b < 24) (hb2 : up b ≠ -2) : ∃ t : Nat, t < 24 ∧ up t ≠ -2 ∧ meI up d a b = (t : Int) ∧ inB up d a t = true ∧ inB up d b t = true ∧ ∀ k, k < 24 → up k ≠ -2 → inB up d a k = true → inB up d b k = true → inB up d k t = true → k = t := by
  have h1 := meJ_lt hT ha ha2 hb hb2
  obtain ⟨t, t1, t2, t3, t4⟩ := hT.anc ha ha2 (meJ up d a b) (by omega)
  have e : meI up d a b = (t : Int) := by
    unfold meI
    rw [thr_t ha ha2, thr_t hb hb2, if_pos (show (true && true) = true from rfl), Int.toNat_natCast, Int.toNat_natCast]
    exact t2
  have hbt : inB up d b t = true := by
    have := fi_is (fun j => inB up d b (an up a j)) (d a + 1) h1
    change inB up d b (an up a (meJ up d a b)) = true at this
    rw [t2] at this
    exact this
  refine ⟨t, t1, t3, e, inB_i t2 (by omega), hbt, fun k hk hk2 q1 q2 q3 => ?_⟩
  obtain ⟨i, i1, i2, i3⟩ := inB_e hT ha ha2 q1
  have dk := inB_d hT hk hk2 q3
  have : meJ up d a b ≤ i := by
    rcases Nat.lt_or_ge i (meJ up d a b) with z | z
    · have := fi_no (fun j => inB up d b (an up a j)) (d a + 1) i z
      rw [i2, q2] at this
      cases this
    · exact z
  have : i = meJ up d a b := by omega
  rw [this, t2] at i2
  omega
theorem hops_cn (hT : Tr up d) {a b t : Nat} (ha : a < 24) (ha2 : up a ≠ -2) (hb : b < 24) (hb2 : up b ≠ -2) (ht : t < 24) (ht2 : up t ≠ -2) (h1 : inB up d a t = true) (h2 : inB up d b t = true) (h3 : ∀ k, k < 24 → up k ≠ -2 → inB up d a k = true → inB up d b k = true → inB up d k t = true → k = t) : ((cn (fun k => thr up k && btP up d a b t k) 24 : Nat) : Int) = (d a : Int) + (d b : Int) - 2 * (d t : Int) + 1 := by
  have c1 := path_cn hT ha ha2 h1
  have c2 := path_cn hT hb hb2 h2
  have c3 := cn_or (P := fun k => inB up d k t && inB up d a k && thr up (k : Int)) (Q := fun k => inB up d k t && inB up d b k && thr up (k : Int)) 24
  rw [c1, c2] at c3
  have e1 : cn (fun k => thr up k && btP up d a b t k) 24 = cn (fun k => (inB up d k t && inB up d a k && thr up (k : Int)) || (inB up d k t && inB up d b k && thr up (k : Int))) 24 := by
    refine cn_congr (fun k hk => ?_)
    unfold btP
    cases thr up (k : Int) <;> cases inB up d k t <;> cases inB up d a k <;> cases inB up d b k <;> rfl
  have e2 : cn (fun k => (inB up d k t && inB up d a k && thr up (k : Int)) && (inB up d k t && inB up d b k && thr up (k : Int))) 24 = 1 := by
    have := cn_one (P := fun _ => false) (Q := fun k => (inB up d k t && inB up d a k && thr up (k : Int)) && (inB up d k t && inB up d b k && thr up (k : Int))) (n := 24) (k := t) ht (fun k hk hkt => ?_) rfl (by
      show ((inB up d t t && inB up d a t && thr up (t : Int)) && (inB up d t t && inB up d b t && thr up (t : Int))) = true
      rw [inB_self, h1, h2, thr_t ht ht2]
      rfl)
    · rw [this, show cn (fun _ => false) 24 = 0 from su_0 (fun _ _ => rfl)]
    · symm
      refine Bool.eq_false_iff.mpr (fun z => hkt ?_)
      simp only [Bool.and_eq_true] at z
      obtain ⟨⟨⟨z1, z2⟩, z3⟩, ⟨z4, z5⟩, z6⟩ := z
      obtain ⟨k', hk', ek, hk2⟩ := thr_i z3
      have ek' : k = k' := by omega
      subst ek'
      exact h3 k hk hk2 z2 z5 z1
  have d1 := (inB_d hT ha ha2 h1).1
  have d2 := (inB_d hT hb hb2 h2).1
  rw [e1]
  omega
variable {m : am_m} {r : am_rr} {s : Sx}
theorem s_X9_isBetween {a b t k : Nat} (h : GS m r s) (ha : a < 24) (ha2 : gU (xG s) a ≠ -2) (hb : b < 24) (hb2 : gU (xG s) b ≠ -2) (hk : k < 24) (hk2 : gU (xG s) k ≠ -2) (e : meI (gU (xG s)) (gD (xG s)) a b = (t : Int)) (ht : t < 24) : m_X9_isBetween m (am_i k) (am_i a) (am_i b) = some (am_i (b1 (btP (gU (xG s)) (gD (xG s)) a b t k))) := by
  unfold m_X9_isBetween
  have e1 := s_X9_both h.tm h.tr (x := a) (y := b) (by omega) (by omega) (by omega) (by omega)
  rw [e] at e1
  rw [e1, Option.bind_some, s_X9_isIn_ h.tm h.tr hk hk2 (by omega) (by omega), s_X9_isIn_ h.tm h.tr ha ha2 (by omega) (by omega), s_X9_isIn_ h.tm h.tr hb hb2 (by omega) (by omega)]
  unfold btP
  cases inB (gU (xG s)) (gD (xG s)) k t <;> cases inB (gU (xG s)) (gD (xG s)) a k <;> cases inB (gU (xG s)) (gD (xG s)) b k <;> rfl
theorem s_X1_isOnChain {a b t k : Nat} (h : GS m r s) (ha : a < 24) (ha2 : gU (xG s) a ≠ -2) (hb : b < 24) (hb2 : gU (xG s) b ≠ -2) (hk : k < 24) (ht : t < 24) : m_X1_isOnChain m 4 (am_i k) (am_i a) (am_i b) (am_i t) = some (am_i (b1 (thr (gU (xG s)) k && btP (gU (xG s)) (gD (xG s)) a b t k))) := by
  unfold m_X1_isOnChain
  rw [s_t8 h (by omega) (by omega), Option.bind_some]
  cases c : thr (gU (xG s)) (k : Int)
  · rfl
  · obtain ⟨k', hk', ek, hk2⟩ := thr_i c
    have ek' : k = k' := by omega
    subst ek'
    rw [s_X1_isInBranch h.tc h.tr hk hk2 (by omega) (by omega), s_X1_isInBranch h.tc h.tr ha ha2 (by omega) (by omega), s_X1_isInBranch h.tc h.tr hb hb2 (by omega) (by omega)]
    unfold btP
    cases inB (gU (xG s)) (gD (xG s)) k t <;> cases inB (gU (xG s)) (gD (xG s)) a k <;> cases inB (gU (xG s)) (gD (xG s)) b k <;> rfl
theorem q_hops (h : GS m r s) (a b : Int32) : ∃ y, m_X8_hops m a b = some y ∧ m_X9_hops m a b = some y := by
  obtain ⟨x, h1, h2, rfl⟩ := i_any a
  obtain ⟨z, h3, h4, rfl⟩ := i_any b
  unfold m_X8_hops m_X9_hops
  rw [s_X1_meetingOf h.tc h.tr h1 h2 h3 h4, s_t9 h h1 h2, s_t9 h h3 h4]
  cases c : thr (gU (xG s)) x
  · have e : meI (gU (xG s)) (gD (xG s)) x z = -1 := by unfold meI; rw [c]; rfl
    rw [e]
    exact ⟨_, rfl, rfl⟩
  · cases c2 : thr (gU (xG s)) z
    · have e : meI (gU (xG s)) (gD (xG s)) x z = -1 := by unfold meI; rw [c, c2]; rfl
      rw [e]
      exact ⟨_, rfl, rfl⟩
    · obtain ⟨u, hu, rfl, hu2⟩ := thr_i c
      obtain ⟨v, hv, rfl, hv2⟩ := thr_i c2
      obtain ⟨t, t1, t2, t3, t4, t5, t6⟩ := me_is h.tr hu hu2 hv hv2
      have hc := hops_cn h.tr hu hu2 hv hv2 t1 t2 t4 t5 t6
      refine ⟨am_i ((cn (fun k => thr (gU (xG s)) k && btP (gU (xG s)) (gD (xG s)) u v t k) 24 : Nat) : Int), ?_, ?_⟩
      · rw [t3, Option.bind_some, if_pos (by rw [i_eq (by omega) (by omega) (by omega) (by omega)]; omega), s_X1_depthOf h.tc h.tr hu hu2, s_X1_depthOf h.tc h.tr hv hv2, s_X1_depthOf h.tc h.tr t1 t2, Option.bind_some, Option.bind_some, Option.bind_some, i_add, i_mul, i_sub, i_add, hc]
      · rw [Option.bind_some, if_neg (by decide), Option.bind_some, if_pos (by decide)]
        refine lo_go (fun n j w => m_X9_hops_23 (am_i u) (am_i v) m (am_i u) (am_i v) (fun u10 => some u10) n w (am_i (j : Int))) (fun j => am_i (cn (fun k => thr (gU (xG s)) k && btP (gU (xG s)) (gD (xG s)) u v t k) j : Nat)) 0 24 rfl (by omega) (am_Fv (by omega)) (fun n j _ hj => ?_) (fun n => rfl)
        show m_X9_hops_23 _ _ m _ _ _ (n + 1) _ _ = m_X9_hops_23 _ _ m _ _ _ n (am_i ((cn (fun k => thr (gU (xG s)) k && btP (gU (xG s)) (gD (xG s)) u v t k) (j + 1) : Nat) : Int)) _
        rw [m_X9_hops_23, cn_s, s_t9 h (by omega) (by omega)]
        cases c3 : thr (gU (xG s)) (j : Int)
        · rw [Bool.false_and]
          (simp (disch := first | assumption | omega) only [i_add, i_sub, i_mul, i_lt, i_le, i_eq, i_ibt, i_ixn, i_ix, i_zero, am_letF, cond_true, cond_false, Option.bind_some, ↓reduceIte, m_si, m_sc, true_and, and_true, not_true_eq_false, not_false_eq_true, i_gtF, i_leT, i_geF, i_ltT, Int32.zero_add, Int.toNat_natCast, ix_own, ix_sum, ix_ver, ix_th, ix_ab, ix_st, ix_vm, ix_lim, ix_lim1, ix_lim2, ix_lim3, Int.toNat_zero, i_neF, i_eqT, b1T, b1F] <;> rfl)
        · obtain ⟨k', hk', ek, hk2⟩ := thr_i c3
          have ek' : j = k' := by omega
          subst ek'
          have q := s_X9_isBetween h hu hu2 hv hv2 hj hk2 t3 t1
          rw [Bool.true_and]
          cases c4 : btP (gU (xG s)) (gD (xG s)) u v t j
          · rw [c4] at q
            (simp (disch := first | assumption | omega) only [i_add, i_sub, i_mul, i_lt, i_le, i_eq, i_ibt, i_ixn, i_ix, i_zero, am_letF, cond_true, cond_false, Option.bind_some, ↓reduceIte, m_si, m_sc, true_and, and_true, not_true_eq_false, not_false_eq_true, i_gtF, i_leT, i_geF, i_ltT, Int32.zero_add, Int.toNat_natCast, ix_own, ix_sum, ix_ver, ix_th, ix_ab, ix_st, ix_vm, ix_lim, ix_lim1, ix_lim2, ix_lim3, Int.toNat_zero, i_neF, i_eqT, b1T, b1F, q] <;> rfl)
          · rw [c4] at q
            (simp (disch := first | assumption | omega) only [i_add, i_sub, i_mul, i_lt, i_le, i_eq, i_ibt, i_ixn, i_ix, i_zero, am_letF, cond_true, cond_false, Option.bind_some, ↓reduceIte, m_si, m_sc, true_and, and_true, not_true_eq_false, not_false_eq_true, i_gtF, i_leT, i_geF, i_ltT, Int32.zero_add, Int.toNat_natCast, ix_own, ix_sum, ix_ver, ix_th, ix_ab, ix_st, ix_vm, ix_lim, ix_lim1, ix_lim2, ix_lim3, Int.toNat_zero, i_neF, i_eqT, b1T, b1F, q] <;> rfl)
/-- what a unit on the way has, of a category or of all -/
def chV (z : Int) (f : Nat → Nat) : Nat := if z = -1 then su f 64 else f z.toNat
theorem l_X9_chain_69 {u : Nat} {z w : Int} {f : Nat → Nat} {x1 x2 x3 y1 y2 : Int32} {k : Int32 → Option Int32} (hf : RowW m (72 + 64 * u) f) (hu : u < 24) (hz : z = -1 ∨ 0 ≤ z ∧ z ≤ 63) : m_X9_chain_69 x1 x2 x3 m y1 y2 (am_i z) (am_i u) k am_F (am_i w) (am_i 0) = k (am_i (w + (chV z f : Nat))) := by
  have e : chV z f = su (fun c => if z = -1 ∨ z = (c : Int) then f c else 0) 64 := by
    unfold chV
    by_cases c : z = -1
    · rw [if_pos c]
      exact su_congr 64 (fun i _ => (if_pos (Or.inl c)).symm)
    · rw [if_neg c, su_one (k := z.toNat) (by omega) (fun i hi hi2 => if_neg (by omega)), if_pos (by omega)]
  rw [e]
  refine lo_go (fun n j t => m_X9_chain_69 x1 x2 x3 m y1 y2 (am_i z) (am_i u) k n t (am_i (j : Int))) (fun j => am_i (w + (su (fun c => if z = -1 ∨ z = (c : Int) then f c else 0) j : Nat))) 0 64 (by show _ = am_i (w + ((0 : Nat) : Int)); rw [Int.natCast_zero, Int.add_zero]) (by omega) (am_Fv (by omega)) (fun n j _ hj => ?_) (fun n => rfl)
  show m_X9_chain_69 x1 x2 x3 m y1 y2 (am_i z) (am_i u) k (n + 1) _ _ = m_X9_chain_69 x1 x2 x3 m y1 y2 (am_i z) (am_i u) k n (am_i (w + ((su (fun c => if z = -1 ∨ z = (c : Int) then f c else 0) j + (if z = -1 ∨ z = (j : Int) then f j else 0) : Nat) : Int))) _
  have q := hf.1 j hj
  rw [m_X9_chain_69]
  unfold m_X9_ownAt
  by_cases c : z = -1
  · rw [if_pos (Or.inl c), c]
    simp (disch := first | assumption | omega) only [i_add, i_sub, i_mul, i_lt, i_le, i_eq, i_ibt, i_ixn, i_ix, i_zero, am_letF, cond_true, cond_false, Option.bind_some, ↓reduceIte, m_si, m_sc, true_and, and_true, not_true_eq_false, not_false_eq_true, i_gtF, i_leT, i_geF, i_ltT, Int32.zero_add, Int.toNat_natCast, ix_own, ix_sum, ix_ver, ix_th, ix_ab, ix_st, ix_vm, ix_lim, ix_lim1, ix_lim2, ix_lim3, Int.toNat_zero, i_neF, i_eqT, b1T, b1F, q]
    rw [Int.add_assoc]
    rfl
  · by_cases c2 : z = (j : Int)
    · rw [if_pos (Or.inr c2), c2]
      simp (disch := first | assumption | omega) only [i_add, i_sub, i_mul, i_lt, i_le, i_eq, i_ibt, i_ixn, i_ix, i_zero, am_letF, cond_true, cond_false, Option.bind_some, ↓reduceIte, m_si, m_sc, true_and, and_true, not_true_eq_false, not_false_eq_true, i_gtF, i_leT, i_geF, i_ltT, Int32.zero_add, Int.toNat_natCast, ix_own, ix_sum, ix_ver, ix_th, ix_ab, ix_st, ix_vm, ix_lim, ix_lim1, ix_lim2, ix_lim3, Int.toNat_zero, i_neF, i_eqT, b1T, b1F, q]
      rw [Int.add_assoc]
      rfl
    · rw [if_neg (show ¬ (z = -1 ∨ z = (j : Int)) from fun e => e.elim c c2)]
      simp (disch := first | assumption | omega) only [i_add, i_sub, i_mul, i_lt, i_le, i_eq, i_ibt, i_ixn, i_ix, i_zero, am_letF, cond_true, cond_false, Option.bind_some, ↓reduceIte, m_si, m_sc, true_and, and_true, not_true_eq_false, not_false_eq_true, i_gtF, i_leT, i_geF, i_ltT, Int32.zero_add, Int.toNat_natCast, ix_own, ix_sum, ix_ver, ix_th, ix_ab, ix_st, ix_vm, ix_lim, ix_lim1, ix_lim2, ix_lim3, Int.toNat_zero, i_neF, i_eqT, b1T, b1F, q]
      rw [Int.add_zero]
      rfl
theorem q_chain (h : GS m r s) (a b c : Int32) : ∃ y, m_X8_chain m a b c = some y ∧ m_X9_chain m a b c = some y := by
  obtain ⟨x, h1, h2, rfl⟩ := i_any a
  obtain ⟨y, h3, h4, rfl⟩ := i_any b
  obtain ⟨z, h5, h6, rfl⟩ := i_any c
  cases c : thr (gU (xG s)) x
  · have e : meI (gU (xG s)) (gD (xG s)) x y = -1 := by unfold meI; rw [c]; rfl
    refine ⟨am_i (-1), ?_, ?_⟩
    · unfold m_X8_chain
      rw [s_X1_meetingOf h.tc h.tr h1 h2 h3 h4, e]
      rfl
    · unfold m_X9_chain
      rw [s_t9 h h1 h2, c]
      rfl
  · cases c2 : thr (gU (xG s)) y
    · have e : meI (gU (xG s)) (gD (xG s)) x y = -1 := by unfold meI; rw [c, c2]; rfl
      refine ⟨am_i (-1), ?_, ?_⟩
      · unfold m_X8_chain
        rw [s_X1_meetingOf h.tc h.tr h1 h2 h3 h4, e]
        rfl
      · unfold m_X9_chain
        rw [s_t9 h h1 h2, s_t9 h h3 h4, c, c2]
        rfl
    · obtain ⟨u, hu, rfl, hu2⟩ := thr_i c
      obtain ⟨v, hv, rfl, hv2⟩ := thr_i c2
      obtain ⟨t, t1, t2, t3, t4, t5, t6⟩ := me_is h.tr hu hu2 hv hv2
      have L8 : (z = -1 ∨ 0 ≤ z ∧ z ≤ 63) → m_X8_chain_37 (am_i u) (am_i v) (am_i z) m (am_i u) (am_i v) (am_i z) (am_i t) (fun u12 => some u12) am_F (am_i 0) (am_i 0) = some (am_i (su (fun k => if (thr (gU (xG s)) k && btP (gU (xG s)) (gD (xG s)) u v t k) = true then chV z (gO (xG s) k) else 0) 24 : Nat)) := by
        intro hz
        refine lo_go (fun n j w => m_X8_chain_37 (am_i u) (am_i v) (am_i z) m (am_i u) (am_i v) (am_i z) (am_i t) (fun u12 => some u12) n w (am_i (j : Int))) (fun j => am_i (su (fun k => if (thr (gU (xG s)) k && btP (gU (xG s)) (gD (xG s)) u v t k) = true then chV z (gO (xG s) k) else 0) j : Nat)) 0 24 rfl (by omega) (am_Fv (by omega)) (fun n j _ hj => ?_) (fun n => rfl)
        show m_X8_chain_37 _ _ _ m _ _ _ _ _ (n + 1) _ _ = m_X8_chain_37 _ _ _ m _ _ _ _ _ n (am_i ((su (fun k => if (thr (gU (xG s)) k && btP (gU (xG s)) (gD (xG s)) u v t k) = true then chV z (gO (xG s) k) else 0) j + (if (thr (gU (xG s)) j && btP (gU (xG s)) (gD (xG s)) u v t j) = true then chV z (gO (xG s) j) else 0) : Nat) : Int)) _
        have q := s_X1_isOnChain h hu hu2 hv hv2 hj t1
        rw [m_X8_chain_37]
        by_cases c4 : (thr (gU (xG s)) (j : Int) && btP (gU (xG s)) (gD (xG s)) u v t j) = true
        · rw [c4] at q
          rw [if_pos c4]
          unfold chV
          by_cases c5 : z = -1
          · have q2 := s_X5_allOf (h.wc hj)
            rw [if_pos c5, c5] at *
            (simp (disch := first | assumption | omega) only [i_add, i_sub, i_mul, i_lt, i_le, i_eq, i_ibt, i_ixn, i_ix, i_zero, am_letF, cond_true, cond_false, Option.bind_some, ↓reduceIte, m_si, m_sc, true_and, and_true, not_true_eq_false, not_false_eq_true, i_gtF, i_leT, i_geF, i_ltT, Int32.zero_add, Int.toNat_natCast, ix_own, ix_sum, ix_ver, ix_th, ix_ab, ix_st, ix_vm, ix_lim, ix_lim1, ix_lim2, ix_lim3, Int.toNat_zero, i_neF, i_eqT, b1T, b1F, q, q2] <;> rfl)
          · obtain ⟨e, rfl⟩ : ∃ e : Nat, z = e := ⟨z.toNat, by omega⟩
            have q2 := (h.wc hj).1 e (by omega)
            rw [if_neg c5]
            (simp (disch := first | assumption | omega) only [i_add, i_sub, i_mul, i_lt, i_le, i_eq, i_ibt, i_ixn, i_ix, i_zero, am_letF, cond_true, cond_false, Option.bind_some, ↓reduceIte, m_si, m_sc, true_and, and_true, not_true_eq_false, not_false_eq_true, i_gtF, i_leT, i_geF, i_ltT, Int32.zero_add, Int.toNat_natCast, ix_own, ix_sum, ix_ver, ix_th, ix_ab, ix_st, ix_vm, ix_lim, ix_lim1, ix_lim2, ix_lim3, Int.toNat_zero, i_neF, i_eqT, b1T, b1F, q, q2] <;> rfl)
        · rw [Bool.eq_false_iff.mpr c4] at q
          rw [if_neg c4]
          (simp (disch := first | assumption | omega) only [i_add, i_sub, i_mul, i_lt, i_le, i_eq, i_ibt, i_ixn, i_ix, i_zero, am_letF, cond_true, cond_false, Option.bind_some, ↓reduceIte, m_si, m_sc, true_and, and_true, not_true_eq_false, not_false_eq_true, i_gtF, i_leT, i_geF, i_ltT, Int32.zero_add, Int.toNat_natCast, ix_own, ix_sum, ix_ver, ix_th, ix_ab, ix_st, ix_vm, ix_lim, ix_lim1, ix_lim2, ix_lim3, Int.toNat_zero, i_neF, i_eqT, b1T, b1F, q] <;> rfl)
      have L9 : (z = -1 ∨ 0 ≤ z ∧ z ≤ 63) → m_X9_chain_36 (am_i u) (am_i v) (am_i z) m (am_i u) (am_i v) (am_i z) (fun u19 => some u19) am_F (am_i 0) (am_i 0) = some (am_i (su (fun k => if (thr (gU (xG s)) k && btP (gU (xG s)) (gD (xG s)) u v t k) = true then chV z (gO (xG s) k) else 0) 24 : Nat)) := by
        intro hz
        refine lo_go (fun n j w => m_X9_chain_36 (am_i u) (am_i v) (am_i z) m (am_i u) (am_i v) (am_i z) (fun u19 => some u19) n w (am_i (j : Int))) (fun j => am_i (su (fun k => if (thr (gU (xG s)) k && btP (gU (xG s)) (gD (xG s)) u v t k) = true then chV z (gO (xG s) k) else 0) j : Nat)) 0 24 rfl (by omega) (am_Fv (by omega)) (fun n j _ hj => ?_) (fun n => rfl)
        show m_X9_chain_36 _ _ _ m _ _ _ _ (n + 1) _ _ = m_X9_chain_36 _ _ _ m _ _ _ _ n (am_i ((su (fun k => if (thr (gU (xG s)) k && btP (gU (xG s)) (gD (xG s)) u v t k) = true then chV z (gO (xG s) k) else 0) j + (if (thr (gU (xG s)) j && btP (gU (xG s)) (gD (xG s)) u v t j) = true then chV z (gO (xG s) j) else 0) : Nat) : Int)) _
        rw [m_X9_chain_36, if_neg (by rw [i_le (by omega) (by omega) (by omega) (by omega)]; omega), s_t9 h (by omega) (by omega), Option.bind_some]
        cases c3 : thr (gU (xG s)) (j : Int)
        · rw [if_pos (by decide), i_add, if_neg (show ¬ (false && _) = true by rw [Bool.false_and]; decide)]
          rfl
        · obtain ⟨k', hk', ek, hk2⟩ := thr_i c3
          have ek' : j = k' := by omega
          subst ek'
          have q := s_X9_isBetween h hu hu2 hv hv2 hj hk2 t3 t1
          rw [if_neg (by decide), q, Option.bind_some]
          cases c4 : btP (gU (xG s)) (gD (xG s)) u v t j
          · rw [if_neg (by decide), i_add, if_neg (show ¬ (true && false) = true by decide)]
            rfl
          · rw [if_pos (by decide), l_X9_chain_69 (h.wm hj) hj hz, i_add, if_pos (show (true && true) = true from rfl)]
            rfl
      have E8 : m_X8_chain m (am_i u) (am_i v) (am_i z) = (if am_i z = am_i (-1) then m_X8_chain_37 (am_i u) (am_i v) (am_i z) m (am_i u) (am_i v) (am_i z) (am_i t) (fun u12 => some u12) am_F (am_i 0) (am_i 0) else (m_X8_isCategory m (am_i z)).bind fun q13 => if ¬ q13 = 0 then m_X8_chain_37 (am_i u) (am_i v) (am_i z) m (am_i u) (am_i v) (am_i z) (am_i t) (fun u15 => some u15) am_F (am_i 0) (am_i 0) else some (am_i (-1))) := by
        unfold m_X8_chain
        rw [s_X1_meetingOf h.tc h.tr h1 h2 h3 h4, t3, Option.bind_some, if_neg (by rw [i_eq (by omega) (by omega) (by omega) (by omega)]; omega)]
      have E9 : m_X9_chain m (am_i u) (am_i v) (am_i z) = (if am_i z = am_i (-1) then m_X9_chain_36 (am_i u) (am_i v) (am_i z) m (am_i u) (am_i v) (am_i z) (fun u19 => some u19) am_F (am_i 0) (am_i 0) else (m_X9_isCategory m (am_i z)).bind fun q20 => if ¬ q20 = 0 then m_X9_chain_36 (am_i u) (am_i v) (am_i z) m (am_i u) (am_i v) (am_i z) (fun u22 => some u22) am_F (am_i 0) (am_i 0) else some (am_i (-1))) := by
        unfold m_X9_chain
        rw [s_t9 h h1 h2, s_t9 h h3 h4, c, c2]
        rfl
      rw [E8, E9, s_c8 h5 h6, s_c9 h5 h6]
      by_cases z1 : z = -1
      · rw [if_pos (show am_i z = am_i (-1) by rw [z1]), if_pos (show am_i z = am_i (-1) by rw [z1]), L8 (Or.inl z1), L9 (Or.inl z1)]
        exact ⟨_, rfl, rfl⟩
      · have zn : ¬ am_i z = am_i (-1) := by rw [i_eq (by omega) (by omega) (by omega) (by omega)]; exact z1
        rw [if_neg zn, if_neg zn]
        by_cases z2 : 0 ≤ z ∧ z ≤ 63
        · rw [if_pos z2, Option.bind_some, Option.bind_some, L8 (Or.inr z2), L9 (Or.inr z2)]
          exact ⟨_, rfl, rfl⟩
        · rw [if_neg z2]
          exact ⟨_, rfl, rfl⟩
end Q6
