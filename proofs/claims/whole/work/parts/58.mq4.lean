/-! ===== mathematics: calls that ask, 4: unit, of, look, broken ===== -/
section Q4
variable {m : am_m} {r : am_rr} {s : Sx}
def gB (g : Og) : Nat → Nat → Nat := br (gU g) (gD g) (gO g)
theorem gB_le {g : Og} (h : IG g) (u c : Nat) : gB g u c ≤ 239976 := br_le h.2.1 u c
theorem l_branch8 (h : GS m r s) : ∃ m1, m_X1_sumBranches m 4 = some m1 ∧ GS m1 r s ∧ ∀ u, u < 24 → gU (xG s) u ≠ -2 → Row m1 (aR u) (gB (xG s) u) := by
  refine ⟨_, s_X1_sumBranches h.tc h.tr h.2.1.1.2.2.1 (fun u hu => by unfold aW; omega) (by unfold aU; omega), h.sc1 (fun b hb => rws_ne (by unfold Scr at hb; omega)), fun u hu hu2 => ⟨fun c hc => ?_, fun c => Nat.le_trans (gB_le h.ig u c) (by decide)⟩⟩
  rw [rws_at hu hc, lev_0 hu2]
  rfl
theorem l_branch9 {u a : Nat} (h : GS m r s) (hu : u < 24) (ha : a = 3266 ∨ a = 3267) : ∃ m1, m_X9_laysBranch m (am_i u) a = some m1 ∧ GS m1 r s ∧ Fr (fun b => b = a) m m1 ∧ Row m1 a (gB (xG s) u) := by
  obtain ⟨m1, e, f, g⟩ := s_X9_laysBranch (a := a) h.tm h.tr (fun k hk => h.wm hk) h.ig.2.1 hu (by omega)
  exact ⟨m1, e, h.sc1 (f.mono (fun b hb => by rw [hb]; unfold Scr; omega)), f, g⟩
/-- two rows are the same -/
def eqR (f g : Nat → Nat) : Bool := decide (su (un f g) 64 = 0)
theorem su_0i {f : Nat → Nat} : ∀ n, su f n = 0 → ∀ c, c < n → f c = 0 := by
  intro n
  induction n with
  | zero => intro _ c h; exact absurd h (Nat.not_lt_zero _)
  | succ n ih =>
    intro h c hc
    have h2 : su f n + f n = 0 := h
    by_cases e : c = n
    · rw [e]; omega
    · exact ih (by omega) c (by omega)
theorem eqR_i {f g : Nat → Nat} : eqR f g = true ↔ ∀ c, c < 64 → f c = g c := by
  unfold eqR
  rw [decide_eq_true_iff]
  constructor
  · intro h c hc
    have := su_0i 64 h c hc
    unfold un at this
    omega
  · intro h
    refine su_0 (fun c hc => ?_)
    unfold un
    rw [h c hc]
    omega
theorem s_X9_isRight {u : Nat} (h : GS m r s) (hu : u < 24) : ∃ m1, m_X9_isRight m (am_i u) = some (am_i (b1 (eqR (gM (xG s) u) (gB (xG s) u))), m1) ∧ GS m1 r s := by
  obtain ⟨m1, e, k, _, g⟩ := l_branch9 (a := 3266) h hu (Or.inl rfl)
  refine ⟨m1, ?_, k⟩
  unfold m_X9_isRight
  rw [e, Option.bind_some]
  refine (lo_seek (fun n j (t : Int32) => m_X9_isRight_11 (am_i u) m1 (am_i u) (some (am_i 1, m1)) n t) (fun j => am_i (j : Nat)) 64 (fun c => decide (gM (xG s) u c ≠ gB (xG s) u c)) (fun _ => some (am_i 0, m1)) (some (am_i 1, m1)) rfl (am_Fv (by omega)) ?_ ?_ (fun n => rfl)).trans ?_
  · intro n j hj hp
    have hp := of_decide_eq_false hp
    have b1' := h.ig.2.2.1 u j
    have b2 := gB_le h.ig u j
    have e1 := g.1 j hj
    have e2 := (k.xm hu).1 j hj
    show m_X9_isRight_11 _ m1 _ _ (n + 1) _ = _
    rw [m_X9_isRight_11]
    unfold m_X9_sumAt
    (simp (disch := first | assumption | omega) only [i_add, i_sub, i_mul, i_lt, i_le, i_eq, i_ibt, i_ixn, i_ix, i_zero, am_letF, cond_true, cond_false, Option.bind_some, ↓reduceIte, m_si, m_sc, true_and, and_true, not_true_eq_false, not_false_eq_true, i_gtF, i_leT, i_geF, i_ltT, Int32.zero_add, Int.toNat_natCast, ix_own, ix_sum, ix_ver, ix_th, ix_ab, ix_st, ix_vm, ix_lim, ix_lim1, ix_lim2, ix_lim3, Int.toNat_zero, i_neF, i_eqT, b1T, b1F, e1, e2] <;> rfl)
  · intro n j hj hp
    have hp := of_decide_eq_true hp
    have b1' := h.ig.2.2.1 u j
    have b2 := gB_le h.ig u j
    have e1 := g.1 j hj
    have e2 := (k.xm hu).1 j hj
    show m_X9_isRight_11 _ m1 _ _ (n + 1) _ = _
    rw [m_X9_isRight_11]
    unfold m_X9_sumAt
    (simp (disch := first | assumption | omega) only [i_add, i_sub, i_mul, i_lt, i_le, i_eq, i_ibt, i_ixn, i_ix, i_zero, am_letF, cond_true, cond_false, Option.bind_some, ↓reduceIte, m_si, m_sc, true_and, and_true, not_true_eq_false, not_false_eq_true, i_gtF, i_leT, i_geF, i_ltT, Int32.zero_add, Int.toNat_natCast, ix_own, ix_sum, ix_ver, ix_th, ix_ab, ix_st, ix_vm, ix_lim, ix_lim1, ix_lim2, ix_lim3, Int.toNat_zero, i_neF, i_eqT, b1T, b1F, e1, e2] <;> rfl)
  · by_cases q : eqR (gM (xG s) u) (gB (xG s) u) = true
    · rw [q, if_neg]
      · rfl
      · intro z
        exact of_decide_eq_true (fi_is (fun c => decide (gM (xG s) u c ≠ gB (xG s) u c)) 64 z) (eqR_i.mp q _ z)
    · rw [Bool.eq_false_iff.mpr q, if_pos]
      · rfl
      · have hl := fi_le (fun c => decide (gM (xG s) u c ≠ gB (xG s) u c)) 64
        rcases Nat.lt_or_ge (fi (fun c => decide (gM (xG s) u c ≠ gB (xG s) u c)) 64) 64 with z | z
        · exact z
        · exfalso
          refine q (eqR_i.mpr (fun c hc => ?_))
          have := of_decide_eq_false (fi_no (fun c => decide (gM (xG s) u c ≠ gB (xG s) u c)) 64 c (by omega))
          omega
theorem q_of (h : GS m r s) (a b c : Int32) : ∃ y m1 m2, m_X8_of m a b c = some (y, m1) ∧ m_X9_of m1 a b c = some (y, m2) ∧ Good m2 r := by
  obtain ⟨x, h1, h2, rfl⟩ := i_any a
  obtain ⟨z, h3, h4, rfl⟩ := i_any b
  obtain ⟨w, h5, h6, rfl⟩ := i_any c
  cases c : thr (gU (xG s)) x
  · refine ⟨am_i (-1), m, m, ?_, ?_, h.g⟩
    · unfold m_X8_of
      rw [s_t8 h h1 h2, c]
      rfl
    · unfold m_X9_of
      rw [s_t9 h h1 h2, c]
      rfl
  · obtain ⟨u, hu, rfl, hu2⟩ := thr_i c
    by_cases c1 : 0 ≤ z ∧ z ≤ 63
    · obtain ⟨d, rfl⟩ : ∃ d : Nat, z = d := ⟨z.toNat, by omega⟩
      have k8 : m_X8_of m (am_i u) (am_i d) (am_i w) = (if am_i w = am_i 0 then some (m (aW 4 u) d, m) else if am_i w = am_i 1 then some (m (aX 4 u) d, m) else if am_i w = am_i 2 then (m_X1_sumBranches m 4).bind fun q1 => some (q1 (aR u) d, q1) else some (am_i (-1), m)) := by
        unfold m_X8_of m_X8_branchSumOf
        rw [s_t8 h h1 h2, c, s_c8 h3 h4, if_pos c1, i_ixn (by omega), i_ixn (by omega), i_ibt (by omega) (by omega) (by omega), i_ibt (by omega) (by omega) (by omega)]
        cases m_X1_sumBranches m 4 <;> rfl
      have k9 : ∀ mm, GS mm r s → m_X9_of mm (am_i u) (am_i d) (am_i w) = (if ¬ am_i w = am_i 2 then (if ¬ am_i w = 0 then if ¬ am_i w = am_i 1 then if ¬ am_i w = am_i 2 then some (am_i (-1), mm) else some (mm 3266 d, mm) else some (mm 3262 (1608 + 64 * u + d), mm) else some (mm 3262 (72 + 64 * u + d), mm)) else (m_X9_laysBranch mm (am_i u) 3266).bind fun q14 => (if ¬ am_i w = 0 then if ¬ am_i w = am_i 1 then if ¬ am_i w = am_i 2 then some (am_i (-1), q14) else some (q14 3266 d, q14) else some (q14 3262 (1608 + 64 * u + d), q14) else some (q14 3262 (72 + 64 * u + d), q14))) := by
        intro mm hh
        unfold m_X9_of m_X9_sumAt m_X9_ownAt
        have p1 : am_ib (am_i 1608 + am_i 64 * am_i (u : Int) + am_i (d : Int)) 15517 = true := by rw [i_mul, i_add, i_add, i_ibt (by omega) (by omega) (by omega)]
        have p2 : am_ib (am_i 72 + am_i 64 * am_i (u : Int) + am_i (d : Int)) 15517 = true := by rw [i_mul, i_add, i_add, i_ibt (by omega) (by omega) (by omega)]
        have p3 : am_ix (am_i 1608 + am_i 64 * am_i (u : Int) + am_i (d : Int)) = 1608 + 64 * u + d := by rw [i_mul, i_add, i_add, i_ix (by omega) (by omega)]; omega
        have p4 : am_ix (am_i 72 + am_i 64 * am_i (u : Int) + am_i (d : Int)) = 72 + 64 * u + d := by rw [i_mul, i_add, i_add, i_ix (by omega) (by omega)]; omega
        rw [s_t9 hh h1 h2, c, s_c9 h3 h4, if_pos c1, Option.bind_some, if_neg (by decide), Option.bind_some, if_pos (by decide)]
        simp only [Option.bind_some, p1, p2, p3, p4, i_ixn (show d ≤ 2147483647 by omega), i_ibt (show (0 : Int) ≤ (d : Int) by omega) (show (d : Int) < (64 : Nat) by omega) (by decide), cond_true]
      by_cases w2 : w = 2
      · obtain ⟨m1, e1, k1, g1⟩ := l_branch8 h
        obtain ⟨m2, e2, k2, f2, g2⟩ := l_branch9 (a := 3266) k1 hu (Or.inl rfl)
        refine ⟨am_i (gB (xG s) u d), m1, m2, ?_, ?_, k2.g⟩
        · rw [k8, w2, if_neg (by decide), if_neg (by decide), if_pos (by decide), e1, Option.bind_some, (g1 u hu hu2).1 d (by omega)]
        · rw [k9 m1 k1, w2, if_neg (by decide), e2, Option.bind_some, if_pos (by decide), if_pos (by decide), if_neg (by decide), g2.1 d (by omega)]
      · have n2 : ¬ am_i w = am_i 2 := by rw [i_eq (by omega) (by omega) (by omega) (by omega)]; exact w2
        by_cases w0 : w = 0
        · refine ⟨am_i (gO (xG s) u d), m, m, ?_, ?_, h.g⟩
          · rw [k8, w0, if_pos (by decide), (h.wc hu).1 d (by omega)]
          · rw [k9 m h, if_pos n2, w0, if_neg (by decide), (h.wm hu).1 d (by omega)]
        · have n0 : ¬ am_i w = am_i 0 := by rw [i_eq (by omega) (by omega) (by omega) (by omega)]; exact w0
          by_cases w1 : w = 1
          · refine ⟨am_i (gM (xG s) u d), m, m, ?_, ?_, h.g⟩
            · rw [k8, w1, if_neg (by decide), if_pos (by decide), (h.xc hu).1 d (by omega)]
            · rw [k9 m h, if_pos n2, w1, if_pos (by decide), if_neg (by decide), (h.xm hu).1 d (by omega)]
          · have n1 : ¬ am_i w = am_i 1 := by rw [i_eq (by omega) (by omega) (by omega) (by omega)]; exact w1
            refine ⟨am_i (-1), m, m, ?_, ?_, h.g⟩
            · rw [k8, if_neg n0, if_neg n1, if_neg n2]
            · rw [k9 m h, if_pos n2, if_pos (by rw [i_zero]; exact n0), if_pos n1, if_pos n2]
    · refine ⟨am_i (-1), m, m, ?_, ?_, h.g⟩
      · unfold m_X8_of
        rw [s_t8 h h1 h2, c, s_c8 h3 h4, if_neg c1]
        rfl
      · unfold m_X9_of
        rw [s_t9 h h1 h2, c, s_c9 h3 h4, if_neg c1]
        rfl
/-- a number is one of the first n, or none of them -/
theorem sw_n {w : Int} (h1 : -2147483648 ≤ w) (h2 : w ≤ 2147483647) (n : Nat) (hn : n ≤ 100) : (∃ d : Nat, d < n ∧ w = d) ∨ ∀ d : Int, 0 ≤ d → d < (n : Int) → ¬ am_i w = am_i d := by
  by_cases c : 0 ≤ w ∧ w < n
  · exact Or.inl ⟨w.toNat, by omega, by omega⟩
  · refine Or.inr (fun d hd hd2 => ?_)
    rw [i_eq (by omega) (by omega) (by omega) (by omega)]
    omega
theorem q_unit (h : GS m r s) (a b : Int32) : ∃ y m1 m2, m_X8_unit m a b = some (y, m1) ∧ m_X9_unit m1 a b = some (y, m2) ∧ Good m2 r := by
  obtain ⟨x, h1, h2, rfl⟩ := i_any a
  obtain ⟨w, h5, h6, rfl⟩ := i_any b
  cases c : thr (gU (xG s)) x
  · refine ⟨am_i (-1), m, m, ?_, ?_, h.g⟩
    · unfold m_X8_unit
      rw [s_t8 h h1 h2, c]
      rfl
    · unfold m_X9_unit
      rw [s_t9 h h1 h2, c]
      rfl
  · obtain ⟨u, hu, rfl, hu2⟩ := thr_i c
    have p8 : m_X8_unit m (am_i u) (am_i w) = (if am_i w = am_i 0 then some (am_i (gU (xG s) u), m) else if am_i w = am_i 1 then some (am_i (gD (xG s) u), m) else if am_i w = am_i 2 then some (am_i (lowC (gU (xG s)) u), m) else if am_i w = am_i 3 then some (am_i (cn (fun k => thr (gU (xG s)) k && inB (gU (xG s)) (gD (xG s)) k u) 24), m) else if am_i w = am_i 4 then (if m (aS 4) u = 0 then some (am_i 0, m) else some (am_i 1, m)) else if am_i w = am_i 5 then (m_X1_sumBranches m 4).bind fun q16 => (m_X5_unlikeness q16 (aX 4 u) (aR u)).bind fun q18 => if ¬ q18 = 0 then some (am_i 0, q16) else some (am_i 1, q16) else if am_i w = am_i 6 then some (am_i (su (gO (xG s) u) 64 : Nat), m) else if am_i w = am_i 7 then some (am_i (com (gO (xG s) u) (gO (xG s) u) : Nat), m) else if am_i w = am_i 8 then some (am_i (su (gM (xG s) u) 64 : Nat), m) else if am_i w = am_i 9 then some (am_i (com (gM (xG s) u) (gM (xG s) u) : Nat), m) else if am_i w = am_i 10 then some (am_i (pos (gM (xG s) u) : Nat), m) else if am_i w = am_i 11 then (m_X1_sumBranches m 4).bind fun q34 => (m_X5_allOf q34 (aR u)).bind fun q36 => some (q36, q34) else some (am_i (-1), m)) := by
      unfold m_X8_unit m_X8_branchSumOf
      rw [s_t8 h h1 h2, c, s_X1_upperOf h.tc h.tr hu hu2, s_X1_depthOf h.tc h.tr hu hu2, s_X1_lowerCount h.tc h.tr c, s_X1_branchSize h.tc h.tr h1 h2, i_ixn (by omega), i_ibt (by omega) (by omega) (by omega), s_X5_allOf (h.wc hu), s_X5_allOf (h.xc hu), s_X6_maskOf (h.wc hu), s_X6_maskOf (h.xc hu)]
      simp only [Option.bind_some, s_X6_nodesOf (Bm_mk _), s_bitCount, pop_mk, cond_true]
      cases m_X1_sumBranches m 4 <;> rfl
    have p9 : ∀ mm, GS mm r s → ∃ m4 m6, GS m6 r s ∧ m_X9_unit mm (am_i u) (am_i w) = (if am_i w = am_i 0 then some (am_i (gU (xG s) u), m6) else if am_i w = am_i 1 then some (am_i (gD (xG s) u), m6) else if am_i w = am_i 2 then some (am_i (lowC (gU (xG s)) u), m6) else if am_i w = am_i 3 then some (am_i (cn (fun k => thr (gU (xG s)) k && inB (gU (xG s)) (gD (xG s)) k u) 24), m6) else if am_i w = am_i 4 then some (am_i (gS (xG s) u), m6) else if am_i w = am_i 5 then (m_X9_isRight m6 (am_i u)).bind fun q17 => if q17.1 = 0 then some (am_i 0, q17.2) else some (am_i 1, q17.2) else if am_i w = am_i 6 then some (am_i (su (gO (xG s) u) 64 : Nat), m6) else if am_i w = am_i 7 then some (am_i (com (gO (xG s) u) (gO (xG s) u) : Nat), m6) else if am_i w = am_i 8 then some (am_i (su (gM (xG s) u) 64 : Nat), m6) else if am_i w = am_i 9 then some (am_i (com (gM (xG s) u) (gM (xG s) u) : Nat), m6) else if am_i w = am_i 10 then some (am_i (pos (gM (xG s) u) : Nat), m6) else if am_i w = am_i 11 then (m_X9_laysBranch m6 (am_i u) 3266).bind fun q30 => (m_X9_all q30 3266).bind fun q31 => some (q31, q30) else some (am_i (-1), m6)) ∧ m4 = m6 := by
      intro mm hh
      obtain ⟨m4, e4, f4, g4⟩ := s_X9_lays (a := 3266) (hh.xm hu) (by omega) (by decide)
      have k4 := hh.sc1 (f4.mono (fun b hb => by rw [hb]; unfold Scr; omega))
      obtain ⟨m6, e6, f6, g6⟩ := s_X9_lays (a := 3267) (k4.wm hu) (by omega) (by decide)
      have k6 := k4.sc1 (f6.mono (fun b hb => by rw [hb]; unfold Scr; omega))
      have g4' := g4.kept f6 (by decide)
      refine ⟨m6, m6, k6, ?_, rfl⟩
      unfold m_X9_unit m_X9_sumAt m_X9_ownAt
      have e4' : m_X9_lays mm (am_i (1608 + 64 * (u : Int))) 3266 = some m4 := by rw [← e4]; congr 2
      have e6' : m_X9_lays m4 (am_i (72 + 64 * (u : Int))) 3267 = some m6 := by rw [← e6]; congr 2
      have x1 := k6.2.2.1.1.2.1 u hu hu2
      have x2 := k6.2.2.1.1.2.2.1 u hu
      rw [Nat.zero_add] at x1 x2
      have y1 : am_ix (am_i 24 + am_i (u : Int)) = 24 + u := by rw [i_add, i_ix (by omega) (by omega)]; omega
      have y2 : am_ix (am_i 48 + am_i (u : Int)) = 48 + u := by rw [i_add, i_ix (by omega) (by omega)]; omega
      rw [s_t9 hh h1 h2, c, Option.bind_some, if_pos (by decide), Option.bind_some, i_mul, i_add, e4', Option.bind_some, Option.bind_some, i_add, e6', Option.bind_some, s_X9_depth k6.tm k6.tr hu hu2, s_X9_belowMany k6.tm k6.tr hu, s_X9_branchMany k6.tm k6.tr (by omega) h2, s_X9_all g6, s_X9_all g4', s_X9_nodes g6, s_X9_nodes g4', s_X9_positive g4', y1, y2, x1, x2, i_add, i_add, i_ibt (by omega) (by omega) (by omega), i_ibt (by omega) (by omega) (by omega)]
      rfl
    rcases sw_n h5 h6 12 (by decide) with ⟨d, hd, rfl⟩ | hn
    · have hS := h.ig.2.2.2.1 u
      by_cases d5 : d = 5
      · obtain ⟨m1, e1, k1, g1⟩ := l_branch8 h
        obtain ⟨m4, m6, k6, q9, _⟩ := p9 m1 k1
        obtain ⟨m7, e7, k7⟩ := s_X9_isRight k6 hu
        have hu5 : su (un (gM (xG s) u) (gB (xG s) u)) 64 ≤ 64 * 1000000 := su_b (un_b (fun c => Nat.le_trans (h.ig.2.2.1 u c) (by decide)) (fun c => Nat.le_trans (gB_le h.ig u c) (by decide))) 64
        by_cases q : su (un (gM (xG s) u) (gB (xG s) u)) 64 = 0
        · refine ⟨am_i 1, m1, m7, ?_, ?_, k7.g⟩
          · rw [p8, d5, if_neg (by decide), if_neg (by decide), if_neg (by decide), if_neg (by decide), if_neg (by decide), if_pos (by decide), e1, Option.bind_some, s_X5_unlikeness (k1.xc hu) (g1 u hu hu2), q]
            rfl
          · rw [q9, d5, if_neg (by decide), if_neg (by decide), if_neg (by decide), if_neg (by decide), if_neg (by decide), if_pos (by decide), e7, show eqR (gM (xG s) u) (gB (xG s) u) = true from decide_eq_true q]
            rfl
        · refine ⟨am_i 0, m1, m7, ?_, ?_, k7.g⟩
          · rw [p8, d5, if_neg (by decide), if_neg (by decide), if_neg (by decide), if_neg (by decide), if_neg (by decide), if_pos (by decide), e1, Option.bind_some, s_X5_unlikeness (k1.xc hu) (g1 u hu hu2), Option.bind_some, if_pos (by rw [i_zero, i_eq (by omega) (by omega) (by omega) (by omega)]; omega)]
          · rw [q9, d5, if_neg (by decide), if_neg (by decide), if_neg (by decide), if_neg (by decide), if_neg (by decide), if_pos (by decide), e7, show eqR (gM (xG s) u) (gB (xG s) u) = false from decide_eq_false q]
            rfl
      · by_cases d11 : d = 11
        · obtain ⟨m1, e1, k1, g1⟩ := l_branch8 h
          obtain ⟨m4, m6, k6, q9, _⟩ := p9 m1 k1
          obtain ⟨m7, e7, k7, f7, g7⟩ := l_branch9 (a := 3266) k6 hu (Or.inl rfl)
          refine ⟨am_i (su (gB (xG s) u) 64 : Nat), m1, m7, ?_, ?_, k7.g⟩
          · rw [p8, d11, if_neg (by decide), if_neg (by decide), if_neg (by decide), if_neg (by decide), if_neg (by decide), if_neg (by decide), if_neg (by decide), if_neg (by decide), if_neg (by decide), if_neg (by decide), if_neg (by decide), if_pos (by decide), e1, Option.bind_some, s_X5_allOf (g1 u hu hu2)]
            rfl
          · rw [q9, d11, if_neg (by decide), if_neg (by decide), if_neg (by decide), if_neg (by decide), if_neg (by decide), if_neg (by decide), if_neg (by decide), if_neg (by decide), if_neg (by decide), if_neg (by decide), if_neg (by decide), if_pos (by decide), e7, Option.bind_some, s_X9_all g7]
            rfl
        · obtain ⟨m4, m6, k6, q9, _⟩ := p9 m h
          have hs0 : m (aS 4) u = am_i (gS (xG s) u) := h.2.1.1.2.1 u hu
          have e4 : (if m (aS 4) u = 0 then some (am_i 0, m) else some (am_i 1, m)) = some (am_i (gS (xG s) u), m) := by
            rw [hs0]
            rcases Nat.lt_or_ge 0 (gS (xG s) u) with z | z
            · rw [show gS (xG s) u = 1 by omega]; rfl
            · rw [show gS (xG s) u = 0 by omega]; rfl
          rw [p8, e4]
          rcases (show d = 0 ∨ d = 1 ∨ d = 2 ∨ d = 3 ∨ d = 4 ∨ d = 6 ∨ d = 7 ∨ d = 8 ∨ d = 9 ∨ d = 10 by omega) with z | z | z | z | z | z | z | z | z | z <;> rw [z] at q9 ⊢ <;> exact ⟨_, m, m6, rfl, q9.trans rfl, k6.g⟩
    · obtain ⟨m4, m6, k6, q9, _⟩ := p9 m h
      refine ⟨am_i (-1), m, m6, ?_, ?_, k6.g⟩
      · rw [p8, if_neg (hn 0 (by decide) (by decide)), if_neg (hn 1 (by decide) (by decide)), if_neg (hn 2 (by decide) (by decide)), if_neg (hn 3 (by decide) (by decide)), if_neg (hn 4 (by decide) (by decide)), if_neg (hn 5 (by decide) (by decide)), if_neg (hn 6 (by decide) (by decide)), if_neg (hn 7 (by decide) (by decide)), if_neg (hn 8 (by decide) (by decide)), if_neg (hn 9 (by decide) (by decide)), if_neg (hn 10 (by decide) (by decide)), if_neg (hn 11 (by decide) (by decide))]
      · rw [q9, if_neg (hn 0 (by decide) (by decide)), if_neg (hn 1 (by decide) (by decide)), if_neg (hn 2 (by decide) (by decide)), if_neg (hn 3 (by decide) (by decide)), if_neg (hn 4 (by decide) (by decide)), if_neg (hn 5 (by decide) (by decide)), if_neg (hn 6 (by decide) (by decide)), if_neg (hn 7 (by decide) (by decide)), if_neg (hn 8 (by decide) (by decide)), if_neg (hn 9 (by decide) (by decide)), if_neg (hn 10 (by decide) (by decide)), if_neg (hn 11 (by decide) (by decide))]
end Q4
