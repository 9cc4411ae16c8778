/-! ===== the layout stays ===== -/
theorem lr_X1_rolledUp_47 {o : Nat} {x1 : Int32} {a2 : Nat} {m : am_m} {y1 : Int32} {y3 : Int32} {w4 : Nat} {res : am_m × am_rr} {k : am_rr → Option (am_m × am_rr)} (hO : am_og o) (ha2 : am_k a2 11 64) (hw4 : am_k w4 11 64) : ∀ (n : Nat) (z5 : Int32) (r : am_rr) (hL : am_Lay r), m_X1_rolledUp_47 o x1 a2 m y1 y3 w4 k n z5 r = some res → (∀ (r1 : am_rr), k r1 = some res → am_Lay r1 → am_Lay res.2) → am_Lay res.2 := by
  intro n
  induction n with
  | zero => intro z5 r hL hm K; cases hm
  | succ n ih =>
    intro z5 r hL hm K
    unfold m_X1_rolledUp_47 at hm
    by_cases hc8 : z5 ≤ y3
    · replace hm := am_it hm hc8
      exact K _ hm hL
    · replace hm := am_if hm hc8
      obtain ⟨hb9, hm⟩ := am_gE hm
      obtain ⟨hx10, hx10k⟩ : (∃ w, w < 192 ∧ (r (o + 54) (am_ix (z5 - (am_i 1)))) = o + 55 + w) ∧ am_k (r (o + 54) (am_ix (z5 - (am_i 1)))) 11 64 := ⟨hL.vx hO (am_ixl hb9), hL.v hO (am_ixl hb9)⟩
      obtain ⟨hb11, hm⟩ := am_gE hm
      obtain ⟨r12, er12⟩ : ∃ z, z = am_sr r (o + 54) (am_ix z5) (r (o + 54) (am_ix (z5 - (am_i 1)))) := ⟨_, rfl⟩
      replace hm := am_letE er12 hm
      have hL0 := hL
      replace hL := hL.rast hO hx10 er12
      exact ih _ _ hL hm K
theorem lr_X1_rolledUp {m : am_m} {r : am_rr} {o : Nat} {x1 : Int32} {a2 : Nat} {res : am_m × am_rr} (hL : am_Lay r) (hO : am_og o) (ha2 : am_k a2 11 64) (hm : m_X1_rolledUp m r o x1 a2 = some res) : am_Lay res.2 := by
  unfold m_X1_rolledUp at hm
  obtain ⟨hb1, hm⟩ := am_gE hm
  obtain ⟨hb2, hm⟩ := am_gE hm
  obtain ⟨m3, em3⟩ : ∃ z, z = am_sc m a2 (am_ix (am_i 0)) (aX o (am_ix x1)) (am_ix (am_i 0)) (am_ix (am_i 64)) := ⟨_, rfl⟩
  replace hm := am_letE em3 hm
  obtain ⟨hb4, hm⟩ := am_gE hm
  obtain ⟨m5, em5⟩ : ∃ z, z = am_si m3 (aS o) (am_ix x1) (am_i 0) := ⟨_, rfl⟩
  replace hm := am_letE em5 hm
  obtain ⟨hb6, hm⟩ := am_gE hm
  obtain ⟨hx7, hx7k⟩ : (∃ w, w < 192 ∧ (r (o + 54) (am_ix (((x1 * (am_i 8)) + (am_i 8)) - (am_i 1)))) = o + 55 + w) ∧ am_k (r (o + 54) (am_ix (((x1 * (am_i 8)) + (am_i 8)) - (am_i 1)))) 11 64 := ⟨hL.vx hO (am_ixl hb6), hL.v hO (am_ixl hb6)⟩
  refine lr_X1_rolledUp_47 hO ha2 hx7k am_F _ _ hL hm (fun r13 hm hL => ?_)
  obtain ⟨hb14, hm⟩ := am_gE hm
  obtain ⟨r15, er15⟩ : ∃ z, z = am_sr r13 (o + 54) (am_ix (x1 * (am_i 8))) (r (o + 54) (am_ix (((x1 * (am_i 8)) + (am_i 8)) - (am_i 1)))) := ⟨_, rfl⟩
  replace hm := am_letE er15 hm
  have hL0 := hL
  replace hL := hL.rast hO hx7 er15
  obtain ⟨hb16, hm⟩ := am_gE hm
  obtain ⟨m17, em17⟩ : ∃ z, z = am_sc m5 a2 (am_ix (am_i 0)) (r (o + 54) (am_ix (((x1 * (am_i 8)) + (am_i 8)) - (am_i 1)))) (am_ix (am_i 0)) (am_ix (am_i 64)) := ⟨_, rfl⟩
  replace hm := am_letE em17 hm
  obtain ⟨hb18, hm⟩ := am_gE hm
  obtain ⟨hb19, hm⟩ := am_gE hm
  obtain ⟨m20, em20⟩ : ∃ z, z = am_si m17 (aC o) (am_ix x1) (am_mn ((m17 (aC o) (am_ix x1)) + (am_i 1)) (am_i 8)) := ⟨_, rfl⟩
  replace hm := am_letE em20 hm
  cases hm
  exact hL
theorem lr_X4_rollBranch_27 {o1 : Nat} {x2 : Int32} {x3 : Int32} {y2 : Int32} {y3 : Int32} {res : am_m × am_rr} {self : am_m → am_rr → Nat → Int32 → Int32 → Option (am_m × am_rr)} {k : am_m → am_rr → Option (am_m × am_rr)} (hO1 : am_og o1) (hdd : True) (sh : True) (slr : ∀ {m : am_m} {r : am_rr} {o1 : Nat} {x2 : Int32} {x3 : Int32} {res : am_m × am_rr}, am_Lay r → am_og o1 → self m r o1 x2 x3 = some res → am_Lay res.2) : ∀ (n : Nat) (z4 : Int32) (m : am_m) (r : am_rr) (hL : am_Lay r), m_X4_rollBranch_27 self o1 x2 x3 y2 y3 k n z4 m r = some res → (∀ (m1 : am_m) (r1 : am_rr), k m1 r1 = some res → am_Lay r1 → am_Lay res.2) → am_Lay res.2 := by
  intro n
  induction n with
  | zero => intro z4 m r hL hm K; cases hm
  | succ n ih =>
    intro z4 m r hL hm K
    unfold m_X4_rollBranch_27 at hm
    by_cases hc6 : (am_i 24) ≤ z4
    · replace hm := am_it hm hc6
      exact K _ _ hm hL
    · replace hm := am_if hm hc6
      obtain ⟨hb7, hm⟩ := am_gE hm
      by_cases hc8 : ¬ (m (aU o1) (am_ix z4)) = y2
      · replace hm := am_it hm hc8
        exact ih _ _ _ hL hm K
      · replace hm := am_if hm hc8
        obtain ⟨q9, hq9, hm⟩ := am_bE hm
        have hL := slr hL hO1 hq9
        exact ih _ _ _ hL hm K
theorem lr_X4_rollBranch : ∀ (f : Nat) {m : am_m} {r : am_rr} {o1 : Nat} {x2 : Int32} {x3 : Int32} {res : am_m × am_rr}, am_Lay r → am_og o1 → m_X4_rollBranch f m r o1 x2 x3 = some res → am_Lay res.2 := by
  intro f
  induction f with
  | zero => intro m r o1 x2 x3 res hL hO1 hm; cases hm
  | succ f slr =>
    intro m r o1 x2 x3 res hL hO1 hm
    change (if (am_i 12) < x3 then some (m, r) else (m_X1_isThere m o1 x2).bind fun q2 => if q2 = 0 then some (m, r) else bif am_ib x2 24 then if ¬ (m (aS o1) (am_ix x2)) = 0 then m_X4_rollBranch_27 (m_X4_rollBranch f) o1 x2 x3 x2 x3 (fun m10 r11 => (m_X4_keptPart m10 o1 x2).bind fun q12 => (m_X4_mergeParts m10 o1 x2 q12).bind fun q13 => (m_X1_rolledUp q13 r11 o1 x2 2983).bind fun q14 => am_let (am_si q14.1 2982 3 ((q14.1 2982 3) + (am_i 1))) (fun m15 => some (m15, q14.2))) am_F (am_i 0) m r else some (m, r) else none) = some res at hm
    have hdd := True.intro
    have sh := True.intro
    by_cases hc1 : (am_i 12) < x3
    · replace hm := am_it hm hc1
      cases hm
      exact hL
    · replace hm := am_if hm hc1
      obtain ⟨q2, hq2, hm⟩ := am_bE hm
      by_cases hc3 : q2 = 0
      · replace hm := am_it hm hc3
        cases hm
        exact hL
      · replace hm := am_if hm hc3
        obtain ⟨hb4, hm⟩ := am_gE hm
        by_cases hc5 : ¬ (m (aS o1) (am_ix x2)) = 0
        · replace hm := am_it hm hc5
          refine lr_X4_rollBranch_27 hO1 hdd sh slr am_F _ _ _ hL hm (fun m10 r11 hm hL => ?_)
          obtain ⟨q12, hq12, hm⟩ := am_bE hm
          obtain ⟨q13, hq13, hm⟩ := am_bE hm
          obtain ⟨q14, hq14, hm⟩ := am_bE hm
          have hL := lr_X1_rolledUp hL hO1 kc_2983 hq14
          obtain ⟨m15, em15⟩ : ∃ z, z = am_si q14.1 2982 3 ((q14.1 2982 3) + (am_i 1)) := ⟨_, rfl⟩
          replace hm := am_letE em15 hm
          cases hm
          exact hL
        · replace hm := am_if hm hc5
          cases hm
          exact hL
theorem lr_X4_rollAll {m : am_m} {r : am_rr} {o1 : Nat} {x2 : Int32} {res : Int32 × am_m × am_rr} (hL : am_Lay r) (hO1 : am_og o1) (hm : m_X4_rollAll m r o1 x2 = some res) : am_Lay res.2.2 := by
  unfold m_X4_rollAll at hm
  obtain ⟨m1, em1⟩ : ∃ z, z = am_si m 2982 1 (am_i 0) := ⟨_, rfl⟩
  replace hm := am_letE em1 hm
  obtain ⟨m2, em2⟩ : ∃ z, z = am_si m1 2982 2 (am_i 0) := ⟨_, rfl⟩
  replace hm := am_letE em2 hm
  obtain ⟨m3, em3⟩ : ∃ z, z = am_si m2 2982 3 (am_i 0) := ⟨_, rfl⟩
  replace hm := am_letE em3 hm
  obtain ⟨q4, hq4, hm⟩ := am_bE hm
  have hL := lr_X4_rollBranch 20 hL hO1 hq4
  cases hm
  exact hL
theorem lr_X8_roll {m : am_m} {r : am_rr} {x1 : Int32} {res : Int32 × am_m × am_rr} (hL : am_Lay r) (hm : m_X8_roll m r x1 = some res) : am_Lay res.2.2 := by
  unfold m_X8_roll at hm
  obtain ⟨q1, hq1, hm⟩ := am_bE hm
  by_cases hc2 : q1 = 0
  · replace hm := am_it hm hc2
    cases hm
    exact hL
  · replace hm := am_if hm hc2
    obtain ⟨hb3, hm⟩ := am_gE hm
    by_cases hc4 : ¬ (m (aS 4) (am_ix x1)) = 0
    · replace hm := am_it hm hc4
      obtain ⟨q5, hq5, hm⟩ := am_bE hm
      obtain ⟨q6, hq6, hm⟩ := am_bE hm
      have hL := lr_X4_rollAll hL og4 hq6
      obtain ⟨q7, hq7, hm⟩ := am_bE hm
      obtain ⟨q8, hq8, hm⟩ := am_bE hm
      obtain ⟨q9, hq9, hm⟩ := am_bE hm
      cases hm
      exact hL
    · replace hm := am_if hm hc4
      cases hm
      exact hL
theorem lr_X8_cost {m : am_m} {r : am_rr} {x1 : Int32} {res : Int32 × am_m × am_rr} (hL : am_Lay r) (hm : m_X8_cost m r x1 = some res) : am_Lay res.2.2 := by
  unfold m_X8_cost at hm
  obtain ⟨q1, hq1, hm⟩ := am_bE hm
  by_cases hc2 : ¬ q1 = 0
  · replace hm := am_it hm hc2
    obtain ⟨q3, hq3, hm⟩ := am_bE hm
    obtain ⟨q4, hq4, hm⟩ := am_bE hm
    have hL := lr_X4_rollAll hL og251 hq4
    cases hm
    exact hL
  · replace hm := am_if hm hc2
    cases hm
    exact hL
theorem lr_X8_would {m : am_m} {r : am_rr} {x1 : Int32} {x2 : Int32} {x3 : Int32} {res : Int32 × am_m × am_rr} (hL : am_Lay r) (hm : m_X8_would m r x1 x2 x3 = some res) : am_Lay res.2.2 := by
  unfold m_X8_would at hm
  by_cases hc1 : x3 < 0
  · replace hm := am_it hm hc1
    cases hm
    exact hL
  · replace hm := am_if hm hc1
    by_cases hc2 : (am_i 3) < x3
    · replace hm := am_it hm hc2
      cases hm
      exact hL
    · replace hm := am_if hm hc2
      obtain ⟨q3, hq3, hm⟩ := am_bE hm
      by_cases hc4 : ¬ q3 = 0
      · replace hm := am_it hm hc4
        obtain ⟨q5, hq5, hm⟩ := am_bE hm
        obtain ⟨q6, hq6, hm⟩ := am_bE hm
        by_cases hc7 : ¬ x3 = (am_i 3)
        · replace hm := am_it hm hc7
          obtain ⟨q8, hq8, hm⟩ := am_bE hm
          have hL := lr_X4_rollAll hL og251 hq8
          by_cases hc9 : ¬ x3 = 0
          · replace hm := am_it hm hc9
            by_cases hc10 : ¬ x3 = (am_i 1)
            · replace hm := am_it hm hc10
              obtain ⟨q11, hq11, hm⟩ := am_bE hm
              cases hm
              exact hL
            · replace hm := am_if hm hc10
              obtain ⟨hb12, hm⟩ := am_gE hm
              obtain ⟨q13, hq13, hm⟩ := am_bE hm
              cases hm
              exact hL
          · replace hm := am_if hm hc9
            cases hm
            exact hL
        · replace hm := am_if hm hc7
          obtain ⟨q14, hq14, hm⟩ := am_bE hm
          cases hm
          exact hL
      · replace hm := am_if hm hc4
        cases hm
        exact hL
