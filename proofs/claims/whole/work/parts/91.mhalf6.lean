/-! ===== mathematics: halves, the answer ===== -/
/-- the set of the chosen lower units -/
def hvQ (up : Nat → Int) (u c : Nat) : Nat → Int32
  | 0 => am_i 0
  | j + 1 => if c.testBit j = true then hvQ up u c j ||| ((am_i 1) <<< (am_i (lowA up (u : Int) (j : Int) : Int) &&& 31)) else hvQ up u c j
theorem hvZ_n {v : Nat → Nat} {c j : Nat} : hvZ v (j + 1) c = hvZ v j c + (if c.testBit j = true then (v j : Int) else -(v j : Int)) := by
  unfold hvZ
  have e1 : hvS v c (j + 1) = hvS v c j + hvV v c j := rfl
  have e2 : su v (j + 1) = su v j + v j := rfl
  rw [e1, e2]
  unfold hvV
  cases c.testBit j
  · rw [if_neg (by decide), if_neg (by decide)]; omega
  · rw [if_pos rfl, if_pos rfl]; omega
theorem sh0 : ∀ k : Nat, k < 24 → (am_i 0) <<< (am_i (k : Int) &&& 31) = am_i 0 := by decide +kernel
section HZ
variable {m : am_m} {r : am_rr} {s : Sx} {u : Nat}
theorem l_X8_halves_40 {x1 x2 y2 : Int32} {L : Nat} {k : am_m → Option (Int32 × am_m)} (h : GS m r s) (hu : u < 24) (hu2 : gU (xG s) u ≠ -2) (hL : L ≤ lowC (gU (xG s)) u) (h12 : L ≤ 12) : ∃ m', Fr (fun b => b = 3013) m m' ∧ RowT m' 3013 (hvT (xG s) u) L ∧ m_X8_halves_40 x1 x2 (am_i u) y2 (am_i (L : Int)) k am_F (am_i 0) m = k m' := by
  refine Exists.elim (lo_inv (fun n j (t : am_m) => m_X8_halves_40 x1 x2 (am_i u) y2 (am_i (L : Int)) k n (am_i (j : Int)) t) (fun j t => Fr (fun b => b = 3013) m t ∧ ∀ c, c < j → t 3013 c = am_i (hvT (xG s) u c : Nat)) 0 L k (n := am_F) (s0 := m) ⟨Fr.refl _ _, fun c hc => absurd hc (Nat.not_lt_zero c)⟩ (by omega) (am_Fv (by omega)) (fun n j t _ hj A => ?_) (fun n t A => ?_)) (fun t T => ⟨t, T.1.1, ⟨T.1.2, fun c => hvT_le h.ig c⟩, T.2⟩)
  · obtain ⟨a1, a2⟩ := A
    obtain ⟨g1, g2, g3, g4⟩ := low_i (s := s) (u := u) (i := j) (by omega)
    have a3 : GS t r s := h.sc1 (a1.mono (fun b hb => by unfold Scr; omega))
    show ∃ s' : am_m, m_X8_halves_40 _ _ _ _ _ _ (n + 1) _ t = m_X8_halves_40 _ _ _ _ _ _ n _ s' ∧ _
    have e0 : thr (gU (xG s)) ((lowA (gU (xG s)) (u : Int) (j : Int) : Nat) : Int) = true := thr_t g1 (by rw [g2]; omega)
    rw [m_X8_halves_40, if_neg (by rw [i_le (by omega) (by omega) (by omega) (by omega)]; omega), s_X1_lowerAt a3.tc a3.tr hu hu2 (by omega) (by omega), g3, Option.bind_some, s_t8 a3 (by omega) (by omega), e0, Option.bind_some, if_neg (by decide), i_ibt (by omega) (by omega) (by omega), cond_true, i_ixn (by omega), s_X5_allOf (a3.xc g1), Option.bind_some, i_ibt (by omega) (by omega) (by omega), cond_true, am_letF, i_ixn (by omega), ← g4, nj]
    refine ⟨_, rfl, a1.si2 rfl, fun c hc => ?_⟩
    by_cases e : c = j
    · rw [e, si_at]
    · rw [si_o e]; exact a2 c (by omega)
  · show m_X8_halves_40 _ _ _ _ _ _ (n + 1) _ t = _
    rw [m_X8_halves_40, if_pos (by rw [i_le (by omega) (by omega) (by omega) (by omega)]; omega)]
theorem l_X8_halves_119 {x1 x2 y2 : Int32} {L c : Nat} {k : Int32 → Int32 → Option (Int32 × am_m)} (h : GS m r s) (hu : u < 24) (hu2 : gU (xG s) u ≠ -2) (hv : RowT m 3013 (hvT (xG s) u) L) (hL : L ≤ lowC (gU (xG s)) u) (h12 : L ≤ 12) (hc : c < 4096) : m_X8_halves_119 x1 x2 m (am_i u) y2 (am_i (L : Int)) (am_i (c : Int)) k am_F (am_i 0) (am_i 0) (am_i 0) = k (hvQ (gU (xG s)) u c L) (am_i (hvZ (hvT (xG s) u) L c)) := by
  refine lo_go (fun n j (t : Int32 × Int32) => m_X8_halves_119 x1 x2 m (am_i u) y2 (am_i (L : Int)) (am_i (c : Int)) k n t.1 t.2 (am_i (j : Int))) (fun j => (hvQ (gU (xG s)) u c j, am_i (hvZ (hvT (xG s) u) j c))) 0 L (n := am_F) (s0 := (am_i 0, am_i 0)) rfl (by omega) (am_Fv (by omega)) (fun n j _ hj => ?_) (fun n => ?_)
  · obtain ⟨g1, g2, g3, g4⟩ := low_i (s := s) (u := u) (i := j) (by omega)
    show m_X8_halves_119 _ _ _ _ _ _ _ _ (n + 1) _ _ _ = m_X8_halves_119 _ _ _ _ _ _ _ _ n (if c.testBit j = true then hvQ (gU (xG s)) u c j ||| ((am_i 1) <<< (am_i (lowA (gU (xG s)) (u : Int) (j : Int) : Int) &&& 31)) else hvQ (gU (xG s)) u c j) (am_i (hvZ (hvT (xG s) u) (j + 1) c)) _
    rw [hvZ_n, m_X8_halves_119, if_neg (by rw [i_le (by omega) (by omega) (by omega) (by omega)]; omega), s_bit hc (by omega)]
    cases c.testBit j
    · rw [if_pos (by decide), if_pos (by decide), if_pos (by decide), i_ibt (by omega) (by omega) (by omega), cond_true, i_ixn (by omega), hv.1 j hj, i_neg, i_add, nj, if_neg (by decide), if_neg (by decide)]
    · rw [if_neg (by decide), if_neg (by decide), s_X1_lowerAt h.tc h.tr hu hu2 (by omega) (by omega), g3, Option.bind_some, if_neg (by decide), i_ibt (by omega) (by omega) (by omega), cond_true, i_ixn (by omega), hv.1 j hj, i_add, nj, if_pos rfl, if_pos rfl]
  · show m_X8_halves_119 _ _ _ _ _ _ _ _ (n + 1) _ _ _ = _
    rw [m_X8_halves_119, if_pos (by rw [i_le (by omega) (by omega) (by omega) (by omega)]; omega)]
theorem l_X9_halves_72 {x1 x2 y2 y4 : Int32} {L : Nat} {k : am_m → Option (Int32 × am_m)} (h : GS m r s) (hu : u < 24) (hu2 : gU (xG s) u ≠ -2) (hL : L ≤ lowC (gU (xG s)) u) (h12 : L ≤ 12) : ∃ m', GS m' r s ∧ (∀ b, b < 3261 → m' b = m b) ∧ RowT m' 3269 (hvT (xG s) u) L ∧ m_X9_halves_72 x1 x2 (am_i u) y2 (am_i (L : Int)) y4 k am_F (am_i 0) m = k m' := by
  refine Exists.elim (lo_inv (fun n j (t : am_m) => m_X9_halves_72 x1 x2 (am_i u) y2 (am_i (L : Int)) y4 k n (am_i (j : Int)) t) (fun j t => GS t r s ∧ (∀ b, b < 3261 → t b = m b) ∧ ∀ c, c < j → t 3269 c = am_i (hvT (xG s) u c : Nat)) 0 L k (n := am_F) (s0 := m) ⟨h, fun _ _ => rfl, fun c hc => absurd hc (Nat.not_lt_zero c)⟩ (by omega) (am_Fv (by omega)) (fun n j t _ hj A => ?_) (fun n t A => ?_)) (fun t T => ⟨t, T.1.1, T.1.2.1, ⟨T.1.2.2, fun c => hvT_le h.ig c⟩, T.2⟩)
  · obtain ⟨a1, a2, a3⟩ := A
    obtain ⟨g1, g2, g3, g4⟩ := low_i (s := s) (u := u) (i := j) (by omega)
    obtain ⟨m1, e1, f1, _⟩ := s_X9_allOf (a1.xm g1) g1
    show ∃ s' : am_m, m_X9_halves_72 _ _ _ _ _ _ _ (n + 1) _ t = m_X9_halves_72 _ _ _ _ _ _ _ n _ s' ∧ _
    rw [m_X9_halves_72, if_neg (by rw [i_le (by omega) (by omega) (by omega) (by omega)]; omega), s_X9_below a1.tm a1.tr hu hu2 (by omega) (by omega), g3, Option.bind_some, e1, Option.bind_some, i_ibt (by omega) (by omega) (by omega), cond_true, am_letF, i_ixn (by omega), nj]
    refine ⟨_, rfl, (a1.sc1 (fun b hb => f1 b (by unfold Scr at hb; omega))).sc1 (Fr.si (by unfold Scr; omega)), fun b hb => ?_, fun c hc => ?_⟩
    · rw [si_ne (by omega)]
      show m1 b = m b
      rw [f1 b (by omega)]; exact a2 b hb
    · by_cases e : c = j
      · rw [e, si_at, g4]
      · rw [si_o e]
        show m1 3269 c = _
        rw [f1 3269 (by decide)]
        exact a3 c (by omega)
  · show m_X9_halves_72 _ _ _ _ _ _ _ (n + 1) _ t = _
    rw [m_X9_halves_72, if_pos (by rw [i_le (by omega) (by omega) (by omega) (by omega)]; omega)]
theorem l_X9_halves_216 {x1 x2 y2 y6 : Int32} {L c : Nat} {k : Int32 → Option (Int32 × am_m)} (h : GS m r s) (hu : u < 24) (hu2 : gU (xG s) u ≠ -2) (hL : L ≤ lowC (gU (xG s)) u) (h12 : L ≤ 12) (hc : c < 4096) : m_X9_halves_216 x1 x2 m (am_i u) y2 (am_i (L : Int)) (am_i (c : Int)) y6 k am_F (am_i 0) (am_i 0) = k (hvQ (gU (xG s)) u c L) := by
  refine lo_go (fun n j (t : Int32) => m_X9_halves_216 x1 x2 m (am_i u) y2 (am_i (L : Int)) (am_i (c : Int)) y6 k n t (am_i (j : Int))) (fun j => hvQ (gU (xG s)) u c j) 0 L (n := am_F) (s0 := am_i 0) rfl (by omega) (am_Fv (by omega)) (fun n j _ hj => ?_) (fun n => ?_)
  · obtain ⟨g1, g2, g3, g4⟩ := low_i (s := s) (u := u) (i := j) (by omega)
    show m_X9_halves_216 _ _ _ _ _ _ _ _ _ (n + 1) _ _ = m_X9_halves_216 _ _ _ _ _ _ _ _ _ n (if c.testBit j = true then hvQ (gU (xG s)) u c j ||| ((am_i 1) <<< (am_i (lowA (gU (xG s)) (u : Int) (j : Int) : Int) &&& 31)) else hvQ (gU (xG s)) u c j) _
    rw [m_X9_halves_216, if_neg (by rw [i_le (by omega) (by omega) (by omega) (by omega)]; omega), s_X9_below h.tm h.tr hu hu2 (by omega) (by omega), g3, Option.bind_some, s_bit hc (by omega), nj]
    cases c.testBit j
    · rw [show am_i ((b1 false : Nat) : Int) = am_i 0 from rfl, sh0 _ g1, or_0, if_neg (by decide)]
    · rw [show am_i ((b1 true : Nat) : Int) = am_i 1 from rfl, if_pos rfl]
  · show m_X9_halves_216 _ _ _ _ _ _ _ _ _ (n + 1) _ _ = _
    rw [m_X9_halves_216, if_pos (by rw [i_le (by omega) (by omega) (by omega) (by omega)]; omega)]
theorem q_halves (h : GS m r s) (a b : Int32) : ∃ y m1 m2, m_X8_halves m a b = some (y, m1) ∧ m_X9_halves m1 a b = some (y, m2) ∧ Good m2 r := by
  obtain ⟨x, h1, h2, rfl⟩ := i_any a
  obtain ⟨w, h3, h4, rfl⟩ := i_any b
  cases c : thr (gU (xG s)) x
  · refine ⟨am_i (-1), m, m, ?_, ?_, h.g⟩
    · unfold m_X8_halves
      rw [s_X1_lowerCount0 h.tc h.tr h1 h2 c, Option.bind_some, s_t8 h h1 h2, c]
      rfl
    · unfold m_X9_halves
      rw [s_t9 h h1 h2, c]
      rfl
  · obtain ⟨u, hu, rfl, hu2⟩ := thr_i c
    have cl := cn_le (fun k => gU (xG s) k == (u : Int)) 24
    have cl : lowC (gU (xG s)) u ≤ 24 := cl
    by_cases c2 : 0 ≤ w ∧ w ≤ 1
    · by_cases c3 : lowC (gU (xG s)) u ≤ 12
      · obtain ⟨L, hL⟩ : ∃ L, L = lowC (gU (xG s)) u := ⟨_, rfl⟩
        have h2L : 2 ^ L ≤ 2 ^ 12 := Nat.pow_le_pow_right (by decide) (by omega)
        have e12 : (2 : Nat) ^ 12 = 4096 := rfl
        have p0 : 1 ≤ 2 ^ L := Nat.one_le_two_pow
        have hB := hvB_lt (hvA (hvT (xG s) u) L) (2 ^ L) p0
        obtain ⟨C, hC⟩ : ∃ C, C = hvB (hvA (hvT (xG s) u) L) (2 ^ L) := ⟨_, rfl⟩
        rw [← hC] at hB
        obtain ⟨m1, f1, r1, e1⟩ := l_X8_halves_40 (x1 := am_i u) (x2 := am_i w) (y2 := am_i w) (L := L) (k := fun m17 => (m_X5_halvingOf m17 3013 (am_i (L : Int))).bind fun q18 => m_X8_halves_119 (am_i u) (am_i w) m17 (am_i u) (am_i w) (am_i (L : Int)) q18 (fun u37 u38 => if ¬ am_i w = 0 then some ((am_ab u38), m17) else some (u37, m17)) am_F (am_i 0) (am_i 0) (am_i 0)) h hu hu2 (by omega) (by omega)
        have g1 : GS m1 r s := h.sc1 (f1.mono (fun b hb => by unfold Scr; omega))
        obtain ⟨m2, g2, f2, e2⟩ := l_X9_halves_41 (x1 := am_i u) (x2 := am_i w) (y2 := am_i w) (L := L) (k := fun u11 m12 => m_X9_halves_72 (am_i u) (am_i w) (am_i u) (am_i w) (am_i (L : Int)) u11 (fun m18 => m_X9_halves_112 (am_i u) (am_i w) m18 (am_i u) (am_i w) (am_i (L : Int)) u11 (fun u26 u27 => m_X9_halves_216 (am_i u) (am_i w) m18 (am_i u) (am_i w) (am_i (L : Int)) u26 u27 (fun u30 => if ¬ am_i w = 0 then some (u27, m18) else some (u30, m18)) am_F (am_i 0) (am_i 0)) am_F (am_i 0) u11 (am_i 1)) am_F (am_i 0) m12) g1 hu hu2 (by omega) (by omega)
        obtain ⟨m3, g3, f3, r3, e3⟩ := l_X9_halves_72 (x1 := am_i u) (x2 := am_i w) (y2 := am_i w) (y4 := am_i (su (hvT (xG s) u) L : Nat)) (L := L) (k := fun m18 => m_X9_halves_112 (am_i u) (am_i w) m18 (am_i u) (am_i w) (am_i (L : Int)) (am_i (su (hvT (xG s) u) L : Nat)) (fun u26 u27 => m_X9_halves_216 (am_i u) (am_i w) m18 (am_i u) (am_i w) (am_i (L : Int)) u26 u27 (fun u30 => if ¬ am_i w = 0 then some (u27, m18) else some (u30, m18)) am_F (am_i 0) (am_i 0)) am_F (am_i 0) (am_i (su (hvT (xG s) u) L : Nat)) (am_i 1)) g2 hu hu2 (by omega) (by omega)
        have b0 := hvZ_b (v := hvT (xG s) u) (fun c => hvT_le h.ig c) (n := L) (by omega) C
        refine ⟨if ¬ am_i w = 0 then am_i (hvA (hvT (xG s) u) L C : Nat) else hvQ (gU (xG s)) u C L, m1, m3, ?_, ?_, g3.g⟩
        · unfold m_X8_halves
          rw [s_X1_lowerCount h.tc h.tr c, Option.bind_some, s_t8 h h1 h2, c, Option.bind_some, if_neg (by decide), if_neg (by rw [i_zero, i_lt (by omega) (by omega) (by omega) (by omega)]; omega), if_neg (by rw [i_lt (by omega) (by omega) (by omega) (by omega)]; omega), if_pos (by rw [i_le (by omega) (by omega) (by omega) (by omega)]; omega), ← hL, e1, s_X5_halvingOf r1 (by omega), Option.bind_some, ← hC, l_X8_halves_119 g1 hu hu2 r1 (by omega) (by omega) (by omega), i_absN (by omega) (by omega)]
          by_cases c5 : am_i w = 0
          · rw [if_neg (fun z => z c5), if_neg (fun z => z c5)]
          · rw [if_pos c5, if_pos c5]; rfl
        · unfold m_X9_halves
          rw [s_t9 g1 h1 h2, c, Option.bind_some, if_neg (by decide), s_X9_belowMany g1.tm g1.tr hu, Option.bind_some, if_neg (by rw [i_lt (by omega) (by omega) (by omega) (by omega)]; omega), s_X9_isIn h3 h4 (by decide) (by decide) (by decide) (by decide), Option.bind_some, if_pos c2, if_pos (by decide), Option.bind_some, ← hL, e2, e3, l_X9_halves_112 r3 (by omega), ← hC, l_X9_halves_216 g3 hu hu2 (by omega) (by omega) (by omega)]
          by_cases c5 : am_i w = 0
          · rw [if_neg (fun z => z c5), if_neg (fun z => z c5)]
          · rw [if_pos c5, if_pos c5]
      · refine ⟨am_i (-1), m, m, ?_, ?_, h.g⟩
        · unfold m_X8_halves
          rw [s_X1_lowerCount h.tc h.tr c, Option.bind_some, s_t8 h h1 h2, c, Option.bind_some, if_neg (by decide), if_neg (by rw [i_zero, i_lt (by omega) (by omega) (by omega) (by omega)]; omega), if_neg (by rw [i_lt (by omega) (by omega) (by omega) (by omega)]; omega), if_neg (by rw [i_le (by omega) (by omega) (by omega) (by omega)]; omega)]
        · unfold m_X9_halves
          rw [s_t9 h h1 h2, c, Option.bind_some, if_neg (by decide), s_X9_belowMany h.tm h.tr hu, Option.bind_some, if_pos (by rw [i_lt (by omega) (by omega) (by omega) (by omega)]; omega)]
    · refine ⟨am_i (-1), m, m, ?_, ?_, h.g⟩
      · unfold m_X8_halves
        rw [s_X1_lowerCount h.tc h.tr c, Option.bind_some, s_t8 h h1 h2, c, Option.bind_some, if_neg (by decide)]
        by_cases c3 : w < 0
        · rw [if_pos (by rw [i_zero, i_lt (by omega) (by omega) (by omega) (by omega)]; omega)]
        · rw [if_neg (by rw [i_zero, i_lt (by omega) (by omega) (by omega) (by omega)]; omega), if_pos (by rw [i_lt (by omega) (by omega) (by omega) (by omega)]; omega)]
      · unfold m_X9_halves
        rw [s_t9 h h1 h2, c, Option.bind_some, if_neg (by decide), s_X9_belowMany h.tm h.tr hu, Option.bind_some]
        by_cases c3 : (12 : Int) < lowC (gU (xG s)) u
        · rw [if_pos (by rw [i_lt (by omega) (by omega) (by omega) (by omega)]; omega)]
        · rw [if_neg (by rw [i_lt (by omega) (by omega) (by omega) (by omega)]; omega), s_X9_isIn h3 h4 (by decide) (by decide) (by decide) (by decide), Option.bind_some, if_neg c2, if_neg (by decide)]
end HZ
