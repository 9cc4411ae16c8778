/-! ===== mathematics: would, the call ===== -/
/-- a unit whose leader is another one -/
noncomputable def wdP (g g2 : Og) (k : Nat) : Bool := thr (gU g) (k : Int) && (by classical exact decide (¬ am_i (ldI (gM g k) 0) = am_i (ldI (gM g2 k) 0)))
/-- the organisation after the branch has moved -/
def wdG (g : Og) (u b p : Nat) : Og := ogS (ogM g u b) (stM g u b p)
def wdS (g : Og) (u b p : Nat) : Rs := rlR 20 (wdG g u b p, 0, 0, 0) 0
noncomputable def wdA (g : Og) (u b p : Nat) (x : Int) : Int32 := if x = 0 then am_i ((wdS g u b p).2.1 : Nat) else if x = 1 then am_i (ldI (gM (wdS g u b p).1 b) 0) else if x = 2 then am_i (cn (wdP g (wdS g u b p).1) 24 : Nat) else stL (slP (gU (wdG g u b p)) (gS (wdG g u b p))) 24
section WQ
variable {m : am_m} {r : am_rr} {s : Sx} {u b p : Nat}
theorem wd_U {k : Nat} (hb : b < 24) (hu2 : gU (xG s) u ≠ -2) : gU (wdG (xG s) u b p) k = -2 ↔ gU (xG s) k = -2 := by
  show (if k = u then (b : Int) else gU (xG s) k) = -2 ↔ _
  by_cases e : k = u
  · rw [if_pos e, e]
    exact ⟨fun h => by omega, fun h => absurd h hu2⟩
  · rw [if_neg e]
theorem wd_thr {k : Nat} (hk : k < 24) (hb : b < 24) (hu2 : gU (xG s) u ≠ -2) : thr (gU (wdG (xG s) u b p)) (k : Int) = thr (gU (xG s)) (k : Int) := by
  by_cases c : gU (xG s) k = -2
  · rw [thr_f c, thr_f ((wd_U hb hu2).mpr c)]
  · rw [thr_t hk c, thr_t hk (fun e => c ((wd_U hb hu2).mp e))]
theorem wdP_0 {g g2 : Og} {k : Nat} (h : thr (gU g) (k : Int) = false) : wdP g g2 k = false := by
  unfold wdP
  rw [h]
  rfl
theorem wdP_e {g g2 : Og} {k : Nat} (h : am_i (ldI (gM g k) 0) = am_i (ldI (gM g2 k) 0)) : wdP g g2 k = false := by
  unfold wdP
  rw [Bool.and_eq_false_iff]
  exact Or.inr (decide_eq_false (fun z => z h))
theorem wdP_n {g g2 : Og} {k : Nat} (h : thr (gU g) (k : Int) = true) (h2 : ¬ am_i (ldI (gM g k) 0) = am_i (ldI (gM g2 k) 0)) : wdP g g2 k = true := by
  unfold wdP
  rw [Bool.and_eq_true]
  exact ⟨h, decide_eq_true h2⟩
theorem cn_up {P : Nat → Bool} {j : Nat} (h : P j = true) : cn P (j + 1) = cn P j + 1 := by
  show cn P j + b1 (P j) = _
  rw [h]; rfl
theorem cn_st {P : Nat → Bool} {j : Nat} (h : P j = false) : cn P (j + 1) = cn P j := by
  show cn P j + b1 (P j) = _
  rw [h]; rfl
theorem s_X8_otherLeaders {g2 : Og} (h : GS m r s) (h2 : OC m r 251 g2) (hI2 : IG g2) : m_X8_otherLeaders m = some (am_i (cn (wdP (xG s) g2) 24 : Nat)) := by
  unfold m_X8_otherLeaders
  refine lo_go (fun n j (t : Int32) => m_X8_otherLeaders_4 m (fun u9 => some u9) n t (am_i (j : Int))) (fun j => am_i (cn (wdP (xG s) g2) j : Nat)) 0 24 (n := am_F) (s0 := am_i 0) rfl (by omega) (am_Fv (by omega)) (fun n j _ hj => ?_) (fun n => rfl)
  show m_X8_otherLeaders_4 _ _ (n + 1) _ _ = _
  rw [m_X8_otherLeaders_4, if_neg (by rw [i_le (by omega) (by omega) (by omega) (by omega)]; omega), s_t8 h (by omega) (by omega)]
  cases c : thr (gU (xG s)) (j : Int)
  · rw [Option.bind_some, if_neg (by decide), nj, cn_st (wdP_0 c)]
  · rw [Option.bind_some, if_pos (by decide), i_ibt (by omega) (by omega) (by omega), cond_true, i_ixn (by omega), s_X5_firstLeader (h.xc hj), Option.bind_some, cond_true, s_X5_firstLeader (h2.sum hI2 hj), Option.bind_some]
    by_cases c2 : am_i (ldI (gM (xG s) j) 0) = am_i (ldI (gM g2 j) 0)
    · rw [if_pos c2, nj, cn_st (wdP_e c2)]
    · rw [if_neg c2, nj, nj, cn_up (wdP_n c c2)]
theorem l_X9_would_127 {g2 : Og} {x1 x2 x3 y3 y4 y5 y6 : Int32} {k : Int32 → Option (Int32 × am_m)} (h2 : OM m 3262 0 g2) (hI2 : IG g2) (ht : ∀ k : Nat, k < 24 → thr (gU g2) (k : Int) = thr (gU (xG s)) (k : Int)) (hl : ∀ k : Nat, k < 24 → thr (gU (xG s)) (k : Int) = true → m 3272 k = am_i (ldI (gM (xG s) k) 0)) : m_X9_would_127 x1 x2 x3 m y3 y4 y5 y6 k am_F (am_i 0) (am_i 0) = k (am_i (cn (wdP (xG s) g2) 24 : Nat)) := by
  refine lo_go (fun n j (t : Int32) => m_X9_would_127 x1 x2 x3 m y3 y4 y5 y6 k n t (am_i (j : Int))) (fun j => am_i (cn (wdP (xG s) g2) j : Nat)) 0 24 (n := am_F) (s0 := am_i 0) rfl (by omega) (am_Fv (by omega)) (fun n j _ hj => ?_) (fun n => rfl)
  show m_X9_would_127 _ _ _ _ _ _ _ _ _ (n + 1) _ _ = _
  have z0 : ∀ x : Int32, x + am_i 0 = x := fun x => by rw [show am_i 0 = 0 from rfl, Int32.add_zero]
  rw [m_X9_would_127, if_neg (by rw [i_le (by omega) (by omega) (by omega) (by omega)]; omega), s_X9_isUnit h2.TM (by omega) (by omega), ht j hj, z0]
  cases c : thr (gU (xG s)) (j : Int)
  · rw [Option.bind_some, if_pos (by decide), nj, cn_st (wdP_0 c)]
  · have q : m_X9_leaderOf m (am_i (j : Int)) (am_i 0) = some (am_i (ldI (gM g2 j) 0)) := s_X9_leaderOf (h2.sum hI2 hj) hj (by decide) (by decide)
    rw [Option.bind_some, if_neg (by decide), q, Option.bind_some, i_ibt (by omega) (by omega) (by omega), cond_true, i_ixn (by omega), hl j hj c]
    by_cases c2 : am_i (ldI (gM (xG s) j) 0) = am_i (ldI (gM g2 j) 0)
    · rw [if_pos c2.symm, nj, cn_st (wdP_e c2)]
    · rw [if_neg (fun z => c2 z.symm), nj, nj, cn_up (wdP_n c c2)]
theorem l_X9_would_23 {x1 x2 x3 y1 y2 y3 : Int32} {k : am_m → Option (Int32 × am_m)} (h : GS m r s) : ∃ m', Fr (fun b => b = 3272) m m' ∧ (∀ k : Nat, k < 24 → thr (gU (xG s)) (k : Int) = true → m' 3272 k = am_i (ldI (gM (xG s) k) 0)) ∧ m_X9_would_23 x1 x2 x3 y1 y2 y3 k am_F (am_i 0) m = k m' := by
  refine Exists.elim (lo_inv (fun n j (t : am_m) => m_X9_would_23 x1 x2 x3 y1 y2 y3 k n (am_i (j : Int)) t) (fun j t => Fr (fun b => b = 3272) m t ∧ ∀ k : Nat, k < j → k < 24 → thr (gU (xG s)) (k : Int) = true → t 3272 k = am_i (ldI (gM (xG s) k) 0)) 0 24 k (n := am_F) (s0 := m) ⟨Fr.refl _ _, fun k hk => absurd hk (Nat.not_lt_zero k)⟩ (by omega) (am_Fv (by omega)) (fun n j t _ hj A => ?_) (fun n t A => rfl)) (fun t T => ⟨t, T.1.1, fun k hk => T.1.2 k hk hk, T.2⟩)
  obtain ⟨a1, a2⟩ := A
  have ht : GS t r s := h.sc1 (a1.mono (fun b hb => by unfold Scr; omega))
  show ∃ s' : am_m, m_X9_would_23 _ _ _ _ _ _ _ (n + 1) _ t = m_X9_would_23 _ _ _ _ _ _ _ n _ s' ∧ _
  rw [m_X9_would_23, if_neg (by rw [i_le (by omega) (by omega) (by omega) (by omega)]; omega), s_t9 ht (by omega) (by omega), i_ibt (by omega) (by omega) (by omega), i_ixn (by omega), nj]
  cases c : thr (gU (xG s)) (j : Int)
  · rw [Option.bind_some, if_pos (by decide), cond_true, am_letF]
    refine ⟨_, rfl, a1.si2 rfl, fun k hk hk2 hk3 => ?_⟩
    have kj : k ≠ j := fun e => by rw [e, c] at hk3; cases hk3
    rw [si_o kj]
    exact a2 k (by omega) hk2 hk3
  · have q : m_X9_leaderOf t (am_i (j : Int)) (am_i 0) = some (am_i (ldI (gM (xG s) j) 0)) := s_X9_leaderOf (ht.xm hj) hj (by decide) (by decide)
    rw [Option.bind_some, if_neg (by decide), q, Option.bind_some, cond_true, am_letF]
    refine ⟨_, rfl, a1.si2 rfl, fun k hk hk2 hk3 => ?_⟩
    by_cases e : k = j
    · rw [e, si_at]
    · rw [si_o e]
      exact a2 k (by omega) hk2 hk3
theorem l_X9_would_66 {x1 x2 x3 y1 y2 y3 : Int32} {k : am_m → Option (Int32 × am_m)} : m_X9_would_66 x1 x2 x3 y1 y2 y3 k am_F (am_i 0) m = k (am_sc m 3262 0 3263 0 15517) := by
  refine lo_go (fun n j (t : am_m) => m_X9_would_66 x1 x2 x3 y1 y2 y3 k n (am_i (j : Int)) t) (fun j => am_sc m 3262 0 3263 0 j) 0 15517 (n := am_F) (s0 := m) sc_0.symm (by omega) (am_Fv (by omega)) (fun n j _ hj => ?_) (fun n => rfl)
  show m_X9_would_66 _ _ _ _ _ _ _ (n + 1) _ _ = _
  have e2 := sc_s (m := m) (a := 3262) (b := 3263) (sp := 0) (dp := 0) (j := j) (by decide)
  rw [Nat.zero_add] at e2
  rw [m_X9_would_66, if_neg (by rw [i_le (by omega) (by omega) (by omega) (by omega)]; omega), i_ibt (by omega) (by omega) (by omega), cond_true, cond_true, am_letF, i_ixn (by omega), nj, e2]
theorem wd_ok (h : GS m r s) (hI : IG (wdG (xG s) u b p)) : IG (wdS (xG s) u b p).1 ∧ gU (wdS (xG s) u b p).1 = gU (wdG (xG s) u b p) := by
  have q := (rlR_ok 20 (wdG (xG s) u b p, 0, 0, 0) 0 hI (by omega) (by rw [show gU (wdG (xG s) u b p, (0 : Nat), (0 : Nat), (0 : Nat)).1 0 = -1 from hI.1.1]; decide) (by omega)).1
  exact ⟨q.2.2.2.1, q.1⟩
theorem l_would8 {x : Int} (h : GS m r s) (hc : cmv (gU (xG s)) (gD (xG s)) u b = true) (hu : u < 24) (hu2 : gU (xG s) u ≠ -2) (hb : b < 24) (hb2 : gU (xG s) b ≠ -2) (hn : ¬ inB (gU (xG s)) (gD (xG s)) b u = true) (hd : gD (xG s) b + 1 + hgt (gU (xG s)) (gD (xG s)) u 24 ≤ 12) (hp : p < 24) (hp1 : gU (xG s) u = (p : Int)) (hp2 : gU (xG s) p ≠ -2) (hx : 0 ≤ x) (hx2 : x ≤ 3) : ∃ m1 r1, m_X8_would m r (am_i u) (am_i b) (am_i x) = some (wdA (xG s) u b p x, m1, r1) ∧ GS m1 r1 s := by
  have hI : IG (wdG (xG s) u b p) := ogM_IG h.ig hu hu2 hb hb2 hn hd hp hp1 hp2
  obtain ⟨hI2, hU2⟩ := wd_ok h hI
  obtain ⟨m1, e1, f1, hG1⟩ := s_X1_takeOver og251 og4 (by decide) h.1 h.2.1.1 h.ig
  obtain ⟨m2, e2, f2, g2⟩ := s_moveTo hG1 h.tr h.1 og251 hu hu2 hb hb2 hn hd hp hp1 hp2
  have f12 : Fr Scr m m2 := (f1.mono (fun b hb => Or.inl ⟨by omega, by omega⟩)).trans (f2.mono (fun b hb => Or.inl (by unfold aU aS at hb; omega)))
  have h2 : GS m2 r s := h.sc1 f12
  unfold m_X8_would
  rw [if_neg (by rw [i_zero, i_lt (by omega) (by omega) (by omega) (by omega)]; omega), if_neg (by rw [i_lt (by omega) (by omega) (by omega) (by omega)]; omega), s_X1_canMove h.tc h.tr (by omega) (by omega) (by omega) (by omega), hc, Option.bind_some, if_pos (by decide), e1, Option.bind_some, e2, Option.bind_some]
  by_cases x3 : x = 3
  · have q := s_X1_staleSet (o := 251) g2.1 hI.1 g2.2.1 hI.2.2.2.1
    refine ⟨m2, r, ?_, h2⟩
    rw [x3, if_neg (by decide), show m_X1_staleSet m2 251 = some (stL (slP (gU (wdG (xG s) u b p)) (gS (wdG (xG s) u b p))) 24) from q, Option.bind_some]
    rfl
  · obtain ⟨⟨m3, r3⟩, ⟨b1, b2, b3, b4, b5⟩, b6⟩ := s_X4_rollAll og251 h.1 g2 hI (u := 0) (by omega) (by rw [show gU (ogS (ogM (xG s) u b) (stM (xG s) u b p)) 0 = -1 from hI.1.1]; decide)
    dsimp only at b1 b2 b3 b4 b5 b6
    have h3 : GS m3 r3 s := h.sc2 b1 (fun b hb => b2 b hb) (f12.trans (b3.mono (fun b hb => by unfold FZ7 at hb; unfold Scr; omega)))
    have b4' : OC m3 r3 251 (wdS (xG s) u b p).1 := b4
    rw [if_pos (by rw [i_eq (by omega) (by omega) (by omega) (by omega)]; exact x3), show m_X4_rollAll m2 r 251 (am_i 0) = _ from b6, Option.bind_some]
    by_cases x0 : x = 0
    · refine ⟨m3, r3, ?_, h3⟩
      rw [x0, if_neg (by decide)]
      rfl
    · rw [if_pos (by rw [i_zero, i_eq (by omega) (by omega) (by omega) (by omega)]; exact x0)]
      by_cases x1 : x = 1
      · refine ⟨m3, r3, ?_, h3⟩
        rw [x1, if_neg (by decide), i_ibt (by omega) (by omega) (by omega), cond_true, i_ixn (by omega), s_X5_firstLeader (b4'.sum hI2 hb), Option.bind_some]
        rfl
      · refine ⟨m3, r3, ?_, h3⟩
        have x2 : x = 2 := by omega
        rw [x2, if_pos (by decide), s_X8_otherLeaders h3 b4' hI2, Option.bind_some]
        rfl
theorem l_would9 {x : Int} (h : GS m r s) (hc : cmv (gU (xG s)) (gD (xG s)) u b = true) (hu : u < 24) (hu2 : gU (xG s) u ≠ -2) (hb : b < 24) (hb2 : gU (xG s) b ≠ -2) (hn : ¬ inB (gU (xG s)) (gD (xG s)) b u = true) (hd : gD (xG s) b + 1 + hgt (gU (xG s)) (gD (xG s)) u 24 ≤ 12) (hp : p < 24) (hp1 : gU (xG s) u = (p : Int)) (hp2 : gU (xG s) p ≠ -2) (hx : 0 ≤ x) (hx2 : x ≤ 3) : ∃ m2, m_X9_would m (am_i u) (am_i b) (am_i x) = some (wdA (xG s) u b p x, m2) ∧ Good m2 r := by
  have hI : IG (wdG (xG s) u b p) := ogM_IG h.ig hu hu2 hb hb2 hn hd hp hp1 hp2
  obtain ⟨hI2, hU2⟩ := wd_ok h hI
  unfold m_X9_would
  rw [s_X9_canMove h.tm h.tr (by omega) (by omega) (by omega) (by omega), hc, Option.bind_some, if_neg (by decide), s_X9_isIn (by omega) (by omega) (by decide) (by decide) (by decide) (by decide), if_pos ⟨hx, hx2⟩, Option.bind_some, if_pos (by decide)]
  obtain ⟨m1, f1, w1, e1⟩ := l_X9_would_23 (x1 := am_i u) (x2 := am_i b) (x3 := am_i x) (y1 := am_i u) (y2 := am_i b) (y3 := am_i x) (k := fun m13 => m_X9_would_66 (am_i u) (am_i b) (am_i x) (am_i u) (am_i b) (am_i x) (fun m18 => (m_X9_moves m18 (am_i u) (am_i b)).bind fun q19 => (m_X9_staleOnes q19).bind fun q20 => (m_X9_rolls 20 q19 (am_i 0)).bind fun q21 => (m_X9_leaderOf q21.2 (am_i b) (am_i 0)).bind fun q22 => m_X9_would_127 (am_i u) (am_i b) (am_i x) q21.2 (am_i x) q20 q21.1 q22 (fun u29 => (m_X9_comesBack q21.2).bind fun q30 => if ¬ am_i x = 0 then if ¬ am_i x = (am_i 1) then if ¬ am_i x = (am_i 2) then some (q20, q30) else some (u29, q30) else some (q22, q30) else some (q21.1, q30)) am_F (am_i 0) (am_i 0)) am_F (am_i 0) m13) h
  rw [e1, l_X9_would_66]
  have h1 : GS m1 r s := h.sc1 (f1.mono (fun b hb => by unfold Scr; omega))
  have h2 : GS (am_sc m1 3262 0 3263 0 15517) r s := h1.sc1 (Fr.sc (Fr.refl _ _) (by unfold Scr; omega))
  have n2 : ∀ b, b ≠ 3263 → am_sc m1 3262 0 3263 0 15517 b = m1 b := fun b hb => sc_ne hb
  have a2 : ∀ i, i < 15517 → am_sc m1 3262 0 3263 0 15517 3263 i = m1 3262 i := fun i hi => sc_at hi
  generalize am_sc m1 3262 0 3263 0 15517 = m2 at h2 n2 a2 ⊢
  obtain ⟨m3, e3, f3, g3, hB3⟩ := s_moves h2.2.2.1.1 h2.2.2.1.2.1 h2.tr hu hu2 hb hb2 hn hd hp hp1 hp2
  have es : m_X9_staleOnes m3 = some (stL (slP (gU (wdG (xG s) u b p)) (gS (wdG (xG s) u b p))) 24) := s_X9_staleOnes g3.TM (fun u hu => by have := g3.2.2.1 u hu; rwa [Nat.zero_add] at this) hI.2.2.2.1
  obtain ⟨m4, ⟨f4, g4, hB4⟩, e4⟩ := s_X9_rolls (K := bkAdd (xB s) 5 (am_i 1)) 20 m3 (wdG (xG s) u b p, 0, 0, 0) 0 g3 (by rw [bkR_i]; exact hB3) hI (by omega) (by rw [show gU (wdG (xG s) u b p, (0 : Nat), (0 : Nat), (0 : Nat)).1 0 = -1 from hI.1.1]; decide) (by omega)
  have g4' : OM m4 3262 0 (wdS (xG s) u b p).1 := g4
  have k4 : ∀ b, b ≠ 3262 → b ≠ 3263 → b ≠ 3266 → b ≠ 3267 → m4 b = m1 b := fun b h1 h2 h3 h4 => by
    rw [f4 b (fun z => by unfold FZ6 at z; omega), f3 b h1, n2 b h2]
  have el : m_X9_leaderOf m4 (am_i (b : Int)) (am_i 0) = some (am_i (ldI (gM (wdS (xG s) u b p).1 b) 0)) := s_X9_leaderOf (g4'.sum hI2 hb) hb (by decide) (by decide)
  have ec : ((rlR 20 (wdG (xG s) u b p, 0, 0, 0) 0).2.1 : Int) - (((wdG (xG s) u b p, (0 : Nat), (0 : Nat), (0 : Nat)).2.1 : Nat) : Int) = ((wdS (xG s) u b p).2.1 : Nat) := by
    show ((wdS (xG s) u b p).2.1 : Int) - ((0 : Nat) : Int) = _
    omega
  rw [e3, Option.bind_some, es, Option.bind_some, show m_X9_rolls 20 m3 (am_i 0) = _ from e4, Option.bind_some]
  dsimp only
  rw [ec, el, Option.bind_some, l_X9_would_127 (s := s) g4' hI2 (fun k hk => by rw [hU2]; exact wd_thr hk hb hu2) (fun k hk hk2 => by rw [k4 3272 (by decide) (by decide) (by decide) (by decide)]; exact w1 k hk hk2), s_X9_comesBack, Option.bind_some]
  refine ⟨am_sc m4 3263 0 3262 0 15517, ?_, s, h.1, h1.2.1.kept h.2.2.2 h.1 (fun b hb hs => ?_) (fun _ _ => rfl), h1.2.2.1.back (m1 := m4) (fun i hi => ?_) (fun b hb hs hn => ?_) rfl, h.2.2.2⟩
  · unfold wdA
    by_cases x0 : x = 0
    · rw [if_pos x0, x0, if_neg (by decide)]
    · rw [if_neg x0, if_pos (by rw [i_zero, i_eq (by omega) (by omega) (by omega) (by omega)]; exact x0)]
      by_cases x1 : x = 1
      · rw [if_pos x1, x1, if_neg (by decide)]
      · rw [if_neg x1, if_pos (by rw [i_eq (by omega) (by omega) (by omega) (by omega)]; exact x1)]
        by_cases x2 : x = 2
        · rw [if_pos x2, x2, if_neg (by decide)]
        · rw [if_neg x2, if_pos (by rw [i_eq (by omega) (by omega) (by omega) (by omega)]; exact x2)]
  · rw [sc_ne (by omega)]
    exact k4 b (by omega) (by omega) (by omega) (by omega)
  · rw [f4 3263 (fun z => by unfold FZ6 at z; omega), f3 3263 (by decide)]
    exact a2 i hi
  · exact k4 b hn (fun z => hs (by rw [z]; unfold Scr; omega)) (fun z => hs (by rw [z]; unfold Scr; omega)) (fun z => hs (by rw [z]; unfold Scr; omega))
theorem q_would (h : GS m r s) (a b c : Int32) : ∃ y m1 r1 m2, m_X8_would m r a b c = some (y, m1, r1) ∧ m_X9_would m1 a b c = some (y, m2) ∧ Good m2 r1 := by
  obtain ⟨x, h1, h2, rfl⟩ := i_any a
  obtain ⟨z, h3, h4, rfl⟩ := i_any b
  obtain ⟨w, h5, h6, rfl⟩ := i_any c
  cases c1 : cmv (gU (xG s)) (gD (xG s)) x z
  · refine ⟨am_i (-1), m, r, m, ?_, ?_, h.g⟩
    · unfold m_X8_would
      have e : (some (am_i (b1 false : Nat)) : Option Int32) = some (am_i 0) := rfl
      rw [s_X1_canMove h.tc h.tr h1 h2 h3 h4, c1, e, Option.bind_some, if_neg (show ¬ ¬ am_i 0 = 0 by decide), ite_self, ite_self]
    · unfold m_X9_would
      rw [s_X9_canMove h.tm h.tr h1 h2 h3 h4, c1, Option.bind_some, if_pos (by decide)]
  · by_cases c2 : 0 ≤ w ∧ w ≤ 3
    · have c1' := c1
      obtain ⟨u, b, p, rfl, rfl, hu, hu2, hb, hb2, hn, hd, hp, hp1, hp2, bu⟩ := cmv_i h.tr c1
      obtain ⟨m1, r1, e1, g1⟩ := l_would8 h c1' hu hu2 hb hb2 hn hd hp hp1 hp2 c2.1 c2.2
      obtain ⟨m2, e2, g2⟩ := l_would9 g1 c1' hu hu2 hb hb2 hn hd hp hp1 hp2 c2.1 c2.2
      exact ⟨_, m1, r1, m2, e1, e2, g2⟩
    · refine ⟨am_i (-1), m, r, m, ?_, ?_, h.g⟩
      · unfold m_X8_would
        by_cases c3 : w < 0
        · rw [if_pos (by rw [i_zero, i_lt (by omega) (by omega) (by omega) (by omega)]; omega)]
        · rw [if_neg (by rw [i_zero, i_lt (by omega) (by omega) (by omega) (by omega)]; omega), if_pos (by rw [i_lt (by omega) (by omega) (by omega) (by omega)]; omega)]
      · unfold m_X9_would
        rw [s_X9_canMove h.tm h.tr h1 h2 h3 h4, c1, Option.bind_some, if_neg (by decide), s_X9_isIn h5 h6 (by decide) (by decide) (by decide) (by decide), if_neg c2, Option.bind_some, if_neg (by decide)]
end WQ
