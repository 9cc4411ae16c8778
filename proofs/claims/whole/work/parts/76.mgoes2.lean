/-! ===== mathematics: goes, the call ===== -/
theorem Bm_all (f : Nat → Nat) : Bm 0 (fIn f 0 63) (mkL f 64) := by
  intro c hc
  rw [Bm_mk f c hc]
  show (decide (c % 2 ^ 0 = 0) && decide (0 < f (c / 2 ^ 0))) = (decide (c % 2 ^ 0 = 0) && decide (0 < fIn f 0 63 (c / 2 ^ 0)))
  rw [Nat.pow_zero, Nat.div_one]
  unfold fIn
  rw [if_pos (by omega)]
theorem com_symm (f g : Nat → Nat) : com f g = com g f := su_congr 7 (fun l _ => cn_congr (fun i _ => Bool.and_comm _ _))
section GQ
variable {m : am_m} {r : am_rr} {s : Sx}
theorem q_goes (h : GS m r s) (a : Int32) : ∃ y m1 m2, m_X8_goes m r a = some (y, m1) ∧ m_X9_goes m1 a = some (y, m2) ∧ Good m2 r := by
  obtain ⟨x, h1, h2, rfl⟩ := i_any a
  cases c1 : thr (gU (xG s)) x
  · refine ⟨am_i (-1), m, m, ?_, ?_, h.g⟩
    · unfold m_X8_goes
      rw [s_X1_upperOf0 h.tc h.tr h1 h2 c1, Option.bind_some, s_t8 h h1 h2, c1]
      rfl
    · unfold m_X9_goes
      rw [s_t9 h h1 h2, c1]
      rfl
  obtain ⟨u, hu, rfl, hu2⟩ := thr_i c1
  by_cases u0 : u = 0
  · refine ⟨am_i (-1), m, m, ?_, ?_, h.g⟩
    · unfold m_X8_goes
      rw [s_X1_upperOf h.tc h.tr hu hu2, Option.bind_some, s_t8 h h1 h2, c1, Option.bind_some, if_neg (by decide), u0, h.tr.1, s_t8 h (by decide) (by decide), thr_n (by decide)]
      rfl
    · unfold m_X9_goes
      rw [s_t9 h h1 h2, c1, Option.bind_some, if_neg (by decide), if_pos (by rw [u0]; rfl)]
  obtain ⟨p, hp, hp1, hp2, hd⟩ := h.tr.pa hu hu2 u0
  have u0' : ¬ am_i (u : Int) = 0 := by rw [i_zero, i_eq (by omega) (by omega) (by omega) (by omega)]; omega
  have tp : thr (gU (xG s)) (p : Int) = true := thr_t hp hp2
  have lc : lowC (gU (xG s)) u ≤ 24 := cn_le _ _
  by_cases c2 : lowC (gU (xG s)) u = 0
  · have hl : ∀ k, k < 24 → gU (xG s) k ≠ (u : Int) := fun k hk e => by
      have q : b1 (gU (xG s) k == (u : Int)) = 0 := su_0i 24 c2 k hk
      rw [e, show ((u : Int) == (u : Int)) = true from by simp] at q
      cases q
    have pu : p ≠ u := fun e => hl u hu (by rw [hp1, e])
    have ix : am_ix (am_i (u : Int)) = u := i_ixn (by omega)
    have iy : am_ix (am_i (p : Int)) = p := i_ixn (by omega)
    have bx : am_ib (am_i (u : Int)) 24 = true := i_ibt (by omega) (by omega) (by omega)
    have bY : am_ib (am_i (p : Int)) 24 = true := i_ibt (by omega) (by omega) (by omega)
    have x24 : am_ix (am_i 24 + am_i (u : Int)) = 24 + u := by rw [i_add, i_ix (by omega) (by omega)]; omega
    have y24 : am_ib (am_i 24 + am_i (u : Int)) 15517 = true := by rw [i_add, i_ibt (by omega) (by omega) (by omega)]
    have x00 : am_ix (am_i 0 + am_i (u : Int)) = u := by rw [i_add, i_ix (by omega) (by omega)]; omega
    have y00 : am_ib (am_i 0 + am_i (u : Int)) 15517 = true := by rw [i_add, i_ibt (by omega) (by omega) (by omega)]
    have ef : m_X5_fits m (aW 4 u) (am_i 0) (am_i 63) (aW 4 p) = some (am_i (b1 (ftB (gO (xG s) u) (gO (xG s) p) 0 64))) := s_X5_fits (l := 0) (h := 63) (h.wc hu) (h.wc hp) (by decide) (by decide)
    cases c5 : ftB (gO (xG s) u) (gO (xG s) p) 0 64
    · refine ⟨am_i (-1), m, m, ?_, ?_, h.g⟩
      · unfold m_X8_goes
        rw [s_X1_upperOf h.tc h.tr hu hu2, Option.bind_some, s_t8 h h1 h2, c1, Option.bind_some, if_neg (by decide), hp1, s_t8 h (by omega) (by omega), tp, Option.bind_some, if_neg (by decide), s_X1_lowerCount h.tc h.tr c1, c2, Option.bind_some, if_pos (by decide), bx, bY, cond_true, cond_true, ix, iy, ef, c5]
        rfl
      · have ec : m_X9_canTake m (am_i u) (am_i p) (am_i 0) (am_i 63) = some (am_i (b1 (ftB (gO (xG s) u) (gO (xG s) p) 0 64))) := s_X9_canTake (l := 0) (h := 63) hu hp (h.wm hu) (h.wm hp) (by decide) (by decide)
        unfold m_X9_goes
        rw [s_t9 h h1 h2, c1, Option.bind_some, if_neg (by decide), if_neg u0', s_X9_belowMany h.tm h.tr hu, c2, Option.bind_some, if_neg (by decide), y24, cond_true, x24, h.tm.2 u hu hu2, hp1, ec, c5]
        rfl
    · -- the class
      obtain ⟨m1, e1, f1, hP, hG1, hB1⟩ := keep8 h
      have ep : m_X5_pour m1 (aW 4 u) (am_i 0) (am_i 63) (aW 4 p) = some (_, poM m1 (aW 4 u) (aW 4 p) (gO (xG s) u) (gO (xG s) p) 0 64) := s_X5_pour (l := 0) (h := 63) (by unfold aW; omega) (hG1.own h.ig hu) (hG1.own h.ig hp) (by decide) (by decide)
      have o2 : OC (poM m1 (aW 4 u) (aW 4 p) (gO (xG s) u) (gO (xG s) p) 0 64) r 4 (ogO (xG s) (gvO (gO (xG s)) u p 0 63)) := poM_ow (l := 0) (t := 63) hG1 h.1 hu hp (fun e => pu e.symm) (by decide) (by decide)
      have pF : ∀ b, ¬ (8 ≤ b ∧ b < 32) → poM m1 (aW 4 u) (aW 4 p) (gO (xG s) u) (gO (xG s) p) 0 64 b = m1 b := fun b hb => poM_F b (fun e => hb (by unfold aW at e; omega))
      generalize poM m1 (aW 4 u) (aW 4 p) (gO (xG s) u) (gO (xG s) p) 0 64 = m2 at ep o2 pF
      have o3 := o2.leave h.1 hu
      have e3 := s_X1_leave (m := m2) hu
      have f3 := leM_F (m := m2) hu
      generalize leM m2 u = m3 at o3 e3 f3
      have hT' : Tr (gU (ogL (ogO (xG s) (gvO (gO (xG s)) u p 0 63)) u)) (gD (ogL (ogO (xG s) (gvO (gO (xG s)) u p 0 63)) u)) := ogL_Tr (g := ogO (xG s) (gvO (gO (xG s)) u p 0 63)) h.tr u0 hl
      have hp2' : gU (ogL (ogO (xG s) (gvO (gO (xG s)) u p 0 63)) u) p ≠ -2 := by rw [ogL_U pu]; exact hp2
      obtain ⟨m4, e4, f4, o4⟩ := s_st8 o3 hT' h.1 og4 hp hp2'
      have hB4 : BC m4 2970 (xB s) := hB1.kept (fun b b1 b2 => by rw [f4 b (by unfold aS; omega), f3 b (by omega), pF b (by omega)])
      obtain ⟨m5, e5, f5, hB5⟩ := s_X0_merged (x := am_i (com (fIn (gO (xG s) u) 0 63) (gO (xG s) p) : Nat)) hB4
      obtain ⟨m6, e6, f6, hB6⟩ := s_X0_tally (w := 7) (x := am_i 1) hB5 (by decide)
      have o6 := (o4.kept h.1 og4 (fun b b1 b2 => f5 b (by omega)) (r' := r) rfl).kept h.1 og4 (fun b b1 b2 => f6 b (by omega)) (r' := r) rfl
      have F16 : ∀ b, ¬ (5 ≤ b ∧ b < 58) → ¬ (2970 ≤ b ∧ b < 2976) → m6 b = m1 b := fun b b1 b3 => by
        rw [f6 b b3, f5 b b3, f4 b (by unfold aS; omega), f3 b b1, pF b (by omega)]
      have F8 : ∀ b, ¬ (498 ≤ b ∧ b < 2970) → ¬ (5 ≤ b ∧ b < 58) → ¬ (2970 ≤ b ∧ b < 2976) → m6 b = m b := fun b b0 b1 b3 => by
        rw [F16 b b1 b3]; exact f1 b b0
      -- the reference
      have ms : MS m6 s := h.2.2.1.kept (fun b b1 _ => F8 b (by omega) (by omega) (by omega))
      obtain ⟨k1, g1, p1, p1', hP9, w1⟩ := keep9 ms h.2.2.2
      have ms1 : OM k1 3262 0 (xG s) := ms.1.kept (fun i _ => by rw [w1])
      have hBk : BM k1 3262 (xB s) := ms.2.1.copy (fun i _ _ => by rw [w1])
      have g2' := s_X9_takes (l := 0) (t := 63) ms1 h.ig hu hp (fun e => pu e.symm) hBk (by decide) (by decide)
      obtain ⟨k2, g2, p2, q2, hBk2⟩ := g2'
      have g2 : m_X9_takes k1 (am_i u) (am_i p) (am_i 0) (am_i 63) = some (am_i (com (fIn (gO (xG s) u) 0 63) (gO (xG s) p) : Nat), k2) := g2
      have q3 := q2.leave hu
      have hBk3 : BM (clM (am_si k2 3262 u (am_i 0)) u 64) 3262 _ := hBk2.copy (fun i i1 i2 => by rw [clM_o (by omega), si_o (by omega)])
      have ec := s_X9_clears (m := am_si k2 3262 u (am_i 0)) hu
      have nb3 : ∀ b, b ≠ 3262 → clM (am_si k2 3262 u (am_i 0)) u 64 b = k2 b := fun b hb => by rw [clM_ne hb, si_ne hb]
      generalize clM (am_si k2 3262 u (am_i 0)) u 64 = k3 at q3 hBk3 ec nb3
      obtain ⟨k4, g4, p4, p4', q4⟩ := s_st9 q3 hT' hp hp2'
      have hBk4 : BM k4 3262 _ := hBk3.copy (fun i i1 i2 => p4' i (by omega))
      obtain ⟨k5, g5, p5, hBk5⟩ := s_X9_counts (w := 7) (x := am_i 1) hBk4 (by decide)
      have NB : ∀ b, b ≠ 3262 → b ≠ 3266 → b ≠ 3267 → k5 b = k1 b := fun b z1 z2 z3 => by
        rw [p5.1 b z1, p4 b z1, nb3 b z1, p2 b (by omega)]
      refine ⟨am_i (com (fIn (gO (xG s) u) 0 63) (gO (xG s) p) : Nat), m6, k5, ?_, ?_, act_end h (G := ogS (ogL (ogO (xG s) (gvO (gO (xG s)) u p 0 63)) u) (stU (ogL (ogO (xG s) (gvO (gO (xG s)) u p 0 63)) u) p)) (B := bkAdd (bkAdd (bkAdd (xB s) 0 (am_i (com (fIn (gO (xG s) u) 0 63) (gO (xG s) p) : Nat))) 2 (am_i 1)) 7 (am_i 1)) o6 hB6 (hP.kept h.1 (by omega) (fun b b1 b2 => F16 b (by omega) (by omega)) (fun _ _ => rfl)) (fun b hb => F8 b (by omega) (by omega) (by omega)) (q4.fk p5) hBk5 (hP9.kept (by rw [NB 3261 (by decide) (by decide) (by decide)]) (NB 3265 (by decide) (by decide) (by decide))) (fun b hb => by rw [NB b (by omega) (by omega) (by omega)]; exact p1 b (fun z => by unfold F5 at z; omega)) (fun b hb => by rw [NB b (by omega) (by omega) (by omega), p1 b (fun z => by unfold F5 at z; omega)]; exact F8 b (by omega) (by omega) (by omega)) (fun j hj => by rw [NB 3261 (by decide) (by decide) (by decide), p1' j hj, F8 3261 (by omega) (by omega) (by omega)]) (ogL_IG h.ig hu hu2 u0 hl hp hp1 hp2 pu (gvO_9 (fun e => pu e.symm) h.ig.2.1 (by decide) c5) (fun k z1 z2 c => gvO_o z1 z2)) h.2.2.2.2.1⟩
      · unfold m_X8_goes
        rw [s_X1_upperOf h.tc h.tr hu hu2, Option.bind_some, s_t8 h h1 h2, c1, Option.bind_some, if_neg (by decide), hp1, s_t8 h (by omega) (by omega), tp, Option.bind_some, if_neg (by decide), s_X1_lowerCount h.tc h.tr c1, c2, Option.bind_some, if_pos (by decide), bx, bY, cond_true, cond_true, ix, iy, ef, c5, Option.bind_some, if_pos (by decide), e1, Option.bind_some, s_X6_maskOf (hG1.own h.ig hp), Option.bind_some, s_X6_maskOf (hG1.own h.ig hu), Option.bind_some, s_X6_common (Bm_mk _) (Bm_all _), com_symm, Option.bind_some, ep, Option.bind_some, e3, Option.bind_some, e4, Option.bind_some, show m_X0_merged m4 2970 _ = some m5 from e5, Option.bind_some, show m_X0_tally m5 2970 (am_i 7) (am_i 1) = some m6 from e6]
        rfl
      · have ec2 : m_X9_canTake m6 (am_i u) (am_i p) (am_i 0) (am_i 63) = some (am_i (b1 (ftB (gO (xG s) u) (gO (xG s) p) 0 64))) := s_X9_canTake (l := 0) (h := 63) hu hp (ms.1.own h.ig hu) (ms.1.own h.ig hp) (by decide) (by decide)
        unfold m_X9_goes
        rw [s_X9_isUnit ms.1.TM h1 h2, c1, Option.bind_some, if_neg (by decide), if_neg u0', s_X9_belowMany ms.1.TM h.tr hu, c2, Option.bind_some, if_neg (by decide), y24, cond_true, x24, ms.1.TM.2 u hu hu2, hp1, ec2, c5, Option.bind_some, if_pos (by decide), g1, Option.bind_some, cond_true, ms1.TM.2 u hu hu2, hp1, g2, Option.bind_some, y00, cond_true, am_letF, x00, ec, Option.bind_some, g4, Option.bind_some, show m_X9_counts k4 (am_i 7) (am_i 1) = some k5 from g5, Option.bind_some]
  · refine ⟨am_i (-1), m, m, ?_, ?_, h.g⟩
    · unfold m_X8_goes
      rw [s_X1_upperOf h.tc h.tr hu hu2, Option.bind_some, s_t8 h h1 h2, c1, Option.bind_some, if_neg (by decide), hp1, s_t8 h (by omega) (by omega), tp, Option.bind_some, if_neg (by decide), s_X1_lowerCount h.tc h.tr c1, Option.bind_some, if_neg (by rw [i_zero, i_le (by omega) (by omega) (by omega) (by omega)]; omega)]
    · unfold m_X9_goes
      rw [s_t9 h h1 h2, c1, Option.bind_some, if_neg (by decide), if_neg u0', s_X9_belowMany h.tm h.tr hu, Option.bind_some, if_pos (by rw [i_zero, i_lt (by omega) (by omega) (by omega) (by omega)]; omega)]
end GQ
