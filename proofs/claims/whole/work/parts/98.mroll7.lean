/-! ===== mathematics: roll and cost, the calls ===== -/
theorem s_X4_rollAll {m : am_m} {r : am_rr} {o u : Nat} {g : Og} (ho : am_og o) (hR : RI r) (h : OC m r o g) (hI : IG g) (hu : u < 24) (hu2 : gU g u ≠ -2) : ∃ t, rbC m r o (rlR 20 (g, 0, 0, 0) u) t ∧ m_X4_rollAll m r o (am_i u) = some (am_i ((rlR 20 (g, 0, 0, 0) u).2.1 : Nat), t.1, t.2) := by
  have hs := og_FZ7 ho
  have n7 : Fr FZ7 m (am_si (am_si (am_si m 2982 1 (am_i 0)) 2982 2 (am_i 0)) 2982 3 (am_i 0)) := (((Fr.refl _ _).si2 (Or.inl rfl)).si2 (Or.inl rfl)).si2 (Or.inl rfl)
  obtain ⟨t, ⟨b1, b2, b3, b4, b5⟩, b6⟩ := s_X4_rollBranch ho 20 (am_si (am_si (am_si m 2982 1 (am_i 0)) 2982 2 (am_i 0)) 2982 3 (am_i 0)) r (g, 0, 0, 0) u 0 hR (h.kept hR ho (fun e h1 h2 => n7 e (hs e h1 h2)) rfl) hI hu hu2 (by omega) (by omega) ⟨by rw [si_o (by decide), si_o (by decide), si_at]; rfl, by rw [si_o (by decide), si_at]; rfl, by rw [si_at]; rfl⟩
  refine ⟨t, ⟨b1, b2, (n7.mono (fun b hb => Or.inl hb)).trans b3, b4, b5⟩, ?_⟩
  unfold m_X4_rollAll
  rw [am_letF, am_letF, am_letF, show am_i 0 = am_i ((0 : Nat) : Int) from rfl] 
  rw [show am_i ((0 : Nat) : Int) = am_i 0 from rfl] at b6 ⊢
  rw [b6, Option.bind_some, b5.1]
/-- an act's end, where the class has changed places of the versions' rows -/
theorem act_endR {m m2 m4 : am_m} {r r' : am_rr} {s : Sx} {G : Og} {B : Bk} (h : GS m r s) (hR : RI r') (er : r' 3068 = r 3068) (hG : OC m2 r' 4 G) (hB : BC m2 2970 B) (hP : PC m2 r' (min (xN s + 1) 10) (pushH (xN s) (xH s) (xG s))) (f8 : ∀ b, (b = 3 ∨ (2976 ≤ b ∧ b < 2982) ∨ (2984 ≤ b ∧ b < 2988) ∨ (3014 ≤ b ∧ b < 3261)) → m2 b = m b) (hG9 : OM m4 3262 0 G) (hB9 : BM m4 3262 B) (hP9 : PM m4 (min (xN s + 1) 10) (pushH (xN s) (xH s) (xG s))) (f9 : ∀ b, b < 3261 → m4 b = m2 b) (f9' : ∀ b, (b = 3264 ∨ b = 3268 ∨ b = 3271) → m4 b = m b) (f9'' : ∀ j, j ≠ 4 → m4 3261 j = m 3261 j) (hI : IG G) (hK : IB B) : Good m4 r' :=
  GS.both (s := s) hR (h.2.1.upd h.1 hG hB hP f8 er) (h.2.2.1.upd hG9 hB9 hP9 f9' f9'') (h.2.2.2.push hI hK) f9
section RQ
variable {m : am_m} {r : am_rr} {s : Sx}
theorem q_roll (h : GS m r s) (a : Int32) : ∃ y m1 r1 m2, m_X8_roll m r a = some (y, m1, r1) ∧ m_X9_roll m1 a = some (y, m2) ∧ Good m2 r1 := by
  obtain ⟨x, h1, h2, rfl⟩ := i_any a
  cases c1 : thr (gU (xG s)) x
  · refine ⟨am_i (-1), m, r, m, ?_, ?_, h.g⟩
    · unfold m_X8_roll
      rw [s_t8 h h1 h2, c1, Option.bind_some, if_pos (by decide)]
    · unfold m_X9_roll
      rw [s_t9 h h1 h2, c1, Option.bind_some, if_pos (by decide)]
  obtain ⟨u, hu, rfl, hu2⟩ := thr_i c1
  have s1 := h.ig.2.2.2.1 u
  have es8 := h.2.1.1.2.1 u hu
  have es9 := h.2.2.1.1.2.2.1 u hu
  rw [Nat.zero_add] at es9
  by_cases c : gS (xG s) u = 0
  · refine ⟨am_i (-1), m, r, m, ?_, ?_, h.g⟩
    · unfold m_X8_roll
      rw [s_t8 h h1 h2, c1, Option.bind_some, if_neg (by decide), i_ibt (by omega) (by omega) (by omega), cond_true, i_ixn (by omega), es8, c, if_neg (by decide)]
    · unfold m_X9_roll
      rw [s_t9 h h1 h2, c1, Option.bind_some, if_neg (by decide), i_add, i_ibt (by omega) (by omega) (by omega), cond_true, i_ix (by omega) (by omega), show ((48 : Int) + (u : Int)).toNat = 48 + u by omega, es9, c, if_neg (by decide)]
  have c' : ¬ am_i (gS (xG s) u : Nat) = 0 := by rw [i_zero, i_eq (by omega) (by omega) (by omega) (by omega)]; omega
  obtain ⟨S, hS⟩ : ∃ S, S = rlR 20 (xG s, 0, 0, 0) u := ⟨_, rfl⟩
  have hok := (rlR_ok 20 (xG s, 0, 0, 0) u h.ig hu hu2 (by omega)).1
  rw [← hS] at hok
  have hIS : IG S.1 := hok.2.2.2.1
  -- the class
  obtain ⟨m1, e1, f1, hP, hG1, hB1⟩ := keep8 h
  obtain ⟨⟨m2, r2⟩, ⟨b1, b2, b3, b4, b5⟩, b6⟩ := s_X4_rollAll og4 h.1 hG1 h.ig hu hu2
  rw [← hS] at b4 b5 b6
  dsimp only at b1 b2 b3 b4 b5 b6
  have k2 : ∀ b, 498 ≤ b → b ≠ 2982 → b ≠ 2983 → m2 b = m1 b := fun b hb h2 h3 => b3 b (fun z => by unfold FZ7 at z; omega)
  have hB2 : BC m2 2970 (xB s) := hB1.kept (fun b q1 q2 => k2 b (by omega) (by omega) (by omega))
  obtain ⟨m3, e3, f3, hB3⟩ := s_X0_tally (w := 0) (x := am_i (S.2.1 : Nat)) hB2 (by decide)
  obtain ⟨m4, e4, f4, hB4⟩ := s_X0_tally (w := 2) (x := am_i (S.2.2.1 : Nat)) hB3 (by decide)
  obtain ⟨m5, e5, f5, hB5⟩ := s_X0_tally (w := 4) (x := am_i (S.2.2.2 : Nat)) hB4 (by decide)
  rw [bkR_e] at hB5
  have k3 : ∀ b, ¬ (2970 ≤ b ∧ b < 2976) → m3 b = m2 b := fun b hb => f3 b (fun z => hb ⟨z.1, by omega⟩)
  have k4 : ∀ b, ¬ (2970 ≤ b ∧ b < 2976) → m4 b = m3 b := fun b hb => f4 b (fun z => hb ⟨z.1, by omega⟩)
  have k5 : ∀ b, ¬ (2970 ≤ b ∧ b < 2976) → m5 b = m4 b := fun b hb => f5 b (fun z => hb ⟨z.1, by omega⟩)
  have k52 : ∀ b, ¬ (2970 ≤ b ∧ b < 2976) → m5 b = m2 b := fun b hb => by rw [k5 b hb, k4 b hb, k3 b hb]
  have hG5 : OC m5 r2 4 S.1 := b4.kept b1 og4 (fun b q1 q2 => k52 b (by omega)) rfl
  have hP5 : PC m5 r2 (min (xN s + 1) 10) (pushH (xN s) (xH s) (xG s)) := hP.kept h.1 (by omega) (fun b q1 q2 => by rw [k52 b (by omega), k2 b q1 (by omega) (by omega)]) (fun i hi => b2 _ (by omega))
  have f8 : ∀ b, (b = 3 ∨ (2976 ≤ b ∧ b < 2982) ∨ (2984 ≤ b ∧ b < 2988) ∨ (3014 ≤ b ∧ b < 3261) ∨ 3261 ≤ b) → m5 b = m b := fun b hb => by
    rw [k52 b (by omega), b3 b (fun z => by unfold FZ7 at z; omega), f1 b (fun z => by omega)]
  -- the reference
  have hM5 : MS m5 s := h.2.2.1.kept (fun b q1 _ => f8 b (by omega))
  obtain ⟨m6, e6, f6, f6', hP6, w6⟩ := keep9 hM5 h.2.2.2
  have hG6 : OM m6 3262 0 (xG s) := hM5.1.kept (fun i _ => by rw [w6])
  have hB6 : BM m6 3262 (bkR (xB s) 0 0 0) := by rw [bkR_i]; exact hM5.2.1.copy (fun i _ _ => by rw [w6])
  obtain ⟨m7, ⟨g1, g2, g3⟩, g4⟩ := s_X9_rolls (K := xB s) 20 m6 (xG s, 0, 0, 0) u hG6 hB6 h.ig hu hu2 (by omega)
  rw [← hS] at g2 g3 g4
  have es5 : m5 3262 (48 + u) = am_i (gS (xG s) u) := by have := hM5.1.2.2.1 u hu; rwa [Nat.zero_add] at this
  refine ⟨am_i (S.2.1 : Nat), m5, r2, m7, ?_, ?_, ?_⟩
  · unfold m_X8_roll
    rw [s_t8 h h1 h2, c1, Option.bind_some, if_neg (by decide), i_ibt (by omega) (by omega) (by omega), cond_true, i_ixn (by omega), es8, if_pos c', e1, Option.bind_some, b6, Option.bind_some]
    dsimp only
    rw [show m_X0_tally m2 2970 (am_i 0) _ = some m3 from e3, Option.bind_some, k3 2982 (by decide), b5.2.1, show m_X0_tally m3 2970 (am_i 2) _ = some m4 from e4, Option.bind_some, k4 2982 (by decide), k3 2982 (by decide), b5.2.2, show m_X0_tally m4 2970 (am_i 4) _ = some m5 from e5, Option.bind_some]
  · unfold m_X9_roll
    rw [s_X9_isUnit hM5.1.TM h1 h2, c1, Option.bind_some, if_neg (by decide), i_add, i_ibt (by omega) (by omega) (by omega), cond_true, i_ix (by omega) (by omega), show ((48 : Int) + (u : Int)).toNat = 48 + u by omega, es5, if_pos c', e6, Option.bind_some, g4, Option.bind_some]
    refine congrArg (fun y => some (am_i y, m7)) ?_
    show (S.2.1 : Int) - ((0 : Nat) : Int) = _
    omega
  · refine act_endR h b1 (b2 _ (by decide)) hG5 hB5 hP5 (fun b hb => f8 b (by omega)) g2 g3 ⟨?_, fun i hi => (hP6.2 i hi).kept (fun j _ => by rw [g1 3265 (fun z => by unfold FZ6 at z; omega)])⟩ (fun b hb => ?_) (fun b hb => ?_) (fun j hj => ?_) hIS (bkR_IB h.2.2.2.2.1)
    · rw [g1 3261 (fun z => by unfold FZ6 at z; omega)]; exact hP6.1
    · rw [g1 b (fun z => by unfold FZ6 at z; omega), f6 b (fun z => by unfold F5 at z; omega)]
    · rw [g1 b (fun z => by unfold FZ6 at z; omega), f6 b (fun z => by unfold F5 at z; omega), f8 b (by omega)]
    · rw [g1 3261 (fun z => by unfold FZ6 at z; omega), f6' j hj, f8 3261 (by omega)]
/-- the reference's row put aside and brought back -/
theorem l_X9_cost_12 {x1 y1 : Int32} {k : am_m → Option (Int32 × am_m)} : m_X9_cost_12 x1 y1 k am_F (am_i 0) m = k (am_sc m 3262 0 3263 0 15517) := by
  refine lo_go (fun n j (t : am_m) => m_X9_cost_12 x1 y1 k n (am_i (j : Int)) t) (fun j => am_sc m 3262 0 3263 0 j) 0 15517 (n := am_F) (s0 := m) sc_0.symm (by omega) (am_Fv (by omega)) (fun n j _ hj => ?_) (fun n => rfl)
  show m_X9_cost_12 _ _ _ (n + 1) _ _ = _
  have e2 := sc_s (m := m) (a := 3262) (b := 3263) (sp := 0) (dp := 0) (j := j) (by decide)
  rw [Nat.zero_add] at e2
  rw [m_X9_cost_12, if_neg (by rw [i_le (by omega) (by omega) (by omega) (by omega)]; omega), i_ibt (by omega) (by omega) (by omega), cond_true, cond_true, am_letF, i_ixn (by omega), nj, e2]
theorem s_X9_comesBack : m_X9_comesBack m = some (am_sc m 3263 0 3262 0 15517) := by
  unfold m_X9_comesBack
  refine lo_go (fun n j (t : am_m) => m_X9_comesBack_2 (fun m5 => some m5) n (am_i (j : Int)) t) (fun j => am_sc m 3263 0 3262 0 j) 0 15517 (n := am_F) (s0 := m) sc_0.symm (by omega) (am_Fv (by omega)) (fun n j _ hj => ?_) (fun n => rfl)
  show m_X9_comesBack_2 _ (n + 1) _ _ = _
  have e2 := sc_s (m := m) (a := 3263) (b := 3262) (sp := 0) (dp := 0) (j := j) (by decide)
  rw [Nat.zero_add] at e2
  rw [m_X9_comesBack_2, if_neg (by rw [i_le (by omega) (by omega) (by omega) (by omega)]; omega), i_ibt (by omega) (by omega) (by omega), cond_true, cond_true, am_letF, i_ixn (by omega), nj, e2]
/-- what was put aside comes back: as it was, but for scratch and cells past the row's end -/
theorem MS.back (h : MS m s) {m1 m2 : am_m} (e1 : ∀ i, i < 15517 → m1 3263 i = m 3262 i) (e2 : ∀ b, 3261 ≤ b → ¬ Scr b → b ≠ 3262 → m1 b = m b) (e : m2 = am_sc m1 3263 0 3262 0 15517) : MS m2 s := by
  have k0 : ∀ i, i < 15517 → m2 3262 i = m 3262 i := fun i hi => by rw [e, sc_at hi]; exact e1 i hi
  have k1 : ∀ b, 3261 ≤ b → ¬ Scr b → b ≠ 3262 → m2 b = m b := fun b hb hs hn => by rw [e, sc_ne hn]; exact e2 b hb hs hn
  have a1 := k1 3261 (by decide) (by unfold Scr; omega) (by decide)
  have a3 := k1 3264 (by decide) (by unfold Scr; omega) (by decide)
  have a4 := k1 3265 (by decide) (by unfold Scr; omega) (by decide)
  have a5 := k1 3268 (by decide) (by unfold Scr; omega) (by decide)
  have a6 := k1 3271 (by decide) (by unfold Scr; omega) (by decide)
  refine ⟨h.1.kept (fun i hi => k0 _ (by omega)), h.2.1.copy (fun i _ hi => k0 i hi), h.2.2.1.kept (by rw [a1]) a4, ⟨by rw [a1]; exact h.2.2.2.1.1, fun hf => ⟨(h.2.2.2.1.2 hf).1.kept (fun i _ => by rw [a3]), (h.2.2.2.1.2 hf).2.copy (fun i _ _ => by rw [a3])⟩⟩, ?_, ?_⟩
  · unfold TPM
    rw [a1, a5]
    exact h.2.2.2.2.1
  · unfold RPM
    rw [a1, a6]
    exact h.2.2.2.2.2
theorem q_cost (h : GS m r s) (a : Int32) : ∃ y m1 r1 m2, m_X8_cost m r a = some (y, m1, r1) ∧ m_X9_cost m1 a = some (y, m2) ∧ Good m2 r1 := by
  obtain ⟨x, h1, h2, rfl⟩ := i_any a
  cases c1 : thr (gU (xG s)) x
  · refine ⟨am_i (-1), m, r, m, ?_, ?_, h.g⟩
    · unfold m_X8_cost
      rw [s_t8 h h1 h2, c1, Option.bind_some, if_neg (by decide)]
    · unfold m_X9_cost
      rw [s_t9 h h1 h2, c1, Option.bind_some, if_neg (by decide)]
  obtain ⟨u, hu, rfl, hu2⟩ := thr_i c1
  obtain ⟨S, hS⟩ : ∃ S, S = rlR 20 (xG s, 0, 0, 0) u := ⟨_, rfl⟩
  -- the class
  obtain ⟨m1, e1, f1, hG1⟩ := s_X1_takeOver og251 og4 (by decide) h.1 h.2.1.1 h.ig
  obtain ⟨⟨m2, r2⟩, ⟨b1, b2, b3, b4, b5⟩, b6⟩ := s_X4_rollAll og251 h.1 hG1 h.ig hu hu2
  rw [← hS] at b4 b5 b6
  dsimp only at b1 b2 b3 b4 b5 b6
  have f2 : Fr Scr m m2 := (f1.mono (fun b hb => Or.inl ⟨by omega, by omega⟩)).trans (b3.mono (fun b hb => by unfold FZ7 at hb; omega))
  have h2' : GS m2 r2 s := h.sc2 b1 (fun b hb => b2 b hb) f2
  -- the reference
  have hM : MS (am_sc m2 3262 0 3263 0 15517) s := h2'.2.2.1.kept (fun b _ hb => sc_ne (fun z => hb (by rw [z]; unfold Scr; omega)))
  obtain ⟨m3, ⟨g1, g2, g3⟩, g4⟩ := s_X9_rolls (K := xB s) 20 (am_sc m2 3262 0 3263 0 15517) (xG s, 0, 0, 0) u hM.1 (by rw [bkR_i]; exact hM.2.1) h.ig hu hu2 (by omega)
  rw [← hS] at g4
  refine ⟨am_i (S.2.1 : Nat), m2, r2, am_sc m3 3263 0 3262 0 15517, ?_, ?_, ?_⟩
  · unfold m_X8_cost
    rw [s_t8 h h1 h2, c1, Option.bind_some, if_pos (by decide), e1, Option.bind_some, b6, Option.bind_some]
  · unfold m_X9_cost
    rw [s_t9 h2' h1 h2, c1, Option.bind_some, if_pos (by decide), l_X9_cost_12, g4, Option.bind_some, s_X9_comesBack, Option.bind_some]
    refine congrArg (fun y => some (am_i y, am_sc m3 3263 0 3262 0 15517)) ?_
    show (S.2.1 : Int) - ((0 : Nat) : Int) = _
    omega
  · refine ⟨s, b1, h2'.2.1.kept h.2.2.2 b1 (fun b hb hs => ?_) (fun _ _ => rfl), h2'.2.2.1.back (m1 := m3) (fun i hi => ?_) (fun b hb hs hn => ?_) rfl, h.2.2.2⟩
    · rw [sc_ne (by omega), g1 b (fun z => by unfold FZ6 at z; omega), sc_ne (by omega)]
    · rw [g1 3263 (fun z => by unfold FZ6 at z; omega), sc_at hi]
    · rw [g1 b (fun z => by unfold FZ6 at z; unfold Scr at hs; omega), sc_ne (fun z => hs (by rw [z]; unfold Scr; omega))]
end RQ
