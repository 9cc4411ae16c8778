/-! ===== mathematics: home, the reference and the call ===== -/
section HN
variable {m : am_m} {r : am_rr} {s : Sx} {g : Og} {u b : Nat}
theorem fil_id {a : Nat} {f h : Nat → Nat} (r1 : Row m a h) : fil m a 0 f h = m := by
  funext x i
  rw [fil_0]
  by_cases c : x = a ∧ i < 64
  · rw [if_pos c, c.1]; exact (r1.1 i c.2).symm
  · rw [if_neg c]
theorem l_X9_home_77 {x1 y2 y3 : Int32} {k : am_m → Option (Int32 × am_m)} (h : TM m (gU g)) (hI : IG g) (hu : u < 24) (hu2 : gU g u ≠ -2) (hb : b < 24) (r6 : Row m 3266 (gB g b)) (r7 : Row m 3267 (gB g u)) : ∃ m', m_X9_home_77 x1 (am_i u) y2 y3 (am_i b) k am_F (am_i 0) m = k m' ∧ Fr (fun x => x = 3266) m m' ∧ Row m' 3266 (hmF g u b) := by
  cases c : inB (gU g) (gD g) u b
  · have eF : hmF g u b = gB g b := if_neg (by rw [c]; decide)
    refine ⟨m, ?_, Fr.refl _ _, by rw [eF]; exact r6⟩
    refine lo_go (fun n j (q : am_m) => m_X9_home_77 x1 (am_i u) y2 y3 (am_i b) k n (am_i (j : Int)) q) (fun _ => m) 0 0 (n := am_F) rfl (by omega) (am_Fv (by omega)) (fun n j _ hj => absurd hj (Nat.not_lt_zero _)) (fun n => ?_)
    show m_X9_home_77 _ _ _ _ _ _ (n + 1) (am_i 0) _ = _
    rw [m_X9_home_77, if_neg (by decide), s_X9_isIn_ h hI.1 hu hu2 (by omega) (by omega), c, Option.bind_some, if_pos (by decide)]
  · have eF : hmF g u b = hmD g u b := if_pos c
    refine ⟨fil m 3266 64 (hmD g u b) (gB g b), ?_, fil_Fr, ⟨fun i hi => by rw [fil_at hi, if_pos hi, eF], hmF_le hI⟩⟩
    refine lo_go (fun n j (q : am_m) => m_X9_home_77 x1 (am_i u) y2 y3 (am_i b) k n (am_i (j : Int)) q) (fun j => fil m 3266 j (hmD g u b) (gB g b)) 0 64 (n := am_F) (s0 := m) (fil_id r6).symm (by omega) (am_Fv (by omega)) (fun n j _ hj => ?_) (fun n => rfl)
    have le := gB_in hI hu hu2 c j
    have b1 := gB_le hI b j
    have tm : TM (fil m 3266 j (hmD g u b) (gB g b)) (gU g) := ⟨fun k hk => by rw [fil_ne (by decide)]; exact h.1 k hk, fun k hk k2 => by rw [fil_ne (by decide)]; exact h.2 k hk k2⟩
    have e1 : fil m 3266 j (hmD g u b) (gB g b) 3267 j = am_i (gB g u j : Int) := by rw [fil_ne (by decide)]; exact r7.1 j hj
    show m_X9_home_77 _ _ _ _ _ _ (n + 1) _ _ = _
    rw [m_X9_home_77, if_neg (by rw [i_le (by omega) (by omega) (by omega) (by omega)]; omega), s_X9_isIn_ tm hI.1 hu hu2 (by omega) (by omega), c, Option.bind_some, if_neg (by decide), i_ibt (by omega) (by omega) (by omega), cond_true, cond_true, cond_true, am_letF, i_ixn (by omega), fil_at hj, if_neg (Nat.lt_irrefl j), e1, i_sub, show ((gB g b j : Int) - (gB g u j : Int)) = ((hmD g u b j : Nat) : Int) by unfold hmD; omega, fil_s hj, nj]
theorem l_X9_home (h : GS m r s) (hu : u < 24) (hu2 : gU (xG s) u ≠ -2) : ∃ m', m_X9_home_21 (am_i u) (am_i u) (fun u28 m29 => some (u28, m29)) am_F (am_i (-1)) (am_i 0) (am_i 0) m = some (am_i (twB (hmP (xG s) u) (hmA (xG s) u) 24), m') ∧ GS m' r s := by
  refine Exists.elim (lo_inv (fun n j (t : Int32 × Int32 × am_m) => m_X9_home_21 (am_i u) (am_i u) (fun u28 m29 => some (u28, m29)) n t.1 t.2.1 (am_i (j : Int)) t.2.2) (fun j t => t.1 = am_i (twB (hmP (xG s) u) (hmA (xG s) u) j) ∧ t.2.1 = am_i (hmL (xG s) u (twB (hmP (xG s) u) (hmA (xG s) u) j) : Nat) ∧ GS t.2.2 r s) 0 24 (fun t => some (t.1, t.2.2)) (s0 := (am_i (-1), am_i 0, m)) (n := am_F) ⟨rfl, rfl, h⟩ (by omega) (am_Fv (by omega)) (fun n j t _ hj a => ?_) (fun n t a => rfl)) (fun t L => ?_)
  · obtain ⟨z2, z3, m0⟩ := t
    obtain ⟨a1, a2, a3⟩ := a
    dsimp only at a1 a2 a3
    have hB := twB_r (hmP (xG s) u) (hmA (xG s) u) j
    obtain ⟨eY, eN⟩ := hm_B (hmP (xG s) u) (hmA (xG s) u) j
    show ∃ s' : Int32 × Int32 × am_m, m_X9_home_21 _ _ _ (n + 1) z2 z3 _ m0 = m_X9_home_21 _ _ _ n s'.1 s'.2.1 _ s'.2.2 ∧ s'.1 = am_i (twB _ _ (j + 1)) ∧ s'.2.1 = am_i (hmL _ _ (twB _ _ (j + 1)) : Nat) ∧ _
    have up1 := a3.tr.2.2.1 u
    have key : hmP (xG s) u j = true → ∃ s' : Int32 × Int32 × am_m, ((m_X9_laysBranch m0 (am_i j) 3266).bind fun q7 => (m_X9_laysBranch q7 (am_i u) 3267).bind fun q8 => m_X9_home_77 (am_i u) (am_i u) z2 z3 (am_i j) (fun m16 => (m_X9_unlike m16 3266 3267).bind fun q17 => if z2 = am_i (-1) then m_X9_home_21 (am_i u) (am_i u) (fun u28 m29 => some (u28, m29)) n (am_i j) q17 (am_i ((j + 1 : Nat) : Int)) m16 else if q17 < z3 then m_X9_home_21 (am_i u) (am_i u) (fun u28 m29 => some (u28, m29)) n (am_i j) q17 (am_i ((j + 1 : Nat) : Int)) m16 else m_X9_home_21 (am_i u) (am_i u) (fun u28 m29 => some (u28, m29)) n z2 z3 (am_i ((j + 1 : Nat) : Int)) m16) am_F (am_i 0) q8) = m_X9_home_21 (am_i u) (am_i u) (fun u28 m29 => some (u28, m29)) n s'.1 s'.2.1 (am_i ((j + 1 : Nat) : Int)) s'.2.2 ∧ s'.1 = am_i (twB (hmP (xG s) u) (hmA (xG s) u) (j + 1)) ∧ s'.2.1 = am_i (hmL (xG s) u (twB (hmP (xG s) u) (hmA (xG s) u) (j + 1)) : Nat) ∧ GS s'.2.2 r s := by
      intro hp
      obtain ⟨m1, e1, g1, f1, r1⟩ := l_branch9 (a := 3266) a3 hj (Or.inl rfl)
      obtain ⟨m2, e2, g2, f2, r2⟩ := l_branch9 (a := 3267) g1 hu (Or.inr rfl)
      have r1' : Row m2 3266 (gB (xG s) j) := ⟨fun c hc => by rw [f2 3266 (by decide)]; exact r1.1 c hc, r1.2⟩
      obtain ⟨m3, e3, f3, r3⟩ := l_X9_home_77 (x1 := am_i u) (y2 := z2) (y3 := z3) (k := fun m16 => (m_X9_unlike m16 3266 3267).bind fun q17 => if z2 = am_i (-1) then m_X9_home_21 (am_i u) (am_i u) (fun u28 m29 => some (u28, m29)) n (am_i j) q17 (am_i ((j + 1 : Nat) : Int)) m16 else if q17 < z3 then m_X9_home_21 (am_i u) (am_i u) (fun u28 m29 => some (u28, m29)) n (am_i j) q17 (am_i ((j + 1 : Nat) : Int)) m16 else m_X9_home_21 (am_i u) (am_i u) (fun u28 m29 => some (u28, m29)) n z2 z3 (am_i ((j + 1 : Nat) : Int)) m16) g2.tm a3.ig hu hu2 hj r1' r2
      have r2' : Row m3 3267 (gB (xG s) u) := ⟨fun c hc => by rw [f3 3267 (by decide)]; exact r2.1 c hc, r2.2⟩
      have e4 : m_X9_unlike m3 3266 3267 = some (am_i (hmA (xG s) u j : Nat)) := s_X9_unlike r3 r2'
      rw [e1, Option.bind_some, e2, Option.bind_some, e3, e4, Option.bind_some, eY hp, a1, a2]
      exact ⟨(_, _, m3), (hm_s (g := xG s) (u := u) _ j (by omega) hB a3.ig (fun x y => m_X9_home_21 (am_i u) (am_i u) (fun u28 m29 => some (u28, m29)) n x y (am_i ((j + 1 : Nat) : Int)) m3)).2, rfl, rfl, g2.sc1 (fun b hb => f3 b (by unfold Scr at hb; omega))⟩
    have x24 : am_ix (am_i 24 + am_i (u : Int)) = 24 + u := by rw [i_add, i_ix (by omega) (by omega)]; omega
    have y24 : am_ib (am_i 24 + am_i (u : Int)) 15517 = true := by rw [i_add, i_ibt (by omega) (by omega) (by omega)]
    rw [m_X9_home_21, if_neg (by rw [i_le (by omega) (by omega) (by omega) (by omega)]; omega), y24, cond_true, x24, a3.tm.2 u hu hu2, nj]
    by_cases c1 : (j : Int) = gU (xG s) u
    · have hp : hmP (xG s) u j = true := by
        unfold hmP
        rw [decide_eq_true c1.symm, Bool.true_or]
      rw [if_pos (by rw [c1])]
      exact key hp
    · rw [if_neg (by rw [i_eq (by omega) (by omega) (by omega) (by omega)]; exact c1), s_X9_canMove a3.tm a3.tr (by omega) (by omega) (by omega) (by omega), Option.bind_some]
      cases c2 : cmv (gU (xG s)) (gD (xG s)) (u : Int) (j : Int)
      · rw [if_neg (by decide), eN (hmP_0 c1 c2)]
        exact ⟨(z2, z3, m0), rfl, a1, a2, a3⟩
      · have hp : hmP (xG s) u j = true := by
          unfold hmP
          rw [c2, Bool.or_true]
        rw [if_pos (by decide)]
        exact key hp
  · refine ⟨t.2.2, L.2.trans ?_, L.1.2.2⟩
    rw [L.1.1]
theorem q_home (h : GS m r s) (a : Int32) : ∃ y m1 m2, m_X8_home m a = some (y, m1) ∧ m_X9_home m1 a = some (y, m2) ∧ Good m2 r := by
  obtain ⟨x, h1, h2, rfl⟩ := i_any a
  by_cases c0 : x = 0
  · refine ⟨am_i (-1), m, m, ?_, ?_, h.g⟩
    · unfold m_X8_home
      rw [if_pos (by rw [c0]; rfl)]
    · unfold m_X9_home
      rw [s_t9 h h1 h2]
      cases c : thr (gU (xG s)) x
      · rfl
      · rw [Option.bind_some, if_neg (by decide), if_neg (fun y => y (by rw [c0]; rfl))]
  have c0' : ¬ am_i x = 0 := by rw [i_zero, i_eq (by omega) (by omega) (by omega) (by omega)]; exact c0
  cases c : thr (gU (xG s)) x
  · refine ⟨am_i (-1), m, m, ?_, ?_, h.g⟩
    · unfold m_X8_home
      rw [if_neg c0', s_t8 h h1 h2, c]
      rfl
    · unfold m_X9_home
      rw [s_t9 h h1 h2, c]
      rfl
  · obtain ⟨u, hu, rfl, hu2⟩ := thr_i c
    obtain ⟨m1, e1, k1, g1⟩ := l_branch8 h
    obtain ⟨m2, e2, k2⟩ := l_X8_home k1 g1 hu hu2
    obtain ⟨m3, e3, k3⟩ := l_X9_home k2 hu hu2
    refine ⟨am_i (twB (hmP (xG s) u) (hmA (xG s) u) 24), m2, m3, ?_, ?_, k3.g⟩
    · unfold m_X8_home
      rw [if_neg c0', s_t8 h h1 h2, c, Option.bind_some, if_pos (by decide), e1, Option.bind_some, e2]
    · unfold m_X9_home
      rw [s_t9 k2 h1 h2, c, Option.bind_some, if_neg (by decide), if_pos c0', e3]
end HN
