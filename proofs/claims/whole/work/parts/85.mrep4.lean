/-! ===== mathematics: report, the call ===== -/
def rp0 : Rp := (0, fun _ => 0)
def rpB (u : Nat) : Rp := rA (rN rp0 u) 58
def rpE (f : Nat → Nat) (u : Nat) : Rp := if pos f ≤ 5 then rpS f (rpB u) (min (pos f) 5) else rN (rA (rA (rpS f (rpB u) (min (pos f) 5)) 32) 43) (pos f - 5)
section RPu
variable {m : am_m} {r : am_rr} {s : Sx} {f : Nat → Nat} {u : Nat}
theorem rpB_len (hu : u < 24) : (rN rp0 u).1 ≤ 2 ∧ (rpB u).1 ≤ 3 := by
  have l := rN_len (q := rp0) (f := 2) (n := u) (by decide) (by decide) (by omega)
  have e : (rpB u).1 = (rN rp0 u).1 + 1 := rfl
  have e0 : rp0.1 = 0 := rfl
  omega
theorem rpE_len (hu : u < 24) (hf : ∀ c, f c ≤ 239976) : (rpE f u).1 ≤ 64 := by
  have p64 : pos f ≤ 64 := cn_le _ _
  have b := (rpB_len hu).2
  have l := rpS_len (q := rpB u) hf (min (pos f) 5) (by omega)
  unfold rpE
  by_cases c : pos f ≤ 5
  · rw [if_pos c]; omega
  · rw [if_neg c]
    have l2 := rN_len (q := rA (rA (rpS f (rpB u) (min (pos f) 5)) 32) 43) (f := 2) (n := pos f - 5) (by decide) (by decide) (by omega)
    have e : (rA (rA (rpS f (rpB u) (min (pos f) 5)) 32) 43).1 = (rpS f (rpB u) (min (pos f) 5)).1 + 1 + 1 := rfl
    omega
theorem s_X3_tell {a : Nat} (h : Row m a f) (ha : a < 2986) (hf : ∀ c, f c ≤ 239976) (hR : RPC m rp0) (hu : u < 24) : ∃ m', m_X3_tell m (am_i u) a = some m' ∧ Fr F6 m m' ∧ RPC m' (rpE f u) := by
  have p64 : pos f ≤ 64 := cn_le _ _
  obtain ⟨b1', b2'⟩ := rpB_len hu
  have na : ¬ F6 a := by unfold F6; omega
  have e0 : rp0.1 = 0 := rfl
  obtain ⟨m1, e1, f1, h1⟩ := s_putNumber (f := 2) (n := u) (by decide) (by decide) (by omega) hR (by omega)
  obtain ⟨m2, e2, f2, h2⟩ := s_put (x := 58) h1 (by omega)
  have r2 : Row m2 a f := ⟨fun c hc => by rw [f2 a na, f1 a na]; exact h.1 c hc, h.2⟩
  have len := rpS_len (q := rpB u) hf (min (pos f) 5) (by omega)
  unfold m_X3_tell
  rw [s_X6_maskOf h, Option.bind_some, s_bitCount, pop_mk, Option.bind_some, e1, Option.bind_some, e2, Option.bind_some]
  obtain ⟨m3, e3, f3, h3⟩ := l_X3_tell_22 (x1 := am_i u) (k := fun m14 => if am_i (pos f : Nat) ≤ am_i 5 then some m14 else (m_X3_put m14 (am_i 32)).bind fun q16 => (m_X3_put q16 (am_i 43)).bind fun q17 => (m_X3_putNumber q17 (am_i (pos f : Nat) - am_i 5)).bind fun q18 => some q18) r2 ha hf h2 b2'
  rw [e3]
  have h3 : RPC m3 (rpS f (rpB u) (min (pos f) 5)) := h3
  by_cases c : pos f ≤ 5
  · rw [if_pos (by rw [i_le (by omega) (by omega) (by omega) (by omega)]; omega)]
    refine ⟨m3, rfl, (f1.trans f2).trans f3, ?_⟩
    unfold rpE
    rw [if_pos c]
    exact h3
  · rw [if_neg (by rw [i_le (by omega) (by omega) (by omega) (by omega)]; omega)]
    have x1' : (rA (rpS f (rpB u) (min (pos f) 5)) 32).1 = (rpS f (rpB u) (min (pos f) 5)).1 + 1 := rfl
    have x2' : (rA (rA (rpS f (rpB u) (min (pos f) 5)) 32) 43).1 = (rpS f (rpB u) (min (pos f) 5)).1 + 1 + 1 := rfl
    obtain ⟨m4, e4, f4, h4⟩ := s_put (x := 32) h3 (by omega)
    obtain ⟨m5, e5, f5, h5⟩ := s_put (x := 43) h4 (by omega)
    obtain ⟨m6, e6, f6, h6⟩ := s_putNumber (f := 2) (n := pos f - 5) (by decide) (by decide) (by omega) h5 (by omega)
    have es : am_i (pos f : Nat) - am_i 5 = am_i ((pos f - 5 : Nat) : Int) := by rw [i_sub]; refine congrArg am_i ?_; omega
    rw [e4, Option.bind_some, e5, Option.bind_some, es, e6, Option.bind_some]
    refine ⟨m6, rfl, ((f1.trans f2).trans f3).trans ((f4.trans f5).trans f6), ?_⟩
    unfold rpE
    rw [if_neg c]
    exact h6
theorem IS.rep (hI : IS s) {R : Rp} (h : R.1 ≤ 64) : IS (xG s, xB s, xN s, xH s, xF s, xI s, xJ s, xT s, R) := ⟨hI.1, hI.2.1, hI.2.2.1, hI.2.2.2.1, hI.2.2.2.2.1, h⟩
theorem q_report (h : GS m r s) (a : Int32) : ∃ y m1 m2, m_X8_report m a = some (y, m1) ∧ m_X9_report m1 a = some (y, m2) ∧ Good m2 r := by
  obtain ⟨x, h1, h2, rfl⟩ := i_any a
  have tc0 : TC (am_si m 2986 1 (am_i 0)) 4 (gU (xG s)) := fun k hk => by rw [si_ne (by unfold aU; omega)]; exact h.tc k hk
  have R0 : RPC (am_si m 2986 1 (am_i 0)) rp0 := ⟨si_at, fun i hi => absurd hi (Nat.not_lt_zero i)⟩
  have F0 : Fr F6 m (am_si m 2986 1 (am_i 0)) := fun b hb => si_ne (fun e => hb (Or.inl e))
  have C : ∀ {m1 : am_m} {R : Rp}, Fr F6 m m1 → RPC m1 R → CS m1 r (xG s, xB s, xN s, xH s, xF s, xI s, xJ s, xT s, R) ∧ MS m1 s := fun {m1 R} f hR => ⟨h.2.1.updT h.2.2.2 h.1 (h.2.1.2.2.2.2.1.kept (fun b b1 b2 => f b (by unfold F6; omega))) hR (fun b _ _ _ b4 b5 _ => f b (by unfold F6; omega)), h.2.2.1.kept (fun b b1 _ => f b (by unfold F6; omega))⟩
  have M : ∀ {m1 m2 : am_m} {R : Rp}, MS m1 s → (∀ b, b ≠ 3261 → b ≠ 3271 → b ≠ 3266 → m2 b = m1 b) → (∀ j, j ≠ 18 → m2 3261 j = m1 3261 j) → RPM m2 R → MS m2 (xG s, xB s, xN s, xH s, xF s, xI s, xJ s, xT s, R) := fun {m1 m2 R} ms f f2 hR => ms.updT ⟨by rw [f2 9 (by decide)]; exact ms.2.2.2.2.1.1, fun i hi hi2 => by rw [f 3268 (by decide) (by decide) (by decide)]; exact ms.2.2.2.2.1.2.1 i hi hi2, by rw [f2 11 (by decide)]; exact ms.2.2.2.2.1.2.2.1, by rw [f2 12 (by decide)]; exact ms.2.2.2.2.1.2.2.2⟩ hR (fun b hb => f b (by omega) (by omega) (by omega)) (f2 4 (by decide)) (f2 5 (by decide))
  cases c : thr (gU (xG s)) x
  · obtain ⟨cs, ms⟩ := C F0 R0
    have ms2 : MS (am_si (am_si m 2986 1 (am_i 0)) 3261 18 (am_i 0)) _ := M (R := rp0) ms (fun b b1 _ _ => si_ne b1) (fun j hj => si_o hj) ⟨si_at, fun i hi => absurd hi (Nat.not_lt_zero i)⟩
    have tm0 : TM (am_si (am_si m 2986 1 (am_i 0)) 3261 18 (am_i 0)) (gU (xG s)) := ms2.1.TM
    refine ⟨am_i (-1), am_si m 2986 1 (am_i 0), am_si (am_si m 2986 1 (am_i 0)) 3261 18 (am_i 0), ?_, ?_, GS.both (s := s) h.1 cs ms2 (h.2.2.2.rep (by decide)) (fun b hb => si_ne (by omega))⟩
    · unfold m_X8_report m_X3_clear
      rw [am_letF, Option.bind_some, s_X1_isThere tc0 h.tr h1 h2, c]
      rfl
    · unfold m_X9_report
      rw [am_letF, s_X9_isUnit tm0 h1 h2, c]
      rfl
  · obtain ⟨u, hu, rfl, hu2⟩ := thr_i c
    have hf := h.ig.2.2.1 u
    have p64 : pos (gM (xG s) u) ≤ 64 := cn_le _ _
    obtain ⟨b1', b2'⟩ := rpB_len hu
    have e00 : rp0.1 = 0 := rfl
    have rx : Row (am_si m 2986 1 (am_i 0)) (aX 4 u) (gM (xG s) u) := ⟨fun c hc => by rw [si_ne (by unfold aX; omega)]; exact (h.xc hu).1 c hc, (h.xc hu).2⟩
    obtain ⟨m1, e1, f1, hR1⟩ := s_X3_tell rx (by unfold aX; omega) hf R0 hu
    obtain ⟨cs, ms⟩ := C (F0.trans f1) hR1
    have k0 : RPM (am_si m1 3261 18 (am_i 0)) rp0 := ⟨si_at, fun i hi => absurd hi (Nat.not_lt_zero i)⟩
    have tm0 : TM (am_si m1 3261 18 (am_i 0)) (gU (xG s)) := ⟨fun k hk => by rw [si_ne (by decide)]; exact ms.1.TM.1 k hk, fun k hk k2 => by rw [si_ne (by decide)]; exact ms.1.TM.2 k hk k2⟩
    obtain ⟨k1, g1, p1, q1⟩ := s_sayN (f := 2) (n := u) (by decide) (by decide) (by omega) k0 (by omega)
    obtain ⟨k2, g2, p2, q2⟩ := s_says (x := 58) q1 (by omega)
    have w2 : k2 3262 = m1 3262 := by rw [p2.1 3262 (by decide) (by decide), p1.1 3262 (by decide) (by decide), si_ne (by decide)]
    have rw2 : RowW k2 (1608 + 64 * u) (gM (xG s) u) := ⟨fun c hc => by rw [w2]; exact (ms.1.sum h.ig hu).1 c hc, (ms.1.sum h.ig hu).2⟩
    obtain ⟨k3, g3, p3, r3⟩ := s_X9_lays rw2 (by omega) (show 3266 ≠ 3262 by decide)
    have rw3 : RowW k3 (1608 + 64 * u) (gM (xG s) u) := ⟨fun c hc => by rw [p3 3262 (by decide)]; exact rw2.1 c hc, rw2.2⟩
    have q3 : RPM k3 (rpB u) := ⟨by rw [p3 3261 (by decide)]; exact q2.1, fun i hi hi2 => by rw [p3 3271 (by decide)]; exact q2.2 i hi hi2⟩
    obtain ⟨k4, g4, p4, q4⟩ := l_X9_report_49 (x1 := am_i u) (k := fun m18 => if am_i (pos (gM (xG s) u) : Nat) ≤ am_i 5 then some ((m18 3261 18), m18) else (m_X9_says m18 (am_i 32)).bind fun q20 => (m_X9_says q20 (am_i 43)).bind fun q21 => (m_X9_saysNumber 20 q21 (am_i (pos (gM (xG s) u) : Nat) - am_i 5)).bind fun q22 => some ((q22 3261 18), q22)) rw3 hu hf q3 b2'
    have len := rpS_len (q := rpB u) hf (min (pos (gM (xG s) u)) 5) (by omega)
    have ea : am_i 1608 + am_i 64 * am_i (u : Int) = am_i ((1608 + 64 * u : Nat) : Int) := by rw [i_mul, i_add]; rfl
    have E : ∃ k5, (if am_i (pos (gM (xG s) u) : Nat) ≤ am_i 5 then some ((k4 3261 18), k4) else (m_X9_says k4 (am_i 32)).bind fun q20 => (m_X9_says q20 (am_i 43)).bind fun q21 => (m_X9_saysNumber 20 q21 (am_i (pos (gM (xG s) u) : Nat) - am_i 5)).bind fun q22 => some ((q22 3261 18), q22)) = some (k5 3261 18, k5) ∧ F7 k4 k5 ∧ RPM k5 (rpE (gM (xG s) u) u) := by
      unfold rpE
      by_cases c : pos (gM (xG s) u) ≤ 5
      · rw [if_pos (by rw [i_le (by omega) (by omega) (by omega) (by omega)]; omega), if_pos c]
        exact ⟨k4, rfl, F7.refl, q4⟩
      · rw [if_neg (by rw [i_le (by omega) (by omega) (by omega) (by omega)]; omega), if_neg c]
        have x1' : (rA (rpS (gM (xG s) u) (rpB u) (min (pos (gM (xG s) u)) 5)) 32).1 = (rpS (gM (xG s) u) (rpB u) (min (pos (gM (xG s) u)) 5)).1 + 1 := rfl
        have x2' : (rA (rA (rpS (gM (xG s) u) (rpB u) (min (pos (gM (xG s) u)) 5)) 32) 43).1 = (rpS (gM (xG s) u) (rpB u) (min (pos (gM (xG s) u)) 5)).1 + 1 + 1 := rfl
        obtain ⟨m4, e4, f4, h4⟩ := s_says (x := 32) q4 (by omega)
        obtain ⟨m5, e5, f5, h5⟩ := s_says (x := 43) h4 (by omega)
        obtain ⟨m6, e6, f6, h6⟩ := s_sayN (f := 2) (n := pos (gM (xG s) u) - 5) (by decide) (by decide) (by omega) h5 (by omega)
        have es : am_i (pos (gM (xG s) u) : Nat) - am_i 5 = am_i ((pos (gM (xG s) u) - 5 : Nat) : Int) := by rw [i_sub]; refine congrArg am_i ?_; omega
        rw [e4, Option.bind_some, e5, Option.bind_some, es, e6, Option.bind_some]
        exact ⟨m6, rfl, (f4.trans f5).trans f6, h6⟩
    obtain ⟨k5, g5, p5, q5⟩ := E
    have K : ∀ b, b ≠ 3261 → b ≠ 3271 → b ≠ 3266 → k5 b = m1 b := fun b z1 z2 z3 => by rw [p5.1 b z1 z2, p4.1 b z1 z2, p3 b z3, p2.1 b z1 z2, p1.1 b z1 z2, si_ne z1]
    have K2 : ∀ j, j ≠ 18 → k5 3261 j = m1 3261 j := fun j hj => by rw [p5.2 j hj, p4.2 j hj, p3 3261 (by decide), p2.2 j hj, p1.2 j hj, si_o hj]
    refine ⟨am_i (rpE (gM (xG s) u) u).1, m1, k5, ?_, ?_, GS.both (s := s) h.1 cs (M ms K K2 q5) (h.2.2.2.rep (rpE_len hu hf)) (fun b hb => K b (by omega) (by omega) (by omega))⟩
    · unfold m_X8_report m_X3_clear
      rw [am_letF, Option.bind_some, s_X1_isThere tc0 h.tr h1 h2, c, Option.bind_some, if_pos (by decide), i_ibt (by omega) (by omega) (by omega), cond_true, i_ixn (by omega), e1, Option.bind_some, hR1.1]
    · unfold m_X9_report
      rw [am_letF, s_X9_isUnit tm0 h1 h2, c, Option.bind_some, if_pos (by decide), g1, Option.bind_some, g2, Option.bind_some]
      unfold m_X9_sumAt
      rw [Option.bind_some, ea, g3, Option.bind_some, s_X9_positive r3, Option.bind_some, g4, g5, q5.1]
end RPu
