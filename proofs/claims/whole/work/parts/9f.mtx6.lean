/-! ===== mathematics: text, the reference's entries ===== -/
/-- what the reference has after entries were read -/
def EM (m m' : am_m) (T : Tp) (p : Nat) (g : Og) (R : Er) : Prop := FU m m' ∧ ((∃ k q p', R = Sum.inl (k, q) ∧ TR m' T p' (k : Nat) (q : Nat) 1) ∨ (∃ q W, R = Sum.inr (q, W) ∧ TR m' T q 0 (-1) 0 ∧ OM m' 3262 0 (ogO g W) ∧ EI g W ∧ p ≤ q))
section T7
variable {m : am_m} {T : Tp} {p u : Nat} {g : Og} {W : Wn}
theorem OM.amt {c v : Nat} (hO : OM m 3262 0 (ogO g W)) (hc : c < 64) (hu : u < 24) : OM (am_si m 3262 (72 + 64 * u + c) (am_i v)) 3262 0 (ogO g (ow1 W u c v)) := by
  refine OM.ow (g := ogO g W) hO (fun i hi => si_o (by omega)) (fun k hk e he => ?_)
  rw [m_si]
  show _ = am_i ((if k = u ∧ e = c then v else W k e : Nat) : Int)
  by_cases z : k = u ∧ e = c
  · rw [if_pos ⟨rfl, by omega⟩, if_pos z]
  · rw [if_neg (fun y => z (by omega)), if_neg z]
    have := hO.2.2.2.1 k hk e he
    rwa [Nat.zero_add] at this
theorem e54_0 {y : Int32} {k : am_m → Option am_m} {n : Nat} : m_X9_entry_54 y k (n + 1) (am_i 0) m = k m := by
  rw [m_X9_entry_54, if_pos (by decide)]
theorem e54_F {y : Int32} {k : am_m → Option am_m} : m_X9_entry_54 y k am_F (am_i 0) m = k m := e54_0 (n := 999999)
theorem l_X9_entry_54 (hT : IT T) (hu : u < 24) (hu2 : gU g u ≠ -2) : ∀ (d n p : Nat) (W : Wn) (m : am_m), T.1 - p = d → d + 1 < n → TR m T p 0 (-1) 0 → OM m 3262 0 (ogO g W) → EI g W → ∀ D, d < D → ∃ m', m_X9_entry_54 (am_i u) (fun m39 => some m39) n (am_i 1) m = some m' ∧ EM m m' T p g (tam T u D p W) := by
  intro d
  induction d using Nat.strongRecOn with
  | _ d ih =>
  intro n p W m hd hn hS hO hE D hD
  have h4 := hT.1
  have hp := hS.2.2.2.2.2.2
  have q1 := tsk_ge (T := T) (p := p)
  have q2 := tsk_le (T := T) hp
  obtain ⟨n, rfl⟩ : ∃ n', n = n' + 2 := ⟨n - 2, by omega⟩
  obtain ⟨D, rfl⟩ : ∃ n', D = n' + 1 := ⟨D - 1, by omega⟩
  obtain ⟨y, m1, e1, f1, R⟩ := s_X9_number (lo := 0) (hi := 63) hT hS (by decide) (by decide) (by decide) (by decide)
  rw [m_X9_entry_54, if_neg (show ¬ am_i 1 = 0 by decide), e1, Option.bind_some]
  dsimp only
  -- a fault was found: what follows changes nothing of it
  have bad : ∀ {mm : am_m} {k q p' : Nat} {X : am_m → Int32 → Option am_m}, TR mm T p' k q 1 → FU m mm → tamR T p u W = Sum.inl (k, q) → ∃ m', ((m_X9_must mm (am_i 120)).bind fun q8 => (m_X9_number q8 (am_i 1) (am_i 9999)).bind fun q9 => if (q9.2 3261 13) = 0 then X q9.2 q9.1 else some q9.2) = some m' ∧ EM m m' T p g (tam T u (D + 1) p W) := by
    intro mm k q p' X a1 a2 a3
    obtain ⟨m5, p5, e5, f5, b5⟩ := s_X9_must1 (x := 120) hT a1 (by decide) (by decide)
    have w13 : ¬ m5 3261 13 = 0 := by rw [b5.2.2.2.2.1]; decide
    rw [e5, Option.bind_some, s_X9_number1 b5, Option.bind_some]
    dsimp only
    rw [if_neg w13]
    exact ⟨m5, rfl, a2.trans f5.fu, Or.inl ⟨k, q, p5, by rw [tam_s, a3], b5⟩⟩
  rcases R with ⟨c, a1⟩ | ⟨c, ⟨v0, v1, ey, a1, a14⟩ | ⟨cv, a1⟩⟩
  · have w13 : ¬ m1 3261 13 = 0 := by rw [a1.2.2.2.2.1]; decide
    rw [if_pos w13]
    exact bad (k := 1) (X := fun a b => (m_X9_ownAt a (am_i u)).bind fun q11 => bif am_ib (q11 + y) 15517 then am_let (am_si a 3262 (am_ix (q11 + y)) b) (fun m13 => (m_X9_isNext m13 (am_i 44)).bind fun q14 => if q14.1 = 0 then m_X9_entry_54 (am_i u) (fun m39 => some m39) (n + 1) q14.1 q14.2 else am_let (am_si q14.2 3261 10 ((q14.2 3261 10) + (am_i 1))) (fun m16 => m_X9_entry_54 (am_i u) (fun m39 => some m39) (n + 1) q14.1 m16)) else none) a1 f1.fu (by unfold tamR; rw [if_pos c])
  · have w13 : m1 3261 13 = 0 := by rw [a1.2.2.2.2.1]; decide
    have hO1 := hO.fx f1
    have cn : ¬ tdg (tsg T (tsk T p)) = false := by rw [c]; decide
    have n1 := tnl_1 c
    have et0 : tamR T p u W = _ := if_neg cn
    have hlt : p < tsk T p + tnl T (tsk T p) := by omega
    generalize tav T (tsk T p) (tnl T (tsk T p)) = v at v0 v1 ey et0
    generalize tsk T p + tnl T (tsk T p) = p1 at et0 a1 hlt
    have hv : v < 64 := by omega
    have et1 := et0.trans (if_neg (by omega))
    have ixv : am_ix (am_i ((72 + 64 * u : Nat) : Int) + am_i (v : Int)) = 72 + 64 * u + v := by rw [i_add, i_ix (by omega) (by omega)]; omega
    have ibv : am_ib (am_i ((72 + 64 * u : Nat) : Int) + am_i (v : Int)) 15517 = true := by rw [i_add, i_ibt (by omega) (by omega) (by omega)]
    have hW := hO1.2.2.2.1 u hu v hv
    rw [Nat.zero_add] at hW
    have hW : m1 3262 (72 + 64 * u + v) = am_i (W u v) := hW
    have hWb := hE.1 u v
    rw [if_neg (fun z => z w13), own_at, Option.bind_some, ey, ibv, cond_true, ixv]
    by_cases c2 : 0 < W u v
    · obtain ⟨m2, e2, f2, a2⟩ := s_X9_wrong0 (x := 3) (y := tsk T p) a1
      rw [if_neg (by rw [hW, i_zero, i_le (by omega) (by omega) (by omega) (by omega)]; omega), a14, e2, Option.bind_some]
      exact bad (k := 3) (X := fun a b => (m_X9_ownAt a (am_i u)).bind fun q11 => bif am_ib (q11 + am_i v) 15517 then am_let (am_si a 3262 (am_ix (q11 + am_i v)) b) (fun m13 => (m_X9_isNext m13 (am_i 44)).bind fun q14 => if q14.1 = 0 then m_X9_entry_54 (am_i u) (fun m39 => some m39) (n + 1) q14.1 q14.2 else am_let (am_si q14.2 3261 10 ((q14.2 3261 10) + (am_i 1))) (fun m16 => m_X9_entry_54 (am_i u) (fun m39 => some m39) (n + 1) q14.1 m16)) else none) a2 (f1.fu.trans f2.fu) (et1.trans (if_pos c2))
    have et2 := et1.trans (if_neg c2)
    rw [if_pos (by rw [hW, i_zero, i_le (by omega) (by omega) (by omega) (by omega)]; omega)]
    obtain ⟨m2, e2, f2, A, B⟩ := s_X9_must0 (x := 120) hT a1 (by decide) (by decide)
    have q3 := tsk_ge (T := T) (p := p1)
    rw [e2, Option.bind_some]
    by_cases c3 : ¬ tsg T (tsk T p1) = 120
    · have a2 := B c3
      have w132 : ¬ m2 3261 13 = 0 := by rw [a2.2.2.2.2.1]; decide
      rw [s_X9_number1 a2, Option.bind_some]
      dsimp only
      rw [if_neg w132]
      exact ⟨m2, rfl, f1.fu.trans f2.fu, Or.inl ⟨1, tsk T p1, tsk T p1, by rw [tam_s, et2.trans (if_pos c3)], a2⟩⟩
    have c3 := Classical.not_not.mp c3
    obtain ⟨A1, A2⟩ := A c3
    have et3 := et2.trans (if_neg (fun z => z c3))
    obtain ⟨y3, m3, e3, f3, R3⟩ := s_X9_number (lo := 1) (hi := 9999) hT A2 (by decide) (by decide) (by decide) (by decide)
    have q4 := tsk_ge (T := T) (p := tsk T p1 + 1)
    rw [e3, Option.bind_some]
    dsimp only
    have F3 : FU m m3 := (f1.fu.trans f2.fu).trans f3.fu
    generalize tsk T (tsk T p1 + 1) = q at et3 R3 q4
    rcases R3 with ⟨c4, a3⟩ | ⟨c4, ⟨u0, u1, ey3, a3, _⟩ | ⟨cv, a3⟩⟩
    · have w133 : ¬ m3 3261 13 = 0 := by rw [a3.2.2.2.2.1]; decide
      rw [if_neg w133]
      exact ⟨m3, rfl, F3, Or.inl ⟨1, q, q, by rw [tam_s, et3.trans (if_pos c4)], a3⟩⟩
    · have w133 : m3 3261 13 = 0 := by rw [a3.2.2.2.2.1]; decide
      have cn4 : ¬ tdg (tsg T q) = false := by rw [c4]; decide
      have et4 := et3.trans (if_neg cn4)
      have n2 := tnl_1 c4
      generalize tav T q (tnl T q) = v2 at u0 u1 ey3 et4
      have et5 := et4.trans (if_pos ⟨by omega, by omega⟩)
      have hO3 := (hO1.fx f2).fx f3
      have hO4 : OM (am_si m3 3262 (72 + 64 * u + v) (am_i v2)) 3262 0 (ogO g (ow1 W u v v2)) := hO3.amt hv hu
      have F4 : FU m (am_si m3 3262 (72 + 64 * u + v) (am_i v2)) := F3.w (by omega)
      have a4 : TR (am_si m3 3262 (72 + 64 * u + v) (am_i v2)) T (q + tnl T q) 0 (-1) 0 := a3.kept (si_ne (by decide)) (si_ne (by decide))
      have hE4 : EI g (ow1 W u v v2) := hE.w hu2 (by omega)
      have hlt4 : p < q + tnl T q := by omega
      rw [if_pos w133, own_at, Option.bind_some, ibv, cond_true, ixv, ey3, am_letF]
      generalize am_si m3 3262 (72 + 64 * u + v) (am_i v2) = m4 at hO4 F4 a4 ⊢
      generalize q + tnl T q = p4 at et5 a4 hlt4
      have et : tam T u (D + 1) p W = if tsg T (tsk T p4) = 44 then tam T u D (tsk T p4 + 1) (ow1 W u v v2) else Sum.inr (tsk T p4, ow1 W u v v2) := by rw [tam_s, et5]
      have q5 := tsk_ge (T := T) (p := p4)
      obtain ⟨m5, e5, f5, a5, _⟩ := s_X9_isNext (x := 44) hT a4 (by decide) (by decide)
      rw [e5, Option.bind_some, et]
      dsimp only
      by_cases c5 : tsg T (tsk T p4) = 44
      · have hlt5 := tsg_tl c5 (by decide)
        rw [decide_eq_true c5, if_neg (show ¬ am_i (b1 true : Nat) = 0 by decide), if_pos c5, a5.2.2.2.2.2.1, nj, am_letF]
        obtain ⟨m6, g1, g2, g3⟩ := ih (T.1 - (tsk T p4 + 1)) (by omega) (n + 1) (tsk T p4 + 1) (ow1 W u v v2) (am_si m5 3261 10 (am_i ((tsk T p4 + 1 : Nat) : Int))) rfl (by omega) (a5.go (by omega)) ((hO4.fx f5).kept (fun i _ => by rw [si_ne (by decide)])) hE4 D (by omega)
        refine ⟨m6, g1, (F4.trans (f5.si ⟨by decide, by decide⟩).fu).trans g2, ?_⟩
        rcases g3 with ⟨a, b, cc, s1, s2⟩ | ⟨a, b, s1, s2, s3, s4, s5⟩
        · exact Or.inl ⟨a, b, cc, s1, s2⟩
        · exact Or.inr ⟨a, b, s1, s2, s3, s4, by omega⟩
      · rw [decide_eq_false c5, if_pos (show am_i (b1 false : Nat) = 0 by decide), if_neg c5, show am_i (b1 false : Nat) = am_i 0 from rfl, e54_0]
        exact ⟨m5, rfl, F4.trans f5.fu, Or.inr ⟨tsk T p4, _, rfl, a5, hO4.fx f5, hE4, by omega⟩⟩
    · have w133 : ¬ m3 3261 13 = 0 := by rw [a3.2.2.2.2.1]; decide
      have cn4 : ¬ tdg (tsg T q) = false := by rw [c4]; decide
      have et4 := et3.trans (if_neg cn4)
      rw [if_neg w133]
      exact ⟨m3, rfl, F3, Or.inl ⟨2, q, _, by rw [tam_s, et4.trans (if_neg (by omega))], a3⟩⟩
  · have w13 : ¬ m1 3261 13 = 0 := by rw [a1.2.2.2.2.1]; decide
    have cn : ¬ tdg (tsg T (tsk T p)) = false := by rw [c]; decide
    rw [if_pos w13]
    exact bad (k := 2) (X := fun a b => (m_X9_ownAt a (am_i u)).bind fun q11 => bif am_ib (q11 + y) 15517 then am_let (am_si a 3262 (am_ix (q11 + y)) b) (fun m13 => (m_X9_isNext m13 (am_i 44)).bind fun q14 => if q14.1 = 0 then m_X9_entry_54 (am_i u) (fun m39 => some m39) (n + 1) q14.1 q14.2 else am_let (am_si q14.2 3261 10 ((q14.2 3261 10) + (am_i 1))) (fun m16 => m_X9_entry_54 (am_i u) (fun m39 => some m39) (n + 1) q14.1 m16)) else none) a1 f1.fu (by unfold tamR; rw [if_neg cn, if_pos (by omega)])
theorem s_X9_entry (hT : IT T) (hS : TR m T p 0 (-1) 0) (hO : OM m 3262 0 (ogO g W)) (hE : EI g W) : ∃ m', m_X9_entry m = some m' ∧ EM m m' T (p + 1) g (ten T g p W) := by
  have h4 := hT.1
  have hp := hS.2.2.2.2.2.2
  have q1 := tsk_ge (T := T) (p := p)
  obtain ⟨y, m1, e1, f1, R⟩ := s_X9_number (lo := 0) (hi := 23) hT hS (by decide) (by decide) (by decide) (by decide)
  unfold m_X9_entry
  rw [e1, Option.bind_some]
  dsimp only
  have bad : ∀ {mm : am_m} {k q p' : Nat} {y : Int32}, TR mm T p' k q 1 → FU m mm → ten T g p W = Sum.inl (k, q) → ∃ m', ((m_X9_must mm (am_i 58)).bind fun q3 => if ¬ (q3 3261 13) = 0 then m_X9_entry_54 y (fun m39 => some m39) am_F (am_i 0) q3 else m_X9_entry_54 y (fun m40 => some m40) am_F (am_i 1) q3) = some m' ∧ EM m m' T (p + 1) g (ten T g p W) := by
    intro mm k q p' y a1 a2 a3
    obtain ⟨m5, p5, e5, f5, b5⟩ := s_X9_must1 (x := 58) hT a1 (by decide) (by decide)
    have w13 : ¬ m5 3261 13 = 0 := by rw [b5.2.2.2.2.1]; decide
    rw [e5, Option.bind_some, if_pos w13, e54_F]
    exact ⟨m5, rfl, a2.trans f5.fu, Or.inl ⟨k, q, p5, a3, b5⟩⟩
  rcases R with ⟨c, a1⟩ | ⟨c, ⟨v0, v1, ey, a1, a14⟩ | ⟨cv, a1⟩⟩
  · have w13 : ¬ m1 3261 13 = 0 := by rw [a1.2.2.2.2.1]; decide
    rw [if_pos w13]
    exact bad (k := 1) a1 f1.fu (by unfold ten; rw [if_pos c])
  · have w13 : m1 3261 13 = 0 := by rw [a1.2.2.2.2.1]; decide
    have hO1 := hO.fx f1
    have cn : ¬ tdg (tsg T (tsk T p)) = false := by rw [c]; decide
    have n1 := tnl_1 c
    have et0 : ten T g p W = _ := if_neg cn
    have hlt : p < tsk T p + tnl T (tsk T p) := by omega
    generalize tav T (tsk T p) (tnl T (tsk T p)) = v at v0 v1 ey et0
    generalize tsk T p + tnl T (tsk T p) = p1 at et0 a1 hlt
    have hv : v < 24 := by omega
    have ix0 : am_ix (am_i 0 + am_i (v : Int)) = v := by rw [i_add, i_ix (by omega) (by omega)]; omega
    have ib0 : am_ib (am_i 0 + am_i (v : Int)) 15517 = true := by rw [i_add, i_ibt (by omega) (by omega) (by omega)]
    have th := hO1.1 v hv
    rw [Nat.zero_add] at th
    have th : m1 3262 v = am_i (if gU g v = -2 then 0 else 1) := th
    rw [if_neg (fun z => z w13), ey, ib0, cond_true, ix0]
    by_cases c2 : gU g v = -2
    · obtain ⟨m2, e2, f2, a2⟩ := s_X9_wrong0 (x := 2) (y := tsk T p) a1
      rw [if_pos c2] at th
      rw [if_neg (show ¬ ¬ m1 3262 v = 0 by rw [th]; decide), a14, e2, Option.bind_some]
      exact bad (k := 2) a2 (f1.fu.trans f2.fu) (et0.trans (if_pos (thr_f c2)))
    · have et1 := et0.trans (if_neg (by rw [thr_t hv c2]; decide))
      rw [if_neg c2] at th
      obtain ⟨m2, e2, f2, A, B⟩ := s_X9_must0 (x := 58) hT a1 (by decide) (by decide)
      have q3 := tsk_ge (T := T) (p := p1)
      rw [if_pos (show ¬ m1 3262 v = 0 by rw [th]; decide), e2, Option.bind_some]
      by_cases c3 : ¬ tsg T (tsk T p1) = 58
      · have a2 := B c3
        have w132 : ¬ m2 3261 13 = 0 := by rw [a2.2.2.2.2.1]; decide
        rw [if_pos w132, e54_F]
        exact ⟨m2, rfl, f1.fu.trans f2.fu, Or.inl ⟨1, tsk T p1, tsk T p1, et1.trans (if_pos c3), a2⟩⟩
      have c3 := Classical.not_not.mp c3
      obtain ⟨A1, A2⟩ := A c3
      have w132 : m2 3261 13 = 0 := by rw [A2.2.2.2.2.1]; decide
      have et2 := et1.trans (if_neg (fun z => z c3))
      rw [if_neg (fun z => z w132)]
      obtain ⟨m3, g1, g2, g3⟩ := l_X9_entry_54 hT hv c2 (T.1 - (tsk T p1 + 1)) am_F (tsk T p1 + 1) W m2 rfl (by unfold am_F; omega) A2 (hO1.fx f2) hE 401 (by omega)
      refine ⟨m3, g1, (f1.fu.trans f2.fu).trans g2, ?_⟩
      rw [et2]
      rcases g3 with ⟨a, b, cc, s1, s2⟩ | ⟨a, b, s1, s2, s3, s4, s5⟩
      · exact Or.inl ⟨a, b, cc, s1, s2⟩
      · exact Or.inr ⟨a, b, s1, s2, s3, s4, by omega⟩
  · have w13 : ¬ m1 3261 13 = 0 := by rw [a1.2.2.2.2.1]; decide
    have cn : ¬ tdg (tsg T (tsk T p)) = false := by rw [c]; decide
    have th : thr (gU g) ((tav T (tsk T p) (tnl T (tsk T p)) : Nat) : Int) = false := decide_eq_false (by omega)
    rw [if_pos w13]
    exact bad (k := 2) a1 f1.fu (by unfold ten; rw [if_neg cn, if_pos th])
theorem tsg_end (hT : IT T) {q : Nat} : tsg T q = -1 ↔ T.1 ≤ q := by
  refine ⟨fun h => ?_, tsg_e⟩
  rcases Nat.lt_or_ge q T.1 with h2 | h2
  · rw [tsg_l h2] at h; omega
  · exact h2
theorem rd_w {n : Nat} {k q : Int} (hw : TR m T p k q 1) : m_X9_reads_29 (fun m12 => if ¬ (m12 3261 13) = 0 then some m12 else if (m12 3261 9) ≤ (m12 3261 10) then some m12 else (m_X9_wrong m12 (am_i 1) (m12 3261 10)).bind fun q15 => some q15) (n + 1) m = some m := by
  have w13 : ¬ m 3261 13 = 0 := by rw [hw.2.2.2.2.1]; decide
  rw [m_X9_reads_29, if_pos w13, if_pos w13]
theorem l_X9_reads_29 (hT : IT T) : ∀ (d n p : Nat) (W : Wn) (m : am_m), T.1 - p = d → d + 1 < n → TR m T p 0 (-1) 0 → OM m 3262 0 (ogO g W) → EI g W → ∀ D, d < D → ∃ m', m_X9_reads_29 (fun m12 => if ¬ (m12 3261 13) = 0 then some m12 else if (m12 3261 9) ≤ (m12 3261 10) then some m12 else (m_X9_wrong m12 (am_i 1) (m12 3261 10)).bind fun q15 => some q15) n m = some m' ∧ EM m m' T p g (tes T g D p W) := by
  intro d
  induction d using Nat.strongRecOn with
  | _ d ih =>
  intro n p W m hd hn hS hO hE D hD
  have h4 := hT.1
  have hp := hS.2.2.2.2.2.2
  have q1 := tsk_ge (T := T) (p := p)
  have q2 := tsk_le (T := T) hp
  obtain ⟨n, rfl⟩ : ∃ n', n = n' + 2 := ⟨n - 2, by omega⟩
  obtain ⟨D, rfl⟩ : ∃ n', D = n' + 1 := ⟨D - 1, by omega⟩
  have w13 : m 3261 13 = 0 := by rw [hS.2.2.2.2.1]; decide
  obtain ⟨m1, e1, f1, a1, _⟩ := s_X9_isNext (x := 59) hT hS (by decide) (by decide)
  have w131 : m1 3261 13 = 0 := by rw [a1.2.2.2.2.1]; decide
  have hO1 := hO.fx f1
  rw [m_X9_reads_29, if_neg (fun z => z w13), e1, Option.bind_some]
  dsimp only
  by_cases c2 : ¬ tsg T (tsk T p) = 59
  · rw [decide_eq_false c2, if_pos (show am_i (b1 false : Nat) = 0 by decide), if_neg (fun z => z w131)]
    by_cases c1 : tsg T (tsk T p) = -1
    · have l1 := (tsg_end hT).mp c1
      rw [if_pos (by rw [a1.1, a1.2.2.2.2.2.1, i_le (by omega) (by omega) (by omega) (by omega)]; omega), tes_s, if_pos c1]
      exact ⟨m1, rfl, f1.fu, Or.inr ⟨tsk T p, W, rfl, a1, hO1, hE, q1⟩⟩
    · have l1 : tsk T p < T.1 := by
        rcases Nat.lt_or_ge (tsk T p) T.1 with h2 | h2
        · exact h2
        · exact absurd (tsg_e h2) c1
      obtain ⟨m2, e2, f2, a2⟩ := s_X9_wrong0 (x := 1) (y := tsk T p) a1
      rw [if_neg (by rw [a1.1, a1.2.2.2.2.2.1, i_le (by omega) (by omega) (by omega) (by omega)]; omega), a1.2.2.2.2.2.1, e2, Option.bind_some, tes_s, if_neg c1, if_pos c2]
      exact ⟨m2, rfl, f1.fu.trans f2.fu, Or.inl ⟨1, tsk T p, tsk T p, rfl, a2⟩⟩
  have c2 := Classical.not_not.mp c2
  have hlt := tsg_tl c2 (by decide)
  have et2 : tes T g (D + 1) p W = _ := (tes_s.trans (if_neg (by rw [c2]; decide))).trans (if_neg (fun z => z c2))
  rw [decide_eq_true c2, if_neg (show ¬ am_i (b1 true : Nat) = 0 by decide), a1.2.2.2.2.2.1, nj, am_letF]
  have a2 : TR (am_si m1 3261 10 (am_i ((tsk T p + 1 : Nat) : Int))) T (tsk T p + 1) 0 (-1) 0 := a1.go (by omega)
  have f2 : FX m (am_si m1 3261 10 (am_i ((tsk T p + 1 : Nat) : Int))) := f1.si ⟨by decide, by decide⟩
  have hO2 : OM (am_si m1 3261 10 (am_i ((tsk T p + 1 : Nat) : Int))) 3262 0 (ogO g W) := hO.fx f2
  generalize am_si m1 3261 10 (am_i ((tsk T p + 1 : Nat) : Int)) = m2 at a2 f2 hO2 ⊢
  have hp2 := a2.2.2.2.2.2.2
  have q3 := tsk_ge (T := T) (p := tsk T p + 1)
  have q4 := tsk_le (T := T) hp2
  obtain ⟨m3, e3, f3, a3, _⟩ := s_X9_isNext (x := 32) hT a2 (by decide) (by decide)
  rw [e3, Option.bind_some, decide_eq_false (tsk_is hT hp2)]
  dsimp only
  rw [if_neg (show ¬ ¬ am_i (b1 false : Nat) = 0 by decide)]
  have hO3 := hO2.fx f3
  have F3 := f2.trans f3
  by_cases c3 : tsg T (tsk T (tsk T p + 1)) = -1
  · have l1 := (tsg_end hT).mp c3
    rw [if_pos (by rw [a3.1, a3.2.2.2.2.2.1, i_le (by omega) (by omega) (by omega) (by omega)]; omega), et2, if_pos c3]
    exact ⟨m3, rfl, F3.fu, Or.inr ⟨tsk T (tsk T p + 1), W, rfl, a3, hO3, hE, by omega⟩⟩
  · have l1 : tsk T (tsk T p + 1) < T.1 := by
      rcases Nat.lt_or_ge (tsk T (tsk T p + 1)) T.1 with h2 | h2
      · exact h2
      · exact absurd (tsg_e h2) c3
    have et3 := et2.trans (if_neg c3)
    obtain ⟨m4, e4, f4, R⟩ := s_X9_entry hT a3 hO3 hE
    rw [if_neg (by rw [a3.1, a3.2.2.2.2.2.1, i_le (by omega) (by omega) (by omega) (by omega)]; omega), e4, Option.bind_some, et3]
    rcases R with ⟨a, b, cc, s1, s2⟩ | ⟨a, b, s1, s2, s3, s4, s5⟩
    · rw [s1, rd_w s2]
      exact ⟨m4, rfl, F3.fu.trans f4, Or.inl ⟨a, b, cc, rfl, s2⟩⟩
    · have hpa := s2.2.2.2.2.2.2
      rw [s1]
      obtain ⟨m5, g1, g2, g3⟩ := ih (T.1 - a) (by omega) (n + 1) a b m4 rfl (by omega) s2 s3 s4 D (by omega)
      refine ⟨m5, g1, (F3.fu.trans f4).trans g2, ?_⟩
      rcases g3 with ⟨a1, b1, cc, t1, t2⟩ | ⟨a1, b1, t1, t2, t3, t4, t5⟩
      · exact Or.inl ⟨a1, b1, cc, t1, t2⟩
      · exact Or.inr ⟨a1, b1, t1, t2, t3, t4, by omega⟩
end T7
