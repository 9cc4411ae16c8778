/-! ===== mathematics: text, the units, and the class's reading of them ===== -/
/-- a unit that is told right below h: a fault, or its number -/
def tuR (T : Tp) (p h : Nat) (g : Og) : Sum (Nat × Nat) Nat := if tdg (tsg T (tsk T p)) = false then Sum.inl (1, tsk T p) else if 24 ≤ tav T (tsk T p) (tnl T (tsk T p)) then Sum.inl (2, tsk T p) else if gU g (tav T (tsk T p) (tnl T (tsk T p))) ≠ -2 then Sum.inl (3, tsk T p) else if 12 ≤ gD g h then Sum.inl (4, tsk T p) else Sum.inr (tav T (tsk T p) (tnl T (tsk T p)))
abbrev Fs : Type := Nat × Int × Int × Og
abbrev Ur : Type := Sum (Nat × Nat) (Nat × Og)
def tun (T : Tp) (n : Fs → Ur) (p h : Nat) (g : Og) : Ur := match tuR T p h g with
  | Sum.inl f => Sum.inl f
  | Sum.inr v => n (tsk T p + tnl T (tsk T p), (h : Int), (v : Int), ogC g v h)
/-- the units, one sign after the other: place, the unit that is open, the latest, what was told -/
def tfl (T : Tp) : Nat → Fs → Ur
  | 0, _ => Sum.inl (0, 0)
  | n + 1, s => if tsg T (tsk T s.1) = 40 ∧ s.2.2.1 ≠ -1 then tun T (tfl T n) (tsk T s.1 + 1) s.2.2.1.toNat s.2.2.2 else if tsg T (tsk T s.1) = 41 ∧ s.2.1 ≠ -1 then tfl T n (tsk T s.1 + 1, gU s.2.2.2 s.2.1.toNat, -1, s.2.2.2) else if tdg (tsg T (tsk T s.1)) = true ∧ s.2.1 ≠ -1 then tun T (tfl T n) (tsk T s.1) s.2.1.toNat s.2.2.2 else if s.2.1 = -1 then Sum.inr (tsk T s.1, s.2.2.2) else Sum.inl (1, tsk T s.1)
def tFr (b : Nat) : Prop := b = 2984 ∨ (251 < b ∧ b < 498)
/-- what the class has after the units were read -/
def UR (m m' : am_m) (r : am_rr) (T : Tp) (y : Int32) (R : Ur) : Prop := Fr tFr m m' ∧ ((∃ k q p, R = Sum.inl (k, q) ∧ y = am_i 0 ∧ TS m' T p (k : Nat) (q : Nat)) ∨ (∃ q g, R = Sum.inr (q, g) ∧ y = am_i 1 ∧ TS m' T q 0 (-1) ∧ OC m' r 251 g ∧ IG g))
section T3
variable {m : am_m} {r : am_rr} {T : Tp} {p h : Nat} {g : Og}
theorem OC.t84 {m' : am_m} (hO : OC m r 251 g) (hR : RI r) (f : Fr (fun b => b = 2984) m m') : OC m' r 251 g := hO.kept hR og251 (fun b _ _ => f b (by omega)) rfl
theorem OC.settle (hO : OC m r 251 g) (hR : RI r) {v : Nat} : OC (am_si m (aU 251) v (am_i h)) r 251 (ogC g v h) := by
  refine hO.up hR og251 ((Fr.refl (fun b => b = aU 251) m).si2 rfl) (fun k hk => ?_)
  rw [m_si]
  show _ = am_i (if k = v then (h : Int) else gU g k)
  by_cases e : k = v
  · rw [if_pos ⟨rfl, e⟩, if_pos e]
  · rw [if_neg (fun z => e z.2), if_neg e]
    exact hO.1 k hk
theorem s_X7_readUnit (hT : IT T) (hR : RI r) (hS : TS m T p 0 (-1)) (hO : OC m r 251 g) (hI : IG g) (hh : h < 24) (hh2 : gU g h ≠ -2) : (∃ k q m' p', tuR T p h g = Sum.inl (k, q) ∧ m_X7_readUnit m 251 (am_i h) = some (am_i (-1), m') ∧ Fr tFr m m' ∧ TS m' T p' (k : Nat) (q : Nat)) ∨ (∃ v m', tuR T p h g = Sum.inr v ∧ m_X7_readUnit m 251 (am_i h) = some (am_i (v : Nat), m') ∧ Fr tFr m m' ∧ v < 24 ∧ gU g v = -2 ∧ gD g h < 12 ∧ p < tsk T p + tnl T (tsk T p) ∧ TS m' T (tsk T p + tnl T (tsk T p)) 0 (-1) ∧ OC m' r 251 (ogC g v h)) := by
  obtain ⟨m1, e1, f1, A, B⟩ := s_X7_readNumber hT hS
  have hO1 := hO.t84 hR f1
  have ft : ∀ {m1 m2 : am_m}, Fr (fun b => b = 2984) m1 m2 → Fr tFr m1 m2 := fun f => f.mono (fun b hb => Or.inl hb)
  unfold m_X7_readUnit
  rw [e1, Option.bind_some]
  dsimp only
  cases c : tdg (tsg T (tsk T p))
  · have et : tuR T p h g = Sum.inl (1, tsk T p) := by unfold tuR; rw [if_pos c]
    refine Or.inl ⟨1, tsk T p, m1, tsk T p, et, ?_, ft f1, A c⟩
    rw [if_neg (by decide)]
  · obtain ⟨B1, B2, B3⟩ := B c
    have n1 := tnl_1 c
    have ge := tsk_ge (T := T) (p := p)
    have cl := tcv_le T (tsk T p) (tnl T (tsk T p))
    have cv := tcv_av (T := T) (tsk T p) (tnl T (tsk T p))
    have ql := tsk_le (T := T) hS.2.2.2.2.2
    have h4 := hT.1
    have cn : ¬ tdg (tsg T (tsk T p)) = false := by rw [c]; decide
    have et0 : tuR T p h g = if 24 ≤ tav T (tsk T p) (tnl T (tsk T p)) then Sum.inl (2, tsk T p) else if gU g (tav T (tsk T p) (tnl T (tsk T p))) ≠ -2 then Sum.inl (3, tsk T p) else if 12 ≤ gD g h then Sum.inl (4, tsk T p) else Sum.inr (tav T (tsk T p) (tnl T (tsk T p))) := if_neg cn
    have b1t : ¬ ((am_i (b1 true : Nat)) = 0) := by decide
    generalize tcv T (tsk T p) (tnl T (tsk T p)) = w at B2 cl cv ⊢
    generalize tav T (tsk T p) (tnl T (tsk T p)) = v at cv et0 ⊢
    by_cases c1 : 24 ≤ v
    · obtain ⟨m2, e2, f2, h2⟩ := s_X7_refuse (x := 2) (y := tsk T p) B1
      refine Or.inl ⟨2, tsk T p, m2, _, et0.trans (if_pos c1), ?_, (ft f1).trans (ft f2), h2⟩
      rw [if_pos b1t, if_neg (by rw [B2, i_lt (by omega) (by omega) (by omega) (by omega)]; omega), if_neg (show ¬ am_i 2 = 0 by decide), B3, e2, Option.bind_some]
    · have ew : w = v := by omega
      rw [ew] at B2
      have et1 := et0.trans (if_neg c1)
      have l24 : m1 2984 5 < am_i 24 := by rw [B2, i_lt (by omega) (by omega) (by omega) (by omega)]; omega
      have eth : m_X1_isThere m1 251 (m1 2984 5) = some (am_i (b1 (thr (gU g) (v : Int)) : Nat)) := by rw [B2]; exact s_X1_isThere hO1.1 hI.1 (by omega) (by omega)
      by_cases c2 : gU g v = -2
      · have et2 := et1.trans (if_neg (fun z => z c2))
        have hd := hI.1.2.2.2.1 h
        by_cases c3 : 12 ≤ gD g h
        · obtain ⟨m2, e2, f2, h2⟩ := s_X7_refuse (x := 4) (y := tsk T p) B1
          refine Or.inl ⟨4, tsk T p, m2, _, et2.trans (if_pos c3), ?_, (ft f1).trans (ft f2), h2⟩
          rw [if_pos b1t, if_pos l24, eth, Option.bind_some, thr_f c2, if_pos (by decide), s_X1_depthOf hO1.1 hI.1 hh hh2, Option.bind_some, if_neg (by rw [i_lt (by omega) (by omega) (by omega) (by omega)]; omega), if_neg (show ¬ am_i 4 = 0 by decide), B3, e2, Option.bind_some]
        · refine Or.inr ⟨v, am_si m1 (aU 251) v (am_i h), et2.trans (if_neg c3), ?_, (ft f1).si2 (Or.inr ⟨by decide, by decide⟩), by omega, c2, by omega, by omega, B1.kept (si_ne (by decide)) (si_ne (by decide)), hO1.settle hR⟩
          rw [if_pos b1t, if_pos l24, eth, Option.bind_some, thr_f c2, if_pos (by decide), s_X1_depthOf hO1.1 hI.1 hh hh2, Option.bind_some, if_pos (by rw [i_lt (by omega) (by omega) (by omega) (by omega)]; omega), if_pos (show am_i 0 = 0 by decide), B2]
          unfold m_X1_settle
          rw [i_ibt (by omega) (by omega) (by omega), cond_true, am_letF, Option.bind_some, i_ixn (by omega), si_ne (by decide), B2]
      · obtain ⟨m2, e2, f2, h2⟩ := s_X7_refuse (x := 3) (y := tsk T p) B1
        refine Or.inl ⟨3, tsk T p, m2, _, et1.trans (if_pos c2), ?_, (ft f1).trans (ft f2), h2⟩
        rw [if_pos b1t, if_pos l24, eth, Option.bind_some, thr_t (by omega) c2, if_neg (by decide), if_neg (show ¬ am_i 3 = 0 by decide), B3, e2, Option.bind_some]
/-- one that is open, or none -/
def topn (g : Og) (o : Int) : Prop := o = -1 ∨ ∃ u : Nat, o = (u : Int) ∧ u < 24 ∧ gU g u ≠ -2
theorem topn_b {o : Int} (h : topn g o) : -1 ≤ o ∧ o < 24 := by
  rcases h with h | ⟨u, h1, h2, h3⟩ <;> omega
theorem topn_u {o : Int} (h : topn g o) (n : o ≠ -1) : ∃ u : Nat, o = (u : Int) ∧ u < 24 ∧ gU g u ≠ -2 := h.resolve_left n
theorem topn_C {o : Int} {v : Nat} (hv : gU g v = -2) (h : topn g o) : topn (ogC g v p) o := by
  rcases h with h | ⟨u, h1, h2, h3⟩
  · exact Or.inl h
  · refine Or.inr ⟨u, h1, h2, ?_⟩
    show (if u = v then (p : Int) else gU g u) ≠ -2
    rw [if_neg (fun e => h3 (by rw [e]; exact hv))]
    exact h3
theorem topn_up (hI : IG g) {u : Nat} (hu : u < 24) (hu2 : gU g u ≠ -2) : topn g (gU g u) := by
  rcases hI.1.up hu hu2 with ⟨_, h2⟩ | ⟨_, p, p1, p2, p3, p4⟩
  · exact Or.inl h2
  · exact Or.inr ⟨p, p2, p1, p3⟩
theorem ogC_at {v : Nat} (h : Nat) (hv : v < 24) : topn (ogC g v h) (v : Int) := Or.inr ⟨v, rfl, hv, by show (if v = v then (h : Int) else gU g v) ≠ -2; rw [if_pos rfl]; omega⟩
theorem l_X7_readUnits_7 {k : am_m → Option (Int32 × am_m)} (hT : IT T) (hR : RI r) : ∀ (d n : Nat) (p : Nat) (o l : Int) (g : Og) (m : am_m) (i : Nat), T.1 - p ≤ d → d < n → i ≤ p → TS m T p 0 (-1) → OC m r 251 g → IG g → topn g o → topn g l → ∃ y m', m_X7_readUnits_7 251 k n (am_i o) (am_i l) (am_i i) m = some (y, m') ∧ UR m m' r T y (tfl T (d + 1) (p, o, l, g)) := by
  intro d
  have h4 := hT.1
  have ft : ∀ {m1 m2 : am_m}, Fr (fun b => b = 2984) m1 m2 → Fr tFr m1 m2 := fun f => f.mono (fun b hb => Or.inl hb)
  induction d with
  | zero =>
    intro n p o l g m i hd hn hi hS hO hI ho hl
    have hp := hS.2.2.2.2.2
    have ep : p = T.1 := by omega
    have q1 := tsk_le (T := T) hp
    have q2 := tsk_ge (T := T) (p := p)
    have sg : tsg T (tsk T p) = -1 := tsg_e (by omega)
    obtain ⟨m1, e1, f1, h1⟩ := s_X7_nextSign hT hS
    obtain ⟨n, rfl⟩ : ∃ n', n = n' + 1 := ⟨n - 1, by omega⟩
    have hb := topn_b ho
    rw [m_X7_readUnits_7, if_neg (by rw [i_lt (by omega) (by omega) (by omega) (by omega)]; omega), e1, Option.bind_some]
    dsimp only
    have ef : tfl T (0 + 1) (p, o, l, g) = if o = -1 then Sum.inr (tsk T p, g) else Sum.inl (1, tsk T p) := by
      show (if tsg T (tsk T p) = 40 ∧ l ≠ -1 then tun T (tfl T 0) (tsk T p + 1) l.toNat g else if tsg T (tsk T p) = 41 ∧ o ≠ -1 then tfl T 0 (tsk T p + 1, gU g o.toNat, -1, g) else if tdg (tsg T (tsk T p)) = true ∧ o ≠ -1 then tun T (tfl T 0) (tsk T p) o.toNat g else if o = -1 then Sum.inr (tsk T p, g) else Sum.inl (1, tsk T p)) = _
      rw [sg, if_neg (fun z => absurd z.1 (by decide)), if_neg (fun z => absurd z.1 (by decide)), if_neg (fun z => absurd z.1 (by decide))]
    rw [ef, sg, if_pos (show ¬ am_i (-1) = am_i 40 by decide), if_pos (show ¬ am_i (-1) = am_i 41 by decide), s_X7_isDigit (by decide) (by decide), Option.bind_some, if_pos (by decide)]
    by_cases c : o = -1
    · rw [if_pos (by rw [c]), if_pos c]
      exact ⟨_, _, rfl, ft f1, Or.inr ⟨tsk T p, g, rfl, rfl, h1, hO.t84 hR f1, hI⟩⟩
    · obtain ⟨m2, e2, f2, h2⟩ := s_X7_refuse (x := 1) (y := tsk T p) h1
      rw [if_neg (by rw [i_eq (by omega) (by omega) (by omega) (by omega)]; exact c), h1.2.2.2.2.1, e2, Option.bind_some, if_neg c]
      exact ⟨_, _, rfl, (ft f1).trans (ft f2), Or.inl ⟨1, tsk T p, _, rfl, rfl, h2⟩⟩
  | succ d ih =>
    intro n p o l g m i hd hn hi hS hO hI ho hl
    have hp := hS.2.2.2.2.2
    have q1 := tsk_le (T := T) hp
    have q2 := tsk_ge (T := T) (p := p)
    obtain ⟨m1, e1, f1, h1⟩ := s_X7_nextSign hT hS
    obtain ⟨n, rfl⟩ : ∃ n', n = n' + 1 := ⟨n - 1, by omega⟩
    have hb := topn_b ho
    have hb2 := topn_b hl
    have hsb := tsg_b hT (tsk T p)
    have hO1 := hO.t84 hR f1
    have qi := tsk_tsk hT hp
    rw [m_X7_readUnits_7, if_neg (by rw [i_lt (by omega) (by omega) (by omega) (by omega)]; omega), e1, Option.bind_some]
    dsimp only
    have ef : tfl T (d + 1 + 1) (p, o, l, g) = if tsg T (tsk T p) = 40 ∧ l ≠ -1 then tun T (tfl T (d + 1)) (tsk T p + 1) l.toNat g else if tsg T (tsk T p) = 41 ∧ o ≠ -1 then tfl T (d + 1) (tsk T p + 1, gU g o.toNat, -1, g) else if tdg (tsg T (tsk T p)) = true ∧ o ≠ -1 then tun T (tfl T (d + 1)) (tsk T p) o.toNat g else if o = -1 then Sum.inr (tsk T p, g) else Sum.inl (1, tsk T p) := rfl
    have lt_of : tsg T (tsk T p) ≠ -1 → tsk T p < T.1 := fun z => by
      rcases Nat.lt_or_ge (tsk T p) T.1 with h2 | h2
      · exact h2
      · exact absurd (tsg_e h2) z
    -- what is told where no sign fits
    have bad : ∃ y m', (if am_i o = am_i (-1) then some (am_i 1, m1) else (m_X7_refuse m1 (am_i 1) (m1 2984 4)).bind fun q8 => if q8.1 = 0 then some (am_i 0, q8.2) else some (am_i 1, q8.2)) = some (y, m') ∧ UR m m' r T y (if o = -1 then Sum.inr (tsk T p, g) else Sum.inl (1, tsk T p)) := by
      by_cases c : o = -1
      · rw [if_pos (by rw [c]), if_pos c]
        exact ⟨_, _, rfl, ft f1, Or.inr ⟨tsk T p, g, rfl, rfl, h1, hO1, hI⟩⟩
      · obtain ⟨m2, e2, f2, h2⟩ := s_X7_refuse (x := 1) (y := tsk T p) h1
        rw [if_neg (by rw [i_eq (by omega) (by omega) (by omega) (by omega)]; exact c), h1.2.2.2.2.1, e2, Option.bind_some, if_neg c]
        exact ⟨_, _, rfl, (ft f1).trans (ft f2), Or.inl ⟨1, tsk T p, _, rfl, rfl, h2⟩⟩
    -- a unit is told right below u
    have unit : ∀ (u pu : Nat) (mu : am_m), Fr tFr m mu → u < 24 → gU g u ≠ -2 → TS mu T pu 0 (-1) → OC mu r 251 g → p ≤ pu → (∀ (v : Nat), tuR T pu u g = Sum.inr v → p < tsk T pu + tnl T (tsk T pu)) → ∃ y m', ((m_X7_readUnit mu 251 (am_i u)).bind fun q58 => if ¬ q58.1 = (am_i (-1)) then m_X7_readUnits_7 251 k n (am_i u) q58.1 (am_i i + am_i 1) q58.2 else some ((am_i 0), q58.2)) = some (y, m') ∧ UR m m' r T y (tun T (tfl T (d + 1)) pu u g) := by
      intro u pu mu fu hu hu2 hSu hOu hpu hgt
      have hpl := hSu.2.2.2.2.2
      rcases s_X7_readUnit hT hR hSu hOu hI hu hu2 with ⟨kk, q, m2, p2, r1, r2, r3, r4⟩ | ⟨v, m2, r1, r2, r3, r4, r5, r6, r7, r8, r9⟩
      · rw [r2, Option.bind_some, if_neg (fun z => z rfl)]
        refine ⟨_, _, rfl, fu.trans r3, Or.inl ⟨kk, q, p2, ?_, rfl, r4⟩⟩
        unfold tun
        rw [r1]
      · have e5 : tun T (tfl T (d + 1)) pu u g = tfl T (d + 1) (tsk T pu + tnl T (tsk T pu), (u : Int), (v : Int), ogC g v u) := by unfold tun; rw [r1]
        rw [r2, Option.bind_some]
        dsimp only
        have s1 := hgt v r1
        have s2 := r8.2.2.2.2.2
        rw [if_pos (by rw [i_eq (by omega) (by omega) (by omega) (by omega)]; omega), nj, e5]
        obtain ⟨y, m3, g1, g2, g3⟩ := ih n (tsk T pu + tnl T (tsk T pu)) (u : Int) (v : Int) (ogC g v u) m2 (i + 1) (by omega) (by omega) (by omega) r8 r9 (ogC_IG hI r4 r5 hu hu2 r6) (topn_C r5 (Or.inr ⟨u, rfl, hu, hu2⟩)) (ogC_at u r4)
        exact ⟨y, m3, g1, (fu.trans r3).trans g2, g3⟩
    have d40 : tdg 40 = false := by decide
    have d41 : tdg 41 = false := by decide
    by_cases c40 : tsg T (tsk T p) = 40
    · have hlt := lt_of (by rw [c40]; decide)
      by_cases cl : l = -1
      · have et := ef
        rw [if_neg (fun z => z.2 cl), if_neg (fun z => absurd (c40.symm.trans z.1) (by decide)), if_neg (fun z => by rw [c40, d40] at z; exact Bool.noConfusion z.1)] at et
        rw [et, c40, if_neg (show ¬ ¬ am_i 40 = am_i 40 from fun z => z rfl), if_pos (by rw [cl]), if_pos (show ¬ am_i 40 = am_i 41 by decide), s_X7_isDigit (by decide) (by decide), Option.bind_some, if_pos (by decide)]
        exact bad
      · obtain ⟨u, rfl, hu, hu2⟩ := topn_u hl cl
        have et := ef
        rw [if_pos ⟨c40, cl⟩, Int.toNat_natCast] at et
        rw [et, c40, if_neg (show ¬ ¬ am_i 40 = am_i 40 from fun z => z rfl), if_neg (by rw [i_eq (by omega) (by omega) (by omega) (by omega)]; exact cl), h1.2.2.2.2.1, nj, am_letF]
        exact unit u (tsk T p + 1) _ ((ft f1).si2 (Or.inl rfl)) hu hu2 (h1.go (by omega)) (hO1.t84 hR ((Fr.refl (fun b => b = 2984) m1).si2 rfl)) (by omega) (fun v _ => by have := tsk_ge (T := T) (p := tsk T p + 1); omega)
    · have n40 : ¬ am_i (tsg T (tsk T p)) = am_i 40 := by rw [i_eq (by omega) (by omega) (by omega) (by omega)]; exact c40
      by_cases c41 : tsg T (tsk T p) = 41
      · have hlt := lt_of (by rw [c41]; decide)
        by_cases co : o = -1
        · have et := ef
          rw [if_neg (fun z => c40 z.1), if_neg (fun z => z.2 co), if_neg (fun z => z.2 co)] at et
          rw [et, if_pos n40, c41, if_neg (show ¬ ¬ am_i 41 = am_i 41 from fun z => z rfl), if_pos (by rw [co]), s_X7_isDigit (by decide) (by decide), Option.bind_some, if_pos (by decide)]
          exact bad
        · obtain ⟨u, rfl, hu, hu2⟩ := topn_u ho co
          have hS2 : TS (am_si m1 2984 4 (am_i ((tsk T p + 1 : Nat) : Int))) T (tsk T p + 1) 0 (-1) := h1.go (by omega)
          have hO2 : OC (am_si m1 2984 4 (am_i ((tsk T p + 1 : Nat) : Int))) r 251 g := hO1.t84 hR ((Fr.refl (fun b => b = 2984) m1).si2 rfl)
          have et := ef
          rw [if_neg (fun z => c40 z.1), if_pos ⟨c41, co⟩, Int.toNat_natCast] at et
          rw [et, if_pos n40, c41, if_neg (show ¬ ¬ am_i 41 = am_i 41 from fun z => z rfl), if_neg (by rw [i_eq (by omega) (by omega) (by omega) (by omega)]; exact co), h1.2.2.2.2.1, nj, am_letF, s_X1_upperOf hO2.1 hI.1 hu hu2, Option.bind_some, nj]
          obtain ⟨y, m3, g1, g2, g3⟩ := ih n (tsk T p + 1) (gU g u) (-1) g _ (i + 1) (by omega) (by omega) (by omega) hS2 hO2 hI (topn_up hI hu hu2) (Or.inl rfl)
          exact ⟨y, m3, g1, ((ft f1).si2 (Or.inl rfl)).trans g2, g3⟩
      · have n41 : ¬ am_i (tsg T (tsk T p)) = am_i 41 := by rw [i_eq (by omega) (by omega) (by omega) (by omega)]; exact c41
        rw [if_pos n40, if_pos n41, s_X7_isDigit hsb.1 hsb.2, Option.bind_some]
        cases cd : tdg (tsg T (tsk T p))
        · have et := ef
          rw [if_neg (fun z => c40 z.1), if_neg (fun z => c41 z.1), if_neg (fun z => by rw [cd] at z; exact Bool.noConfusion z.1)] at et
          rw [et, if_pos (by decide)]
          exact bad
        · rw [if_neg (show ¬ am_i (b1 true : Nat) = 0 by decide)]
          by_cases co : o = -1
          · have et := ef
            rw [if_neg (fun z => c40 z.1), if_neg (fun z => c41 z.1), if_neg (fun z => z.2 co)] at et
            rw [et, if_pos (show am_i o = am_i (-1) by rw [co])]
            exact bad
          · obtain ⟨u, rfl, hu, hu2⟩ := topn_u ho co
            have et := ef
            rw [if_neg (fun z => c40 z.1), if_neg (fun z => c41 z.1), if_pos ⟨cd, co⟩, Int.toNat_natCast] at et
            rw [et, if_neg (by rw [i_eq (by omega) (by omega) (by omega) (by omega)]; exact co)]
            refine unit u (tsk T p) m1 (ft f1) hu hu2 h1 hO1 q2 (fun v hv => ?_)
            rw [qi]
            have := tnl_1 cd
            omega
end T3
