/-! ===== mathematics: text, the reference's units ===== -/
/-- only what reading and telling units changes -/
def FU (m m' : am_m) : Prop := (∀ b, b ≠ 3261 → b ≠ 3262 → m' b = m b) ∧ (∀ j, j < 10 ∨ 14 < j → m' 3261 j = m 3261 j) ∧ ∀ i, 15456 ≤ i → m' 3262 i = m 3262 i
theorem FU.refl (m : am_m) : FU m m := ⟨fun _ _ _ => rfl, fun _ _ => rfl, fun _ _ => rfl⟩
theorem FU.trans {m1 m2 m3 : am_m} (h : FU m1 m2) (h2 : FU m2 m3) : FU m1 m3 := ⟨fun b hb hb2 => (h2.1 b hb hb2).trans (h.1 b hb hb2), fun j hj => (h2.2.1 j hj).trans (h.2.1 j hj), fun i hi => (h2.2.2 i hi).trans (h.2.2 i hi)⟩
theorem FX.fu {m1 m2 : am_m} (h : FX m1 m2) : FU m1 m2 := ⟨fun b hb _ => h.1 b hb, h.2, fun i _ => by rw [h.1 3262 (by decide)]⟩
theorem FU.w {m1 m2 : am_m} (h : FU m1 m2) {i : Nat} {x : Int32} (hi : i < 15456) : FU m1 (am_si m2 3262 i x) := ⟨fun b hb hb2 => by rw [si_ne hb2]; exact h.1 b hb hb2, fun j hj => by rw [si_ne (by decide)]; exact h.2.1 j hj, fun j hj => by rw [si_o (by omega)]; exact h.2.2 j hj⟩
/-- what was there stays as it was -/
def Ext (g g' : Og) : Prop := ∀ x, x < 24 → gU g x ≠ -2 → gU g' x = gU g x ∧ gD g' x = gD g x
theorem Ext.refl (g : Og) : Ext g g := fun _ _ _ => ⟨rfl, rfl⟩
theorem Ext.trans {g g1 g2 : Og} (h : Ext g g1) (h2 : Ext g1 g2) : Ext g g2 := fun x hx hx2 => by
  obtain ⟨a, b⟩ := h x hx hx2
  obtain ⟨c, d⟩ := h2 x hx (by rw [a]; exact hx2)
  exact ⟨c.trans a, d.trans b⟩
theorem Ext.C {g : Og} {v u : Nat} (hv : gU g v = -2) : Ext g (ogC g v u) := fun x _ hx2 => by
  have e : x ≠ v := fun e => hx2 (by rw [e]; exact hv)
  exact ⟨if_neg e, if_neg e⟩
/-- what the loop over units below u comes to -/
def UQ (m m' : am_m) (T : Tp) (u p : Nat) (g : Og) : Prop := FU m m' ∧ ((∃ k q p' : Nat, TR m' T p' k q 1 ∧ ∃ j, ∀ N, tun T (tfl T (N + j)) p u g = Sum.inl (k, q)) ∨ (∃ (p' : Nat) (g' : Og), TR m' T p' 0 (-1) 0 ∧ OM m' 3262 0 g' ∧ IG g' ∧ Ext g g' ∧ p ≤ p' ∧ ∃ j, ∀ N, tun T (tfl T (N + j)) p u g = tfl T N (p', gU g u, -1, g')))
def UP (m m' : am_m) (T : Tp) (u p : Nat) (l : Int) (g : Og) : Prop := FU m m' ∧ ((∃ k q p' : Nat, TR m' T p' k q 1 ∧ ∃ j, ∀ N, tfl T (N + j) (p, (u : Int), l, g) = Sum.inl (k, q)) ∨ (∃ (p' : Nat) (g' : Og), TR m' T p' 0 (-1) 0 ∧ OM m' 3262 0 g' ∧ IG g' ∧ Ext g g' ∧ p ≤ p' ∧ ∃ j, ∀ N, tfl T (N + j) (p, (u : Int), l, g) = tfl T N (p', gU g u, -1, g')))
def UB (T : Tp) (f : Nat) : Prop := ∀ (m : am_m) (p u d : Nat) (g : Og), TR m T p 0 (-1) 0 → tsg T p = 40 → OM m 3262 0 g → IG g → u < 24 → gU g u ≠ -2 → gD g u = d → 13 ≤ f + d → ∃ m', m_X9_unitsBelow f m (am_i u) (am_i d) = some m' ∧ FU m m' ∧ ((∃ k q p' : Nat, TR m' T p' k q 1 ∧ ∃ j, ∀ N o, tfl T (N + j) (p, o, (u : Int), g) = Sum.inl (k, q)) ∨ (∃ (p' : Nat) (g' : Og), TR m' T p' 0 (-1) 0 ∧ OM m' 3262 0 g' ∧ IG g' ∧ Ext g g' ∧ p ≤ p' ∧ ∃ j, ∀ N o, tfl T (N + j) (p, o, (u : Int), g) = tfl T N (p', gU g u, -1, g')))
section T5
variable {m : am_m} {T : Tp} {p u d : Nat} {g : Og} {l : Int}
theorem tfl_s {T : Tp} {N p : Nat} {o l : Int} {g : Og} : tfl T (N + 1) (p, o, l, g) = if tsg T (tsk T p) = 40 ∧ l ≠ -1 then tun T (tfl T N) (tsk T p + 1) l.toNat g else if tsg T (tsk T p) = 41 ∧ o ≠ -1 then tfl T N (tsk T p + 1, gU g o.toNat, -1, g) else if tdg (tsg T (tsk T p)) = true ∧ o ≠ -1 then tun T (tfl T N) (tsk T p) o.toNat g else if o = -1 then Sum.inr (tsk T p, g) else Sum.inl (1, tsk T p) := rfl
theorem tfl_0 {T : Tp} {s : Fs} : tfl T 0 s = Sum.inl (0, 0) := rfl
theorem tfl_sk {N : Nat} {o : Int} (hT : IT T) (hp : p ≤ T.1) : tfl T N (p, o, l, g) = tfl T N (tsk T p, o, l, g) := by
  cases N with
  | zero => rw [tfl_0, tfl_0]
  | succ N => rw [tfl_s, tfl_s, tsk_tsk hT hp]
theorem OM.fx {m' : am_m} (h : OM m 3262 0 g) (f : FX m m') : OM m' 3262 0 g := h.kept (fun i _ => by rw [f.1 3262 (by decide)])
theorem OM.settle (h : OM m 3262 0 g) {v : Nat} (hv : v < 24) (hu : u < 24) : OM (am_si (am_si m 3262 v (am_i 1)) 3262 (24 + v) (am_i u)) 3262 0 (ogC g v u) := by
  refine h.up (fun i hi => by rw [si_o (by omega), si_o (by omega)]) (fun k hk => ?_) (fun k hk hk2 => ?_)
  · rw [si_o (by omega), m_si]
    by_cases e : k = v
    · rw [if_pos ⟨rfl, e⟩, if_pos e, if_neg (by omega)]
    · rw [if_neg (fun z => e z.2), if_neg e]
      have := h.1 k hk
      rwa [Nat.zero_add] at this
  · rw [m_si]
    by_cases e : k = v
    · rw [if_pos ⟨rfl, by omega⟩, if_pos e]
    · rw [if_neg (fun z => e (by omega)), si_o (by omega), if_neg e]
      have hk3 : (if k = v then (u : Int) else gU g k) ≠ -2 := hk2
      rw [if_neg e] at hk3
      have := h.2.1 k hk hk3
      rwa [Nat.zero_add] at this
/-- behind a unit: one more right below u, or the end of those below u -/
theorem l_ub_more {self : am_m → Int32 → Int32 → Option am_m} {x1 x2 : Int32} {n : Nat} (hT : IT T) (hS : TR m T p 0 (-1) 0) (hO : OM m 3262 0 g) (hI : IG g) (hl : tsg T (tsk T p) = 40 → l = -1) (hloop : ∀ m1, TR m1 T (tsk T p) 0 (-1) 0 → OM m1 3262 0 g → tdg (tsg T (tsk T p)) = true → ∃ m', m_X9_unitsBelow_19 self x1 x2 (am_i u) (am_i d) (fun m146 => (m_X9_must m146 (am_i 41)).bind fun q147 => some q147) (n + 1) (am_i 1) m1 = some m' ∧ UQ m1 m' T u (tsk T p) g) : ∃ m', ((m_X9_isDigitNext m).bind fun q77 => if q77.1 = 0 then m_X9_unitsBelow_19 self x1 x2 (am_i u) (am_i d) (fun m146 => (m_X9_must m146 (am_i 41)).bind fun q147 => some q147) (n + 1) (am_i 0) q77.2 else m_X9_unitsBelow_19 self x1 x2 (am_i u) (am_i d) (fun m146 => (m_X9_must m146 (am_i 41)).bind fun q147 => some q147) (n + 1) (am_i 1) q77.2) = some m' ∧ UP m m' T u p l g := by
  have hp := hS.2.2.2.2.2.2
  have q2 := tsk_ge (T := T) (p := p)
  obtain ⟨m1, e1, f1, a1, _⟩ := s_X9_isDigitNext hT hS
  have un : ((u : Int)) ≠ -1 := by omega
  rw [e1, Option.bind_some]
  dsimp only
  cases c : tdg (tsg T (tsk T p))
  · rw [if_pos (by decide), m_X9_unitsBelow_19, if_pos (by decide)]
    obtain ⟨m2, e2, f2, A, B⟩ := s_X9_must0 (x := 41) hT a1 (by decide) (by decide)
    rw [tsk_tsk hT hp] at A B
    rw [e2, Option.bind_some]
    by_cases c2 : tsg T (tsk T p) = 41
    · obtain ⟨A1, A2⟩ := A c2
      refine ⟨m2, rfl, f1.fu.trans f2.fu, Or.inr ⟨tsk T p + 1, g, A2, (hO.fx f1).fx f2, hI, Ext.refl g, by omega, 1, fun N => ?_⟩⟩
      rw [tfl_s, if_neg (fun z => by rw [c2] at z; exact absurd z.1 (by decide)), if_pos ⟨c2, un⟩, Int.toNat_natCast]
    · refine ⟨m2, rfl, f1.fu.trans f2.fu, Or.inl ⟨1, tsk T p, tsk T p, B c2, 1, fun N => ?_⟩⟩
      rw [tfl_s, if_neg (fun z => z.2 (hl z.1)), if_neg (fun z => c2 z.1), if_neg (fun z => by rw [c] at z; exact Bool.noConfusion z.1), if_neg un]
  · rw [if_neg (show ¬ am_i (b1 true : Nat) = 0 by decide)]
    obtain ⟨m2, e2, f2, R⟩ := hloop m1 a1 (hO.fx f1) c
    have cd := tdg_i c
    have es : ∀ N, tfl T (N + 1) (p, (u : Int), l, g) = tun T (tfl T N) (tsk T p) u g := fun N => by
      rw [tfl_s, if_neg (fun z => by omega), if_neg (fun z => by omega), if_pos ⟨c, un⟩, Int.toNat_natCast]
    refine ⟨m2, e2, f1.fu.trans f2, ?_⟩
    rcases R with ⟨k, q, p', r1, j, r2⟩ | ⟨p', g', r1, r2, r3, r4, r5, j, r6⟩
    · exact Or.inl ⟨k, q, p', r1, j + 1, fun N => (es (N + j)).trans (r2 N)⟩
    · exact Or.inr ⟨p', g', r1, r2, r3, r4, by omega, j + 1, fun N => (es (N + j)).trans (r6 N)⟩
theorem l_ub_loop {f : Nat} {x1 x2 : Int32} (hT : IT T) (ih : UB T f) (hu : u < 24) (hf : 13 ≤ f + 1 + d) : ∀ (dd n : Nat) (m : am_m) (p : Nat) (g : Og), T.1 - p = dd → dd + 1 < n → TR m T p 0 (-1) 0 → OM m 3262 0 g → IG g → gU g u ≠ -2 → gD g u = d → ∃ m', m_X9_unitsBelow_19 (m_X9_unitsBelow f) x1 x2 (am_i u) (am_i d) (fun m146 => (m_X9_must m146 (am_i 41)).bind fun q147 => some q147) n (am_i 1) m = some m' ∧ UQ m m' T u p g := by
  intro dd
  induction dd using Nat.strongRecOn with
  | _ dd ih2 =>
  intro n m p g hdd hn hS hO hI hu2 hd
  have hp := hS.2.2.2.2.2.2
  have q1 := tsk_le (T := T) hp
  have q2 := tsk_ge (T := T) (p := p)
  have h4 := hT.1
  have hd12 := hI.1.2.2.2.1 u
  obtain ⟨n, rfl⟩ : ∃ n', n = n' + 2 := ⟨n - 2, by omega⟩
  obtain ⟨y, m1, e1, f1, R⟩ := s_X9_number (lo := 0) (hi := 23) hT hS (by decide) (by decide) (by decide) (by decide)
  rw [m_X9_unitsBelow_19, if_neg (show ¬ am_i 1 = 0 by decide), e1, Option.bind_some]
  dsimp only
  have fail : ∀ {mm : am_m} {k q p' : Nat}, TR mm T p' k q 1 → FU m mm → tuR T p u g = Sum.inl (k, q) → UQ m mm T u p g := fun {mm k q p'} h1 h2 h3 => ⟨h2, Or.inl ⟨k, q, p', h1, 0, fun N => by unfold tun; rw [h3]⟩⟩
  rcases R with ⟨c, a1⟩ | ⟨c, ⟨v0, v1, ey, a1, a14⟩ | ⟨cv, a1⟩⟩
  · have w13 : ¬ m1 3261 13 = 0 := by rw [a1.2.2.2.2.1]; decide
    rw [if_pos w13, if_pos w13, if_neg w13]
    exact ⟨m1, rfl, fail (k := 1) a1 f1.fu (by unfold tuR; rw [if_pos c])⟩
  · have w13 : m1 3261 13 = 0 := by rw [a1.2.2.2.2.1]; decide
    have hO1 := hO.fx f1
    have cn : ¬ tdg (tsg T (tsk T p)) = false := by rw [c]; decide
    have n1 := tnl_1 c
    have et0 : tuR T p u g = if 24 ≤ tav T (tsk T p) (tnl T (tsk T p)) then Sum.inl (2, tsk T p) else if gU g (tav T (tsk T p) (tnl T (tsk T p))) ≠ -2 then Sum.inl (3, tsk T p) else if 12 ≤ gD g u then Sum.inl (4, tsk T p) else Sum.inr (tav T (tsk T p) (tnl T (tsk T p))) := if_neg cn
    generalize tav T (tsk T p) (tnl T (tsk T p)) = v at v0 v1 ey et0
    have hv : v < 24 := by omega
    have et1 := et0.trans (if_neg (by omega))
    have ix0 : am_ix (am_i 0 + am_i (v : Int)) = v := by rw [i_add, i_ix (by omega) (by omega)]; omega
    have ib0 : am_ib (am_i 0 + am_i (v : Int)) 15517 = true := by rw [i_add, i_ibt (by omega) (by omega) (by omega)]
    have ix24 : am_ix (am_i 24 + am_i (v : Int)) = 24 + v := by rw [i_add, i_ix (by omega) (by omega)]; omega
    have ib24 : am_ib (am_i 24 + am_i (v : Int)) 15517 = true := by rw [i_add, i_ibt (by omega) (by omega) (by omega)]
    have th := hO1.1 v hv
    rw [Nat.zero_add] at th
    rw [if_neg (fun z => z w13), ey, ib0, cond_true, ix0]
    by_cases c2 : gU g v = -2
    · have et2 := et1.trans (if_neg (fun z => z c2))
      rw [if_pos c2] at th
      rw [if_pos (show ¬ m1 3262 v = am_i 1 by rw [th]; decide), if_neg (fun z => z w13), nj]
      by_cases c3 : 12 ≤ gD g u
      · obtain ⟨m2, e2, f2, a2⟩ := s_X9_wrong0 (x := 4) (y := tsk T p) a1
        have w132 : ¬ m2 3261 13 = 0 := by rw [a2.2.2.2.2.1]; decide
        rw [if_neg (by rw [i_le (by omega) (by omega) (by omega) (by omega)]; omega), a14, e2, Option.bind_some, if_neg w132]
        exact ⟨m2, rfl, fail (k := 4) a2 (f1.fu.trans f2.fu) (et2.trans (if_pos c3))⟩
      · have et3 := et2.trans (if_neg c3)
        have eq0 : ∀ N, tun T (tfl T N) p u g = tfl T N (tsk T p + tnl T (tsk T p), (u : Int), (v : Int), ogC g v u) := fun N => by unfold tun; rw [et3]
        rw [if_pos (by rw [i_le (by omega) (by omega) (by omega) (by omega)]; omega), if_pos w13, cond_true, am_letF, ib24, cond_true, am_letF, ix24]
        have hO2 := hO1.settle (u := u) hv hu
        have f2 : FU m (am_si (am_si m1 3262 v (am_i 1)) 3262 (24 + v) (am_i u)) := (f1.fu.w (by omega)).w (by omega)
        have a2 : TR (am_si (am_si m1 3262 v (am_i 1)) 3262 (24 + v) (am_i u)) T (tsk T p + tnl T (tsk T p)) 0 (-1) 0 := a1.kept (by rw [si_ne (by decide), si_ne (by decide)]) (by rw [si_ne (by decide), si_ne (by decide)])
        have hI2 := ogC_IG hI hv c2 hu hu2 (by omega)
        generalize am_si (am_si m1 3262 v (am_i 1)) 3262 (24 + v) (am_i u) = m2 at hO2 f2 a2 ⊢
        have hp2 := a2.2.2.2.2.2.2
        have he : p < tsk T p + tnl T (tsk T p) := by omega
        generalize tsk T p + tnl T (tsk T p) = e at eq0 a2 hp2 he
        have q3 := tsk_ge (T := T) (p := e)
        have q4 := tsk_le (T := T) hp2
        have ex := (Ext.C (u := u) c2) u hu hu2
        have ev : gU (ogC g v u) v = (u : Int) := if_pos rfl
        have evd : gD (ogC g v u) v = gD g u + 1 := if_pos rfl
        obtain ⟨m3, e3, f3, a3, _⟩ := s_X9_isNext (x := 40) hT a2 (by decide) (by decide)
        have hO3 := hO2.fx f3
        have w133 : m3 3261 13 = 0 := by rw [a3.2.2.2.2.1]; decide
        rw [e3, Option.bind_some]
        dsimp only
        by_cases c4 : tsg T (tsk T e) = 40
        · obtain ⟨m4, e4, f4, R⟩ := ih m3 (tsk T e) v (d + 1) (ogC g v u) a3 c4 hO3 hI2 hv (by rw [ev]; omega) (by rw [evd, hd]) (by omega)
          rw [decide_eq_true c4, if_neg (show ¬ am_i (b1 true : Nat) = 0 by decide), e4, Option.bind_some]
          rcases R with ⟨k, q, p', r1, j, r2⟩ | ⟨p3, g3, r1, r2, r3, r4, r5, j, r6⟩
          · have w134 : ¬ m4 3261 13 = 0 := by rw [r1.2.2.2.2.1]; decide
            obtain ⟨m5, p5, e5, f5, r5⟩ := s_X9_must1 (x := 41) hT r1 (by decide) (by decide)
            rw [if_pos w134, m_X9_unitsBelow_19, if_pos (show am_i 0 = 0 by decide), e5, Option.bind_some]
            refine ⟨m5, rfl, ((f2.trans f3.fu).trans f4).trans f5.fu, Or.inl ⟨k, q, p5, r5, j, fun N => ?_⟩⟩
            rw [eq0, tfl_sk hT hp2]
            exact r2 N _
          · have w134 : m4 3261 13 = 0 := by rw [r1.2.2.2.2.1]; decide
            have hp3 := r1.2.2.2.2.2.2
            have q5 := tsk_ge (T := T) (p := p3)
            have q6 := tsk_le (T := T) hp3
            have ex2 := r4 u hu (by rw [ex.1]; exact hu2)
            obtain ⟨m5, e5, f5, R2⟩ := l_ub_more (self := m_X9_unitsBelow f) (x1 := x1) (x2 := x2) (n := n) (u := u) (d := d) (l := -1) hT r1 r2 r3 (fun _ => rfl) (fun mm h1 h2 h3 => ih2 (T.1 - tsk T p3) (by omega) (n + 1) mm (tsk T p3) g3 rfl (by omega) h1 h2 r3 (by rw [ex2.1, ex.1]; exact hu2) (by rw [ex2.2, ex.2]; exact hd))
            rw [if_neg (fun z => z w134), e5]
            refine ⟨m5, rfl, ((f2.trans f3.fu).trans f4).trans f5, ?_⟩
            have glue : ∀ N, tun T (tfl T (N + j)) p u g = tfl T N (p3, (u : Int), -1, g3) := fun N => by
              rw [eq0, tfl_sk hT hp2, r6 N, ev]
            rcases R2 with ⟨k, q, p', s1, j2, s2⟩ | ⟨p4, g4, s1, s2, s3, s4, s5, j2, s6⟩
            · refine Or.inl ⟨k, q, p', s1, j2 + j, fun N => ?_⟩
              rw [← Nat.add_assoc, glue]
              exact s2 N
            · refine Or.inr ⟨p4, g4, s1, s2, s3, ((Ext.C c2).trans r4).trans s4, by omega, j2 + j, fun N => ?_⟩
              rw [← Nat.add_assoc, glue, s6 N, ex2.1, ex.1]
        · obtain ⟨m5, e5, f5, R2⟩ := l_ub_more (self := m_X9_unitsBelow f) (x1 := x1) (x2 := x2) (n := n) (u := u) (d := d) (l := (v : Int)) hT a3 hO3 hI2 (fun z => absurd (by rw [tsk_tsk hT hp2] at z; exact z) c4) (fun mm h1 h2 h3 => by
            rw [tsk_tsk hT hp2] at h1 ⊢
            exact ih2 (T.1 - tsk T e) (by omega) (n + 1) mm (tsk T e) (ogC g v u) rfl (by omega) h1 h2 hI2 (by rw [ex.1]; exact hu2) (by rw [ex.2]; exact hd))
          rw [decide_eq_false c4, if_pos (show am_i (b1 false : Nat) = 0 by decide), if_neg (fun z => z w133), e5]
          refine ⟨m5, rfl, (f2.trans f3.fu).trans f5, ?_⟩
          have glue : ∀ N, tun T (tfl T N) p u g = tfl T N (tsk T e, (u : Int), (v : Int), ogC g v u) := fun N => by
            rw [eq0, tfl_sk hT hp2]
          rcases R2 with ⟨k, q, p', s1, j2, s2⟩ | ⟨p4, g4, s1, s2, s3, s4, s5, j2, s6⟩
          · refine Or.inl ⟨k, q, p', s1, j2, fun N => ?_⟩
            rw [glue]
            exact s2 N
          · refine Or.inr ⟨p4, g4, s1, s2, s3, (Ext.C c2).trans s4, by omega, j2, fun N => ?_⟩
            rw [glue, s6 N, ex.1]
    · obtain ⟨m2, e2, f2, a2⟩ := s_X9_wrong0 (x := 3) (y := tsk T p) a1
      have w132 : ¬ m2 3261 13 = 0 := by rw [a2.2.2.2.2.1]; decide
      rw [if_neg c2] at th
      rw [if_neg (fun z => z th), a14, e2, Option.bind_some, if_pos w132, if_neg w132]
      exact ⟨m2, rfl, fail (k := 3) a2 (f1.fu.trans f2.fu) (et1.trans (if_pos c2))⟩
  · have w13 : ¬ m1 3261 13 = 0 := by rw [a1.2.2.2.2.1]; decide
    rw [if_pos w13, if_pos w13, if_neg w13]
    have cn : ¬ tdg (tsg T (tsk T p)) = false := by rw [c]; decide
    exact ⟨m1, rfl, fail (k := 2) a1 f1.fu (by unfold tuR; rw [if_neg cn, if_pos (by omega)])⟩
theorem s_ub (hT : IT T) : ∀ f, UB T f := by
  intro f
  induction f with
  | zero =>
    intro m p u d g _ _ _ hI _ _ hd hf
    have := hI.1.2.2.2.1 u
    omega
  | succ f ih =>
    intro m p u d g hS h40 hO hI hu hu2 hd hf
    have hp := hS.2.2.2.2.2.2
    have h4 := hT.1
    have hk : tsk T p = p := tsk_of (by rw [h40]; decide)
    obtain ⟨m1, e1, f1, A, _⟩ := s_X9_must0 (x := 40) hT hS (by decide) (by decide)
    rw [hk] at A
    obtain ⟨A1, A2⟩ := A h40
    have w13 : m1 3261 13 = 0 := by rw [A2.2.2.2.2.1]; decide
    obtain ⟨m2, e2, f2, R⟩ := l_ub_loop (x1 := am_i u) (x2 := am_i d) hT ih hu (by omega) (T.1 - (p + 1)) am_F m1 (p + 1) g rfl (by unfold am_F; omega) A2 (hO.fx f1) hI hu2 hd
    unfold m_X9_unitsBelow
    rw [e1, Option.bind_some, if_neg (fun z => z w13), e2]
    refine ⟨m2, rfl, f1.fu.trans f2, ?_⟩
    have un : (u : Int) ≠ -1 := by omega
    have es : ∀ N o, tfl T (N + 1) (p, o, (u : Int), g) = tun T (tfl T N) (p + 1) u g := fun N o => by
      rw [tfl_s, hk, if_pos ⟨h40, un⟩, Int.toNat_natCast]
    rcases R with ⟨k, q, p', r1, j, r2⟩ | ⟨p3, g3, r1, r2, r3, r4, r5, j, r6⟩
    · exact Or.inl ⟨k, q, p', r1, j + 1, fun N o => (es (N + j) o).trans (r2 N)⟩
    · exact Or.inr ⟨p3, g3, r1, r2, r3, r4, by omega, j + 1, fun N o => (es (N + j) o).trans (r6 N)⟩
end T5
