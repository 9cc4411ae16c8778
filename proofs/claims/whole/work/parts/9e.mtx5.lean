/-! ===== mathematics: text, the entries, and the class's reading of them ===== -/
abbrev Wn : Type := Nat → Nat → Nat
/-- one amount of unit u: a fault, or the place behind it, its category, its number -/
def tamR (T : Tp) (p u : Nat) (W : Wn) : Sum (Nat × Nat) (Nat × Nat × Nat) :=
  if tdg (tsg T (tsk T p)) = false then Sum.inl (1, tsk T p)
  else if 64 ≤ tav T (tsk T p) (tnl T (tsk T p)) then Sum.inl (2, tsk T p)
  else if 0 < W u (tav T (tsk T p) (tnl T (tsk T p))) then Sum.inl (3, tsk T p)
  else if tsg T (tsk T (tsk T p + tnl T (tsk T p))) ≠ 120 then Sum.inl (1, tsk T (tsk T p + tnl T (tsk T p)))
  else if tdg (tsg T (tsk T (tsk T (tsk T p + tnl T (tsk T p)) + 1))) = false then Sum.inl (1, tsk T (tsk T (tsk T p + tnl T (tsk T p)) + 1))
  else if 1 ≤ tav T (tsk T (tsk T (tsk T p + tnl T (tsk T p)) + 1)) (tnl T (tsk T (tsk T (tsk T p + tnl T (tsk T p)) + 1))) ∧ tav T (tsk T (tsk T (tsk T p + tnl T (tsk T p)) + 1)) (tnl T (tsk T (tsk T (tsk T p + tnl T (tsk T p)) + 1))) ≤ 9999 then Sum.inr (tsk T (tsk T (tsk T p + tnl T (tsk T p)) + 1) + tnl T (tsk T (tsk T (tsk T p + tnl T (tsk T p)) + 1)), tav T (tsk T p) (tnl T (tsk T p)), tav T (tsk T (tsk T (tsk T p + tnl T (tsk T p)) + 1)) (tnl T (tsk T (tsk T (tsk T p + tnl T (tsk T p)) + 1))))
  else Sum.inl (2, tsk T (tsk T (tsk T p + tnl T (tsk T p)) + 1))
abbrev Er : Type := Sum (Nat × Nat) (Nat × Wn)
/-- the amounts of unit u -/
def tam (T : Tp) (u : Nat) : Nat → Nat → Wn → Er
  | 0, _, _ => Sum.inl (0, 0)
  | n + 1, p, W => match tamR T p u W with
    | Sum.inl f => Sum.inl f
    | Sum.inr v => if tsg T (tsk T v.1) = 44 then tam T u n (tsk T v.1 + 1) (ow1 W u v.2.1 v.2.2) else Sum.inr (tsk T v.1, ow1 W u v.2.1 v.2.2)
/-- an entry -/
def ten (T : Tp) (g : Og) (p : Nat) (W : Wn) : Er :=
  if tdg (tsg T (tsk T p)) = false then Sum.inl (1, tsk T p)
  else if thr (gU g) ((tav T (tsk T p) (tnl T (tsk T p)) : Nat) : Int) = false then Sum.inl (2, tsk T p)
  else if tsg T (tsk T (tsk T p + tnl T (tsk T p))) ≠ 58 then Sum.inl (1, tsk T (tsk T p + tnl T (tsk T p)))
  else tam T (tav T (tsk T p) (tnl T (tsk T p))) 401 (tsk T (tsk T p + tnl T (tsk T p)) + 1) W
/-- the entries -/
def tes (T : Tp) (g : Og) : Nat → Nat → Wn → Er
  | 0, _, _ => Sum.inl (0, 0)
  | n + 1, p, W => if tsg T (tsk T p) = -1 then Sum.inr (tsk T p, W) else if tsg T (tsk T p) ≠ 59 then Sum.inl (1, tsk T p) else if tsg T (tsk T (tsk T p + 1)) = -1 then Sum.inr (tsk T (tsk T p + 1), W) else match ten T g (tsk T (tsk T p + 1)) W with
    | Sum.inl f => Sum.inl f
    | Sum.inr v => tes T g n v.1 v.2
/-- what holds of the numbers told -/
def EI (g : Og) (W : Wn) : Prop := (∀ k c, W k c ≤ 9999) ∧ ∀ k, k < 24 → gU g k = -2 → ∀ c, W k c = 0
theorem EI.w {g : Og} {W : Wn} {u c v : Nat} (h : EI g W) (hu2 : gU g u ≠ -2) (hv : v ≤ 9999) : EI g (ow1 W u c v) := by
  refine ⟨fun k e => ?_, fun k hk hk2 e => ?_⟩
  · show (if k = u ∧ e = c then v else W k e) ≤ 9999
    have := h.1 k e
    split <;> omega
  · show (if k = u ∧ e = c then v else W k e) = 0
    rw [if_neg (fun z => hu2 (by rw [← z.1]; exact hk2))]
    exact h.2 k hk hk2 e
/-- what the class has after entries were read -/
def ER (m m' : am_m) (r : am_rr) (T : Tp) (p : Nat) (g : Og) (y : Int32) (R : Er) : Prop := Fr tFr m m' ∧ ((∃ k q p', R = Sum.inl (k, q) ∧ y = am_i 0 ∧ TS m' T p' (k : Nat) (q : Nat)) ∨ (∃ q W, R = Sum.inr (q, W) ∧ y = am_i 1 ∧ TS m' T q 0 (-1) ∧ OC m' r 251 (ogO g W) ∧ EI g W ∧ p ≤ q))
section T6
variable {m : am_m} {r : am_rr} {T : Tp} {p u : Nat} {g : Og} {W : Wn}
theorem OC.amt {c v : Nat} (hO : OC m r 251 (ogO g W)) (hR : RI r) (hu : u < 24) : OC (am_si m (aW 251 u) c (am_i v)) r 251 (ogO g (ow1 W u c v)) := by
  refine OC.ow (g := ogO g W) hO hR og251 ((Fr.refl (fun b => 251 + 4 ≤ b ∧ b < 251 + 28) m).si2 ⟨by unfold aW; omega, by unfold aW; omega⟩) (fun k hk e he => ?_)
  rw [m_si]
  show _ = am_i ((if k = u ∧ e = c then v else W k e : Nat) : Int)
  by_cases z : k = u ∧ e = c
  · rw [if_pos ⟨by rw [z.1], z.2⟩, if_pos z]
  · rw [if_neg (fun y => z ⟨by unfold aW at y; omega, y.2⟩), if_neg z]
    exact hO.2.2.1 k hk e he
theorem s_X7_readAmount (hT : IT T) (hR : RI r) (hS : TS m T p 0 (-1)) (hO : OC m r 251 (ogO g W)) (hE : EI g W) (hu : u < 24) : (∃ k q m' p', tamR T p u W = Sum.inl (k, q) ∧ m_X7_readAmount m (aW 251 u) = some (am_i 0, m') ∧ Fr tFr m m' ∧ TS m' T p' (k : Nat) (q : Nat)) ∨ (∃ p' c v m', tamR T p u W = Sum.inr (p', c, v) ∧ m_X7_readAmount m (aW 251 u) = some (am_i 1, m') ∧ Fr tFr m m' ∧ v ≤ 9999 ∧ p < p' ∧ TS m' T p' 0 (-1) ∧ OC m' r 251 (ogO g (ow1 W u c v))) := by
  have h4 := hT.1
  have hp := hS.2.2.2.2.2
  have ft : ∀ {m1 m2 : am_m}, Fr (fun b => b = 2984) m1 m2 → Fr tFr m1 m2 := fun f => f.mono (fun b hb => Or.inl hb)
  have b1t : ¬ ((am_i (b1 true : Nat)) = 0) := by decide
  have b1f : (am_i (b1 false : Nat)) = 0 := by decide
  have q1 := tsk_ge (T := T) (p := p)
  have q2 := tsk_le (T := T) hp
  obtain ⟨m1, e1, f1, A, B⟩ := s_X7_readNumber hT hS
  have hO1 := hO.t84 hR f1
  unfold m_X7_readAmount
  rw [e1, Option.bind_some]
  dsimp only
  cases c : tdg (tsg T (tsk T p))
  · refine Or.inl ⟨1, tsk T p, m1, tsk T p, by unfold tamR; rw [if_pos c], ?_, ft f1, A c⟩
    rw [if_neg (fun z => z b1f)]
  obtain ⟨B1, B2, B3⟩ := B c
  have cn : ¬ tdg (tsg T (tsk T p)) = false := by rw [c]; decide
  have n1 := tnl_1 c
  have cl := tcv_le T (tsk T p) (tnl T (tsk T p))
  have cv := tcv_av (T := T) (tsk T p) (tnl T (tsk T p))
  have et0 : tamR T p u W = _ := if_neg cn
  have hq1 := B1.2.2.2.2.2
  have hlt : p < tsk T p + tnl T (tsk T p) := by omega
  generalize tcv T (tsk T p) (tnl T (tsk T p)) = w at B2 cl cv
  generalize tav T (tsk T p) (tnl T (tsk T p)) = v at cv et0
  generalize tsk T p + tnl T (tsk T p) = p1 at et0 B1 hq1 hlt
  rw [if_pos b1t]
  have ec : m_X8_isCategory m1 (m1 2984 5) = some (am_i (if 0 ≤ (w : Int) ∧ (w : Int) ≤ 63 then 1 else 0)) := by rw [B2]; exact s_c8 (by omega) (by omega)
  rw [ec, Option.bind_some]
  by_cases c1 : 64 ≤ v
  · obtain ⟨m2, e2, f2, h2⟩ := s_X7_refuse (x := 2) (y := tsk T p) B1
    refine Or.inl ⟨2, tsk T p, m2, _, et0.trans (if_pos c1), ?_, (ft f1).trans (ft f2), h2⟩
    rw [if_neg (show ¬ (0 ≤ (w : Int) ∧ (w : Int) ≤ 63) by omega), if_neg (show ¬ ¬ am_i 0 = 0 by decide), B3, e2, Option.bind_some]
    rfl
  have ew : w = v := by omega
  rw [ew] at B2
  have et1 := et0.trans (if_neg c1)
  have hW : m1 (aW 251 u) v = am_i (W u v) := hO1.2.2.1 u hu v (by omega)
  have hWb := hE.1 u v
  have ixv : am_ix (m1 2984 5) = v := by rw [B2, i_ixn (by omega)]
  have ibv : am_ib (m1 2984 5) 64 = true := by rw [B2, i_ibt (by omega) (by omega) (by omega)]
  rw [if_pos (show 0 ≤ (w : Int) ∧ (w : Int) ≤ 63 by omega), if_pos (show ¬ am_i 1 = 0 by decide), ibv, cond_true, ixv]
  by_cases c2 : 0 < W u v
  · obtain ⟨m2, e2, f2, h2⟩ := s_X7_refuse (x := 3) (y := tsk T p) B1
    refine Or.inl ⟨3, tsk T p, m2, _, et1.trans (if_pos c2), ?_, (ft f1).trans (ft f2), h2⟩
    rw [if_neg (by rw [hW, i_zero, i_le (by omega) (by omega) (by omega) (by omega)]; omega), B3, e2, Option.bind_some]
    rfl
  have et2 := et1.trans (if_neg c2)
  rw [if_pos (by rw [hW, i_zero, i_le (by omega) (by omega) (by omega) (by omega)]; omega)]
  obtain ⟨m2, e2, f2, C, D⟩ := s_X7_takeSign (x := 120) hT B1 (by decide) (by decide)
  rw [e2, Option.bind_some]
  dsimp only
  have q3 := tsk_ge (T := T) (p := p1)
  by_cases c3 : ¬ tsg T (tsk T p1) = 120
  · refine Or.inl ⟨1, tsk T p1, m2, tsk T p1, et2.trans (if_pos c3), ?_, (ft f1).trans (ft f2), C c3⟩
    rw [decide_eq_false c3, if_pos b1f]
  have c3 := Classical.not_not.mp c3
  obtain ⟨D1, D2⟩ := D c3
  have et3 := et2.trans (if_neg (fun z => z c3))
  rw [decide_eq_true c3, if_neg b1t]
  obtain ⟨m3, e3, f3, E, F⟩ := s_X7_readNumber hT D2
  have q4 := tsk_ge (T := T) (p := tsk T p1 + 1)
  rw [e3, Option.bind_some]
  dsimp only
  have F123 : Fr tFr m m3 := ((ft f1).trans (ft f2)).trans (ft f3)
  generalize tsk T (tsk T p1 + 1) = q at et3 E F q4 ⊢
  cases c4 : tdg (tsg T q)
  · refine Or.inl ⟨1, q, m3, q, et3.trans (if_pos c4), ?_, F123, E c4⟩
    rw [if_neg (fun z => z b1f)]
  obtain ⟨F1, F2, F3⟩ := F c4
  have cn4 : ¬ tdg (tsg T q) = false := by rw [c4]; decide
  have et4 := et3.trans (if_neg cn4)
  have n2 := tnl_1 c4
  have cl2 := tcv_le T q (tnl T q)
  have cv2 := tcv_av (T := T) q (tnl T q)
  generalize tcv T q (tnl T q) = w2 at F2 cl2 cv2
  generalize tav T q (tnl T q) = v2 at cv2 et4
  rw [if_pos b1t]
  by_cases c5 : 1 ≤ v2 ∧ v2 ≤ 9999
  · have ew2 : w2 = v2 := by omega
    rw [ew2] at F2
    have hO3 : OC m3 r 251 (ogO g W) := (hO1.t84 hR f2).t84 hR f3
    refine Or.inr ⟨q + tnl T q, v, v2, am_si m3 (aW 251 u) v (am_i v2), et4.trans (if_pos c5), ?_, F123.si2 (Or.inr ⟨by unfold aW; omega, by unfold aW; omega⟩), c5.2, by omega, F1.kept (si_ne (by unfold aW; omega)) (si_ne (by unfold aW; omega)), hO3.amt hR hu⟩
    rw [if_neg (by rw [F2, i_lt (by omega) (by omega) (by omega) (by omega)]; omega), if_pos (by rw [F2, i_le (by omega) (by omega) (by omega) (by omega)]; omega), cond_true, F2, am_letF]
  · obtain ⟨m4, e4, f4, h4'⟩ := s_X7_refuse (x := 2) (y := q) F1
    refine Or.inl ⟨2, q, m4, _, et4.trans (if_neg c5), ?_, F123.trans (ft f4), h4'⟩
    by_cases c6 : w2 < 1
    · rw [if_pos (by rw [F2, i_lt (by omega) (by omega) (by omega) (by omega)]; omega), F3, e4, Option.bind_some]
      rfl
    · rw [if_neg (by rw [F2, i_lt (by omega) (by omega) (by omega) (by omega)]; omega), if_neg (by rw [F2, i_le (by omega) (by omega) (by omega) (by omega)]; omega), F3, e4, Option.bind_some]
      rfl
theorem tam_s {n : Nat} : tam T u (n + 1) p W = match tamR T p u W with
    | Sum.inl f => Sum.inl f
    | Sum.inr v => if tsg T (tsk T v.1) = 44 then tam T u n (tsk T v.1 + 1) (ow1 W u v.2.1 v.2.2) else Sum.inr (tsk T v.1, ow1 W u v.2.1 v.2.2) := rfl
theorem l_X7_readEntry_46 {k : am_m → Option (Int32 × am_m)} (hT : IT T) (hR : RI r) (hu : u < 24) (hu2 : gU g u ≠ -2) : ∀ (d n p i : Nat) (x : Int) (W : Wn) (m : am_m), T.1 - p = d → d < n → i ≤ p → TS m T p 0 (-1) → OC m r 251 (ogO g W) → EI g W → tsg T (tsk T p) = x → 0 ≤ x → x ≤ 255 → ∀ D, d ≤ D → ∃ y m', m_X7_readEntry_46 251 (aW 251 u) k n (am_i x) (am_i i) m = some (y, m') ∧ ER m m' r T p g y (tam T u D (tsk T p + 1) W) := by
  intro d
  induction d using Nat.strongRecOn with
  | _ d ih =>
  intro n p i x W m hd hn hi hS hO hE hx hx0 hx1 D hD
  have h4 := hT.1
  have hp := hS.2.2.2.2.2
  have ft : ∀ {m1 m2 : am_m}, Fr (fun b => b = 2984) m1 m2 → Fr tFr m1 m2 := fun f => f.mono (fun b hb => Or.inl hb)
  have q1 := tsk_ge (T := T) (p := p)
  have hlt := tsg_tl hx hx0
  obtain ⟨n, rfl⟩ : ∃ n', n = n' + 1 := ⟨n - 1, by omega⟩
  obtain ⟨D, rfl⟩ : ∃ n', D = n' + 1 := ⟨D - 1, by omega⟩
  obtain ⟨m1, e1, f1, _, A⟩ := s_X7_takeSign (x := x) hT hS hx0 hx1
  obtain ⟨A1, A2⟩ := A hx
  have hO1 := hO.t84 hR f1
  rw [m_X7_readEntry_46, if_neg (by rw [i_lt (by omega) (by omega) (by omega) (by omega)]; omega), e1, Option.bind_some]
  dsimp only
  rw [decide_eq_true hx, if_neg (show ¬ am_i (b1 true : Nat) = 0 by decide)]
  rcases s_X7_readAmount hT hR A2 hO1 hE hu with ⟨kk, q, m2, p2, r1, r2, r3, r4⟩ | ⟨p2, c, v, m2, r1, r2, r3, r5, r6, r7, r8⟩
  · rw [r2, Option.bind_some, if_neg (show ¬ ¬ am_i 0 = 0 by decide)]
    refine ⟨_, m2, rfl, (ft f1).trans r3, Or.inl ⟨kk, q, p2, ?_, rfl, r4⟩⟩
    rw [tam_s, r1]
  · obtain ⟨m3, e3, f3, h3⟩ := s_X7_nextSign hT r7
    have hb := tsg_b hT (tsk T p2)
    have hE3 : EI g (ow1 W u c v) := hE.w hu2 r5
    have hO3 := r8.t84 hR f3
    have q5 := tsk_ge (T := T) (p := p2)
    have hp2 := r7.2.2.2.2.2
    have et : tam T u (D + 1) (tsk T p + 1) W = if tsg T (tsk T p2) = 44 then tam T u D (tsk T p2 + 1) (ow1 W u c v) else Sum.inr (tsk T p2, ow1 W u c v) := by rw [tam_s, r1]
    rw [r2, Option.bind_some]
    dsimp only
    rw [if_pos (show ¬ am_i 1 = 0 by decide), e3, Option.bind_some, et]
    dsimp only
    by_cases c4 : tsg T (tsk T p2) = 44
    · have hlt2 := tsg_tl c4 (by decide)
      obtain ⟨y, m4, g1, g2, g3⟩ := ih (T.1 - tsk T p2) (by omega) n (tsk T p2) (i + 1) 44 (ow1 W u c v) m3 rfl (by omega) (by omega) h3 hO3 hE3 (by rw [tsk_tsk hT hp2]; exact c4) (by decide) (by decide) D (by omega)
      rw [tsk_tsk hT hp2] at g3
      rw [if_pos (by rw [c4]), if_pos c4, nj]
      refine ⟨y, m4, g1, (((ft f1).trans r3).trans (ft f3)).trans g2, ?_⟩
      rcases g3 with ⟨a, b, cc, s1, s2, s3⟩ | ⟨a, b, s1, s2, s3, s4, s5, s6⟩
      · exact Or.inl ⟨a, b, cc, s1, s2, s3⟩
      · exact Or.inr ⟨a, b, s1, s2, s3, s4, s5, by omega⟩
    · rw [if_neg (by rw [i_eq (by omega) (by omega) (by omega) (by omega)]; exact c4), if_neg c4]
      exact ⟨_, m3, rfl, ((ft f1).trans r3).trans (ft f3), Or.inr ⟨tsk T p2, _, rfl, rfl, h3, hO3, hE3, by omega⟩⟩
theorem s_X7_readEntry (hT : IT T) (hR : RI r) (hS : TS m T p 0 (-1)) (hO : OC m r 251 (ogO g W)) (hI : IG g) (hE : EI g W) : ∃ y m', m_X7_readEntry m 251 = some (y, m') ∧ ER m m' r T (p + 1) g y (ten T g p W) := by
  have h4 := hT.1
  have hp := hS.2.2.2.2.2
  have ft : ∀ {m1 m2 : am_m}, Fr (fun b => b = 2984) m1 m2 → Fr tFr m1 m2 := fun f => f.mono (fun b hb => Or.inl hb)
  have b1t : ¬ ((am_i (b1 true : Nat)) = 0) := by decide
  have b1f : (am_i (b1 false : Nat)) = 0 := by decide
  have q1 := tsk_ge (T := T) (p := p)
  obtain ⟨m1, e1, f1, A, B⟩ := s_X7_readNumber hT hS
  have hO1 := hO.t84 hR f1
  unfold m_X7_readEntry
  rw [e1, Option.bind_some]
  dsimp only
  cases c : tdg (tsg T (tsk T p))
  · rw [if_neg (fun z => z b1f)]
    exact ⟨_, m1, rfl, ft f1, Or.inl ⟨1, tsk T p, tsk T p, by unfold ten; rw [if_pos c], rfl, A c⟩⟩
  obtain ⟨B1, B2, B3⟩ := B c
  have cn : ¬ tdg (tsg T (tsk T p)) = false := by rw [c]; decide
  have n1 := tnl_1 c
  have cl := tcv_le T (tsk T p) (tnl T (tsk T p))
  have cv := tcv_av (T := T) (tsk T p) (tnl T (tsk T p))
  have va := tav_le hT (tsk T p) (tnl T (tsk T p))
  have et0 : ten T g p W = _ := if_neg cn
  have hq1 := B1.2.2.2.2.2
  have hlt : p < tsk T p + tnl T (tsk T p) := by omega
  generalize tcv T (tsk T p) (tnl T (tsk T p)) = w at B2 cl cv
  generalize tav T (tsk T p) (tnl T (tsk T p)) = v at cv et0 va
  generalize tsk T p + tnl T (tsk T p) = p1 at et0 B1 hq1 hlt
  have eq : thr (gU g) (w : Int) = thr (gU g) (v : Int) := by
    rcases cv with cv | cv
    · rw [cv]
    · have h1 : thr (gU g) (w : Int) = false := decide_eq_false (by omega)
      have h2 : thr (gU g) (v : Int) = false := decide_eq_false (by omega)
      rw [h1, h2]
  have eth : m_X1_isThere m1 251 (m1 2984 5) = some (am_i (b1 (thr (gU g) (v : Int)) : Nat)) := by rw [B2, ← eq]; exact s_X1_isThere hO1.1 hI.1 (by omega) (by omega)
  rw [if_pos b1t, eth, Option.bind_some]
  cases c1 : thr (gU g) (v : Int)
  · obtain ⟨m2, e2, f2, h2⟩ := s_X7_refuse (x := 2) (y := tsk T p) B1
    rw [if_neg (fun z => z b1f), B3, e2, Option.bind_some]
    exact ⟨_, m2, rfl, (ft f1).trans (ft f2), Or.inl ⟨2, tsk T p, p1, et0.trans (if_pos c1), rfl, h2⟩⟩
  obtain ⟨u, hu, evu, hu2⟩ := thr_i c1
  have evu : v = u := by omega
  subst evu
  have ew : w = v := by omega
  rw [ew] at B2
  have et1 := et0.trans (if_neg (by rw [c1]; decide))
  have ixv : am_ix (m1 2984 5) = v := by rw [B2, i_ixn (by omega)]
  have ibv : am_ib (m1 2984 5) 24 = true := by rw [B2, i_ibt (by omega) (by omega) (by omega)]
  rw [if_pos b1t, ibv, cond_true, ixv]
  by_cases c3 : tsg T (tsk T p1) = 58
  · have et2 := et1.trans (if_neg (fun z => z c3))
    obtain ⟨y, m2, g1, g2, g3⟩ := l_X7_readEntry_46 (k := fun m13 => some ((am_i 0), m13)) hT hR hu hu2 (T.1 - p1) am_F p1 0 58 W m1 rfl (by unfold am_F; omega) (by omega) B1 hO1 hE c3 (by decide) (by decide) 401 (by omega)
    refine ⟨y, m2, g1, (ft f1).trans g2, ?_⟩
    rw [et2]
    rcases g3 with ⟨a, b, cc, s1, s2, s3⟩ | ⟨a, b, s1, s2, s3, s4, s5, s6⟩
    · exact Or.inl ⟨a, b, cc, s1, s2, s3⟩
    · exact Or.inr ⟨a, b, s1, s2, s3, s4, s5, by omega⟩
  · obtain ⟨m2, e2, f2, C, _⟩ := s_X7_takeSign (x := 58) hT B1 (by decide) (by decide)
    rw [show am_F = 999999 + 1 from rfl, m_X7_readEntry_46, if_neg (show ¬ am_i 400 < am_i 0 by decide), e2, Option.bind_some]
    dsimp only
    rw [decide_eq_false c3, if_pos b1f]
    exact ⟨_, m2, rfl, (ft f1).trans (ft f2), Or.inl ⟨1, tsk T p1, tsk T p1, et1.trans (if_pos c3), rfl, C c3⟩⟩
theorem tes_s {n : Nat} : tes T g (n + 1) p W = if tsg T (tsk T p) = -1 then Sum.inr (tsk T p, W) else if tsg T (tsk T p) ≠ 59 then Sum.inl (1, tsk T p) else if tsg T (tsk T (tsk T p + 1)) = -1 then Sum.inr (tsk T (tsk T p + 1), W) else match ten T g (tsk T (tsk T p + 1)) W with
    | Sum.inl f => Sum.inl f
    | Sum.inr v => tes T g n v.1 v.2 := rfl
theorem l_X7_readEntries_2 {k : am_m → Option (Int32 × am_m)} (hT : IT T) (hR : RI r) (hI : IG g) : ∀ (d n p i : Nat) (W : Wn) (m : am_m), T.1 - p = d → d < n → i ≤ p → TS m T p 0 (-1) → OC m r 251 (ogO g W) → EI g W → ∀ D, d < D → ∃ y m', m_X7_readEntries_2 251 k n (am_i i) m = some (y, m') ∧ ER m m' r T p g y (tes T g D p W) := by
  intro d
  induction d using Nat.strongRecOn with
  | _ d ih =>
  intro n p i W m hd hn hi hS hO hE D hD
  have h4 := hT.1
  have hp := hS.2.2.2.2.2
  have ft : ∀ {m1 m2 : am_m}, Fr (fun b => b = 2984) m1 m2 → Fr tFr m1 m2 := fun f => f.mono (fun b hb => Or.inl hb)
  have b1t : ¬ ((am_i (b1 true : Nat)) = 0) := by decide
  have b1f : (am_i (b1 false : Nat)) = 0 := by decide
  have q1 := tsk_ge (T := T) (p := p)
  obtain ⟨n, rfl⟩ : ∃ n', n = n' + 1 := ⟨n - 1, by omega⟩
  obtain ⟨D, rfl⟩ : ∃ n', D = n' + 1 := ⟨D - 1, by omega⟩
  obtain ⟨m1, e1, f1, h1⟩ := s_X7_nextSign hT hS
  have hO1 := hO.t84 hR f1
  have hb := tsg_b hT (tsk T p)
  rw [m_X7_readEntries_2, if_neg (by rw [i_lt (by omega) (by omega) (by omega) (by omega)]; omega), e1, Option.bind_some]
  dsimp only
  by_cases c1 : tsg T (tsk T p) = -1
  · rw [if_neg (fun z => z (by rw [c1])), tes_s, if_pos c1]
    exact ⟨_, m1, rfl, ft f1, Or.inr ⟨tsk T p, W, rfl, rfl, h1, hO1, hE, q1⟩⟩
  obtain ⟨m2, e2, f2, C, E⟩ := s_X7_takeSign (x := 59) hT h1 (by decide) (by decide)
  rw [tsk_tsk hT hp] at e2 C E
  have et1 : tes T g (D + 1) p W = _ := tes_s.trans (if_neg c1)
  rw [if_pos (by rw [i_eq (by omega) (by omega) (by omega) (by omega)]; exact c1), e2, Option.bind_some]
  dsimp only
  by_cases c2 : ¬ tsg T (tsk T p) = 59
  · rw [decide_eq_false c2, if_neg (fun z => z b1f), et1, if_pos c2]
    exact ⟨_, m2, rfl, (ft f1).trans (ft f2), Or.inl ⟨1, tsk T p, tsk T p, rfl, rfl, C c2⟩⟩
  have c2 := Classical.not_not.mp c2
  obtain ⟨E1, E2⟩ := E c2
  have et2 := et1.trans (if_neg (fun z => z c2))
  obtain ⟨m3, e3, f3, h3⟩ := s_X7_nextSign hT E2
  have hb3 := tsg_b hT (tsk T (tsk T p + 1))
  have hO3 := (hO1.t84 hR f2).t84 hR f3
  have q3 := tsk_ge (T := T) (p := tsk T p + 1)
  have F3 := ((ft f1).trans (ft f2)).trans (ft f3)
  rw [decide_eq_true c2, if_pos b1t, e3, Option.bind_some]
  dsimp only
  by_cases c3 : tsg T (tsk T (tsk T p + 1)) = -1
  · rw [if_neg (fun z => z (by rw [c3])), et2, if_pos c3]
    exact ⟨_, m3, rfl, F3, Or.inr ⟨tsk T (tsk T p + 1), W, rfl, rfl, h3, hO3, hE, by omega⟩⟩
  have et3 := et2.trans (if_neg c3)
  obtain ⟨y, m4, e4, f4, R⟩ := s_X7_readEntry hT hR h3 hO3 hI hE
  rw [if_pos (by rw [i_eq (by omega) (by omega) (by omega) (by omega)]; exact c3), e4, Option.bind_some]
  dsimp only
  rcases R with ⟨a, b, cc, s1, s2, s3⟩ | ⟨a, b, s1, s2, s3, s4, s5, s6⟩
  · rw [s2, if_neg (show ¬ ¬ am_i 0 = 0 by decide), et3, s1]
    exact ⟨_, m4, rfl, F3.trans f4, Or.inl ⟨a, b, cc, rfl, rfl, s3⟩⟩
  · have hpa := s3.2.2.2.2.2
    rw [s2, if_pos (show ¬ am_i 1 = 0 by decide), et3, s1, nj]
    obtain ⟨y2, m5, g1, g2, g3⟩ := ih (T.1 - a) (by omega) n a (i + 1) b m4 rfl (by omega) (by omega) s3 s4 s5 D (by omega)
    refine ⟨y2, m5, g1, (F3.trans f4).trans g2, ?_⟩
    rcases g3 with ⟨a1, b1, cc, t1, t2, t3⟩ | ⟨a1, b1, t1, t2, t3, t4, t5, t6⟩
    · exact Or.inl ⟨a1, b1, cc, t1, t2, t3⟩
    · exact Or.inr ⟨a1, b1, t1, t2, t3, t4, t5, by omega⟩
end T6
