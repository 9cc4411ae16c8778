/-! ===== mathematics: text, the call ===== -/
section T9
variable {m : am_m} {r : am_rr} {T : Tp} {s : Sx}
theorem tuR_lt {p h v : Nat} {g : Og} (e : tuR T p h g = Sum.inr v) : p < tsk T p + tnl T (tsk T p) := by
  have q := tsk_ge (T := T) (p := p)
  cases c : tdg (tsg T (tsk T p))
  · unfold tuR at e
    rw [if_pos c] at e
    cases e
  · have := tnl_1 c
    omega
/-- enough rounds are enough -/
theorem tfl_st (hT : IT T) : ∀ (d p : Nat) (o l : Int) (g : Og), T.1 - p ≤ d → p ≤ T.1 → tfl T (d + 2) (p, o, l, g) = tfl T (d + 1) (p, o, l, g) := by
  intro d
  have un : ∀ (d q h : Nat) (g : Og), q ≤ T.1 → (∀ (p : Nat) (o l : Int) (g : Og), q < p → p ≤ T.1 → tfl T (d + 1) (p, o, l, g) = tfl T d (p, o, l, g)) → tun T (tfl T (d + 1)) q h g = tun T (tfl T d) q h g := fun d q h g hq H => by
    unfold tun
    cases e : tuR T q h g with
    | inl f => rfl
    | inr v =>
      dsimp only
      have q2 := tsk_le (T := T) hq
      exact H _ _ _ _ (tuR_lt e) (tnl_le q2)
  induction d with
  | zero =>
    intro p o l g hd hp
    have q1 := tsk_le (T := T) hp
    have q2 := tsk_ge (T := T) (p := p)
    have sg : tsg T (tsk T p) = -1 := tsg_e (by omega)
    refine (tfl_s (N := 1)).trans (Eq.trans ?_ (tfl_s (N := 0)).symm)
    rw [sg]
    have n1 : ∀ x : Int, ¬ ((-1 : Int) = 40 ∧ x ≠ -1) := fun x z => absurd z.1 (by decide)
    have n2 : ∀ x : Int, ¬ ((-1 : Int) = 41 ∧ x ≠ -1) := fun x z => absurd z.1 (by decide)
    have n3 : ∀ x : Int, ¬ (tdg (-1) = true ∧ x ≠ -1) := fun x z => absurd z.1 (by decide)
    rw [if_neg (n1 l), if_neg (n2 o), if_neg (n3 o), if_neg (n1 l), if_neg (n2 o), if_neg (n3 o)]
  | succ d ih =>
    intro p o l g hd hp
    have q1 := tsk_le (T := T) hp
    have q2 := tsk_ge (T := T) (p := p)
    refine (tfl_s (N := d + 2)).trans (Eq.trans ?_ (tfl_s (N := d + 1)).symm)
    by_cases c40 : tsg T (tsk T p) = 40 ∧ l ≠ -1
    · have hl := tsg_tl c40.1 (by decide)
      rw [if_pos c40, if_pos c40]
      exact un (d + 1) _ _ _ (by omega) (fun p' o' l' g' h1 h2 => ih p' o' l' g' (by omega) h2)
    · rw [if_neg c40, if_neg c40]
      by_cases c41 : tsg T (tsk T p) = 41 ∧ o ≠ -1
      · have hl := tsg_tl c41.1 (by decide)
        rw [if_pos c41, if_pos c41]
        exact ih _ _ _ _ (by omega) (by omega)
      · rw [if_neg c41, if_neg c41]
        by_cases cd : tdg (tsg T (tsk T p)) = true ∧ o ≠ -1
        · rw [if_pos cd, if_pos cd]
          exact un (d + 1) _ _ _ q1 (fun p' o' l' g' h1 h2 => ih p' o' l' g' (by omega) h2)
        · rw [if_neg cd, if_neg cd]
theorem tfl_j (hT : IT T) {p : Nat} {o l : Int} {g : Og} (hp : p ≤ T.1) : ∀ j, tfl T (402 + j) (p, o, l, g) = tfl T 402 (p, o, l, g) := by
  intro j
  have h4 := hT.1
  induction j with
  | zero => rfl
  | succ j ih =>
    have e1 : 402 + (j + 1) = 401 + j + 2 := by omega
    have e2 : 401 + j + 1 = 402 + j := by omega
    rw [e1, tfl_st hT (401 + j) p o l g (by omega) hp, e2, ih]
/-- what the reference's reading comes to -/
theorem s_X9_reads (hT : IT T) (hS : TR m T 0 0 (-1) 0) (hO : OM m 3262 0 tg0) : ∃ m', m_X9_reads m = some m' ∧ FU m m' ∧ ((∃ k q p' : Nat, txt T = Sum.inl (k, q) ∧ TR m' T p' k q 1) ∨ (∃ g W p', txt T = Sum.inr (g, W) ∧ TR m' T p' 0 (-1) 0 ∧ OM m' 3262 0 (ogO g W) ∧ IG g ∧ EI g W)) := by
  have h4 := hT.1
  obtain ⟨y, m1, e1, f1, R⟩ := s_X9_number (lo := 0) (hi := 0) hT hS (by decide) (by decide) (by decide) (by decide)
  unfold m_X9_reads
  rw [e1, Option.bind_some]
  dsimp only
  rcases R with ⟨c, a1⟩ | ⟨c, ⟨v0, v1, ey, a1, _⟩ | ⟨cv, a1⟩⟩
  · have w13 : ¬ m1 3261 13 = 0 := by rw [a1.2.2.2.2.1]; decide
    have e := rd_w (n := 999999) a1
    rw [if_pos w13, show am_F = 999999 + 1 from rfl, e]
    exact ⟨m1, rfl, f1.fu, Or.inl ⟨1, tsk T 0, tsk T 0, by unfold txt; rw [if_pos c], a1⟩⟩
  · have w13 : m1 3261 13 = 0 := by rw [a1.2.2.2.2.1]; decide
    have hO1 := hO.fx f1
    have c2 : tav T (tsk T 0) (tnl T (tsk T 0)) = 0 := by omega
    have et : txt T = match tfl T 402 (tsk T 0 + tnl T (tsk T 0), -1, 0, tg0) with
      | Sum.inl f => Sum.inl f
      | Sum.inr v => match tes T v.2 402 v.1 (gO v.2) with
        | Sum.inl f => Sum.inl f
        | Sum.inr w => Sum.inr (v.2, w.2) := by
      unfold txt
      rw [if_neg (by rw [c]; decide), if_neg (fun z => z c2)]
      rfl
    rw [c2] at ey
    have ey : y = am_i ((0 : Nat) : Int) := ey
    generalize tsk T 0 + tnl T (tsk T 0) = e at a1 et
    have hpe := a1.2.2.2.2.2.2
    have q1 := tsk_ge (T := T) (p := e)
    have q2 := tsk_le (T := T) hpe
    obtain ⟨m2, e2, f2, a2, _⟩ := s_X9_isNext (x := 40) hT a1 (by decide) (by decide)
    have hO2 := hO1.fx f2
    have F2 := f1.trans f2
    -- the entries, from where the units end
    have ents : ∀ (mm : am_m) (pp : Nat) (g : Og), TR mm T pp 0 (-1) 0 → OM mm 3262 0 g → IG g → FU m mm → tfl T 402 (e, -1, 0, tg0) = Sum.inr (tsk T pp, g) → ∃ m', m_X9_reads_29 (fun m12 => if ¬ (m12 3261 13) = 0 then some m12 else if (m12 3261 9) ≤ (m12 3261 10) then some m12 else (m_X9_wrong m12 (am_i 1) (m12 3261 10)).bind fun q15 => some q15) am_F mm = some m' ∧ FU m m' ∧ ((∃ k q p' : Nat, txt T = Sum.inl (k, q) ∧ TR m' T p' k q 1) ∨ (∃ g W p', txt T = Sum.inr (g, W) ∧ TR m' T p' 0 (-1) 0 ∧ OM m' 3262 0 (ogO g W) ∧ IG g ∧ EI g W)) := by
      intro mm pp g b1 b2 b3 b4 b5
      have hpp := b1.2.2.2.2.2.2
      have hE : EI g (gO g) := ⟨b3.2.1, fun k hk hk2 => (b3.2.2.2.2.2.2.1 k hk hk2).2.2.1⟩
      have b2 : OM mm 3262 0 (ogO g (gO g)) := b2
      obtain ⟨m5, g1, g2, g3⟩ := l_X9_reads_29 hT (T.1 - pp) am_F pp (gO g) mm rfl (by unfold am_F; omega) b1 b2 hE 402 (by omega)
      have es : tes T g 402 (tsk T pp) (gO g) = tes T g 402 pp (gO g) := by
        rw [tes_s, tes_s, tsk_tsk hT hpp]
      refine ⟨m5, g1, b4.trans g2, ?_⟩
      rw [et, b5]
      dsimp only
      rw [es]
      rcases g3 with ⟨a, b, cc, s1, s2⟩ | ⟨a, b, s1, s2, s3, s4, s5⟩
      · rw [s1]
        exact Or.inl ⟨a, b, cc, rfl, s2⟩
      · rw [s1]
        exact Or.inr ⟨g, b, a, rfl, s2, s3, b3, s4⟩
    rw [if_neg (fun z => z w13), e2, Option.bind_some]
    dsimp only
    by_cases c3 : tsg T (tsk T e) = 40
    · rw [decide_eq_true c3, if_neg (show ¬ am_i (b1 true : Nat) = 0 by decide), ey]
      obtain ⟨m3, e3, f3, R3⟩ := s_ub hT 20 m2 (tsk T e) 0 0 tg0 a2 c3 hO2 tg0_IG (by decide) (by show (-1 : Int) ≠ -2; decide) rfl (by decide)
      rw [show m_X9_unitsBelow 20 m2 (am_i ((0 : Nat) : Int)) (am_i 0) = some m3 from e3, Option.bind_some]
      have F3 := F2.fu.trans f3
      rcases R3 with ⟨k, q, p', r1, j, r2⟩ | ⟨p3, g3, r1, r2, r3, r4, r5, j, r6⟩
      · have er := rd_w (n := 999999) r1
        rw [show am_F = 999999 + 1 from rfl, er]
        refine ⟨m3, rfl, F3, Or.inl ⟨k, q, p', ?_, r1⟩⟩
        have h5 : tfl T 402 (e, -1, 0, tg0) = Sum.inl (k, q) := by
          rw [← tfl_j hT hpe j, tfl_sk hT hpe]
          exact r2 402 (-1)
        rw [et, h5]
      · have hp3 := r1.2.2.2.2.2.2
        refine ents m3 p3 g3 r1 r2 r3 F3 ?_
        rw [← tfl_j hT hpe j, tfl_sk hT hpe]
        refine (r6 402 (-1)).trans ?_
        show tfl T (401 + 1) (p3, -1, -1, g3) = _
        rw [tfl_s, if_neg (fun z => z.2 rfl), if_neg (fun z => z.2 rfl), if_neg (fun z => z.2 rfl), if_pos rfl]
    · rw [decide_eq_false c3, if_pos (show am_i (b1 false : Nat) = 0 by decide)]
      refine ents m2 (tsk T e) tg0 a2 hO2 tg0_IG F2.fu ?_
      show tfl T (401 + 1) (e, -1, 0, tg0) = _
      rw [tfl_s, if_neg (fun z => c3 z.1), if_neg (fun z => z.2 rfl), if_neg (fun z => z.2 rfl), if_pos rfl, tsk_tsk hT hpe]
  · have w13 : ¬ m1 3261 13 = 0 := by rw [a1.2.2.2.2.1]; decide
    have e := rd_w (n := 999999) a1
    have cn : ¬ tdg (tsg T (tsk T 0)) = false := by rw [c]; decide
    rw [if_pos w13, show am_F = 999999 + 1 from rfl, e]
    exact ⟨m1, rfl, f1.fu, Or.inl ⟨2, tsk T 0, _, by unfold txt; rw [if_neg cn, if_pos (by omega)], a1⟩⟩
theorem l_X9_text_2 {k : am_m → Option (Int32 × am_m)} : m_X9_text_2 k am_F (am_i 0) m = k (am_sc m 3262 0 3263 0 15517) := by
  refine lo_go (fun n j (t : am_m) => m_X9_text_2 k n (am_i (j : Int)) t) (fun j => am_sc m 3262 0 3263 0 j) 0 15517 (n := am_F) (s0 := m) sc_0.symm (by omega) (am_Fv (by omega)) (fun n j _ hj => ?_) (fun n => rfl)
  show m_X9_text_2 _ (n + 1) _ _ = _
  have e2 := sc_s (m := m) (a := 3262) (b := 3263) (sp := 0) (dp := 0) (j := j) (by decide)
  rw [Nat.zero_add] at e2
  rw [m_X9_text_2, if_neg (by rw [i_le (by omega) (by omega) (by omega) (by omega)]; omega), i_ibt (by omega) (by omega) (by omega), cond_true, cond_true, am_letF, i_ixn (by omega), nj, e2]
def tz0 (m : am_m) (j : Nat) : am_m := fun b i => if b = 3262 ∧ i < j then am_i 0 else m b i
theorem l_X9_text_29 {k : am_m → Option (Int32 × am_m)} : m_X9_text_29 k am_F (am_i 0) m = k (tz0 m 15456) := by
  refine lo_go (fun n j (t : am_m) => m_X9_text_29 k n (am_i (j : Int)) t) (fun j => tz0 m j) 0 15456 (n := am_F) (s0 := m) (by funext b i; exact (if_neg (fun e => Nat.not_lt_zero _ e.2)).symm) (by omega) (am_Fv (by omega)) (fun n j _ hj => ?_) (fun n => rfl)
  show m_X9_text_29 _ (n + 1) _ _ = _
  rw [m_X9_text_29, if_neg (by rw [i_le (by omega) (by omega) (by omega) (by omega)]; omega), i_ibt (by omega) (by omega) (by omega), cond_true, am_letF, i_ixn (by omega), nj]
  congr 1
  funext b i
  rw [m_si]
  unfold tz0
  by_cases e : b = 3262 ∧ i = j
  · rw [if_pos e, if_pos ⟨e.1, by omega⟩]
  · rw [if_neg e]
    by_cases e2 : b = 3262 ∧ i < j
    · rw [if_pos e2, if_pos ⟨e2.1, by omega⟩]
    · rw [if_neg e2, if_neg (fun e3 => e2 ⟨e3.1, by have : i ≠ j := fun y => e ⟨e3.1, y⟩; omega⟩)]
theorem tg0_OM {mm : am_m} (e : mm = am_si (am_si (tz0 m 15456) 3262 0 (am_i 1)) 3262 24 (am_i (-1))) : OM mm 3262 0 tg0 := by
  subst e
  have z : ∀ i, i < 15456 → i ≠ 0 → i ≠ 24 → am_si (am_si (tz0 m 15456) 3262 0 (am_i 1)) 3262 24 (am_i (-1)) 3262 i = am_i 0 := fun i h1 h2 h3 => by
    rw [si_o h3, si_o h2]
    exact if_pos ⟨rfl, h1⟩
  refine ⟨fun u hu => ?_, fun u hu h2 => ?_, fun u hu => ?_, fun u hu c hc => ?_, fun u hu c hc => ?_, fun u hu => ?_, fun u hu v hv => absurd hv (Nat.not_lt_zero v)⟩
  · rw [Nat.zero_add]
    show _ = am_i (if (if u = 0 then (-1 : Int) else -2) = -2 then 0 else 1)
    by_cases e : u = 0
    · rw [if_pos e, if_neg (by decide), e, si_o (by decide), si_at]
    · rw [if_neg e, if_pos rfl]
      exact z u (by omega) e (by omega)
  · rw [Nat.zero_add]
    have h2 : (if u = 0 then (-1 : Int) else -2) ≠ -2 := h2
    have e : u = 0 := by
      by_cases e : u = 0
      · exact e
      · rw [if_neg e] at h2; exact absurd rfl h2
    show _ = am_i (if u = 0 then (-1 : Int) else -2)
    rw [if_pos e, e, si_at]
  · rw [Nat.zero_add]; exact z _ (by omega) (by omega) (by omega)
  · rw [Nat.zero_add]; exact z _ (by omega) (by omega) (by omega)
  · rw [Nat.zero_add]; exact z _ (by omega) (by omega) (by omega)
  · rw [Nat.zero_add]; exact z _ (by omega) (by omega) (by omega)
theorem l_X9_text_110 {g : Og} {k : Int32 → am_m → Option (Int32 × am_m)} (hO : OM m 3262 0 g) : ∃ m', Fr (fun b => b = 3262) m m' ∧ (∀ i, i < 48 ∨ 72 ≤ i → m' 3262 i = m 3262 i) ∧ OM m' 3262 0 (ogS g (stT g)) ∧ m_X9_text_110 k am_F (am_i 0) (am_i 0) m = k (am_i (cn (fun k => thr (gU g) (k : Int)) 24 : Nat)) m' := by
  have th : ∀ j, j < 24 → am_i (if gU g j = -2 then 0 else 1) = am_i (b1 (thr (gU g) (j : Int)) : Nat) := fun j hj => by
    by_cases c : gU g j = -2
    · rw [if_pos c, thr_f c]; rfl
    · rw [if_neg c, thr_t hj c]; rfl
  refine Exists.elim (lo_inv (fun n j (t : Int32 × am_m) => m_X9_text_110 k n t.1 (am_i (j : Int)) t.2) (fun j t => t.1 = am_i (cn (fun k => thr (gU g) (k : Int)) j : Nat) ∧ Fr (fun b => b = 3262) m t.2 ∧ (∀ i, i < 48 ∨ 72 ≤ i → t.2 3262 i = m 3262 i) ∧ ∀ q, q < j → q < 24 → t.2 3262 (48 + q) = am_i (stT g q)) 0 24 (fun t => k t.1 t.2) (n := am_F) (s0 := (am_i 0, m)) ⟨rfl, Fr.refl _ _, fun _ _ => rfl, fun q hq => absurd hq (Nat.not_lt_zero q)⟩ (by omega) (am_Fv (by omega)) (fun n j t _ hj A => ?_) (fun n t A => rfl)) (fun t L => ⟨t.2, L.1.2.1, L.1.2.2.1, hO.st L.1.2.2.1 (fun u hu => L.1.2.2.2 u hu hu), L.2.trans (by rw [L.1.1])⟩)
  obtain ⟨z, s⟩ := t
  obtain ⟨a0, a1, a2, a3⟩ := A
  dsimp only at a0 a1 a2 a3
  have h0 := hO.1 j hj
  rw [Nat.zero_add, th j hj] at h0
  have h0 : m 3262 j = am_i (b1 (thr (gU g) (j : Int)) : Nat) := h0
  show ∃ s' : Int32 × am_m, m_X9_text_110 _ (n + 1) z _ s = m_X9_text_110 _ n s'.1 _ s'.2 ∧ _
  have ix0 : am_ix (am_i 0 + am_i (j : Int)) = j := by rw [i_add, i_ix (by omega) (by omega)]; omega
  have ib0 : am_ib (am_i 0 + am_i (j : Int)) 15517 = true := by rw [i_add, i_ibt (by omega) (by omega) (by omega)]
  have ix48 : am_ix (am_i 48 + am_i (j : Int)) = 48 + j := by rw [i_add, i_ix (by omega) (by omega)]; omega
  have ib48 : am_ib (am_i 48 + am_i (j : Int)) 15517 = true := by rw [i_add, i_ibt (by omega) (by omega) (by omega)]
  rw [m_X9_text_110, if_neg (by rw [i_le (by omega) (by omega) (by omega) (by omega)]; omega), ib0, cond_true, ib48, cond_true, am_letF, cond_true, ix0, ix48, si_o (by omega), a2 j (by omega), h0, nj, a0]
  refine ⟨(am_i (cn (fun k => thr (gU g) (k : Int)) j : Nat) + am_i (b1 (thr (gU g) (j : Int)) : Nat), _), rfl, ?_, a1.si2 rfl, fun i hi => ?_, fun q hq hq2 => ?_⟩
  · show _ + _ = am_i ((cn (fun k => thr (gU g) (k : Int)) j + b1 (thr (gU g) (j : Int)) : Nat) : Int)
    rw [i_add]; rfl
  · show am_si s 3262 (48 + j) _ 3262 i = _
    rw [si_o (by omega)]
    exact a2 i hi
  · show am_si s 3262 (48 + j) _ 3262 (48 + q) = _
    by_cases e : q = j
    · rw [e, si_at]; rfl
    · rw [si_o (by omega)]
      exact a3 q (by omega) hq2
/-- the state after a text's fault, and after a text that stands -/
def sxF (s : Sx) (k q : Int) : Sx := (xG s, xB s, xN s, xH s, xF s, xI s, xJ s, (0, (xT s).2.1, k, q), xR s)
def sxT (s : Sx) (G : Og) : Sx := (G, xB s, min (xN s + 1) 10, pushH (xN s) (xH s) (xG s), xF s, xI s, xJ s, (0, (xT s).2.1, 0, -1), xR s)
theorem tIT {k q : Int} {b : Nat → Nat} {n : Nat} (h : IT (n, b, k, q)) (k' q' : Int) : IT (0, b, k', q') := ⟨Nat.zero_le _, h.2⟩
theorem text9 (h : MS m s) (hI : IS s) : ∃ y m', m_X9_text m = some (y, m') ∧ (∀ b, b < 3261 → m' b = m b) ∧ ((∃ k q : Nat, txt (xT s) = Sum.inl (k, q) ∧ y = am_i (-1) ∧ MS m' (sxF s k q)) ∨ (∃ g W, txt (xT s) = Sum.inr (g, W) ∧ y = am_i (cn (fun k => thr (gU g) (k : Int)) 24 : Nat) ∧ MS m' (sxT s (txG g W)))) := by
  have hT := hI.2.2.2.2.1
  have hTM := h.2.2.2.2.1
  -- the row put aside, a new one
  have n1 : ∀ b, b ≠ 3263 → am_sc m 3262 0 3263 0 15517 b = m b := fun b hb => sc_ne hb
  have k1 : ∀ i, i < 15517 → am_sc m 3262 0 3263 0 15517 3263 i = m 3262 i := fun i hi => sc_at hi
  unfold m_X9_text
  rw [l_X9_text_2, l_X9_text_29]
  generalize am_sc m 3262 0 3263 0 15517 = m1 at n1 k1 ⊢
  rw [show am_ib (am_i 0) 15517 = true by decide, cond_true, am_letF, show am_ib (am_i 24) 15517 = true by decide, cond_true, am_letF, am_letF, am_letF, am_letF, am_letF, x0, x24]
  have hO : OM (am_si (am_si (tz0 m1 15456) 3262 0 (am_i 1)) 3262 24 (am_i (-1))) 3262 0 tg0 := tg0_OM rfl
  have n2 : ∀ b, b ≠ 3262 → am_si (am_si (tz0 m1 15456) 3262 0 (am_i 1)) 3262 24 (am_i (-1)) b = m1 b := fun b hb => by
    rw [si_ne hb, si_ne hb]
    funext i
    exact if_neg (fun e => hb e.1)
  have k2 : ∀ i, 15456 ≤ i → am_si (am_si (tz0 m1 15456) 3262 0 (am_i 1)) 3262 24 (am_i (-1)) 3262 i = m1 3262 i := fun i hi => by
    rw [si_o (by omega), si_o (by omega)]
    exact if_neg (fun e => by omega)
  generalize am_si (am_si (tz0 m1 15456) 3262 0 (am_i 1)) 3262 24 (am_i (-1)) = m2 at hO n2 k2 ⊢
  have hO3 : OM (am_si (am_si (am_si (am_si m2 3261 13 (am_i 0)) 3261 11 (am_i 0)) 3261 12 (am_i (-1))) 3261 10 (am_i 0)) 3262 0 tg0 := hO.kept (fun i _ => by rw [si_ne (by decide), si_ne (by decide), si_ne (by decide), si_ne (by decide)])
  have f3 : FX m2 (am_si (am_si (am_si (am_si m2 3261 13 (am_i 0)) 3261 11 (am_i 0)) 3261 12 (am_i (-1))) 3261 10 (am_i 0)) := ((((FX.refl m2).si ⟨by decide, by decide⟩).si ⟨by decide, by decide⟩).si ⟨by decide, by decide⟩).si ⟨by decide, by decide⟩
  have e9 : ∀ b, b ≠ 3262 → b ≠ 3263 → m2 b = m b := fun b h1 h2 => (n2 b h1).trans (n1 b h2)
  have hS : TR (am_si (am_si (am_si (am_si m2 3261 13 (am_i 0)) 3261 11 (am_i 0)) 3261 12 (am_i (-1))) 3261 10 (am_i 0)) (xT s) 0 0 (-1) 0 := by
    refine ⟨?_, fun i hi => ?_, ?_, ?_, ?_, ?_, Nat.zero_le _⟩
    · rw [si_o (by decide), si_o (by decide), si_o (by decide), si_o (by decide), e9 3261 (by decide) (by decide)]; exact hTM.1
    · rw [si_ne (by decide), si_ne (by decide), si_ne (by decide), si_ne (by decide), e9 3268 (by decide) (by decide)]; exact hTM.2.1 i hi (by have := hT.1; omega)
    · rw [si_o (by decide), si_o (by decide), si_at]
    · rw [si_o (by decide), si_at]
    · rw [si_o (by decide), si_o (by decide), si_o (by decide), si_at]; rfl
    · rw [si_at]; rfl
  generalize am_si (am_si (am_si (am_si m2 3261 13 (am_i 0)) 3261 11 (am_i 0)) 3261 12 (am_i (-1))) 3261 10 (am_i 0) = m3 at hO3 f3 hS ⊢
  obtain ⟨m4, e4, f4, R⟩ := s_X9_reads hT hS hO3
  have g4 : ∀ b, b ≠ 3261 → b ≠ 3262 → b ≠ 3263 → m4 b = m b := fun b h1 h2 h3 => by
    rw [f4.1 b h1 h2, f3.1 b h1, e9 b h2 h3]
  have g41 : ∀ j, j < 10 ∨ 14 < j → m4 3261 j = m 3261 j := fun j hj => by
    rw [f4.2.1 j hj, f3.2 j hj, e9 3261 (by decide) (by decide)]
  have g42 : ∀ i, 15456 ≤ i → m4 3262 i = m 3262 i := fun i hi => by
    rw [f4.2.2 i hi, f3.1 3262 (by decide), k2 i hi, n1 3262 (by decide)]
  have g43 : ∀ i, i < 15517 → m4 3263 i = m 3262 i := fun i hi => by
    rw [f4.1 3263 (by decide) (by decide), f3.1 3263 (by decide), n2 3263 (by decide), k1 i hi]
  rw [e4, Option.bind_some, am_letF]
  have n5 : ∀ b, b ≠ 3261 → am_si m4 3261 9 (am_i 0) b = m4 b := fun b hb => si_ne hb
  have k5 : ∀ j, j ≠ 9 → am_si m4 3261 9 (am_i 0) 3261 j = m4 3261 j := fun j hj => si_o hj
  have k59 : am_si m4 3261 9 (am_i 0) 3261 9 = am_i 0 := si_at
  generalize am_si m4 3261 9 (am_i 0) = m5 at n5 k5 k59 ⊢
  rcases R with ⟨k, q, p', r1, r2⟩ | ⟨g, W, p', r1, r2, r3, r4, r5⟩
  · have w13 : ¬ m5 3261 13 = 0 := by rw [k5 13 (by decide), r2.2.2.2.2.1]; decide
    rw [if_neg w13, s_X9_comesBack, Option.bind_some]
    have hf : ∀ b, b ≠ 3261 → b ≠ 3263 → am_sc m5 3263 0 3262 0 15517 b = m b := fun b h1 h3 => by
      by_cases h2 : b = 3262
      · rw [h2]
        funext i
        rcases Nat.lt_or_ge i 15517 with hi | hi
        · rw [sc_at hi, n5 3263 (by decide)]
          exact g43 i hi
        · rw [m_sc, if_neg (by omega), n5 3262 (by decide)]
          exact g42 i (by omega)
      · rw [sc_ne h2, n5 b h1]
        exact g4 b h1 h2 h3
    have h61 : am_sc m5 3263 0 3262 0 15517 3261 = m5 3261 := sc_ne (by decide)
    refine ⟨_, _, rfl, fun b hb => hf b (by omega) (by omega), Or.inl ⟨k, q, r1, rfl, h.updT ?_ ?_ (fun b hb => hf b (by omega) (by omega)) ?_ ?_⟩⟩
    · refine ⟨?_, fun i hi => absurd hi (Nat.not_lt_zero i), ?_, ?_⟩
      · rw [h61]; exact k59
      · rw [h61, k5 11 (by decide)]; exact r2.2.2.1
      · rw [h61, k5 12 (by decide)]; exact r2.2.2.2.1
    · have hR := h.2.2.2.2.2
      unfold RPM
      rw [h61, k5 18 (by decide), g41 18 (by decide), hf 3271 (by decide) (by decide)]
      exact hR
    · rw [h61, k5 4 (by decide), g41 4 (by decide)]
    · rw [h61, k5 5 (by decide), g41 5 (by decide)]
  · have w13 : m5 3261 13 = 0 := by rw [k5 13 (by decide), r2.2.2.2.2.1]; decide
    have hO5 : OM m5 3262 0 (ogO g W) := r3.kept (fun i _ => by rw [n5 3262 (by decide)])
    obtain ⟨m6, f6, f6', hO6, e6⟩ := l_X9_text_110 (g := ogO g W) (k := fun u26 m27 => (m_X9_keepsAside m27).bind fun q28 => some (u26, q28)) hO5
    have hP6 : PM m6 (xN s) (xH s) := h.2.2.1.kept (by rw [f6 3261 (by decide), k5 4 (by decide), g41 4 (by decide)]) (by rw [f6 3265 (by decide), n5 3265 (by decide), g4 3265 (by decide) (by decide) (by decide)])
    have hA6 : OM m6 3263 0 (xG s) := h.1.copy (fun i hi => by rw [f6 3263 (by decide), n5 3263 (by decide), g43 _ (by omega)])
    obtain ⟨m7, e7, f7, f7', hP7⟩ := s_X9_keepsAside hP6 hI.2.2.1.1 hA6
    rw [if_pos w13, e6, e7, Option.bind_some]
    have hf : ∀ b, b ≠ 3261 → b ≠ 3262 → b ≠ 3263 → b ≠ 3265 → m7 b = m b := fun b h1 h2 h3 h4 => by
      rw [f7 b (fun z => by unfold F5 at z; omega), f6 b h2, n5 b h1, g4 b h1 h2 h3]
    have h61 : ∀ j, j ≠ 4 → j ≠ 9 → j < 10 ∨ 14 < j → m7 3261 j = m 3261 j := fun j h1 h2 h3 => by
      rw [f7' j h1, f6 3261 (by decide), k5 j h2, g41 j h3]
    have h62 : m7 3262 = m6 3262 := f7 3262 (fun z => by unfold F5 at z; omega)
    refine ⟨_, _, rfl, fun b hb => hf b (by omega) (by omega) (by omega) (by omega), Or.inr ⟨g, W, r1, rfl, hO6.kept (fun i _ => by rw [h62]), h.2.1.copy (fun i i1 i2 => ?_), hP7, ⟨by rw [h61 5 (by decide) (by decide) (by decide)]; exact h.2.2.2.1.1, fun hx => ⟨(h.2.2.2.1.2 hx).1.kept (fun i _ => by rw [hf 3264 (by decide) (by decide) (by decide) (by decide)]), (h.2.2.2.1.2 hx).2.copy (fun i _ _ => by rw [hf 3264 (by decide) (by decide) (by decide) (by decide)])⟩⟩, ⟨?_, fun i hi => absurd hi (Nat.not_lt_zero i), ?_, ?_⟩, ?_⟩⟩
    · rw [h62, f6' i (by omega), n5 3262 (by decide), g42 i i1]
    · rw [f7' 9 (by decide), f6 3261 (by decide)]; exact k59
    · rw [f7' 11 (by decide), f6 3261 (by decide), k5 11 (by decide)]; exact r2.2.2.1
    · rw [f7' 12 (by decide), f6 3261 (by decide), k5 12 (by decide)]; exact r2.2.2.2.1
    · have hR := h.2.2.2.2.2
      show RPM m7 (xR s)
      unfold RPM
      rw [h61 18 (by decide) (by decide) (by decide), hf 3271 (by decide) (by decide) (by decide) (by decide)]
      exact hR
theorem q_text (h : GS m r s) : ∃ y m1 m2, m_X8_text m r = some (y, m1) ∧ m_X9_text m1 = some (y, m2) ∧ Good m2 r := by
  have hT := h.2.2.2.2.2.2.2.1
  have hTC := h.2.1.2.2.2.2.1
  obtain ⟨y, m1, e1, f1, v1, R⟩ := s_X7_readInto (m := m) (r := r) hT h.1 hTC.1 (fun i hi => hTC.2.1 i hi (by have := hT.1; omega))
  have hM1 : MS m1 s := h.2.2.1.kept (fun b hb _ => f1 b (fun z => by unfold tFr at z; omega))
  have nf : ∀ b, b ≠ 2984 → ¬ (251 < b ∧ b < 498) → m1 b = m b := fun b h1 h2 => f1 b (fun z => by unfold tFr at z; omega)
  rcases R with ⟨k, q, r1, ry, r2, r3⟩ | ⟨g, W, r1, r2, r3, ry, r4, r5, r6⟩
  · obtain ⟨y9, m2, e2, f2, R2⟩ := text9 hM1 h.2.2.2
    rcases R2 with ⟨k', q', t1, t2, t3⟩ | ⟨g, W, t1, t2, t3⟩
    · have ekq := r1.symm.trans t1
      cases ekq
      have hC : CS m1 r (sxF s k q) := h.2.1.updT h.2.2.2 h.1 ⟨v1, fun i hi => absurd hi (Nat.not_lt_zero i), r2, r3⟩ (h.2.1.2.2.2.2.2.kept (fun b b1 b2 => nf b (by omega) (by omega))) (fun b b1 b2 b3 b4 b5 b6 => nf b b2 (fun z => b6 (by unfold Scr; omega)))
      refine ⟨am_i (-1), m1, m2, ?_, ?_, GS.both (s := s) h.1 hC t3 ⟨h.2.2.2.1, h.2.2.2.2.1, h.2.2.2.2.2.1, h.2.2.2.2.2.2.1, tIT hT k q, h.2.2.2.2.2.2.2.2⟩ f2⟩
      · unfold m_X8_text
        rw [e1, Option.bind_some, ry, if_neg (fun z => z rfl)]
      · rw [e2, t2]
    · have ekq := r1.symm.trans t1
      cases ekq
  · have hG := txG_IG r2 r3
    have hC : CS m1 r (sxF s 0 (-1)) := h.2.1.updT h.2.2.2 h.1 ⟨v1, fun i hi => absurd hi (Nat.not_lt_zero i), r5, r6⟩ (h.2.1.2.2.2.2.2.kept (fun b b1 b2 => nf b (by omega) (by omega))) (fun b b1 b2 b3 b4 b5 b6 => nf b b2 (fun z => b6 (by unfold Scr; omega)))
    obtain ⟨m2, e2, f2, hP2⟩ := s_X2_keep hC.2.2.1 h.2.2.2.2.2.1.1 h.1 hC.1 h.ig
    have hO2 : OC m2 r 251 (txG g W) := r4.kept h.1 og251 (fun b b1 b2 => f2 b (by omega)) rfl
    obtain ⟨m3, e3, f3, hO3⟩ := s_X1_takeOver og4 og251 (by decide) h.1 hO2 hG
    have hC3 : CS m3 r (sxT s (txG g W)) := hC.upd h.1 hO3 (hC.2.1.kept (fun b b1 b2 => by rw [f3 b (by omega), f2 b (by omega)])) (hP2.kept h.1 (by omega) (fun b b1 b2 => f3 b (by omega)) (fun _ _ => rfl)) (fun b hb => by rw [f3 b (by omega), f2 b (by omega)]) rfl
    have hM3 : MS m3 s := hM1.kept (fun b hb _ => by rw [f3 b (by omega), f2 b (by omega)])
    have hn : am_i (cn (fun k => thr (gU g) (k : Int)) 24 : Nat) ≠ am_i (-1) := by
      have := cn_le (fun k => thr (gU g) (k : Int)) 24
      rw [Ne, i_eq (by omega) (by omega) (by omega) (by omega)]
      omega
    obtain ⟨y9, m4, e4, f4, R4⟩ := text9 hM3 h.2.2.2
    rcases R4 with ⟨k', q', t1, t2, t3⟩ | ⟨g', W', t1, t2, t3⟩
    · have ekq := r1.symm.trans t1
      cases ekq
    · have ekq := r1.symm.trans t1
      cases ekq
      have hI4 := h.2.2.2.push hG h.2.2.2.2.1
      refine ⟨y, m3, m4, ?_, ?_, GS.both (s := s) h.1 hC3 t3 ⟨hI4.1, hI4.2.1, hI4.2.2.1, hI4.2.2.2.1, tIT hT 0 (-1), hI4.2.2.2.2.2⟩ f4⟩
      · unfold m_X8_text
        rw [e1, Option.bind_some, ry, if_pos hn, e2, Option.bind_some, e3, Option.bind_some]
      · rw [e4, t2, ry]
end T9
