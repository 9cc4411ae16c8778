/-! ===== mathematics: text, the class's whole reading ===== -/
/-- a new organisation, the head alone -/
def tg0 : Og := ((fun k => if k = 0 then -1 else -2), (fun _ => 0), (fun _ => 0), (fun _ _ => 0), (fun _ _ => 0), (fun _ => 0), (fun _ _ _ => 0))
/-- what a text tells: a fault, or the units and their numbers -/
def txt (T : Tp) : Sum (Nat × Nat) (Og × Wn) := if tdg (tsg T (tsk T 0)) = false then Sum.inl (1, tsk T 0) else if tav T (tsk T 0) (tnl T (tsk T 0)) ≠ 0 then Sum.inl (2, tsk T 0) else match tfl T 402 (tsk T 0 + tnl T (tsk T 0), -1, 0, tg0) with
  | Sum.inl f => Sum.inl f
  | Sum.inr v => match tes T v.2 402 v.1 (gO v.2) with
    | Sum.inl f => Sum.inl f
    | Sum.inr w => Sum.inr (v.2, w.2)
def stT (g : Og) (k : Nat) : Nat := b1 (thr (gU g) (k : Int))
def txG (g : Og) (W : Wn) : Og := ogS (ogO g W) (stT g)
theorem tg0_IG : IG tg0 := by
  refine ⟨⟨rfl, rfl, fun u => ?_, fun _ => Nat.zero_le _, fun u hu h0 => Or.inl (if_neg h0)⟩, fun _ _ => Nat.zero_le _, fun _ _ => Nat.zero_le _, fun _ => Nat.zero_le _, fun _ => Nat.zero_le _, fun _ _ _ => Nat.zero_le _, fun _ _ _ => ⟨rfl, rfl, fun _ => rfl, fun _ => rfl⟩, fun u _ _ _ c => ?_⟩
  · show -2 ≤ (if u = 0 then (-1 : Int) else -2) ∧ (if u = 0 then (-1 : Int) else -2) < 24
    split <;> omega
  · show 0 = br (gU tg0) (gD tg0) (fun _ _ => 0) u c
    refine (su_0 (fun k _ => ?_)).symm
    unfold brP
    exact ite_self _
theorem txG_IG {g : Og} {W : Wn} (hI : IG g) (hE : EI g W) : IG (txG g W) := by
  refine hI.gen (st := stT g) (fun u => b1_le _) hE.1 (fun u hu hu2 => ⟨?_, hE.2 u hu hu2⟩) (fun u hu hu2 h0 => ?_)
  · show b1 (thr (gU g) (u : Int)) = 0
    rw [thr_f hu2]; rfl
  · have h0 : b1 (thr (gU g) (u : Int)) = 0 := h0
    rw [thr_t hu hu2] at h0
    cases h0
section T8
variable {m : am_m} {r : am_rr} {T : Tp}
def saI (m : am_m) (j : Nat) (s : am_m) : Prop := Fr (fun b => 251 < b ∧ b < 498) m s ∧ ∀ k, k < j → k < 24 → s (aU 251) k = am_i (-2) ∧ s (aS 251) k = am_i 0 ∧ s (aC 251) k = am_i 0 ∧ ∀ c, c < 64 → s (aW 251 k) c = am_i 0 ∧ s (aX 251 k) c = am_i 0
theorem s_X1_startAnew : ∃ m', m_X1_startAnew m 251 = some m' ∧ Fr (fun b => 251 < b ∧ b < 498) m m' ∧ OC m' r 251 tg0 := by
  unfold m_X1_startAnew
  refine Exists.elim (lo_inv (fun n j (s : am_m) => m_X1_startAnew_2 251 (fun m3 => bif am_ib (am_i 0) 24 then am_let (am_si m3 (aU 251) (am_ix (am_i 0)) (am_i (-1))) (fun m5 => some m5) else none) n (am_i (j : Int)) s) (saI m) 0 24 (fun m3 => bif am_ib (am_i 0) 24 then am_let (am_si m3 (aU 251) (am_ix (am_i 0)) (am_i (-1))) (fun m5 => some m5) else none) (n := am_F) (s0 := m) ⟨Fr.refl _ _, fun k hk => absurd hk (Nat.not_lt_zero k)⟩ (by omega) (am_Fv (by omega)) (fun n j s _ hj A => ?_) (fun n s A => rfl)) (fun s L => ?_)
  · obtain ⟨a1, a2⟩ := A
    show ∃ s' : am_m, m_X1_startAnew_2 _ _ (n + 1) _ s = m_X1_startAnew_2 _ _ n _ s' ∧ _
    rw [m_X1_startAnew_2, if_neg (by rw [i_le (by omega) (by omega) (by omega) (by omega)]; omega)]
    have el : m_X1_leave s 251 (am_i (j : Int)) = some (rwS (rwS (am_si (am_si (am_si s (aU 251) j (am_i (-2))) (aS 251) j (am_i 0)) (aC 251) j (am_i 0)) (aW 251 j) (fun _ => am_i 0)) (aX 251 j) (fun _ => am_i 0)) := by
      unfold m_X1_leave
      rw [i_ibt (by omega) (by omega) (by omega), i_ixn (by omega)]
      simp only [cond_true, am_letF]
      rw [s_fill, Option.bind_some, s_fill, Option.bind_some]
    rw [el, Option.bind_some, nj]
    refine ⟨_, rfl, fun b hb => ?_, fun k hk hk2 => ?_⟩
    · rw [rwS_ne (fun z => hb ⟨by unfold aX at z; omega, by unfold aX at z; omega⟩), rwS_ne (fun z => hb ⟨by unfold aW at z; omega, by unfold aW at z; omega⟩), si_ne (fun z => hb ⟨by unfold aC at z; omega, by unfold aC at z; omega⟩), si_ne (fun z => hb ⟨by unfold aS at z; omega, by unfold aS at z; omega⟩), si_ne (fun z => hb ⟨by unfold aU at z; omega, by unfold aU at z; omega⟩)]
      exact a1 b hb
    · have n1 : aU 251 ≠ aX 251 j := by unfold aU aX; omega
      have n2 : aU 251 ≠ aW 251 j := by unfold aU aW; omega
      have n3 : aS 251 ≠ aX 251 j := by unfold aS aX; omega
      have n4 : aS 251 ≠ aW 251 j := by unfold aS aW; omega
      have n5 : aC 251 ≠ aX 251 j := by unfold aC aX; omega
      have n6 : aC 251 ≠ aW 251 j := by unfold aC aW; omega
      refine ⟨?_, ?_, ?_, fun c hc => ⟨?_, ?_⟩⟩
      · rw [rwS_ne n1, rwS_ne n2, si_ne (show aU 251 ≠ aC 251 by decide), si_ne (show aU 251 ≠ aS 251 by decide), m_si]
        by_cases e : k = j
        · rw [if_pos ⟨rfl, e⟩]
        · rw [if_neg (fun z => e z.2)]
          exact (a2 k (by omega) hk2).1
      · rw [rwS_ne n3, rwS_ne n4, si_ne (show aS 251 ≠ aC 251 by decide), m_si]
        by_cases e : k = j
        · rw [if_pos ⟨rfl, e⟩]
        · rw [if_neg (fun z => e z.2), si_ne (show aS 251 ≠ aU 251 by decide)]
          exact (a2 k (by omega) hk2).2.1
      · rw [rwS_ne n5, rwS_ne n6, m_si]
        by_cases e : k = j
        · rw [if_pos ⟨rfl, e⟩]
        · rw [if_neg (fun z => e z.2), si_ne (show aC 251 ≠ aS 251 by decide), si_ne (show aC 251 ≠ aU 251 by decide)]
          exact (a2 k (by omega) hk2).2.2.1
      · rw [rwS_ne (by unfold aW aX; omega)]
        by_cases e : k = j
        · rw [e, rwS_at hc]
        · rw [rwS_ne (by unfold aW; omega), si_ne (by unfold aW aC; omega), si_ne (by unfold aW aS; omega), si_ne (by unfold aW aU; omega)]
          exact ((a2 k (by omega) hk2).2.2.2 c hc).1
      · by_cases e : k = j
        · rw [e, rwS_at hc]
        · rw [rwS_ne (by unfold aX; omega), rwS_ne (by unfold aW aX; omega), si_ne (by unfold aX aC; omega), si_ne (by unfold aX aS; omega), si_ne (by unfold aX aU; omega)]
          exact ((a2 k (by omega) hk2).2.2.2 c hc).2
  · obtain ⟨⟨a1, a2⟩, e⟩ := L
    rw [i_ibt (by omega) (by omega) (by omega), cond_true, am_letF, x0] at e
    refine ⟨_, e, a1.si2 ⟨by decide, by decide⟩, fun k hk => ?_, fun k hk => ?_, fun k hk c hc => ?_, fun k hk c hc => ?_, fun k hk => ?_, fun k hk v hv => absurd hv (Nat.not_lt_zero v)⟩
    · rw [m_si]
      show _ = am_i (if k = 0 then (-1 : Int) else -2)
      by_cases e : k = 0
      · rw [if_pos ⟨rfl, e⟩, if_pos e]
      · rw [if_neg (fun z => e z.2), if_neg e]
        exact (a2 k hk hk).1
    · rw [si_ne (by decide)]; exact (a2 k hk hk).2.1
    · rw [si_ne (by unfold aW aU; omega)]; exact ((a2 k hk hk).2.2.2 c hc).1
    · rw [si_ne (by unfold aX aU; omega)]; exact ((a2 k hk hk).2.2.2 c hc).2
    · rw [si_ne (by decide)]; exact (a2 k hk hk).2.2.1
theorem s_X7_readHead (hT : IT T) (hS : TS m T 0 0 (-1)) : ∃ y m', m_X7_readHead m = some (y, m') ∧ Fr (fun b => b = 2984) m m' ∧ ((y = am_i 0 ∧ ∃ k q p, txt T = Sum.inl (k, q) ∧ TS m' T p (k : Nat) (q : Nat)) ∨ (y = am_i 1 ∧ tdg (tsg T (tsk T 0)) = true ∧ tav T (tsk T 0) (tnl T (tsk T 0)) = 0 ∧ TS m' T (tsk T 0 + tnl T (tsk T 0)) 0 (-1))) := by
  have h4 := hT.1
  have b1t : ¬ ((am_i (b1 true : Nat)) = 0) := by decide
  have b1f : (am_i (b1 false : Nat)) = 0 := by decide
  obtain ⟨m1, e1, f1, A, B⟩ := s_X7_readNumber hT hS
  unfold m_X7_readHead
  rw [e1, Option.bind_some]
  dsimp only
  cases c : tdg (tsg T (tsk T 0))
  · rw [if_neg (fun z => z b1f)]
    exact ⟨_, m1, rfl, f1, Or.inl ⟨rfl, 1, tsk T 0, tsk T 0, by unfold txt; rw [if_pos c], A c⟩⟩
  · obtain ⟨B1, B2, B3⟩ := B c
    have cl := tcv_le T (tsk T 0) (tnl T (tsk T 0))
    have cv := tcv_av (T := T) (tsk T 0) (tnl T (tsk T 0))
    have cn : ¬ tdg (tsg T (tsk T 0)) = false := by rw [c]; decide
    rw [if_pos b1t]
    by_cases c2 : tav T (tsk T 0) (tnl T (tsk T 0)) = 0
    · rw [if_pos (by rw [B2, i_zero]; exact congrArg am_i (by omega))]
      exact ⟨_, m1, rfl, f1, Or.inr ⟨rfl, rfl, c2, B1⟩⟩
    · obtain ⟨m2, e2, f2, h2⟩ := s_X7_refuse (x := 2) (y := tsk T 0) B1
      rw [if_neg (by rw [B2, i_zero, i_eq (by omega) (by omega) (by omega) (by omega)]; omega), B3, e2, Option.bind_some, if_pos (show am_i 0 = 0 by decide)]
      exact ⟨_, m2, rfl, f1.trans f2, Or.inl ⟨rfl, 2, tsk T 0, _, by unfold txt; rw [if_neg cn, if_pos c2], h2⟩⟩
theorem l_X7_readInto_61 {g : Og} {k : am_m → Option (Int32 × am_m)} (hR : RI r) (hO : OC m r 251 g) (hI : Tr (gU g) (gD g)) : ∃ m', Fr (fun b => b = aS 251) m m' ∧ OC m' r 251 (ogS g (stT g)) ∧ m_X7_readInto_61 251 k am_F (am_i 0) m = k m' := by
  refine Exists.elim (lo_inv (fun n j (s : am_m) => m_X7_readInto_61 251 k n (am_i (j : Int)) s) (fun j s => Fr (fun b => b = aS 251) m s ∧ ∀ q, q < j → q < 24 → s (aS 251) q = am_i (stT g q)) 0 24 k (n := am_F) (s0 := m) ⟨Fr.refl _ _, fun q hq => absurd hq (Nat.not_lt_zero q)⟩ (by omega) (am_Fv (by omega)) (fun n j s _ hj A => ?_) (fun n s A => rfl)) (fun s L => ⟨s, L.1.1, hO.st hR og251 L.1.1 (fun u hu => L.1.2 u hu hu), L.2⟩)
  obtain ⟨a1, a2⟩ := A
  have tc : TC s 251 (gU g) := fun u hu => by rw [a1 _ (by unfold aU aS; omega)]; exact hO.1 u hu
  have b01 : am_b01 (am_i (b1 (thr (gU g) (j : Int)) : Nat)) = true := by
    cases thr (gU g) (j : Int) <;> decide
  show ∃ s' : am_m, m_X7_readInto_61 _ _ (n + 1) _ s = m_X7_readInto_61 _ _ n _ s' ∧ _
  rw [m_X7_readInto_61, if_neg (by rw [i_le (by omega) (by omega) (by omega) (by omega)]; omega), s_X1_isThere tc hI (by omega) (by omega), Option.bind_some, i_ibt (by omega) (by omega) (by omega), cond_true, b01, cond_true, am_letF, i_ixn (by omega), nj]
  refine ⟨_, rfl, a1.si2 rfl, fun q hq hq2 => ?_⟩
  by_cases e : q = j
  · rw [e, si_at]; rfl
  · rw [si_o e]
    exact a2 q (by omega) hq2
/-- the class's organisation and tape after a text -/
theorem s_X7_readInto (hT : IT T) (hR : RI r) (h1 : m 2984 1 = am_i T.1) (h2 : ∀ i, i < T.1 → m 2985 i = am_i (T.2.1 i)) : ∃ y m', m_X7_readInto m 251 = some (y, m') ∧ Fr tFr m m' ∧ m' 2984 1 = am_i 0 ∧ ((∃ k q : Nat, txt T = Sum.inl (k, q) ∧ y = am_i (-1) ∧ m' 2984 2 = am_i k ∧ m' 2984 3 = am_i q) ∨ (∃ g W, txt T = Sum.inr (g, W) ∧ IG g ∧ EI g W ∧ y = am_i (cn (fun k => thr (gU g) (k : Int)) 24 : Nat) ∧ OC m' r 251 (txG g W) ∧ m' 2984 2 = am_i 0 ∧ m' 2984 3 = am_i (-1))) := by
  have h4 := hT.1
  have ft : ∀ {m1 m2 : am_m}, Fr (fun b => b = 2984) m1 m2 → Fr tFr m1 m2 := fun f => f.mono (fun b hb => Or.inl hb)
  have hS : TS (am_si (am_si (am_si m 2984 2 (am_i 0)) 2984 3 (am_i (-1))) 2984 4 (am_i 0)) T 0 0 (-1) := ⟨by rw [si_o (by decide), si_o (by decide), si_o (by decide)]; exact h1, fun i hi => by rw [si_ne (by decide), si_ne (by decide), si_ne (by decide)]; exact h2 i hi, by rw [si_o (by decide), si_o (by decide), si_at], by rw [si_o (by decide), si_at], by rw [si_at]; rfl, by omega⟩
  have f0 : Fr tFr m (am_si (am_si (am_si m 2984 2 (am_i 0)) 2984 3 (am_i (-1))) 2984 4 (am_i 0)) := (((Fr.refl _ _).si2 (Or.inl rfl)).si2 (Or.inl rfl)).si2 (Or.inl rfl)
  unfold m_X7_readInto
  rw [am_letF, am_letF, am_letF]
  generalize am_si (am_si (am_si m 2984 2 (am_i 0)) 2984 3 (am_i (-1))) 2984 4 (am_i 0) = m1 at hS f0 ⊢
  obtain ⟨m2, e2, f2, hO2⟩ := s_X1_startAnew (m := m1) (r := r)
  have hS2 : TS m2 T 0 0 (-1) := hS.kept (f2 2984 (by decide)) (f2 2985 (by decide))
  have F2 : Fr tFr m m2 := f0.trans (f2.mono (fun b hb => Or.inr hb))
  rw [e2, Option.bind_some]
  obtain ⟨y3, m3, e3, f3, R3⟩ := s_X7_readHead hT hS2
  have hO3 := hO2.t84 hR f3
  have F3 := F2.trans (ft f3)
  rw [e3, Option.bind_some]
  dsimp only
  have nz : ¬ ¬ am_i 0 = 0 := by decide
  have no : ¬ am_i 1 = 0 := by decide
  have fail : ∀ {mm : am_m} {k q p : Nat}, TS mm T p k q → Fr tFr m mm → txt T = Sum.inl (k, q) → ∃ y m', (some (am_i (-1), am_si mm 2984 1 (am_i 0)) : Option (Int32 × am_m)) = some (y, m') ∧ Fr tFr m m' ∧ m' 2984 1 = am_i 0 ∧ ((∃ k q : Nat, txt T = Sum.inl (k, q) ∧ y = am_i (-1) ∧ m' 2984 2 = am_i k ∧ m' 2984 3 = am_i q) ∨ (∃ g W, txt T = Sum.inr (g, W) ∧ IG g ∧ EI g W ∧ y = am_i (cn (fun k => thr (gU g) (k : Int)) 24 : Nat) ∧ OC m' r 251 (txG g W) ∧ m' 2984 2 = am_i 0 ∧ m' 2984 3 = am_i (-1))) := fun {mm k q p} a1 a2 a3 => ⟨_, _, rfl, a2.si2 (Or.inl rfl), si_at, Or.inl ⟨k, q, a3, rfl, by rw [si_o (by decide)]; exact a1.2.2.1, by rw [si_o (by decide)]; exact a1.2.2.2.1⟩⟩
  rcases R3 with ⟨rfl, k, q, p, r1, r2⟩ | ⟨rfl, c1, c2, hS3⟩
  · rw [if_pos (show am_i 0 = 0 by decide), am_letF, if_neg nz]
    exact fail r2 F3 r1
  · rw [if_neg no]
    have hp3 := hS3.2.2.2.2.2
    unfold m_X7_readUnits
    obtain ⟨y4, m4, e4, f4, R4⟩ := l_X7_readUnits_7 (k := fun m60 => some ((am_i 0), m60)) hT hR 401 am_F (tsk T 0 + tnl T (tsk T 0)) (-1) 0 tg0 m3 0 (by omega) (by unfold am_F; omega) (by omega) hS3 hO3 tg0_IG (Or.inl rfl) (Or.inr ⟨0, rfl, by decide, by show (-1 : Int) ≠ -2; decide⟩)
    have F4 := F3.trans f4
    have et : txt T = match tfl T 402 (tsk T 0 + tnl T (tsk T 0), -1, 0, tg0) with
      | Sum.inl f => Sum.inl f
      | Sum.inr v => match tes T v.2 402 v.1 (gO v.2) with
        | Sum.inl f => Sum.inl f
        | Sum.inr w => Sum.inr (v.2, w.2) := by
      unfold txt
      rw [if_neg (by rw [c1]; decide), if_neg (fun z => z c2)]
    rw [show m_X7_readUnits_7 251 (fun m60 => some ((am_i 0), m60)) am_F (am_i (-1)) (am_i 0) (am_i 0) m3 = _ from e4, Option.bind_some]
    dsimp only
    rcases R4 with ⟨k, q, p, r1, rfl, r3⟩ | ⟨q, g, r1, rfl, r3, r4, r5⟩
    · have r1 : tfl T 402 (tsk T 0 + tnl T (tsk T 0), -1, 0, tg0) = Sum.inl (k, q) := r1
      rw [if_pos (show am_i 0 = 0 by decide), am_letF, if_neg nz]
      exact fail r3 F4 (by rw [et, r1])
    · have r1 : tfl T 402 (tsk T 0 + tnl T (tsk T 0), -1, 0, tg0) = Sum.inr (q, g) := r1
      have hE : EI g (gO g) := ⟨r5.2.1, fun k hk hk2 => (r5.2.2.2.2.2.2.1 k hk hk2).2.2.1⟩
      have r4 : OC m4 r 251 (ogO g (gO g)) := r4
      have hpq := r3.2.2.2.2.2
      rw [if_neg no]
      unfold m_X7_readEntries
      obtain ⟨y5, m5, e5, f5, R5⟩ := l_X7_readEntries_2 (k := fun m10 => some ((am_i 0), m10)) hT hR r5 (T.1 - q) am_F q 0 (gO g) m4 rfl (by unfold am_F; omega) (by omega) r3 r4 hE 402 (by omega)
      have F5' := F4.trans f5
      rw [show m_X7_readEntries_2 251 (fun m10 => some ((am_i 0), m10)) am_F (am_i 0) m4 = _ from e5, Option.bind_some]
      dsimp only
      rcases R5 with ⟨k, q2, p, s1, rfl, s3⟩ | ⟨q2, W, s1, rfl, s3, s4, s5, s6⟩
      · rw [if_pos (show am_i 0 = 0 by decide), am_letF, if_neg nz]
        exact fail s3 F5' (by rw [et, r1]; dsimp only; rw [s1])
      · rw [if_neg no, am_letF, if_pos no]
        have hO6 : OC (am_si m5 2984 1 (am_i 0)) r 251 (ogO g W) := s4.t84 hR ((Fr.refl (fun b => b = 2984) m5).si2 rfl)
        obtain ⟨m6, f6, hO7, e6⟩ := l_X7_readInto_61 (g := ogO g W) (k := fun m33 => (m_X1_thereSet m33 251).bind fun q34 => (m_J6_bitCount_0f7a4 m33 q34).bind fun q35 => some (q35, m33)) hR hO6 r5.1
        rw [e6, s_X1_thereSet hO7.1 r5.1, Option.bind_some, s_bitCounti, Option.bind_some, popi_stL]
        have k6 : m6 2984 = am_si m5 2984 1 (am_i 0) 2984 := f6 2984 (by decide)
        refine ⟨_, m6, rfl, (F5'.si2 (Or.inl rfl)).trans (f6.mono (fun b hb => Or.inr (by unfold aS at hb; omega))), by rw [k6, si_at], Or.inr ⟨g, W, by rw [et, r1]; dsimp only; rw [s1], r5, s5, rfl, hO7, by rw [k6, si_o (by decide)]; exact s3.2.2.1, by rw [k6, si_o (by decide)]; exact s3.2.2.2.1⟩⟩
end T8
