/-! ===== mathematics: runs, the reference's row ===== -/
section RV
variable {m : am_m} {r : am_rr} {s : Sx} {u : Nat}
/-- the reference's row of runs, all below j looked at -/
def lrJ (s : Sx) (r : am_rr) (f : Nat → Nat) (j : Nat) (t : Int32 × am_m) : Prop := t.1 = am_i (rcn f j : Nat) ∧ GS t.2 r s ∧ ∃ E : Nat → Nat, ∀ i, i < rcn f j → runOK f j (rsS f i) (E i) ∧ t.2 3270 (3 * i) = am_i (rsS f i) ∧ t.2 3270 (3 * i + 1) = am_i (E i) ∧ t.2 3270 (3 * i + 2) = am_i (rtt f (rsS f i) (E i))
/-- one more, nothing in it -/
theorem runOK_0 {f : Nat → Nat} {j a e : Nat} (h : runOK f j a e) (hf : f j = 0) : runOK f (j + 1) a e := by
  refine ⟨h.1, by have := h.2.1; omega, h.2.2.1, ?_⟩
  rcases h.2.2.2 with q | q
  · exact Or.inr (by rw [q]; exact hf)
  · exact Or.inr q
theorem runOK_e {f : Nat → Nat} {j a e : Nat} (h : runOK f j a e) (hn : e + 1 ≠ j) : runOK f (j + 1) a e := by
  refine ⟨h.1, by have := h.2.1; omega, h.2.2.1, ?_⟩
  rcases h.2.2.2 with q | q
  · exact absurd q hn
  · exact Or.inr q
/-- the run that goes on -/
theorem runOK_s {f : Nat → Nat} {j a : Nat} (h : runOK f j a (j - 1)) (hj : 0 < j) (hf : 0 < f j) : runOK f (j + 1) a j := by
  refine ⟨by have := h.1; omega, by omega, fun c h1 h2 => ?_, Or.inl rfl⟩
  by_cases e : c = j
  · rw [e]; exact hf
  · exact h.2.2.1 c h1 (by omega)
/-- two runs that end at one place start at one place -/
theorem run_end {f : Nat → Nat} {j a b e : Nat} (h : runOK f j a e) (h2 : runOK f j b e) (ha : rst f a = true) (hb : rst f b = true) : a = b := by
  have a1 := rst_i.mp ha
  have b1' := rst_i.mp hb
  rcases Nat.lt_trichotomy a b with q | q | q
  · have := h.2.2.1 (b - 1) (by omega) (by have := h2.1; omega)
    omega
  · exact q
  · have := h2.2.2.1 (a - 1) (by omega) (by have := h.1; omega)
    omega
theorem l_X9_laysRuns (h : GS m r s) (hu : u < 24) : ∃ m1, m_X9_laysRuns m (am_i u) = some (am_i (rcn (gM (xG s) u) 64 : Nat), m1) ∧ GS m1 r s ∧ ∀ i, i < rcn (gM (xG s) u) 64 → m1 3270 (3 * i) = am_i (rsS (gM (xG s) u) i) ∧ m1 3270 (3 * i + 1) = am_i (ren (gM (xG s) u) (rsS (gM (xG s) u) i)) ∧ m1 3270 (3 * i + 2) = am_i (rtt (gM (xG s) u) (rsS (gM (xG s) u) i) (ren (gM (xG s) u) (rsS (gM (xG s) u) i))) := by
  unfold m_X9_laysRuns
  have fb := h.ig.2.2.1 u
  have hS := h.ig.su u
  refine Exists.elim (lo_inv (fun n j (t : Int32 × am_m) => m_X9_laysRuns_4 (am_i u) (am_i u) (fun u31 m32 => some (u31, m32)) n t.1 (am_i (j : Int)) t.2) (lrJ s r (gM (xG s) u)) 0 64 (fun t => some (t.1, t.2)) (s0 := (am_i 0, m)) (n := am_F) ⟨rfl, h, fun _ => 0, fun i hi => absurd hi (Nat.not_lt_zero _)⟩ (by omega) (am_Fv (by omega)) (fun n j t _ hj a => ?_) (fun n t a => rfl)) (fun t L => ?_)
  · obtain ⟨z2, m0⟩ := t
    obtain ⟨a1, a2, E, a3⟩ := a
    dsimp only at a1 a2 a3
    have e1 := (a2.xm hu).1 j hj
    have hn32 := rcn_32 (f := gM (xG s) u) (j + 1) (by omega)
    have fbj := fb j
    show ∃ s' : Int32 × am_m, m_X9_laysRuns_4 _ _ _ (n + 1) z2 _ m0 = m_X9_laysRuns_4 _ _ _ n s'.1 _ s'.2 ∧ lrJ s r (gM (xG s) u) (j + 1) s'
    have p1 : am_ix (am_i 1608 + am_i 64 * am_i (u : Int) + am_i (j : Int)) = 1608 + 64 * u + j := by rw [i_mul, i_add, i_add, i_ix (by omega) (by omega)]; omega
    have p2 : am_ib (am_i 1608 + am_i 64 * am_i (u : Int) + am_i (j : Int)) 15517 = true := by rw [i_mul, i_add, i_add, i_ibt (by omega) (by omega) (by omega)]
    have ejj : am_i (j : Int) + am_i 1 = am_i ((j + 1 : Nat) : Int) := by rw [i_add]; rfl
    rw [m_X9_laysRuns_4, a1]
    unfold m_X9_sumAt
    rw [if_neg (by rw [i_le (by omega) (by omega) (by omega) (by omega)]; omega), Option.bind_some, p2, cond_true, p1, e1, ejj]
    generalize hf : gM (xG s) u = f at *
    by_cases c0 : f j = 0
    · have er : rst f j = false := Bool.eq_false_iff.mpr (fun z => by have := rst_i.mp z; omega)
      have ec : rcn f (j + 1) = rcn f j := by rw [rcn_s, er]; rfl
      refine ⟨(am_i (rcn f j : Nat), m0), ?_, by show am_i _ = _; rw [ec], a2, E, fun i hi => ?_⟩
      · rw [c0, if_neg (by decide)]
      · rw [ec] at hi
        obtain ⟨q1, q2⟩ := a3 i hi
        exact ⟨runOK_0 q1 c0, q2⟩
    · rw [if_pos (by rw [i_zero, i_eq (by omega) (by omega) (by omega) (by omega)]; omega)]
      by_cases c1 : rst f j = true
      · -- a run begins
        have ec : rcn f (j + 1) = rcn f j + 1 := by rw [rcn_s, c1]; rfl
        have eS : rsS f (rcn f j) = j := rsS_of hj c1
        have rj := rst_i.mp c1
        generalize hk : rcn f j = k at *
        -- the memory behind it
        have x1 : am_ix (am_i 3 * am_i (k : Int)) = 3 * k := by rw [i_mul, i_ix (by omega) (by omega)]; omega
        have x2 : am_ix (am_i 3 * am_i (k : Int) + am_i 2) = 3 * k + 2 := by rw [i_mul, i_add, i_ix (by omega) (by omega)]; omega
        have x3 : am_ix (am_i 3 * (am_i (k : Int) + am_i 1) - am_i 2) = 3 * k + 1 := by rw [i_add, i_mul, i_sub, i_ix (by omega) (by omega)]; omega
        have x4 : am_ix (am_i 3 * (am_i (k : Int) + am_i 1) - am_i 1) = 3 * k + 2 := by rw [i_add, i_mul, i_sub, i_ix (by omega) (by omega)]; omega
        have y1 : am_ib (am_i 3 * am_i (k : Int)) 96 = true := by rw [i_mul, i_ibt (by omega) (by omega) (by omega)]
        have y2 : am_ib (am_i 3 * am_i (k : Int) + am_i 2) 96 = true := by rw [i_mul, i_add, i_ibt (by omega) (by omega) (by omega)]
        have y3 : am_ib (am_i 3 * (am_i (k : Int) + am_i 1) - am_i 2) 96 = true := by rw [i_add, i_mul, i_sub, i_ibt (by omega) (by omega) (by omega)]
        have y4 : am_ib (am_i 3 * (am_i (k : Int) + am_i 1) - am_i 1) 96 = true := by rw [i_add, i_mul, i_sub, i_ibt (by omega) (by omega) (by omega)]
        rw [x1, x2, x3, x4, y1, y2, y3, y4]
        simp only [cond_true, am_letF]
        generalize hM : am_si (am_si (am_si (am_si m0 3270 (3 * k) (am_i (j : Int))) 3270 (3 * k + 2) (am_i 0)) 3270 (3 * k + 1) (am_i (j : Int))) 3270 (3 * k + 2) (am_si (am_si (am_si m0 3270 (3 * k) (am_i (j : Int))) 3270 (3 * k + 2) (am_i 0)) 3270 (3 * k + 1) (am_i (j : Int)) 3270 (3 * k + 2) + am_i (f j : Int)) = M
        have M0 : M 3270 (3 * k) = am_i (j : Int) := by rw [← hM, si_o (by omega), si_o (by omega), si_o (by omega), si_at]
        have M1 : M 3270 (3 * k + 1) = am_i (j : Int) := by rw [← hM, si_o (by omega), si_at]
        have M2 : M 3270 (3 * k + 2) = am_i (f j : Int) := by rw [← hM, si_at, si_o (by omega), si_at, i_add, Int.zero_add]
        have Mo : ∀ i, i < 3 * k → M 3270 i = m0 3270 i := fun i hi => by rw [← hM, si_o (by omega), si_o (by omega), si_o (by omega), si_o (by omega)]
        have MF : Fr Scr m0 M := by
          have sc : Scr 3270 := by unfold Scr; omega
          rw [← hM]
          exact ((((Fr.refl _ _).si2 sc).si2 sc).si2 sc).si2 sc
        refine ⟨(am_i ((k + 1 : Nat) : Int), M), ?_, by show _ = am_i _; rw [ec], a2.sc1 MF, fun i => if i = k then j else E i, fun i hi => ?_⟩
        · have ek : am_i (k : Int) + am_i 1 = am_i ((k + 1 : Nat) : Int) := by rw [i_add]; rfl
          rw [ek]
          by_cases k0 : k = 0
          · rw [if_pos (by rw [i_zero, i_eq (by omega) (by omega) (by omega) (by omega)]; omega)]
          · rw [if_neg (by rw [i_zero, i_eq (by omega) (by omega) (by omega) (by omega)]; omega)]
            have x5 : am_ix (am_i 3 * am_i (k : Int) - am_i 2) = 3 * (k - 1) + 1 := by rw [i_mul, i_sub, i_ix (by omega) (by omega)]; omega
            have y5 : am_ib (am_i 3 * am_i (k : Int) - am_i 2) 96 = true := by rw [i_mul, i_sub, i_ibt (by omega) (by omega) (by omega)]
            obtain ⟨q1, q2, q3, q4⟩ := a3 (k - 1) (by omega)
            have q5 := q1.2.1
            have q6 : E (k - 1) + 1 ≠ j := by
              intro z
              have := q1.2.2.1 (E (k - 1)) q1.1 (Nat.le_refl _)
              have e7 : E (k - 1) = j - 1 := by omega
              rw [e7] at this
              omega
            rw [x5, y5, cond_true, q3, i_sub, if_neg (by rw [i_eq (by omega) (by omega) (by omega) (by omega)]; omega)]
        · rw [ec] at hi
          show runOK f (j + 1) (rsS f i) (if i = k then j else E i) ∧ M 3270 (3 * i) = _ ∧ M 3270 (3 * i + 1) = am_i ((if i = k then j else E i : Nat) : Int) ∧ M 3270 (3 * i + 2) = am_i (rtt f (rsS f i) (if i = k then j else E i))
          by_cases ik : i = k
          · rw [if_pos ik, ik, eS]
            refine ⟨⟨Nat.le_refl _, by omega, fun c h1 h2 => by rw [show c = j by omega]; omega, Or.inl rfl⟩, M0, M1, ?_⟩
            rw [M2]
            unfold rtt
            rw [su_i]
            refine congrArg am_i ?_
            omega
          · rw [if_neg ik]
            obtain ⟨q1, q2, q3, q4⟩ := a3 i (by omega)
            have q6 : E i + 1 ≠ j := by
              intro z
              have := q1.2.2.1 (E i) q1.1 (Nat.le_refl _)
              have e7 : E i = j - 1 := by omega
              rw [e7] at this
              omega
            refine ⟨runOK_e q1 q6, ?_, ?_, ?_⟩
            · rw [Mo _ (by omega)]; exact q2
            · rw [Mo _ (by omega)]; exact q3
            · rw [Mo _ (by omega)]; exact q4
      · -- a run goes on
        have er : rst f j = false := Bool.eq_false_iff.mpr c1
        have ec : rcn f (j + 1) = rcn f j := by rw [rcn_s, er]; rfl
        have rj : ¬ (0 < f j ∧ (j = 0 ∨ f (j - 1) = 0)) := fun z => c1 (rst_i.mpr z)
        have hj0 : 0 < j := by omega
        have hfj : 0 < f (j - 1) := by omega
        -- the last run reaches j - 1
        have hk0 : 0 < rcn f j := by
          have : ∀ n, 0 < f n → 0 < rcn f (n + 1) := by
            intro n
            induction n with
            | zero =>
              intro z
              rw [rcn_s, show rst f 0 = true from rst_i.mpr ⟨z, Or.inl rfl⟩]
              exact Nat.lt_of_lt_of_le (Nat.zero_lt_one) (Nat.le_add_left _ _)
            | succ n ih =>
              intro z
              by_cases zz : f n = 0
              · rw [rcn_s, show rst f (n + 1) = true from rst_i.mpr ⟨z, Or.inr zz⟩]
                exact Nat.lt_of_lt_of_le (Nat.zero_lt_one) (Nat.le_add_left _ _)
              · exact Nat.lt_of_lt_of_le (ih (by omega)) (rcn_mono (Nat.le_succ _))
          have := this (j - 1) hfj
          rwa [show j - 1 + 1 = j by omega] at this
        obtain ⟨q1, q2, q3, q4⟩ := a3 (rcn f j - 1) (by omega)
        obtain ⟨g1, g2, g3⟩ := rsS_ex (f := f) j (by omega) (rcn f j - 1) (by omega)
        have q5 : E (rcn f j - 1) = j - 1 := by
          have q5' := q1.2.1
          rcases q1.2.2.2 with z | z
          · omega
          · -- else a start behind it
            exfalso
            have find : ∀ t, E (rcn f j - 1) + 1 + t ≤ j - 1 → 0 < f (E (rcn f j - 1) + 1 + t) → ∃ c, E (rcn f j - 1) < c ∧ c < j ∧ rst f c = true := by
              intro t
              induction t with
              | zero => intro _ y; rw [Nat.add_zero] at y; omega
              | succ t ih =>
                intro y1 y2
                by_cases y3 : f (E (rcn f j - 1) + 1 + t) = 0
                · exact ⟨E (rcn f j - 1) + 1 + (t + 1), by omega, by omega, rst_i.mpr ⟨y2, Or.inr (by rw [show E (rcn f j - 1) + 1 + (t + 1) - 1 = E (rcn f j - 1) + 1 + t by omega]; exact y3)⟩⟩
                · exact ih (by omega) (by omega)
            have ne : E (rcn f j - 1) ≠ j - 1 := by
              intro y
              rw [y, show j - 1 + 1 = j by omega] at z
              omega
            obtain ⟨c, c2, c3, c4⟩ := find (j - 1 - (E (rcn f j - 1) + 1)) (by omega) (by rw [show E (rcn f j - 1) + 1 + (j - 1 - (E (rcn f j - 1) + 1)) = j - 1 by omega]; exact hfj)
            have h1 := rcn_lt c3 c4
            have h2 : rcn f (rsS f (rcn f j - 1)) < rcn f c := rcn_lt (by have := q1.1; omega) g2
            omega
        rw [q5] at q1 q3 q4
        have hk32 := rcn_32 (f := f) j (by omega)
        generalize hk : rcn f j = k at *
        have x5 : am_ix (am_i 3 * am_i (k : Int) - am_i 2) = 3 * (k - 1) + 1 := by rw [i_mul, i_sub, i_ix (by omega) (by omega)]; omega
        have y5 : am_ib (am_i 3 * am_i (k : Int) - am_i 2) 96 = true := by rw [i_mul, i_sub, i_ibt (by omega) (by omega) (by omega)]
        have x6 : am_ix (am_i 3 * am_i (k : Int) - am_i 1) = 3 * (k - 1) + 2 := by rw [i_mul, i_sub, i_ix (by omega) (by omega)]; omega
        have y6 : am_ib (am_i 3 * am_i (k : Int) - am_i 1) 96 = true := by rw [i_mul, i_sub, i_ibt (by omega) (by omega) (by omega)]
        rw [if_neg (by rw [i_zero, i_eq (by omega) (by omega) (by omega) (by omega)]; omega), x5, y5, x6, y6, q3, show am_i (j : Int) - am_i 1 = am_i ((j - 1 : Nat) : Int) by rw [i_sub, show (j : Int) - 1 = ((j - 1 : Nat) : Int) by omega], cond_true, if_pos rfl]
        simp only [cond_true, am_letF]
        generalize hM : am_si (am_si m0 3270 (3 * (k - 1) + 1) (am_i (j : Int))) 3270 (3 * (k - 1) + 2) (am_si m0 3270 (3 * (k - 1) + 1) (am_i (j : Int)) 3270 (3 * (k - 1) + 2) + am_i (f j : Int)) = M
        have M1 : M 3270 (3 * (k - 1) + 1) = am_i (j : Int) := by rw [← hM, si_o (by omega), si_at]
        have M2 : M 3270 (3 * (k - 1) + 2) = am_i (rtt f (rsS f (k - 1)) j) := by
          rw [← hM, si_at, si_o (by omega), q4, i_add]
          refine congrArg am_i ?_
          unfold rtt
          rw [show j - 1 + 1 = j by omega, su_i]
          omega
        have Mo : ∀ i, i ≠ 3 * (k - 1) + 1 → i ≠ 3 * (k - 1) + 2 → M 3270 i = m0 3270 i := fun i h1 h2 => by rw [← hM, si_o (by omega), si_o (by omega)]
        have MF : Fr Scr m0 M := by
          have sc : Scr 3270 := by unfold Scr; omega
          rw [← hM]
          exact ((Fr.refl _ _).si2 sc).si2 sc
        refine ⟨(am_i (k : Int), M), rfl, by show _ = am_i _; rw [ec], a2.sc1 MF, fun i => if i = k - 1 then j else E i, fun i hi => ?_⟩
        rw [ec] at hi
        show runOK f (j + 1) (rsS f i) (if i = k - 1 then j else E i) ∧ M 3270 (3 * i) = _ ∧ M 3270 (3 * i + 1) = am_i ((if i = k - 1 then j else E i : Nat) : Int) ∧ M 3270 (3 * i + 2) = am_i (rtt f (rsS f i) (if i = k - 1 then j else E i))
        by_cases ik : i = k - 1
        · rw [if_pos ik, ik]
          refine ⟨runOK_s q1 hj0 (by omega), ?_, M1, M2⟩
          rw [Mo _ (by omega) (by omega)]
          exact q2
        · rw [if_neg ik]
          obtain ⟨w1, w2, w3, w4⟩ := a3 i (by omega)
          obtain ⟨v1, v2, v3⟩ := rsS_ex (f := f) j (by omega) i (by omega)
          have w6 : E i + 1 ≠ j := by
            intro z
            have e7 : E i = j - 1 := by omega
            rw [e7] at w1
            have := run_end w1 q1 v2 g2
            rw [this] at v3
            omega
          refine ⟨runOK_e w1 w6, ?_, ?_, ?_⟩
          · rw [Mo _ (by omega) (by omega)]; exact w2
          · rw [Mo _ (by omega) (by omega)]; exact w3
          · rw [Mo _ (by omega) (by omega)]; exact w4
  · obtain ⟨⟨a1, a2, E, a3⟩, a4⟩ := L
    refine ⟨t.2, ?_, a2, fun i hi => ?_⟩
    · refine a4.trans ?_
      rw [a1]
    · obtain ⟨q1, q2, q3, q4⟩ := a3 i hi
      obtain ⟨g1, g2, g3⟩ := rsS_ex (f := gM (xG s) u) 64 (by omega) i hi
      have e := run_uni q1 (ren_ok g1 (rst_i.mp g2).1)
      rw [e] at q3 q4
      exact ⟨q2, q3, q4⟩
theorem s_X9_bestRun {f : Nat → Nat} {b : Int} {n : Nat} (hn : n = rcn f 64) (hS : su f 64 ≤ 15358464) (hb : b = 0 ∨ b = 1) (h : ∀ i, i < n → m 3270 (3 * i) = am_i (rsS f i) ∧ m 3270 (3 * i + 1) = am_i (ren f (rsS f i)) ∧ m 3270 (3 * i + 2) = am_i (rtt f (rsS f i) (ren f (rsS f i)))) : m_X9_bestRun m (am_i n) (am_i b) = some (am_i (bst (rsz f b) n).1) := by
  have hn32 := rcn_32 (f := f) 64 (by omega)
  unfold m_X9_bestRun
  refine lo_go (fun k j (t : Int32 × Int32) => m_X9_bestRun_8 (am_i n) (am_i b) m (am_i n) (am_i b) (fun u8 => some u8) k t.1 t.2 (am_i (j : Int))) (fun j => (am_i (bst (rsz f b) j).1, am_i (bst (rsz f b) j).2)) 0 n (n := am_F) (s0 := (am_i (-1), am_i 0)) rfl (by omega) (am_Fv (by omega)) (fun k j _ hj => ?_) (fun k => ?_)
  · show m_X9_bestRun_8 _ _ m _ _ _ (k + 1) (am_i (bst (rsz f b) j).1) (am_i (bst (rsz f b) j).2) _ = m_X9_bestRun_8 _ _ m _ _ _ k (am_i (if (bst (rsz f b) j).2 < rsz f b j then ((j : Int), rsz f b j) else bst (rsz f b) j).1) (am_i (if (bst (rsz f b) j).2 < rsz f b j then ((j : Int), rsz f b j) else bst (rsz f b) j).2) _
    obtain ⟨q1, q2, q3⟩ := h j hj
    have sb := rsz_b (f := f) (b := b) hS (i := j) (by omega)
    have mb : 0 ≤ (bst (rsz f b) j).2 ∧ (bst (rsz f b) j).2 ≤ 15358464 := by
      rcases bst_r (rsz f b) j with ⟨-, g2⟩ | ⟨i, g1, -, g3⟩
      · rw [g2]; omega
      · rw [g3]; exact rsz_b hS (by omega)
    obtain ⟨g1, g2, g3⟩ := rsS_ex (f := f) 64 (by omega) j (by omega)
    have g4 := ren_ok g1 (rst_i.mp g2).1
    have g5 := g4.1
    have g6 := g4.2.1
    have x0' : am_ix (am_i 3 * am_i (j : Int)) = 3 * j := by rw [i_mul, i_ix (by omega) (by omega)]; omega
    have x1 : am_ix (am_i 3 * am_i (j : Int) + am_i 1) = 3 * j + 1 := by rw [i_mul, i_add, i_ix (by omega) (by omega)]; omega
    have x2 : am_ix (am_i 3 * am_i (j : Int) + am_i 2) = 3 * j + 2 := by rw [i_mul, i_add, i_ix (by omega) (by omega)]; omega
    have y0 : am_ib (am_i 3 * am_i (j : Int)) 96 = true := by rw [i_mul, i_ibt (by omega) (by omega) (by omega)]
    have y1 : am_ib (am_i 3 * am_i (j : Int) + am_i 1) 96 = true := by rw [i_mul, i_add, i_ibt (by omega) (by omega) (by omega)]
    have y2 : am_ib (am_i 3 * am_i (j : Int) + am_i 2) 96 = true := by rw [i_mul, i_add, i_ibt (by omega) (by omega) (by omega)]
    rw [m_X9_bestRun_8, x0', x1, x2, y0, y1, y2, q1, q2, q3]
    generalize bst (rsz f b) j = BB at mb ⊢
    rcases hb with rfl | rfl
    · have ez : rsz f 0 j = rtt f (rsS f j) (ren f (rsS f j)) := by unfold rsz; rw [if_pos rfl]
      rw [ez] at sb ⊢
      by_cases z : BB.2 < rtt f (rsS f j) (ren f (rsS f j))
      · rw [if_pos z]
        (simp (disch := first | assumption | omega) only [i_add, i_sub, i_mul, i_lt, i_le, i_eq, i_ibt, i_ixn, i_ix, i_zero, am_letF, cond_true, cond_false, Option.bind_some, ↓reduceIte, m_si, m_sc, true_and, and_true, not_true_eq_false, not_false_eq_true, i_gtF, i_leT, i_geF, i_ltT, Int32.zero_add, Int.toNat_natCast, ix_own, ix_sum, ix_ver, ix_th, ix_ab, ix_st, ix_vm, ix_lim, ix_lim1, ix_lim2, ix_lim3, Int.toNat_zero, i_neF, i_eqT, b1T, b1F] <;> rfl)
      · rw [if_neg z]
        (simp (disch := first | assumption | omega) only [i_add, i_sub, i_mul, i_lt, i_le, i_eq, i_ibt, i_ixn, i_ix, i_zero, am_letF, cond_true, cond_false, Option.bind_some, ↓reduceIte, m_si, m_sc, true_and, and_true, not_true_eq_false, not_false_eq_true, i_gtF, i_leT, i_geF, i_ltT, Int32.zero_add, Int.toNat_natCast, ix_own, ix_sum, ix_ver, ix_th, ix_ab, ix_st, ix_vm, ix_lim, ix_lim1, ix_lim2, ix_lim3, Int.toNat_zero, i_neF, i_eqT, b1T, b1F] <;> rfl)
    · have ez : rsz f 1 j = (ren f (rsS f j) : Int) - (rsS f j : Int) + 1 := by unfold rsz; rw [if_neg (by decide)]
      rw [ez] at sb ⊢
      by_cases z : BB.2 < (ren f (rsS f j) : Int) - (rsS f j : Int) + 1
      · rw [if_pos z]
        (simp (disch := first | assumption | omega) only [i_add, i_sub, i_mul, i_lt, i_le, i_eq, i_ibt, i_ixn, i_ix, i_zero, am_letF, cond_true, cond_false, Option.bind_some, ↓reduceIte, m_si, m_sc, true_and, and_true, not_true_eq_false, not_false_eq_true, i_gtF, i_leT, i_geF, i_ltT, Int32.zero_add, Int.toNat_natCast, ix_own, ix_sum, ix_ver, ix_th, ix_ab, ix_st, ix_vm, ix_lim, ix_lim1, ix_lim2, ix_lim3, Int.toNat_zero, i_neF, i_eqT, b1T, b1F] <;> rfl)
      · rw [if_neg z]
        (simp (disch := first | assumption | omega) only [i_add, i_sub, i_mul, i_lt, i_le, i_eq, i_ibt, i_ixn, i_ix, i_zero, am_letF, cond_true, cond_false, Option.bind_some, ↓reduceIte, m_si, m_sc, true_and, and_true, not_true_eq_false, not_false_eq_true, i_gtF, i_leT, i_geF, i_ltT, Int32.zero_add, Int.toNat_natCast, ix_own, ix_sum, ix_ver, ix_th, ix_ab, ix_st, ix_vm, ix_lim, ix_lim1, ix_lim2, ix_lim3, Int.toNat_zero, i_neF, i_eqT, b1T, b1F] <;> rfl)
  · show m_X9_bestRun_8 _ _ m _ _ _ (k + 1) _ _ _ = _
    rw [m_X9_bestRun_8]
    simp (disch := first | assumption | omega) only [i_add, i_sub, i_mul, i_lt, i_le, i_eq, i_ibt, i_ixn, i_ix, i_zero, am_letF, cond_true, cond_false, Option.bind_some, ↓reduceIte, m_si, m_sc, true_and, and_true, not_true_eq_false, not_false_eq_true, i_gtF, i_leT, i_geF, i_ltT, Int32.zero_add, Int.toNat_natCast, ix_own, ix_sum, ix_ver, ix_th, ix_ab, ix_st, ix_vm, ix_lim, ix_lim1, ix_lim2, ix_lim3, Int.toNat_zero, i_neF, i_eqT, b1T, b1F]
/-- which run is asked for -/
def rwI (f : Nat → Nat) (i : Int) : Int := if i = -2 then (bst (rsz f 1) (rcn f 64)).1 else if i = -3 then (bst (rsz f 0) (rcn f 64)).1 else i
theorem s_X5_runAt {a : Nat} {f : Nat → Nat} {i : Int} (h : Row m a f) (hS : su f 64 ≤ 15358464) (h1 : -2147483648 ≤ i) (h2 : i ≤ 2147483647) : m_X5_runAt m a (am_i i) = some (am_i (rsI f (rwI f i))) := by
  unfold m_X5_runAt rwI
  by_cases c1 : i = -2
  · rw [if_pos (by rw [c1]), if_neg (by rw [c1]; exact fun z => z rfl), if_pos c1, s_X5_greatestRun h hS (Or.inr rfl)]
    rfl
  · have n1 : ¬ am_i i = am_i (-2) := by rw [i_eq (by omega) (by omega) (by omega) (by omega)]; exact c1
    rw [if_neg n1, if_neg c1]
    by_cases c2 : i = -3
    · rw [if_neg (by rw [c2]; exact fun z => z rfl), if_pos n1, if_pos c2, s_X5_greatestRun h hS (Or.inl rfl)]
      rfl
    · have n2 : ¬ am_i i = am_i (-3) := by rw [i_eq (by omega) (by omega) (by omega) (by omega)]; exact c2
      rw [if_pos n2, if_neg c2, l_X5_runAt_32 h h1 h2]
theorem q_run (h : GS m r s) (a b c : Int32) : ∃ y m', m_X8_run m a b c = some y ∧ m_X9_run m a b c = some (y, m') ∧ Good m' r := by
  obtain ⟨x, h1, h2, rfl⟩ := i_any a
  obtain ⟨i, h3, h4, rfl⟩ := i_any b
  obtain ⟨w, h5, h6, rfl⟩ := i_any c
  cases c : thr (gU (xG s)) x
  · refine ⟨am_i (-1), m, ?_, ?_, h.g⟩
    · unfold m_X8_run
      rw [s_t8 h h1 h2, c]
      rfl
    · unfold m_X9_run
      rw [s_t9 h h1 h2, c]
      rfl
  · obtain ⟨u, hu, rfl, hu2⟩ := thr_i c
    obtain ⟨m1, e1, k1, g1⟩ := l_X9_laysRuns h hu
    have hS := h.ig.su u
    have hr := h.xc hu
    generalize hf : gM (xG s) u = f at *
    have hn32 := rcn_32 (f := f) 64 (by omega)
    have E8 : m_X8_run m (am_i u) (am_i i) (am_i w) = (if ¬ am_i i = am_i (-1) then (m_X5_runAt m (aX 4 u) (am_i i)).bind fun q5 => if ¬ q5 = am_i (-1) then (m_X5_runEnd m (aX 4 u) q5).bind fun q7 => if am_i w = am_i 0 then some q5 else if am_i w = am_i 1 then some q7 else if am_i w = am_i 2 then (m_X5_totalOf m (aX 4 u) q5 q7).bind fun q10 => some q10 else some (am_i (-1)) else some (am_i (-1)) else (m_X5_runCount m (aX 4 u)).bind fun q12 => some q12) := by
      unfold m_X8_run
      rw [s_t8 h h1 h2, c, Option.bind_some, if_pos (by decide), i_ibt (by omega) (by omega) (by omega), cond_true, i_ixn (by omega)]
    by_cases i1 : i = -1
    · refine ⟨am_i (rcn f 64 : Nat), m1, ?_, ?_, k1.g⟩
      · rw [E8, if_neg (by rw [i1]; exact fun z => z rfl), s_X5_runCount hr]
        rfl
      · unfold m_X9_run
        rw [s_t9 h h1 h2, c, Option.bind_some, if_pos (by decide), e1, Option.bind_some, if_neg (by rw [i1]; exact fun z => z rfl)]
    · have n1 : ¬ am_i i = am_i (-1) := by rw [i_eq (by omega) (by omega) (by omega) (by omega)]; exact i1
      have bb : ∀ b, -1 ≤ (bst (rsz f b) (rcn f 64)).1 ∧ (bst (rsz f b) (rcn f 64)).1 < (rcn f 64 : Nat) := by
        intro b
        rcases bst_r (rsz f b) (rcn f 64) with ⟨g2, -⟩ | ⟨k, g2, g3, -⟩
        · omega
        · omega
      have rwb : -2147483648 ≤ rwI f i ∧ rwI f i ≤ 2147483647 := by
        unfold rwI
        have b0 := bb 0
        have b1' := bb 1
        split
        · omega
        · split <;> omega
      -- the reference's last step
      have E9 : m_X9_run m (am_i u) (am_i i) (am_i w) = (m_X9_isIn m1 (am_i (rwI f i)) (am_i 0) (am_i (rcn f 64 : Nat) - am_i 1)).bind fun q7 => if q7 = 0 then some ((am_i (-1)), m1) else (m_X9_isIn m1 (am_i w) (am_i 0) (am_i 2)).bind fun q9 => if q9 = 0 then some ((am_i (-1)), m1) else bif am_ib (((am_i 3) * am_i (rwI f i)) + am_i w) 96 then some ((m1 3270 (am_ix (((am_i 3) * am_i (rwI f i)) + am_i w))), m1) else none := by
        unfold m_X9_run
        rw [s_t9 h h1 h2, c, Option.bind_some, if_pos (by decide), e1, Option.bind_some, if_pos n1]
        unfold rwI
        by_cases c1 : i = -2
        · rw [if_neg (by rw [c1]; exact fun z => z rfl), if_pos c1]
          have q : m_X9_bestRun m1 (am_i (rcn f 64 : Nat)) (am_i 1) = some (am_i (bst (rsz f 1) (rcn f 64)).1) := s_X9_bestRun rfl hS (Or.inr rfl) g1
          show (m_X9_bestRun m1 (am_i (rcn f 64 : Nat)) (am_i 1)).bind _ = _
          rw [q]
          rfl
        · rw [if_pos (by rw [i_eq (by omega) (by omega) (by omega) (by omega)]; exact c1), if_neg c1]
          by_cases c2 : i = -3
          · rw [if_neg (by rw [c2]; exact fun z => z rfl), if_pos c2]
            have q : m_X9_bestRun m1 (am_i (rcn f 64 : Nat)) (am_i 0) = some (am_i (bst (rsz f 0) (rcn f 64)).1) := s_X9_bestRun rfl hS (Or.inl rfl) g1
            show (m_X9_bestRun m1 (am_i (rcn f 64 : Nat)) (am_i 0)).bind _ = _
            rw [q]
            rfl
          · rw [if_pos (by rw [i_eq (by omega) (by omega) (by omega) (by omega)]; exact c2), if_neg c2]
      rw [E8, E9, if_pos n1, s_X5_runAt hr hS h3 h4, i_sub, s_X9_isIn rwb.1 rwb.2 (by decide) (by decide) (by omega) (by omega), s_X9_isIn h5 h6 (by decide) (by decide) (by decide) (by decide), Option.bind_some, Option.bind_some]
      generalize rwI f i = I at rwb ⊢
      by_cases c3 : 0 ≤ I ∧ I ≤ ((rcn f 64 : Nat) : Int) - 1
      · obtain ⟨k, rfl⟩ : ∃ k : Nat, I = k := ⟨I.toNat, by omega⟩
        obtain ⟨v1, v2, v3⟩ := rsS_ex (f := f) 64 (by omega) k (by omega)
        have v4 := ren_ok v1 (rst_i.mp v2).1
        have v5 := v4.2.1
        have v6 := v4.1
        obtain ⟨w1, w2, w3⟩ := g1 k (by omega)
        have eI : rsI f (k : Int) = (rsS f k : Int) := by unfold rsI; rw [if_pos ⟨by omega, by omega⟩, Int.toNat_natCast]
        have q4 := s_X5_totalOf (lo := rsS f k) (hi := ren f (rsS f k)) hr (by omega) v5
        rw [if_pos c3, if_neg (show ¬ am_i 1 = 0 by decide), eI, if_pos (by rw [i_eq (by omega) (by omega) (by omega) (by omega)]; omega), s_X5_runEnd hr v1 (rst_i.mp v2).1, Option.bind_some, q4, Option.bind_some]
        rcases sw_n h5 h6 3 (by decide) with ⟨d, hd, rfl⟩ | hn
        · have x0' : am_ix (am_i 3 * am_i (k : Int) + am_i (d : Int)) = 3 * k + d := by rw [i_mul, i_add, i_ix (by omega) (by omega)]; omega
          have y0 : am_ib (am_i 3 * am_i (k : Int) + am_i (d : Int)) 96 = true := by rw [i_mul, i_add, i_ibt (by omega) (by omega) (by omega)]
          rw [if_pos (show (0 : Int) ≤ (d : Int) ∧ (d : Int) ≤ 2 by omega), Option.bind_some, if_neg (show ¬ am_i 1 = 0 by decide), x0', y0, cond_true]
          rcases (show d = 0 ∨ d = 1 ∨ d = 2 by omega) with z | z | z <;> rw [z]
          · rw [show 3 * k + 0 = 3 * k from rfl, w1]
            exact ⟨_, m1, rfl, rfl, k1.g⟩
          · rw [w2]
            exact ⟨_, m1, rfl, rfl, k1.g⟩
          · rw [w3]
            exact ⟨_, m1, rfl, rfl, k1.g⟩
        · have w4 : ¬ (0 ≤ w ∧ w ≤ 2) := by
            intro z
            exact hn w z.1 (by omega) rfl
          rw [if_neg w4, if_neg (hn 0 (by decide) (by decide)), if_neg (hn 1 (by decide) (by decide)), if_neg (hn 2 (by decide) (by decide))]
          exact ⟨_, m1, rfl, rfl, k1.g⟩
      · have eI : rsI f I = -1 := by unfold rsI; rw [if_neg (by omega)]
        rw [if_neg c3, eI]
        exact ⟨_, m1, rfl, rfl, k1.g⟩
end RV
