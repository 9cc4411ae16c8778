/-! ===== mathematics: comes, move ===== -/
section A3
variable {m : am_m} {r : am_rr} {s : Sx} {u b : Nat}
/-- the reference's unit u with nothing -/
def clM (m : am_m) (u j : Nat) : am_m := fun b i => if b = 3262 ∧ (i = 48 + u ∨ i = 3144 + u ∨ (72 + 64 * u ≤ i ∧ i < 72 + 64 * u + j) ∨ (1608 + 64 * u ≤ i ∧ i < 1608 + 64 * u + j)) then am_i 0 else m b i
theorem clM_ne {j b : Nat} (h : b ≠ 3262) : clM m u j b = m b := by
  funext i
  exact if_neg (fun e => h e.1)
theorem clM_o {j i : Nat} (h : ¬ (i = 48 + u ∨ i = 3144 + u ∨ (72 + 64 * u ≤ i ∧ i < 72 + 64 * u + j) ∨ (1608 + 64 * u ≤ i ∧ i < 1608 + 64 * u + j))) : clM m u j 3262 i = m 3262 i := if_neg (fun e => h e.2)
theorem clM_at {j i : Nat} (h : i = 48 + u ∨ i = 3144 + u ∨ (72 + 64 * u ≤ i ∧ i < 72 + 64 * u + j) ∨ (1608 + 64 * u ≤ i ∧ i < 1608 + 64 * u + j)) : clM m u j 3262 i = am_i 0 := if_pos ⟨rfl, h⟩
theorem s_X9_clears (hu : u < 24) : m_X9_clears m (am_i u) = some (clM m u 64) := by
  unfold m_X9_clears
  have x48 : am_ix (am_i 48 + am_i (u : Int)) = 48 + u := by rw [i_add, i_ix (by omega) (by omega)]; omega
  have y48 : am_ib (am_i 48 + am_i (u : Int)) 15517 = true := by rw [i_add, i_ibt (by omega) (by omega) (by omega)]
  have x31 : am_ix (am_i 3144 + am_i (u : Int)) = 3144 + u := by rw [i_add, i_ix (by omega) (by omega)]; omega
  have y31 : am_ib (am_i 3144 + am_i (u : Int)) 15517 = true := by rw [i_add, i_ibt (by omega) (by omega) (by omega)]
  rw [x48, y48, x31, y31, cond_true, am_letF, cond_true, am_letF]
  refine lo_go (fun n j (q : am_m) => m_X9_clears_23 (am_i u) (am_i u) (fun m12 => some m12) n (am_i (j : Int)) q) (fun j => clM m u j) 0 64 (n := am_F) (s0 := am_si (am_si m 3262 (48 + u) (am_i 0)) 3262 (3144 + u) (am_i 0)) ?_ (by omega) (am_Fv (by omega)) (fun n j _ hj => ?_) (fun n => rfl)
  · funext b i
    rw [m_si, m_si]
    show _ = if b = 3262 ∧ (i = 48 + u ∨ i = 3144 + u ∨ (72 + 64 * u ≤ i ∧ i < 72 + 64 * u + 0) ∨ (1608 + 64 * u ≤ i ∧ i < 1608 + 64 * u + 0)) then am_i 0 else m b i
    by_cases c1 : b = 3262 ∧ i = 3144 + u
    · rw [if_pos c1, if_pos ⟨c1.1, Or.inr (Or.inl c1.2)⟩]
    · rw [if_neg c1]
      by_cases c2 : b = 3262 ∧ i = 48 + u
      · rw [if_pos c2, if_pos ⟨c2.1, Or.inl c2.2⟩]
      · rw [if_neg c2, if_neg]
        rintro ⟨e1, e2 | e2 | e2 | e2⟩
        · exact c2 ⟨e1, e2⟩
        · exact c1 ⟨e1, e2⟩
        · omega
        · omega
  · show m_X9_clears_23 _ _ _ (n + 1) _ _ = _
    have p1 : am_ix (am_i 1608 + am_i 64 * am_i (u : Int) + am_i (j : Int)) = 1608 + 64 * u + j := by rw [i_mul, i_add, i_add, i_ix (by omega) (by omega)]; omega
    have p2 : am_ib (am_i 1608 + am_i 64 * am_i (u : Int) + am_i (j : Int)) 15517 = true := by rw [i_mul, i_add, i_add, i_ibt (by omega) (by omega) (by omega)]
    have p3 : am_ix (am_i 72 + am_i 64 * am_i (u : Int) + am_i (j : Int)) = 72 + 64 * u + j := by rw [i_mul, i_add, i_add, i_ix (by omega) (by omega)]; omega
    have p4 : am_ib (am_i 72 + am_i 64 * am_i (u : Int) + am_i (j : Int)) 15517 = true := by rw [i_mul, i_add, i_add, i_ibt (by omega) (by omega) (by omega)]
    rw [m_X9_clears_23, if_neg (by rw [i_le (by omega) (by omega) (by omega) (by omega)]; omega)]
    unfold m_X9_ownAt m_X9_sumAt
    rw [Option.bind_some, p4, cond_true, am_letF, Option.bind_some, p2, cond_true, am_letF, p1, p3, i_add]
    congr 1
    funext b i
    rw [m_si, m_si]
    show (if b = 3262 ∧ i = 1608 + 64 * u + j then am_i 0 else if b = 3262 ∧ i = 72 + 64 * u + j then am_i 0 else if b = 3262 ∧ (i = 48 + u ∨ i = 3144 + u ∨ (72 + 64 * u ≤ i ∧ i < 72 + 64 * u + j) ∨ (1608 + 64 * u ≤ i ∧ i < 1608 + 64 * u + j)) then am_i 0 else m b i) = if b = 3262 ∧ (i = 48 + u ∨ i = 3144 + u ∨ (72 + 64 * u ≤ i ∧ i < 72 + 64 * u + (j + 1)) ∨ (1608 + 64 * u ≤ i ∧ i < 1608 + 64 * u + (j + 1))) then am_i 0 else m b i
    by_cases c1 : b = 3262 ∧ i = 1608 + 64 * u + j
    · rw [if_pos c1, if_pos ⟨c1.1, by omega⟩]
    · rw [if_neg c1]
      by_cases c2 : b = 3262 ∧ i = 72 + 64 * u + j
      · rw [if_pos c2, if_pos ⟨c2.1, by omega⟩]
      · rw [if_neg c2]
        by_cases c3 : b = 3262 ∧ (i = 48 + u ∨ i = 3144 + u ∨ (72 + 64 * u ≤ i ∧ i < 72 + 64 * u + j) ∨ (1608 + 64 * u ≤ i ∧ i < 1608 + 64 * u + j))
        · rw [if_pos c3, if_pos ⟨c3.1, by omega⟩]
        · rw [if_neg c3, if_neg]
          rintro ⟨e1, e2⟩
          refine c3 ⟨e1, ?_⟩
          have h1 : ¬ i = 1608 + 64 * u + j := fun z => c1 ⟨e1, z⟩
          have h2 : ¬ i = 72 + 64 * u + j := fun z => c2 ⟨e1, z⟩
          omega
/-- no more than the tree is other -/
theorem OC.up {m' : am_m} {o : Nat} {g : Og} {U : Nat → Int} {D : Nat → Nat} (h : OC m r o g) (hR : RI r) (ho : am_og o) (f : Fr (fun b => b = aU o) m m') (hs : ∀ k, k < 24 → m' (aU o) k = am_i (U k)) : OC m' r o (U, D, gS g, gO g, gM g, gC g, gV g) := by
  refine ⟨hs, fun u hu => ?_, fun u hu c hc => ?_, fun u hu c hc => ?_, fun u hu => ?_, fun u hu v hv hv2 c hc => ?_⟩
  · rw [f _ (by unfold aU aS; omega)]; exact h.2.1 u hu
  · rw [f _ (by unfold aW aU; omega)]; exact h.2.2.1 u hu c hc
  · rw [f _ (by unfold aX aU; omega)]; exact h.2.2.2.1 u hu c hc
  · rw [f _ (by unfold aC aU; omega)]; exact h.2.2.2.2.1 u hu
  · have := vr_r hR ho (j := 8 * u + v) (by omega)
    rw [f _ (by unfold aU; omega)]; exact h.2.2.2.2.2 u hu v hv hv2 c hc
theorem OM.up {m' : am_m} {g : Og} {U : Nat → Int} {D : Nat → Nat} (h : OM m 3262 0 g) (f : ∀ i, 48 ≤ i → m' 3262 i = m 3262 i) (h1 : ∀ k, k < 24 → m' 3262 k = am_i (if U k = -2 then 0 else 1)) (h2 : ∀ k, k < 24 → U k ≠ -2 → m' 3262 (24 + k) = am_i (U k)) : OM m' 3262 0 (U, D, gS g, gO g, gM g, gC g, gV g) := by
  refine ⟨fun u hu => by rw [Nat.zero_add]; exact h1 u hu, fun u hu z => by rw [Nat.zero_add]; exact h2 u hu z, fun u hu => ?_, fun u hu c hc => ?_, fun u hu c hc => ?_, fun u hu => ?_, fun u hu v hv hv2 c hc => ?_⟩
  · rw [f _ (by omega)]; exact h.2.2.1 u hu
  · rw [f _ (by omega)]; exact h.2.2.2.1 u hu c hc
  · rw [f _ (by omega)]; exact h.2.2.2.2.1 u hu c hc
  · rw [f _ (by omega)]; exact h.2.2.2.2.2.1 u hu
  · rw [f _ (by omega)]; exact h.2.2.2.2.2.2 u hu v hv hv2 c hc
theorem q_comes (h : GS m r s) (a b : Int32) : ∃ y m1 m2, m_X8_comes m r a b = some (y, m1) ∧ m_X9_comes m1 a b = some (y, m2) ∧ Good m2 r := by
  obtain ⟨x, h1, h2, rfl⟩ := i_any a
  obtain ⟨z, h3, h4, rfl⟩ := i_any b
  by_cases c1 : 0 ≤ x ∧ x ≤ 23
  · cases c2 : thr (gU (xG s)) x
    · cases c3 : thr (gU (xG s)) z
      · refine ⟨am_i 0, m, m, ?_, ?_, h.g⟩
        · unfold m_X8_comes
          rw [s_u8 h1 h2, if_pos c1, Option.bind_some, if_neg (by decide), s_t8 h h1 h2, c2, Option.bind_some, if_neg (by decide), s_t8 h h3 h4, c3]
          rfl
        · unfold m_X9_comes
          rw [s_X9_isIn h1 h2 (by decide) (by decide) (by decide) (by decide), if_pos c1, Option.bind_some, if_neg (by decide), s_t9 h h1 h2, c2, Option.bind_some, if_neg (by decide), s_t9 h h3 h4, c3]
          rfl
      · obtain ⟨u, rfl⟩ : ∃ u : Nat, x = u := ⟨x.toNat, by omega⟩
        obtain ⟨b, hb, rfl, hb2⟩ := thr_i c3
        have hu : u < 24 := by omega
        have hu2 : gU (xG s) u = -2 := by
          by_cases q : gU (xG s) u = -2
          · exact q
          · rw [thr_t hu q] at c2; cases c2
        have hd := h.tr.2.2.2.1 b
        by_cases c4 : gD (xG s) b < 12
        · have ub : u ≠ b := fun e => hb2 (by rw [← e]; exact hu2)
          obtain ⟨m1, e1, f1, hP, hG1, hB1⟩ := keep8 h
          have o1 : OC (am_si m1 (aU 4) u (am_i b)) r 4 (ogC (xG s) u b) := hG1.up h.1 og4 ((Fr.refl _ _).si2 rfl) (fun k hk => by
            rw [m_si]
            show _ = am_i (if k = u then (b : Int) else gU (xG s) k)
            by_cases q : k = u
            · rw [if_pos ⟨rfl, q⟩, if_pos q]
            · rw [if_neg (fun y => q y.2), if_neg q]; exact hG1.1 k hk)
          have hB2 : BC (am_si m1 (aU 4) u (am_i b)) 2970 (xB s) := hB1.kept (fun b b1 b2 => si_ne (by unfold aU; omega))
          obtain ⟨m2, e2, f2, hB3⟩ := s_X0_tally (w := 6) (x := am_i 1) hB2 (by decide)
          have F8 : ∀ b, ¬ (498 ≤ b ∧ b < 2970) → b ≠ 5 → ¬ (2970 ≤ b ∧ b < 2976) → m2 b = m b := fun b b1 b2 b3 => by
            rw [f2 b b3, si_ne (by unfold aU; omega)]
            exact f1 b b1
          have ms : MS m2 s := h.2.2.1.kept (fun b b1 _ => F8 b (by omega) (by omega) (by omega))
          obtain ⟨m3, e3, f3, f3', hP3, w3⟩ := keep9 ms h.2.2.2
          have oM3 : OM m3 3262 0 (xG s) := ms.1.kept (fun i _ => by rw [w3])
          have ab := h.ig.2.2.2.2.2.2.1 u hu hu2
          have o3 : OM (clM (am_si (am_si m3 3262 u (am_i 1)) 3262 (24 + u) (am_i b)) u 64) 3262 0 (ogC (xG s) u b) := by
            refine oM3.up (fun i hi => ?_) (fun k hk => ?_) (fun k hk k2 => ?_)
            · by_cases q : i = 48 + u ∨ i = 3144 + u ∨ (72 + 64 * u ≤ i ∧ i < 72 + 64 * u + 64) ∨ (1608 + 64 * u ≤ i ∧ i < 1608 + 64 * u + 64)
              · rw [clM_at q]
                rcases q with q | q | q | q
                · have := oM3.2.2.1 u hu
                  rw [Nat.zero_add, ab.1] at this
                  rw [q]; exact this.symm
                · have := oM3.2.2.2.2.2.1 u hu
                  rw [Nat.zero_add, ab.2.1] at this
                  rw [q]; exact this.symm
                · have := oM3.2.2.2.1 u hu (i - (72 + 64 * u)) (by omega)
                  rw [Nat.zero_add, ab.2.2.1, show 72 + 64 * u + (i - (72 + 64 * u)) = i by omega] at this
                  exact this.symm
                · have := oM3.2.2.2.2.1 u hu (i - (1608 + 64 * u)) (by omega)
                  rw [Nat.zero_add, ab.2.2.2, show 1608 + 64 * u + (i - (1608 + 64 * u)) = i by omega] at this
                  exact this.symm
              · rw [clM_o q, si_o (by omega), si_o (by omega)]
            · rw [clM_o (by omega), si_o (by omega), m_si]
              by_cases q : k = u
              · rw [if_pos ⟨rfl, q⟩]
                simp only [q, if_true]
                rw [if_neg (by omega)]
              · rw [if_neg (fun y => q y.2)]
                simp only [q, if_false]
                have := oM3.1 k hk
                rwa [Nat.zero_add] at this
            · rw [clM_o (by omega), m_si]
              by_cases q : k = u
              · rw [if_pos ⟨rfl, by omega⟩]
                simp only [q, if_true]
              · rw [if_neg (fun y => q (by have := y.2; omega)), si_o (by omega)]
                simp only [q, if_false] at k2 ⊢
                have := oM3.2.1 k hk k2
                rwa [Nat.zero_add] at this
          have hB9 : BM (clM (am_si (am_si m3 3262 u (am_i 1)) 3262 (24 + u) (am_i b)) u 64) 3262 (xB s) := ms.2.1.copy (fun i i1 i2 => by rw [clM_o (by omega), si_o (by omega), si_o (by omega), w3])
          obtain ⟨m4, e4, f4, hB4⟩ := s_X9_counts (w := 6) (x := am_i 1) hB9 (by decide)
          have nb : ∀ b', b' ≠ 3262 → m4 b' = m3 b' := fun b' hb' => by rw [f4.1 b' hb', clM_ne hb', si_ne hb', si_ne hb']
          have x24 : am_ix (am_i 24 + am_i (u : Int)) = 24 + u := by rw [i_add, i_ix (by omega) (by omega)]; omega
          have y24 : am_ib (am_i 24 + am_i (u : Int)) 15517 = true := by rw [i_add, i_ibt (by omega) (by omega) (by omega)]
          have x00 : am_ix (am_i 0 + am_i (u : Int)) = u := by rw [i_add, i_ix (by omega) (by omega)]; omega
          have y00 : am_ib (am_i 0 + am_i (u : Int)) 15517 = true := by rw [i_add, i_ibt (by omega) (by omega) (by omega)]
          refine ⟨am_i 1, m2, m4, ?_, ?_, act_end h (G := ogC (xG s) u b) (B := bkAdd (xB s) 6 (am_i 1)) (o1.kept h.1 og4 (fun b b1 b2 => f2 b (by omega)) rfl) hB3 (hP.kept h.1 (by omega) (fun b b1 b2 => by rw [f2 b (by omega), si_ne (by unfold aU; omega)]) (fun _ _ => rfl)) (fun b hb => F8 b (by omega) (by omega) (by omega)) (o3.fk f4) hB4 (hP3.kept (by rw [nb 3261 (by decide)]) (nb 3265 (by decide))) (fun b hb => by rw [nb b (by omega)]; exact f3 b (fun z => by unfold F5 at z; omega)) (fun b hb => by rw [nb b (by omega), f3 b (fun z => by unfold F5 at z; omega)]; exact F8 b (by omega) (by omega) (by omega)) (fun j hj => by rw [nb 3261 (by decide), f3' j hj, F8 3261 (by omega) (by omega) (by omega)]) (ogC_IG h.ig hu hu2 hb hb2 c4) h.2.2.2.2.1⟩
          · unfold m_X8_comes m_X1_settle
            rw [s_u8 h1 h2, if_pos c1, Option.bind_some, if_neg (by decide), s_t8 h h1 h2, c2, Option.bind_some, if_neg (by decide), s_t8 h h3 h4, c3, Option.bind_some, if_pos (by decide), s_X1_depthOf h.tc h.tr hb hb2, Option.bind_some, if_pos (by rw [i_lt (by omega) (by omega) (by omega) (by omega)]; omega), e1, Option.bind_some, i_ibt (by omega) (by omega) (by omega), cond_true, am_letF, Option.bind_some, i_ixn (by omega), show m_X0_tally (am_si m1 (aU 4) u (am_i b)) 2970 (am_i 6) (am_i 1) = some m2 from e2]
            rfl
          · unfold m_X9_comes
            rw [s_X9_isIn h1 h2 (by decide) (by decide) (by decide) (by decide), if_pos c1, Option.bind_some, if_neg (by decide), s_X9_isUnit ms.1.TM h1 h2, c2, Option.bind_some, if_neg (by decide), s_X9_isUnit ms.1.TM h3 h4, c3, Option.bind_some, if_neg (by decide), s_X9_depth ms.1.TM h.tr hb hb2, Option.bind_some, if_pos (by rw [i_eq (by omega) (by omega) (by omega) (by omega)]; omega), e3, Option.bind_some, y00, cond_true, am_letF, y24, cond_true, am_letF, x00, x24, s_X9_clears hu, Option.bind_some, show m_X9_counts (clM (am_si (am_si m3 3262 u (am_i 1)) 3262 (24 + u) (am_i b)) u 64) (am_i 6) (am_i 1) = some m4 from e4]
            rfl
        · refine ⟨am_i 0, m, m, ?_, ?_, h.g⟩
          · unfold m_X8_comes
            rw [s_u8 h1 h2, if_pos c1, Option.bind_some, if_neg (by decide), s_t8 h h1 h2, c2, Option.bind_some, if_neg (by decide), s_t8 h h3 h4, c3, Option.bind_some, if_pos (by decide), s_X1_depthOf h.tc h.tr hb hb2, Option.bind_some, if_neg (by rw [i_lt (by omega) (by omega) (by omega) (by omega)]; omega)]
          · unfold m_X9_comes
            rw [s_X9_isIn h1 h2 (by decide) (by decide) (by decide) (by decide), if_pos c1, Option.bind_some, if_neg (by decide), s_t9 h h1 h2, c2, Option.bind_some, if_neg (by decide), s_t9 h h3 h4, c3, Option.bind_some, if_neg (by decide), s_X9_depth h.tm h.tr hb hb2, Option.bind_some, if_neg (by rw [i_eq (by omega) (by omega) (by omega) (by omega)]; omega)]
    · refine ⟨am_i 0, m, m, ?_, ?_, h.g⟩
      · unfold m_X8_comes
        rw [s_u8 h1 h2, if_pos c1, Option.bind_some, if_neg (by decide), s_t8 h h1 h2, c2]
        rfl
      · unfold m_X9_comes
        rw [s_X9_isIn h1 h2 (by decide) (by decide) (by decide) (by decide), if_pos c1, Option.bind_some, if_neg (by decide), s_t9 h h1 h2, c2]
        rfl
  · refine ⟨am_i 0, m, m, ?_, ?_, h.g⟩
    · unfold m_X8_comes
      rw [s_u8 h1 h2, if_neg c1, Option.bind_some, if_pos (by decide)]
    · unfold m_X9_comes
      rw [s_X9_isIn h1 h2 (by decide) (by decide) (by decide) (by decide), if_neg c1, Option.bind_some, if_pos (by decide)]
/-- what cmv says -/
theorem cmv_i {up : Nat → Int} {d : Nat → Nat} {x y : Int} (hT : Tr up d) (h : cmv up d x y = true) : ∃ u b p : Nat, x = u ∧ y = b ∧ u < 24 ∧ up u ≠ -2 ∧ b < 24 ∧ up b ≠ -2 ∧ (¬ inB up d b u = true) ∧ d b + 1 + hgt up d u 24 ≤ 12 ∧ p < 24 ∧ up u = (p : Int) ∧ up p ≠ -2 ∧ b ≠ u := by
  unfold cmv at h
  simp only [Bool.and_eq_true] at h
  obtain ⟨a1, a2, a3, a4, a5⟩ := h
  obtain ⟨u, hu, rfl, hu2⟩ := thr_i a1
  obtain ⟨b, hb, rfl, hb2⟩ := thr_i a2
  rw [Int.toNat_natCast] at a3
  rw [Int.toNat_natCast, Int.toNat_natCast] at a5
  have a3' : ¬ inB up d b u = true := by
    intro z
    rw [z] at a3
    cases a3
  have u0 : u ≠ 0 := fun e => a3' (by rw [e]; exact inB_0 hT hb hb2)
  obtain ⟨p, p1, p2, p3, p4⟩ := hT.pa hu hu2 u0
  exact ⟨u, b, p, rfl, rfl, hu, hu2, hb, hb2, a3', of_decide_eq_true a5, p1, p2, p3, fun e => a3' (by rw [e]; exact inB_self u)⟩
/-- the class moves a unit -/
theorem s_moveTo {o p : Nat} {g : Og} (hG : OC m r o g) (hT : Tr (gU g) (gD g)) (hR : RI r) (ho : am_og o) (hu : u < 24) (hu2 : gU g u ≠ -2) (hb : b < 24) (hb2 : gU g b ≠ -2) (hn : ¬ inB (gU g) (gD g) b u = true) (hd : gD g b + 1 + hgt (gU g) (gD g) u 24 ≤ 12) (hp : p < 24) (hp1 : gU g u = (p : Int)) (hp2 : gU g p ≠ -2) : ∃ m', m_X1_moveTo m o (am_i u) (am_i b) = some m' ∧ Fr (fun c => c = aU o ∨ c = aS o) m m' ∧ OC m' r o (ogS (ogM g u b) (stM g u b p)) := by
  have hT' := ogM_Tr hT hu hu2 hb hb2 hn hd
  have bu : b ≠ u := fun e => hn (by rw [e]; exact inB_self u)
  obtain ⟨m1, e1, f1, g1⟩ := s_st8 hG hT hR ho hp hp2
  have g2 : OC (am_si m1 (aU o) u (am_i b)) r o (gU (ogM g u b), gD (ogM g u b), stU g p, gO g, gM g, gC g, gV g) := g1.up hR ho ((Fr.refl _ _).si2 rfl) (fun k hk => by
    rw [m_si]
    show _ = am_i (if k = u then (b : Int) else gU g k)
    by_cases q : k = u
    · rw [if_pos ⟨rfl, q⟩, if_pos q]
    · rw [if_neg (fun y => q y.2), if_neg q]; exact g1.1 k hk)
  obtain ⟨m2, e2, f2, g3⟩ := s_st8 (u := b) g2 hT' hR ho hb (show gU (ogM g u b) b ≠ -2 by rw [ogM_U bu]; exact hb2)
  refine ⟨m2, ?_, ?_, g3⟩
  · unfold m_X1_moveTo
    rw [s_X1_upperOf hG.1 hT hu hu2, Option.bind_some, hp1, e1, Option.bind_some, i_ibt (by omega) (by omega) (by omega), cond_true, am_letF, i_ixn (by omega), e2]
    rfl
  · intro c hc
    rw [f2 c (fun z => hc (Or.inr z)), si_ne (fun z => hc (Or.inl z))]
    exact f1 c (fun z => hc (Or.inr z))
/-- the reference moves it -/
theorem s_moves {p : Nat} {g : Og} {k : Bk} (hG : OM m 3262 0 g) (hB : BM m 3262 k) (hT : Tr (gU g) (gD g)) (hu : u < 24) (hu2 : gU g u ≠ -2) (hb : b < 24) (hb2 : gU g b ≠ -2) (hn : ¬ inB (gU g) (gD g) b u = true) (hd : gD g b + 1 + hgt (gU g) (gD g) u 24 ≤ 12) (hp : p < 24) (hp1 : gU g u = (p : Int)) (hp2 : gU g p ≠ -2) : ∃ m', m_X9_moves m (am_i u) (am_i b) = some m' ∧ Fr (fun c => c = 3262) m m' ∧ OM m' 3262 0 (ogS (ogM g u b) (stM g u b p)) ∧ BM m' 3262 (bkAdd k 5 (am_i 1)) := by
  have hT' := ogM_Tr hT hu hu2 hb hb2 hn hd
  have bu : b ≠ u := fun e => hn (by rw [e]; exact inB_self u)
  obtain ⟨m1, e1, f1, f1', g1⟩ := s_st9 hG hT hp hp2
  have g2 : OM (am_si m1 3262 (24 + u) (am_i b)) 3262 0 (gU (ogM g u b), gD (ogM g u b), stU g p, gO g, gM g, gC g, gV g) := g1.up (fun i hi => si_o (by omega)) (fun k hk => by
    rw [si_o (by omega)]
    have := g1.1 k hk
    rw [Nat.zero_add] at this
    rw [this]
    show am_i (if gU g k = -2 then 0 else 1) = am_i (if (if k = u then (b : Int) else gU g k) = -2 then 0 else 1)
    by_cases q : k = u
    · rw [if_pos q, q, if_neg hu2, if_neg (by omega)]
    · rw [if_neg q]) (fun k hk k2 => by
    rw [m_si]
    show _ = am_i (if k = u then (b : Int) else gU g k)
    by_cases q : k = u
    · rw [if_pos ⟨rfl, by omega⟩, if_pos q]
    · have k2 : (if k = u then (b : Int) else gU g k) ≠ -2 := k2
      rw [if_neg q] at k2
      rw [if_neg (fun y => q (by have := y.2; omega)), if_neg q]
      have := g1.2.1 k hk k2
      rwa [Nat.zero_add] at this)
  obtain ⟨m2, e2, f2, f2', g3⟩ := s_st9 (u := b) g2 hT' hb (show gU (ogM g u b) b ≠ -2 by rw [ogM_U bu]; exact hb2)
  have hB2 : BM m2 3262 k := hB.copy (fun i i1 i2 => by rw [f2' i (by omega), si_o (by omega), f1' i (by omega)])
  obtain ⟨m3, e3, f3, hB3⟩ := s_X9_counts (w := 5) (x := am_i 1) hB2 (by decide)
  have x24 : am_ix (am_i 24 + am_i (u : Int)) = 24 + u := by rw [i_add, i_ix (by omega) (by omega)]; omega
  have y24 : am_ib (am_i 24 + am_i (u : Int)) 15517 = true := by rw [i_add, i_ibt (by omega) (by omega) (by omega)]
  have eu := hG.2.1 u hu hu2
  rw [Nat.zero_add, hp1] at eu
  refine ⟨m3, ?_, ?_, g3.fk f3, hB3⟩
  · unfold m_X9_moves
    rw [x24, y24, cond_true, eu, e1, Option.bind_some, cond_true, am_letF, e2, Option.bind_some, show m_X9_counts m2 (am_i 5) (am_i 1) = some m3 from e3]
    rfl
  · intro c hc
    rw [f3.1 c hc, f2 c hc, si_ne hc]
    exact f1 c hc
theorem q_move (h : GS m r s) (a b : Int32) : ∃ y m1 m2, m_X8_move m r a b = some (y, m1) ∧ m_X9_move m1 a b = some (y, m2) ∧ Good m2 r := by
  obtain ⟨x, h1, h2, rfl⟩ := i_any a
  obtain ⟨z, h3, h4, rfl⟩ := i_any b
  cases c : cmv (gU (xG s)) (gD (xG s)) x z
  · refine ⟨am_i (-1), m, m, ?_, ?_, h.g⟩
    · unfold m_X8_move
      rw [s_X1_canMove h.tc h.tr h1 h2 h3 h4, c]
      rfl
    · unfold m_X9_move
      rw [s_X9_canMove h.tm h.tr h1 h2 h3 h4, c]
      rfl
  · obtain ⟨u, b, p, rfl, rfl, hu, hu2, hb, hb2, hn, hd, hp, hp1, hp2, bu⟩ := cmv_i h.tr c
    obtain ⟨m1, e1, f1, hP, hG1, hB1⟩ := keep8 h
    obtain ⟨m2, e2, f2, g2⟩ := s_moveTo hG1 h.tr h.1 og4 hu hu2 hb hb2 hn hd hp hp1 hp2
    have hB2 : BC m2 2970 (xB s) := hB1.kept (fun b b1 b2 => f2 b (by unfold aU aS; omega))
    obtain ⟨m3, e3, f3, hB3⟩ := s_X0_tally (w := 5) (x := am_i 1) hB2 (by decide)
    have g3 : OC m3 r 4 (ogS (ogM (xG s) u b) (stM (xG s) u b p)) := g2.kept h.1 og4 (fun b b1 b2 => f3 b (by omega)) rfl
    have F8 : ∀ b, ¬ (498 ≤ b ∧ b < 2970) → b ≠ 5 → b ≠ 6 → ¬ (2970 ≤ b ∧ b < 2976) → m3 b = m b := fun b b1 b2 b3 b4 => by
      rw [f3 b b4, f2 b (by unfold aU aS; omega)]
      exact f1 b b1
    have ms : MS m3 s := h.2.2.1.kept (fun b b1 _ => F8 b (by omega) (by omega) (by omega) (by omega))
    obtain ⟨m4, e4, f4, f4', hP4, w4⟩ := keep9 ms h.2.2.2
    have oM4 : OM m4 3262 0 (xG s) := ms.1.kept (fun i _ => by rw [w4])
    have hB4 : BM m4 3262 (xB s) := ms.2.1.copy (fun i _ _ => by rw [w4])
    obtain ⟨m5, e5, f5, g5, hB5⟩ := s_moves oM4 hB4 h.tr hu hu2 hb hb2 hn hd hp hp1 hp2
    have hI := ogM_IG h.ig hu hu2 hb hb2 hn hd hp hp1 hp2
    have q1 := s_X1_branchSize (t := (u : Int)) g3.1 hI.1 (by omega) (by omega)
    have q2 := s_X9_branchMany (t := (u : Int)) g5.TM hI.1 (by omega) (by omega)
    refine ⟨am_i ((cn (fun k => thr (gU (ogS (ogM (xG s) u b) (stM (xG s) u b p))) (k : Int) && inB (gU (ogS (ogM (xG s) u b) (stM (xG s) u b p))) (gD (ogS (ogM (xG s) u b) (stM (xG s) u b p))) k (u : Int)) 24 : Nat) : Int), m3, m5, ?_, ?_, act_end h g3 hB3 (hP.kept h.1 (by omega) (fun b b1 b2 => by rw [f3 b (by omega), f2 b (by unfold aU aS; omega)]) (fun _ _ => rfl)) (fun b hb => F8 b (by omega) (by omega) (by omega) (by omega)) g5 hB5 (hP4.kept (by rw [f5 3261 (by decide)]) (f5 3265 (by decide))) (fun b hb => by rw [f5 b (by omega)]; exact f4 b (fun z => by unfold F5 at z; omega)) (fun b hb => by rw [f5 b (by omega), f4 b (fun z => by unfold F5 at z; omega)]; exact F8 b (by omega) (by omega) (by omega) (by omega)) (fun j hj => by rw [f5 3261 (by decide), f4' j hj, F8 3261 (by omega) (by omega) (by omega) (by omega)]) hI h.2.2.2.2.1⟩
    · unfold m_X8_move
      rw [s_X1_canMove h.tc h.tr h1 h2 h3 h4, c, Option.bind_some, if_pos (by decide), e1, Option.bind_some, e2, Option.bind_some, show m_X0_tally m2 2970 (am_i 5) (am_i 1) = some m3 from e3, Option.bind_some, q1]
      rfl
    · unfold m_X9_move
      rw [s_X9_canMove ms.1.TM h.tr h1 h2 h3 h4, c, Option.bind_some, if_pos (by decide), e4, Option.bind_some, e5, Option.bind_some, q2]
      rfl
end A3
