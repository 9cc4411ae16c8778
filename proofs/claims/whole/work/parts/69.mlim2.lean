/-! ===== mathematics: limit, comes, the calls ===== -/
section L2
variable {m : am_m} {r : am_rr} {s : Sx}
theorem s_u8 {x : Int} (h1 : -2147483648 ≤ x) (h2 : x ≤ 2147483647) : m_X8_isUnit m (am_i x) = some (am_i (if 0 ≤ x ∧ x ≤ 23 then 1 else 0)) := by
  unfold m_X8_isUnit
  by_cases c1 : x < 0
  · rw [if_neg (show ¬ (0 ≤ x ∧ x ≤ 23) by omega)]
    simp (disch := first | assumption | omega) only [i_add, i_sub, i_mul, i_lt, i_le, i_eq, i_ibt, i_ixn, i_ix, i_zero, am_letF, cond_true, cond_false, Option.bind_some, ↓reduceIte, m_si, m_sc, true_and, and_true, not_true_eq_false, not_false_eq_true, i_gtF, i_leT, i_geF, i_ltT, Int32.zero_add, Int.toNat_natCast, ix_own, ix_sum, ix_ver, ix_th, ix_ab, ix_st, ix_vm, ix_lim, ix_lim1, ix_lim2, ix_lim3, Int.toNat_zero, i_neF, i_eqT, b1T, b1F]
  · by_cases c2 : 24 ≤ x
    · rw [if_neg (show ¬ (0 ≤ x ∧ x ≤ 23) by omega)]
      simp (disch := first | assumption | omega) only [i_add, i_sub, i_mul, i_lt, i_le, i_eq, i_ibt, i_ixn, i_ix, i_zero, am_letF, cond_true, cond_false, Option.bind_some, ↓reduceIte, m_si, m_sc, true_and, and_true, not_true_eq_false, not_false_eq_true, i_gtF, i_leT, i_geF, i_ltT, Int32.zero_add, Int.toNat_natCast, ix_own, ix_sum, ix_ver, ix_th, ix_ab, ix_st, ix_vm, ix_lim, ix_lim1, ix_lim2, ix_lim3, Int.toNat_zero, i_neF, i_eqT, b1T, b1F]
    · rw [if_pos (show (0 ≤ x ∧ x ≤ 23) by omega)]
      simp (disch := first | assumption | omega) only [i_add, i_sub, i_mul, i_lt, i_le, i_eq, i_ibt, i_ixn, i_ix, i_zero, am_letF, cond_true, cond_false, Option.bind_some, ↓reduceIte, m_si, m_sc, true_and, and_true, not_true_eq_false, not_false_eq_true, i_gtF, i_leT, i_geF, i_ltT, Int32.zero_add, Int.toNat_natCast, ix_own, ix_sum, ix_ver, ix_th, ix_ab, ix_st, ix_vm, ix_lim, ix_lim1, ix_lim2, ix_lim3, Int.toNat_zero, i_neF, i_eqT, b1T, b1F]
theorem s_p8 {x y : Int} (h1 : -2147483648 ≤ x) (h2 : x ≤ 2147483647) (h3 : -2147483648 ≤ y) (h4 : y ≤ 2147483647) : m_X8_isSpan m (am_i x) (am_i y) = some (am_i (if 0 ≤ x ∧ x ≤ y ∧ y ≤ 63 then 1 else 0)) := by
  unfold m_X8_isSpan
  by_cases c1 : x < 0
  · rw [if_neg (show ¬ (0 ≤ x ∧ x ≤ y ∧ y ≤ 63) by omega)]
    simp (disch := first | assumption | omega) only [i_add, i_sub, i_mul, i_lt, i_le, i_eq, i_ibt, i_ixn, i_ix, i_zero, am_letF, cond_true, cond_false, Option.bind_some, ↓reduceIte, m_si, m_sc, true_and, and_true, not_true_eq_false, not_false_eq_true, i_gtF, i_leT, i_geF, i_ltT, Int32.zero_add, Int.toNat_natCast, ix_own, ix_sum, ix_ver, ix_th, ix_ab, ix_st, ix_vm, ix_lim, ix_lim1, ix_lim2, ix_lim3, Int.toNat_zero, i_neF, i_eqT, b1T, b1F]
  · by_cases c2 : y < x
    · rw [if_neg (show ¬ (0 ≤ x ∧ x ≤ y ∧ y ≤ 63) by omega)]
      simp (disch := first | assumption | omega) only [i_add, i_sub, i_mul, i_lt, i_le, i_eq, i_ibt, i_ixn, i_ix, i_zero, am_letF, cond_true, cond_false, Option.bind_some, ↓reduceIte, m_si, m_sc, true_and, and_true, not_true_eq_false, not_false_eq_true, i_gtF, i_leT, i_geF, i_ltT, Int32.zero_add, Int.toNat_natCast, ix_own, ix_sum, ix_ver, ix_th, ix_ab, ix_st, ix_vm, ix_lim, ix_lim1, ix_lim2, ix_lim3, Int.toNat_zero, i_neF, i_eqT, b1T, b1F]
    · by_cases c3 : 64 ≤ y
      · rw [if_neg (show ¬ (0 ≤ x ∧ x ≤ y ∧ y ≤ 63) by omega)]
        simp (disch := first | assumption | omega) only [i_add, i_sub, i_mul, i_lt, i_le, i_eq, i_ibt, i_ixn, i_ix, i_zero, am_letF, cond_true, cond_false, Option.bind_some, ↓reduceIte, m_si, m_sc, true_and, and_true, not_true_eq_false, not_false_eq_true, i_gtF, i_leT, i_geF, i_ltT, Int32.zero_add, Int.toNat_natCast, ix_own, ix_sum, ix_ver, ix_th, ix_ab, ix_st, ix_vm, ix_lim, ix_lim1, ix_lim2, ix_lim3, Int.toNat_zero, i_neF, i_eqT, b1T, b1F]
      · rw [if_pos (show (0 ≤ x ∧ x ≤ y ∧ y ≤ 63) by omega)]
        simp (disch := first | assumption | omega) only [i_add, i_sub, i_mul, i_lt, i_le, i_eq, i_ibt, i_ixn, i_ix, i_zero, am_letF, cond_true, cond_false, Option.bind_some, ↓reduceIte, m_si, m_sc, true_and, and_true, not_true_eq_false, not_false_eq_true, i_gtF, i_leT, i_geF, i_ltT, Int32.zero_add, Int.toNat_natCast, ix_own, ix_sum, ix_ver, ix_th, ix_ab, ix_st, ix_vm, ix_lim, ix_lim1, ix_lim2, ix_lim3, Int.toNat_zero, i_neF, i_eqT, b1T, b1F]
theorem l_limit9 {u l t : Nat} {w : Int} (hu : u < 24) (hl : l ≤ t) (ht : t < 64) (h5 : -1 ≤ w) (h6 : w ≤ 999999) {k : Bk} (hB : BM m 3262 k) (hK : IB k) : m_X9_limit m (am_i u) (am_i l) (am_i t) (am_i w) = (if ¬ am_i w = am_i (-1) then if ¬ am_i (ltA k u l t : Int) = am_i 12 then (bif am_ib ((am_i 15468) + ((am_i 4) * am_i (ltA k u l t : Int))) 15517 then am_let (am_si m 3262 (am_ix ((am_i 15468) + ((am_i 4) * am_i (ltA k u l t : Int)))) (am_i u)) (fun m22 => bif am_ib (((am_i 15468) + ((am_i 4) * am_i (ltA k u l t : Int))) + (am_i 1)) 15517 then am_let (am_si m22 3262 (am_ix (((am_i 15468) + ((am_i 4) * am_i (ltA k u l t : Int))) + (am_i 1))) (am_i l)) (fun m24 => bif am_ib (((am_i 15468) + ((am_i 4) * am_i (ltA k u l t : Int))) + (am_i 2)) 15517 then am_let (am_si m24 3262 (am_ix (((am_i 15468) + ((am_i 4) * am_i (ltA k u l t : Int))) + (am_i 2))) (am_i t)) (fun m26 => bif am_ib (((am_i 15468) + ((am_i 4) * am_i (ltA k u l t : Int))) + (am_i 3)) 15517 then am_let (am_si m26 3262 (am_ix (((am_i 15468) + ((am_i 4) * am_i (ltA k u l t : Int))) + (am_i 3))) (am_i w)) (fun m28 => if ¬ am_i (ltA k u l t : Int) = am_i (bkN k) then am_let (am_si m28 3262 15467 (am_i (bkN k))) (fun m31 => some (m31 3262 15467, m31)) else am_let (am_si m28 3262 15467 (am_i (bkN k) + am_i 1)) (fun m34 => some (m34 3262 15467, m34))) else none) else none) else none) else none) else some (am_i (-1), m) else if ¬ am_i (ltA k u l t : Int) = am_i (bkN k) then m_X9_limit_144 (am_i u) (am_i l) (am_i t) (am_i w) (am_i (bkN k)) (fun m41 => am_let (am_si m41 3262 15467 (m41 3262 15467 - am_i 1)) (fun m44 => some (m44 3262 15467, m44))) am_F (am_i 4 * am_i (ltA k u l t : Int)) m else some (am_i (-1), m)) := by
  unfold m_X9_limit
  rw [s_X9_isIn (by omega) (by omega) (by decide) (by decide) (by decide) (by decide), if_pos (show (0 : Int) ≤ (u : Int) ∧ (u : Int) ≤ 23 by omega), Option.bind_some, if_neg (by decide), s_c9 (by omega) (by omega), if_pos (show (0 : Int) ≤ (l : Int) ∧ (l : Int) ≤ 63 by omega), Option.bind_some, if_neg (by decide), s_c9 (by omega) (by omega), if_pos (show (0 : Int) ≤ (t : Int) ∧ (t : Int) ≤ 63 by omega), Option.bind_some, if_neg (by decide), if_neg (by rw [i_lt (by omega) (by omega) (by omega) (by omega)]; omega), s_X9_isIn (by omega) (by omega) (by decide) (by decide) (by decide) (by decide), if_pos (show (-1 : Int) ≤ w ∧ w ≤ 999999 by omega), Option.bind_some, if_pos (by decide), show am_ib (am_i 15467) 15517 = true by decide, show am_ix (am_i 15467) = 15467 by decide, cond_true, hB.2.1, l_X9_limit_55 hB hK hu (by omega) ht]
  simp only [cond_true]
theorem q_limit (h : GS m r s) (a b c d : Int32) : ∃ y m1 m2, m_X8_limit m a b c d = some (y, m1) ∧ m_X9_limit m1 a b c d = some (y, m2) ∧ Good m2 r := by
  obtain ⟨x, h1, h2, rfl⟩ := i_any a
  obtain ⟨y, h3, h4, rfl⟩ := i_any b
  obtain ⟨z, h5, h6, rfl⟩ := i_any c
  obtain ⟨w, h7, h8, rfl⟩ := i_any d
  have hB := h.2.1.2.1
  have hB9 := h.2.2.1.2.1
  have hK := h.2.2.2.2.1
  have hn := hK.1
  by_cases c1 : 0 ≤ x ∧ x ≤ 23
  · by_cases c2 : 0 ≤ y ∧ y ≤ z ∧ z ≤ 63
    · by_cases c3 : -1 ≤ w ∧ w ≤ 999999
      · obtain ⟨u, rfl⟩ : ∃ u : Nat, x = u := ⟨x.toNat, by omega⟩
        obtain ⟨l, rfl⟩ : ∃ u : Nat, y = u := ⟨y.toNat, by omega⟩
        obtain ⟨t, rfl⟩ : ∃ u : Nat, z = u := ⟨z.toNat, by omega⟩
        have hle : ltA (xB s) u l t ≤ bkN (xB s) := fi_le _ _
        have E8 : m_X8_limit m (am_i u) (am_i l) (am_i t) (am_i w) = (if ¬ am_i w = am_i (-1) then (m_X0_tellLimit m 2970 (am_i u) (am_i l) (am_i t) (am_i w)).bind fun q8 => if q8.1 = 0 then some (am_i (-1), q8.2) else some (q8.2 2970 5, q8.2) else (m_X0_dropLimit m 2970 (am_i u) (am_i l) (am_i t)).bind fun q10 => if q10.1 = 0 then some (am_i (-1), q10.2) else some (q10.2 2970 5, q10.2)) := by
          unfold m_X8_limit
          rw [s_u8 h1 h2, if_pos c1, Option.bind_some, if_neg (by decide), s_p8 h3 h4 h5 h6, if_pos c2, Option.bind_some, if_neg (by decide), if_neg (by rw [i_lt (by omega) (by omega) (by omega) (by omega)]; omega), if_pos (by rw [i_le (by omega) (by omega) (by omega) (by omega)]; omega)]
        rw [E8]
        by_cases c4 : w = -1
        · have ew : am_i w = am_i (-1) := by rw [c4]
          rw [if_neg (fun q => q ew)]
          by_cases c5 : ltA (xB s) u l t < bkN (xB s)
          · obtain ⟨m1, e1, f1, g1⟩ := s_X0_dropLimit hB hK (by omega : u < 24) (by omega : l < 64) (by omega : t < 64) c5
            have B1 : BM m1 3262 (xB s) := hB9.copy (fun i _ _ => by rw [f1 3262 (by omega)])
            obtain ⟨m2, e2, f2, f3, f4⟩ := l_X9_limit_144 (m := m1) (k := xB s) (a := ltA (xB s) u l t) (x1 := am_i u) (x2 := am_i l) (x3 := am_i t) (x4 := am_i w) (kk := fun m41 => am_let (am_si m41 3262 15467 (m41 3262 15467 - am_i 1)) (fun m44 => some (m44 3262 15467, m44))) B1 hK c5
            have q67 : m2 3262 15467 = am_i (bkN (xB s)) := by rw [f3 15467 (by omega)]; exact B1.2.1
            have eN : am_i (bkN (xB s) : Int) - am_i 1 = am_i ((bkN (xB s) - 1 : Nat) : Int) := by rw [i_sub, show (bkN (xB s) : Int) - 1 = ((bkN (xB s) - 1 : Nat) : Int) by omega]
            refine ⟨am_i ((bkN (xB s) - 1 : Nat) : Int), m1, am_si m2 3262 15467 (am_i ((bkN (xB s) - 1 : Nat) : Int)), ?_, ?_, book_end h (m2 := m1) g1 f1 ⟨fun i hi => ?_, ?_, fun i hi hi2 => ?_, ?_⟩ (fun b hb => by rw [si_ne hb, f2 b hb]) (fun i hi => by rw [si_o (by omega), f3 i (by omega), f1 3262 (by omega)]) (ltD_IB hK)⟩
            · rw [e1, Option.bind_some]
              show (if am_i 1 = 0 then _ else some (m1 2970 5, m1)) = _
              rw [if_neg (by decide), show m1 2970 5 = am_i ((bkN (xB s) - 1 : Nat) : Int) from g1.2.1]
            · rw [l_limit9 (by omega) (by omega) (by omega) c3.1 c3.2 B1 hK, if_neg (fun q => q ew), if_pos (by rw [i_eq (by omega) (by omega) (by omega) (by omega)]; omega), i_mul, e2, am_letF, q67, eN, si_at]
            · rw [si_o (by omega), f3 _ (by omega)]; exact B1.1 i hi
            · rw [si_at]; rfl
            · have hi : i < bkN (xB s) - 1 := hi
              show _ = am_i ((if ltA (xB s) u l t ≤ i then bkU (xB s) (i + 1) else bkU (xB s) i : Nat) : Int) ∧ _ = am_i ((if ltA (xB s) u l t ≤ i then bkL (xB s) (i + 1) else bkL (xB s) i : Nat) : Int) ∧ _ = am_i ((if ltA (xB s) u l t ≤ i then bkH (xB s) (i + 1) else bkH (xB s) i : Nat) : Int) ∧ _ = am_i ((if ltA (xB s) u l t ≤ i then bkM (xB s) (i + 1) else bkM (xB s) i : Nat) : Int)
              rw [si_o (by omega), si_o (by omega), si_o (by omega), si_o (by omega)]
              by_cases c : ltA (xB s) u l t ≤ i
              · obtain ⟨v1, v2, v3, v4⟩ := B1.2.2.1 (i + 1) (by omega) (by omega)
                rw [if_pos c, if_pos c, if_pos c, if_pos c, f4 _ (by omega) (by omega), f4 _ (by omega) (by omega), f4 _ (by omega) (by omega), f4 _ (by omega) (by omega)]
                refine ⟨?_, ?_, ?_, ?_⟩
                · rw [← v1]; congr 1
                · rw [← v2]; congr 1
                · rw [← v3]; congr 1
                · rw [← v4]; congr 1
              · obtain ⟨v1, v2, v3, v4⟩ := B1.2.2.1 i (by omega) (by omega)
                rw [if_neg c, if_neg c, if_neg c, if_neg c, f3 _ (by omega), f3 _ (by omega), f3 _ (by omega), f3 _ (by omega)]
                exact ⟨v1, v2, v3, v4⟩
            · rw [si_o (by omega), f3 _ (by omega)]; exact B1.2.2.2
          · refine ⟨am_i (-1), m, m, ?_, ?_, h.g⟩
            · unfold m_X0_dropLimit
              rw [s_X0_limitAt hB hK (by omega) (by omega) (by omega), if_neg c5]
              rfl
            · rw [l_limit9 (by omega) (by omega) (by omega) c3.1 c3.2 hB9 hK, if_neg (fun q => q ew), if_neg (by rw [i_eq (by omega) (by omega) (by omega) (by omega)]; omega)]
        · obtain ⟨n, rfl⟩ : ∃ u : Nat, w = u := ⟨w.toNat, by omega⟩
          have ew : ¬ am_i (n : Int) = am_i (-1) := by rw [i_eq (by omega) (by omega) (by omega) (by omega)]; exact c4
          rw [if_pos ew]
          by_cases c6 : ltA (xB s) u l t = 12
          · refine ⟨am_i (-1), m, m, ?_, ?_, h.g⟩
            · unfold m_X0_tellLimit
              rw [s_X0_limitAt hB hK (by omega) (by omega) (by omega), if_neg (by omega), Option.bind_some, if_neg (by decide), hB.2.1, if_neg (by rw [i_lt (by omega) (by omega) (by omega) (by omega)]; omega)]
              rfl
            · rw [l_limit9 (by omega) (by omega) (by omega) c3.1 c3.2 hB9 hK, if_pos ew, if_neg (by rw [c6]; decide)]
          · have hT := ltT_BC (m := m) (m' := _) (k := xB s) (a := ltA (xB s) u l t) (u := u) (l := l) (h := t) (n := n) hB hle (by omega) rfl
            have hI := ltT_IB (k := xB s) (a := ltA (xB s) u l t) (u := u) (l := l) (h := t) (n := n) hK hle (by omega) (by omega) (by omega) (by omega) (by omega)
            generalize hM : am_si (am_si (am_si (am_si (am_si m 2970 5 (am_i (if ltA (xB s) u l t < bkN (xB s) then bkN (xB s) else bkN (xB s) + 1 : Nat))) (aB 2970 1) (ltA (xB s) u l t) (am_i u)) (aB 2970 2) (ltA (xB s) u l t) (am_i l)) (aB 2970 3) (ltA (xB s) u l t) (am_i t)) (aB 2970 4) (ltA (xB s) u l t) (am_i n) = M at hT
            have f1 : ∀ b, ¬ (2970 ≤ b ∧ b < 2976) → M b = m b := fun b hb => by rw [← hM, si_ne (by unfold aB; omega), si_ne (by unfold aB; omega), si_ne (by unfold aB; omega), si_ne (by unfold aB; omega), si_ne (by omega)]
            have e1 : m_X0_tellLimit m 2970 (am_i u) (am_i l) (am_i t) (am_i n) = some (am_i 1, M) := by
              unfold m_X0_tellLimit
              rw [s_X0_limitAt hB hK (by omega) (by omega) (by omega), Option.bind_some, hB.2.1]
              by_cases c5 : ltA (xB s) u l t < bkN (xB s)
              · rw [if_pos c5] at hM
                rw [if_pos c5, if_pos (by rw [i_eq (by omega) (by omega) (by omega) (by omega)]; omega), i_ibt (by omega) (by omega) (by omega), i_ixn (by omega)]
                simp only [cond_true, am_letF]
                rw [← hM, si_id hB.2.1]
              · have eN : ltA (xB s) u l t = bkN (xB s) := by omega
                rw [if_neg c5, eN] at hM
                rw [if_neg c5, if_neg (by decide), if_pos (by rw [i_lt (by omega) (by omega) (by omega) (by omega)]; omega), i_ibt (by omega) (by omega) (by omega), i_ixn (by omega)]
                simp only [cond_true, am_letF]
                rw [← hM, i_add]
                rfl
            have B1 : BM M 3262 (xB s) := hB9.copy (fun i _ _ => by rw [f1 3262 (by omega)])
            have hT9 := ltT_BM (m := M) (m' := _) (k := xB s) (a := ltA (xB s) u l t) (u := u) (l := l) (h := t) (n := n) B1 hle (by omega) rfl
            generalize hM9 : am_si (am_si (am_si (am_si (am_si M 3262 (15468 + 4 * ltA (xB s) u l t) (am_i u)) 3262 (15468 + 4 * ltA (xB s) u l t + 1) (am_i l)) 3262 (15468 + 4 * ltA (xB s) u l t + 2) (am_i t)) 3262 (15468 + 4 * ltA (xB s) u l t + 3) (am_i n)) 3262 15467 (am_i (if ltA (xB s) u l t < bkN (xB s) then bkN (xB s) else bkN (xB s) + 1 : Nat)) = M9 at hT9
            have f9 : ∀ b, b ≠ 3262 → M9 b = M b := fun b hb => by rw [← hM9, si_ne hb, si_ne hb, si_ne hb, si_ne hb, si_ne hb]
            have f9' : ∀ i, i < 15456 → M9 3262 i = m 3262 i := fun i hi => by rw [← hM9, si_o (by omega), si_o (by omega), si_o (by omega), si_o (by omega), si_o (by omega), f1 3262 (by omega)]
            refine ⟨am_i ((if ltA (xB s) u l t < bkN (xB s) then bkN (xB s) else bkN (xB s) + 1 : Nat) : Int), M, M9, ?_, ?_, book_end h (m2 := M) hT f1 hT9 f9 f9' hI⟩
            · rw [e1, Option.bind_some]
              show (if am_i 1 = 0 then _ else some (M 2970 5, M)) = _
              rw [if_neg (by decide), hT.2.1]
              rfl
            · obtain ⟨v1, v2, v3, v4⟩ := lx (ltA (xB s) u l t) (by omega)
              obtain ⟨w1, w2, w3, w4⟩ := ly (ltA (xB s) u l t) (by omega)
              have e67 : M9 3262 15467 = am_i ((if ltA (xB s) u l t < bkN (xB s) then bkN (xB s) else bkN (xB s) + 1 : Nat) : Int) := hT9.2.1
              rw [l_limit9 (by omega) (by omega) (by omega) c3.1 c3.2 B1 hK, if_pos ew, if_pos (by rw [i_eq (by omega) (by omega) (by omega) (by omega)]; omega), w1, w2, w3, w4, v1, v2, v3, v4]
              simp only [cond_true, am_letF]
              by_cases c5 : ltA (xB s) u l t < bkN (xB s)
              · rw [if_pos c5] at hM9 e67 ⊢
                rw [if_pos (by rw [i_eq (by omega) (by omega) (by omega) (by omega)]; omega), hM9, e67]
              · rw [if_neg c5] at hM9 e67 ⊢
                rw [if_neg (by rw [i_eq (by omega) (by omega) (by omega) (by omega)]; omega), i_add, show (bkN (xB s) : Int) + 1 = ((bkN (xB s) + 1 : Nat) : Int) from rfl, hM9, e67]
      · refine ⟨am_i (-1), m, m, ?_, ?_, h.g⟩
        · unfold m_X8_limit
          rw [s_u8 h1 h2, if_pos c1, Option.bind_some, if_neg (by decide), s_p8 h3 h4 h5 h6, if_pos c2, Option.bind_some, if_neg (by decide)]
          by_cases c4 : w < -1
          · rw [if_pos (by rw [i_lt (by omega) (by omega) (by omega) (by omega)]; omega)]
          · rw [if_neg (by rw [i_lt (by omega) (by omega) (by omega) (by omega)]; omega), if_neg (by rw [i_le (by omega) (by omega) (by omega) (by omega)]; omega)]
        · unfold m_X9_limit
          rw [s_X9_isIn h1 h2 (by decide) (by decide) (by decide) (by decide), if_pos c1, Option.bind_some, if_neg (by decide), s_c9 h3 h4, if_pos (show 0 ≤ y ∧ y ≤ 63 by omega), Option.bind_some, if_neg (by decide), s_c9 h5 h6, if_pos (show 0 ≤ z ∧ z ≤ 63 by omega), Option.bind_some, if_neg (by decide), if_neg (by rw [i_lt (by omega) (by omega) (by omega) (by omega)]; omega), s_X9_isIn h7 h8 (by decide) (by decide) (by decide) (by decide), if_neg c3, Option.bind_some, if_neg (by decide)]
    · refine ⟨am_i (-1), m, m, ?_, ?_, h.g⟩
      · unfold m_X8_limit
        rw [s_u8 h1 h2, if_pos c1, Option.bind_some, if_neg (by decide), s_p8 h3 h4 h5 h6, if_neg c2, Option.bind_some, if_pos (by decide)]
      · unfold m_X9_limit
        rw [s_X9_isIn h1 h2 (by decide) (by decide) (by decide) (by decide), if_pos c1, Option.bind_some, if_neg (by decide), s_c9 h3 h4, s_c9 h5 h6]
        by_cases c4 : 0 ≤ y ∧ y ≤ 63
        · rw [if_pos c4, Option.bind_some, if_neg (by decide)]
          by_cases c5 : 0 ≤ z ∧ z ≤ 63
          · rw [if_pos c5, Option.bind_some, if_neg (by decide), if_pos (by rw [i_lt (by omega) (by omega) (by omega) (by omega)]; omega)]
          · rw [if_neg c5, Option.bind_some, if_pos (by decide)]
        · rw [if_neg c4, Option.bind_some, if_pos (by decide)]
  · refine ⟨am_i (-1), m, m, ?_, ?_, h.g⟩
    · unfold m_X8_limit
      rw [s_u8 h1 h2, if_neg c1, Option.bind_some, if_pos (by decide)]
    · unfold m_X9_limit
      rw [s_X9_isIn h1 h2 (by decide) (by decide) (by decide) (by decide), if_neg c1, Option.bind_some, if_pos (by decide)]
end L2
