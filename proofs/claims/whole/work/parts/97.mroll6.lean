/-! ===== mathematics: rolling up, both ===== -/
theorem rlR_K {f u : Nat} {s : Rs} (hI : IG s.1) (hu : u < 24) (hd : 13 ≤ f + 1 + gD s.1 u) : RKK (rlR f) u s := fun t i ht hi hiu => by
  obtain ⟨_, n2, n3, n4⟩ := hI.1.ne hi hiu
  refine rlR_ok f t i ht.2.2.2.1 hi (by rw [ht.1]; omega) ?_
  rw [ht.2.1]
  omega
section RB
variable {o : Nat}
/-- as far as the class rolled up -/
def rbC (m : am_m) (r : am_rr) (o : Nat) (S : Rs) (t : am_m × am_rr) : Prop := RI t.2 ∧ (∀ b, b ≠ o + 54 → t.2 b = r b) ∧ Fr (fun b => FZ7 b ∨ (o < b ∧ b < o + 247)) m t.1 ∧ OC t.1 t.2 o S.1 ∧ CZ t.1 S.2.1 S.2.2.1 S.2.2.2
theorem og_FZ7 (ho : am_og o) : ∀ e, o < e → e < o + 247 → ¬ FZ7 e := fun e h1 h2 z => by
  unfold FZ7 at z
  rcases ho with rfl | rfl | rfl | ⟨i, hi, rfl⟩ <;> omega
theorem l_X4_unit {m : am_m} {r : am_rr} {S : Rs} {u : Nat} (ho : am_og o) (hR : RI r) (h : OC m r o S.1) (hz : CZ m S.2.1 S.2.2.1 S.2.2.2) (hI : IG S.1) (hu : u < 24) (hu2 : gU S.1 u ≠ -2) (hS : ∀ i, i < 24 → gU S.1 i = (u : Int) → gS S.1 i = 0) : ∃ t, rbC m r o (rlF S u) t ∧ ((m_X4_keptPart m o (am_i u)).bind fun q12 => (m_X4_mergeParts m o (am_i u) q12).bind fun q13 => (m_X1_rolledUp q13 r o (am_i u) 2983).bind fun q14 => am_let (am_si q14.1 2982 3 ((q14.1 2982 3) + (am_i 1))) (fun m15 => some (m15, q14.2))) = some t := by
  have hk := kp_is S.1 u
  have hs := og_FZ7 ho
  rw [s_X4_keptPart h hI hu, Option.bind_some]
  obtain ⟨m1, e1, f1, z1, w1⟩ := s_X4_mergeParts ho h hR hI hu hk (fun j hj e => mgR_le hI hu hu2 hk hS hj e) (fun e => by rw [mgRT_br hI hu hu2 hk hS e]; exact br_le hI.2.1 u e) hz
  have h1 : OC m1 r o S.1 := h.kept hR ho (fun e h1 h2 => f1 e (hs e h1 h2)) rfl
  obtain ⟨m2, r2, e2, R2, g2, f2, h2⟩ := s_X1_rolledUp hR ho h1 hI hu w1
  have k2 : m2 2982 = m1 2982 := f2 2982 (fun z => hs 2982 z.1 z.2 (Or.inl rfl))
  rw [e1, Option.bind_some, e2, Option.bind_some, am_letF]
  dsimp only
  refine ⟨_, ⟨R2, g2, ?_, ?_, ?_, ?_, ?_⟩, rfl⟩
  · exact (((f1.mono (fun b hb => Or.inl hb)).trans (f2.mono (fun b hb => Or.inr hb))).si2 (Or.inl (Or.inl rfl)))
  · exact h2.kept R2 ho (fun e h1 h2 => si_ne (fun z => hs e h1 h2 (Or.inl z))) rfl
  · show am_si m2 2982 3 (m2 2982 3 + am_i 1) 2982 1 = _
    rw [si_o (by decide), k2]; exact z1.1
  · show am_si m2 2982 3 (m2 2982 3 + am_i 1) 2982 2 = _
    rw [si_o (by decide), k2]; exact z1.2.1
  · show am_si m2 2982 3 (m2 2982 3 + am_i 1) 2982 3 = _
    rw [si_at, k2, z1.2.2, nj]
    rfl
theorem s_X4_rollBranch (ho : am_og o) : ∀ (f : Nat) (m : am_m) (r : am_rr) (s : Rs) (u x : Nat), RI r → OC m r o s.1 → IG s.1 → u < 24 → gU s.1 u ≠ -2 → 13 ≤ f + gD s.1 u → x ≤ gD s.1 u → CZ m s.2.1 s.2.2.1 s.2.2.2 → ∃ t, rbC m r o (rlR f s u) t ∧ m_X4_rollBranch f m r o (am_i u) (am_i x) = some t := by
  intro f
  induction f with
  | zero =>
    intro m r s u x _ _ hI _ _ hd
    have := hI.1.2.2.2.1 u
    omega
  | succ f ih =>
    intro m r s u x hR h hI hu hu2 hd hx hz
    have d12 := hI.1.2.2.2.1 u
    have s1 := hI.2.2.2.1 u
    unfold m_X4_rollBranch
    rw [if_neg (by rw [i_lt (by omega) (by omega) (by omega) (by omega)]; omega), s_X1_isThere h.1 hI.1 (by omega) (by omega), thr_t hu hu2, Option.bind_some, if_neg (by decide), i_ibt (by omega) (by omega) (by omega), cond_true, i_ixn (by omega), h.2.1 u hu]
    by_cases c : gS s.1 u = 0
    · rw [if_neg (by rw [c]; decide)]
      have e : rlR (f + 1) s u = s := if_pos c
      rw [e]
      exact ⟨(m, r), ⟨hR, fun _ _ => rfl, Fr.refl _ _, h, hz⟩, rfl⟩
    · rw [if_pos (by rw [i_zero, i_eq (by omega) (by omega) (by omega) (by omega)]; omega)]
      have e : rlR (f + 1) s u = rlF (rlK (rlR f) u s 24) u := if_neg c
      rw [e]
      have hK := rlR_K hI hu hd
      refine Exists.elim (lo_inv (fun n j (t : am_m × am_rr) => m_X4_rollBranch_27 (m_X4_rollBranch f) o (am_i u) (am_i x) (am_i u) (am_i x) (fun m10 r11 => (m_X4_keptPart m10 o (am_i u)).bind fun q12 => (m_X4_mergeParts m10 o (am_i u) q12).bind fun q13 => (m_X1_rolledUp q13 r11 o (am_i u) 2983).bind fun q14 => am_let (am_si q14.1 2982 3 ((q14.1 2982 3) + (am_i 1))) (fun m15 => some (m15, q14.2))) n (am_i (j : Int)) t.1 t.2) (fun j t => rbC m r o (rlK (rlR f) u s j) t) 0 24 (fun t => (m_X4_keptPart t.1 o (am_i u)).bind fun q12 => (m_X4_mergeParts t.1 o (am_i u) q12).bind fun q13 => (m_X1_rolledUp q13 t.2 o (am_i u) 2983).bind fun q14 => am_let (am_si q14.1 2982 3 ((q14.1 2982 3) + (am_i 1))) (fun m15 => some (m15, q14.2))) (n := am_F) (s0 := (m, r)) ⟨hR, fun _ _ => rfl, Fr.refl _ _, h, hz⟩ (by omega) (am_Fv (by omega)) (fun n j t _ hj A => ?_) (fun n t A => rfl)) (fun t T => ?_)
      · obtain ⟨m0, r0⟩ := t
        obtain ⟨a1, a2, a3, a4, a5⟩ := A
        dsimp only at a1 a2 a3 a4 a5
        have eK := (rlK_ok hI hK j (by omega)).1
        have e1 := hI.1.2.2.1 j
        show ∃ s' : am_m × am_rr, m_X4_rollBranch_27 _ _ _ _ _ _ _ (n + 1) _ m0 r0 = m_X4_rollBranch_27 _ _ _ _ _ _ _ n _ s'.1 s'.2 ∧ _
        rw [m_X4_rollBranch_27, if_neg (by rw [i_le (by omega) (by omega) (by omega) (by omega)]; omega), i_ibt (by omega) (by omega) (by omega), cond_true, i_ixn (by omega), a4.1 j hj, eK.1, nj, nj]
        by_cases c1 : gU s.1 j = (u : Int)
        · obtain ⟨_, n2, n3, n4⟩ := hI.1.ne hj c1
          have ej : rlK (rlR f) u s (j + 1) = rlR f (rlK (rlR f) u s j) j := if_pos c1
          obtain ⟨⟨m1, r1⟩, ⟨b1, b2, b3, b4, b5⟩, b6⟩ := ih m0 r0 (rlK (rlR f) u s j) j (x + 1) a1 a4 eK.2.2.2.1 hj (by rw [eK.1]; omega) (by rw [eK.2.1]; omega) (by rw [eK.2.1]; omega) a5
          rw [if_neg (fun z => z (by rw [c1])), b6, Option.bind_some]
          refine ⟨(m1, r1), rfl, ?_⟩
          rw [ej]
          exact ⟨b1, fun b hb => (b2 b hb).trans (a2 b hb), a3.trans b3, b4, b5⟩
        · have ej : rlK (rlR f) u s (j + 1) = rlK (rlR f) u s j := if_neg c1
          rw [if_pos (by rw [i_eq (by omega) (by omega) (by omega) (by omega)]; exact c1)]
          refine ⟨(m0, r0), rfl, ?_⟩
          rw [ej]
          exact ⟨a1, a2, a3, a4, a5⟩
      · obtain ⟨⟨a1, a2, a3, a4, a5⟩, T2⟩ := T
        obtain ⟨k1, k2⟩ := rlK_ok hI hK 24 (Nat.le_refl _)
        obtain ⟨t', ⟨b1, b2, b3, b4, b5⟩, b6⟩ := l_X4_unit ho a1 a4 a5 k1.2.2.2.1 hu (by rw [k1.1]; exact hu2) (fun i hi hiu => k2 i hi (by rw [← k1.1]; exact hiu))
        refine ⟨t', ⟨b1, fun b hb => (b2 b hb).trans (a2 b hb), a3.trans b3, b4, b5⟩, ?_⟩
        rw [← b6]
        exact T2
/-- as far as the reference rolled up -/
def rbM (m : am_m) (K : Bk) (S : Rs) (t : am_m) : Prop := Fr FZ6 m t ∧ OM t 3262 0 S.1 ∧ BM t 3262 (bkR K S.2.1 S.2.2.1 S.2.2.2)
theorem mgRT_e {g : Og} {u : Nat} : mgRT g u u = mgR g u u 24 := by
  funext e
  unfold mgRT
  rw [if_pos rfl, Nat.add_zero]
theorem mgRT_n {g : Og} {u k : Nat} (h : k ≠ u) : mgRT g u k = fun e => mgR g u k 24 e + gO g u e := by
  funext e
  unfold mgRT
  rw [if_neg h]
theorem l_X9_unit {self : am_m → Int32 → Option (Int32 × am_m)} {m : am_m} {K : Bk} {S : Rs} {u : Nat} {z : Int} (h : OM m 3262 0 S.1) (hB : BM m 3262 (bkR K S.2.1 S.2.2.1 S.2.2.2)) (hI : IG S.1) (hu : u < 24) (hu2 : gU S.1 u ≠ -2) (hS : ∀ i, i < 24 → gU S.1 i = (u : Int) → gS S.1 i = 0) : ∃ t, rbM m K (rlF S u) t ∧ ((m_X9_keptPart m (am_i u)).bind fun q11 => if ¬ q11.1 = am_i u then (m_X9_sumAt q11.2 q11.1).bind fun q13 => (m_X9_lays q11.2 q13 3266).bind fun q14 => m_X9_rolls_92 self (am_i u) (am_i u) q11.1 (fun u23 m24 => if q11.1 = am_i u then m_X9_rolls_165 self (am_i u) (am_i u) u23 (fun m31 => bif am_ib ((am_i 48) + am_i u) 15517 then am_let (am_si m31 3262 (am_ix ((am_i 48) + am_i u)) (am_i 0)) (fun m33 => (m_X9_counts m33 (am_i 4) (am_i 1)).bind fun q34 => (m_X9_hasVersion q34 (am_i u)).bind fun q35 => some (u23, q35)) else none) am_F (am_i 0) m24 else (m_X9_ownAt m24 (am_i u)).bind fun q36 => (m_X9_merges m24 q36).bind fun q37 => m_X9_rolls_165 self (am_i u) (am_i u) (u23 + q37.1) (fun m38 => bif am_ib ((am_i 48) + am_i u) 15517 then am_let (am_si m38 3262 (am_ix ((am_i 48) + am_i u)) (am_i 0)) (fun m40 => (m_X9_counts m40 (am_i 4) (am_i 1)).bind fun q41 => (m_X9_hasVersion q41 (am_i u)).bind fun q42 => some ((u23 + q37.1), q42)) else none) am_F (am_i 0) q37.2) am_F (am_i z) (am_i 0) q14 else (m_X9_ownAt q11.2 (am_i u)).bind fun q43 => (m_X9_lays q11.2 q43 3266).bind fun q44 => m_X9_rolls_92 self (am_i u) (am_i u) q11.1 (fun u45 m46 => if q11.1 = am_i u then m_X9_rolls_165 self (am_i u) (am_i u) u45 (fun m48 => bif am_ib ((am_i 48) + am_i u) 15517 then am_let (am_si m48 3262 (am_ix ((am_i 48) + am_i u)) (am_i 0)) (fun m50 => (m_X9_counts m50 (am_i 4) (am_i 1)).bind fun q51 => (m_X9_hasVersion q51 (am_i u)).bind fun q52 => some (u45, q52)) else none) am_F (am_i 0) m46 else (m_X9_ownAt m46 (am_i u)).bind fun q53 => (m_X9_merges m46 q53).bind fun q54 => m_X9_rolls_165 self (am_i u) (am_i u) (u45 + q54.1) (fun m55 => bif am_ib ((am_i 48) + am_i u) 15517 then am_let (am_si m55 3262 (am_ix ((am_i 48) + am_i u)) (am_i 0)) (fun m57 => (m_X9_counts m57 (am_i 4) (am_i 1)).bind fun q58 => (m_X9_hasVersion q58 (am_i u)).bind fun q59 => some ((u45 + q54.1), q59)) else none) am_F (am_i 0) q54.2) am_F (am_i z) (am_i 0) q44) = some (am_i (z + mgCT S.1 u (kp S.1 u)), t) := by
  have hk := kp_is S.1 u
  have hk24 : kp S.1 u < 24 := by omega
  obtain ⟨m1, e1, f1⟩ := s_X9_keptPart h hI hu
  have h1 : OM m1 3262 0 S.1 := h.fr f1 (by decide)
  have hB1 : BM m1 3262 (bkR K S.2.1 S.2.2.1 S.2.2.2) := hB.copy (fun i _ _ => by rw [f1 3262 (by decide)])
  have hle : ∀ j, j ≤ 24 → ∀ e, mgR S.1 u (kp S.1 u) j e ≤ 239976 := fun j hj e => mgR_le hI hu hu2 hk hS hj e
  have hlT : ∀ e, mgRT S.1 u (kp S.1 u) e ≤ 239976 := fun e => by rw [mgRT_br hI hu hu2 hk hS e]; exact br_le hI.2.1 u e
  have eF : ∀ a, a = mgRT S.1 u (kp S.1 u) → rlG S.1 u a = (rlF S u).1 := fun a ha => by rw [ha]; rfl
  rw [e1, Option.bind_some]
  dsimp only
  by_cases c : kp S.1 u = u
  · obtain ⟨m2, e2, f2, w2⟩ := s_X9_lays (a := 3266) (h1.own hI hu) (by omega) (by decide)
    have h2 : OM m2 3262 0 S.1 := h1.fr f2 (by decide)
    have hB2 : BM m2 3262 (bkR K S.2.1 S.2.2.1 S.2.2.2) := hB1.copy (fun i _ _ => by rw [f2 3262 (by decide)])
    have w2' : Row m2 3266 (mgR S.1 u (kp S.1 u) 0) := by rw [mgR_0, if_pos c]; exact w2
    obtain ⟨m3, f3, o3, hB3, w3, e3⟩ := l_X9_rolls_92 (self := self) (x1 := am_i u) (z := z) (k := fun u45 m46 => if am_i (kp S.1 u : Nat) = am_i u then m_X9_rolls_165 self (am_i u) (am_i u) u45 (fun m48 => bif am_ib ((am_i 48) + am_i u) 15517 then am_let (am_si m48 3262 (am_ix ((am_i 48) + am_i u)) (am_i 0)) (fun m50 => (m_X9_counts m50 (am_i 4) (am_i 1)).bind fun q51 => (m_X9_hasVersion q51 (am_i u)).bind fun q52 => some (u45, q52)) else none) am_F (am_i 0) m46 else (m_X9_ownAt m46 (am_i u)).bind fun q53 => (m_X9_merges m46 q53).bind fun q54 => m_X9_rolls_165 self (am_i u) (am_i u) (u45 + q54.1) (fun m55 => bif am_ib ((am_i 48) + am_i u) 15517 then am_let (am_si m55 3262 (am_ix ((am_i 48) + am_i u)) (am_i 0)) (fun m57 => (m_X9_counts m57 (am_i 4) (am_i 1)).bind fun q58 => (m_X9_hasVersion q58 (am_i u)).bind fun q59 => some ((u45 + q54.1), q59)) else none) am_F (am_i 0) q54.2) h2 hI hu hk24 hle hB2 w2'
    have h3 : OM m3 3262 0 S.1 := h2.kept (fun i hi => o3 _ (by omega))
    obtain ⟨m4, e4, f4, h4, hB4⟩ := l_rl_end (self := self) (x1 := am_i u) (y2 := am_i (z + mgC S.1 u (kp S.1 u) 24)) (z := am_i (z + mgC S.1 u (kp S.1 u) 24)) h3 hI hu w3 hB3
    rw [if_neg (fun q => q (by rw [c])), own_at, Option.bind_some, e2, Option.bind_some, e3, if_pos (by rw [c]), e4]
    have q1 : mgCT S.1 u (kp S.1 u) = mgC S.1 u (kp S.1 u) 24 := by unfold mgCT; rw [if_pos c, Nat.add_zero]
    have q2 : mgNT S.1 u (kp S.1 u) = mgN S.1 u (kp S.1 u) 24 := by unfold mgNT; rw [if_pos c, Nat.add_zero]
    refine ⟨m4, ⟨?_, ?_, ?_⟩, by rw [q1]⟩
    · exact (((f1.mono (fun b hb => Or.inr (Or.inr hb))).trans (f2.mono (fun b hb => Or.inr (Or.inl hb)))).trans f3).trans (f4.mono (fun b hb => Or.inl hb))
    · rw [← eF (mgR S.1 u (kp S.1 u) 24) (by rw [c]; exact mgRT_e.symm)]
      exact h4
    · show BM m4 3262 (bkR K (S.2.1 + mgCT S.1 u (kp S.1 u)) (S.2.2.1 + mgNT S.1 u (kp S.1 u)) (S.2.2.2 + 1))
      rw [q1, q2]
      exact hB4
  · obtain ⟨m2, e2, f2, w2⟩ := s_X9_lays (a := 3266) (h1.sum hI hk24) (by omega) (by decide)
    have h2 : OM m2 3262 0 S.1 := h1.fr f2 (by decide)
    have hB2 : BM m2 3262 (bkR K S.2.1 S.2.2.1 S.2.2.2) := hB1.copy (fun i _ _ => by rw [f2 3262 (by decide)])
    have w2' : Row m2 3266 (mgR S.1 u (kp S.1 u) 0) := by rw [mgR_0, if_neg c]; exact w2
    have cne : ¬ am_i (kp S.1 u : Nat) = am_i u := by rw [i_eq (by omega) (by omega) (by omega) (by omega)]; omega
    obtain ⟨m3, f3, o3, hB3, w3, e3⟩ := l_X9_rolls_92 (self := self) (x1 := am_i u) (z := z) (k := fun u23 m24 => if am_i (kp S.1 u : Nat) = am_i u then m_X9_rolls_165 self (am_i u) (am_i u) u23 (fun m31 => bif am_ib ((am_i 48) + am_i u) 15517 then am_let (am_si m31 3262 (am_ix ((am_i 48) + am_i u)) (am_i 0)) (fun m33 => (m_X9_counts m33 (am_i 4) (am_i 1)).bind fun q34 => (m_X9_hasVersion q34 (am_i u)).bind fun q35 => some (u23, q35)) else none) am_F (am_i 0) m24 else (m_X9_ownAt m24 (am_i u)).bind fun q36 => (m_X9_merges m24 q36).bind fun q37 => m_X9_rolls_165 self (am_i u) (am_i u) (u23 + q37.1) (fun m38 => bif am_ib ((am_i 48) + am_i u) 15517 then am_let (am_si m38 3262 (am_ix ((am_i 48) + am_i u)) (am_i 0)) (fun m40 => (m_X9_counts m40 (am_i 4) (am_i 1)).bind fun q41 => (m_X9_hasVersion q41 (am_i u)).bind fun q42 => some ((u23 + q37.1), q42)) else none) am_F (am_i 0) q37.2) h2 hI hu hk24 hle hB2 w2'
    have h3 : OM m3 3262 0 S.1 := h2.kept (fun i hi => o3 _ (by omega))
    have hs2 : ∀ e, mgR S.1 u (kp S.1 u) 24 e + gO S.1 u e ≤ 1000000 := fun e => by
      have q := hlT e
      rw [mgRT_n c] at q
      exact Nat.le_trans q (by decide)
    obtain ⟨m4, e4, f4, o4, hB4, w4⟩ := s_X9_merges w3 (h3.own hI hu) (by omega) hB3 hs2
    have h4 : OM m4 3262 0 S.1 := h3.kept (fun i hi => o4 _ (by omega))
    obtain ⟨m5, e5, f5, h5, hB5⟩ := l_rl_end (self := self) (x1 := am_i u) (y2 := am_i (z + mgC S.1 u (kp S.1 u) 24) + am_i (com (mgR S.1 u (kp S.1 u) 24) (gO S.1 u) : Nat)) (z := am_i (z + mgC S.1 u (kp S.1 u) 24) + am_i (com (mgR S.1 u (kp S.1 u) 24) (gO S.1 u) : Nat)) h4 hI hu w4 hB4
    rw [if_pos cne, sum_at, Option.bind_some, e2, Option.bind_some, e3, if_neg cne, own_at, Option.bind_some, e4, Option.bind_some, e5]
    have q1 : mgCT S.1 u (kp S.1 u) = mgC S.1 u (kp S.1 u) 24 + com (mgR S.1 u (kp S.1 u) 24) (gO S.1 u) := by unfold mgCT; rw [if_neg c]
    have q2 : mgNT S.1 u (kp S.1 u) = mgN S.1 u (kp S.1 u) 24 + 1 := by unfold mgNT; rw [if_neg c]
    refine ⟨m5, ⟨?_, ?_, ?_⟩, ?_⟩
    · exact ((((f1.mono (fun b hb => Or.inr (Or.inr hb))).trans (f2.mono (fun b hb => Or.inr (Or.inl hb)))).trans f3).trans f4).trans (f5.mono (fun b hb => Or.inl hb))
    · rw [← eF (fun e => mgR S.1 u (kp S.1 u) 24 e + gO S.1 u e) (mgRT_n c).symm]
      exact h5
    · show BM m5 3262 (bkR K (S.2.1 + mgCT S.1 u (kp S.1 u)) (S.2.2.1 + mgNT S.1 u (kp S.1 u)) (S.2.2.2 + 1))
      rw [q1, q2, ← Nat.add_assoc, ← Nat.add_assoc]
      exact hB5
    · rw [q1, i_add]
      refine congrArg (fun y => some (am_i y, m5)) ?_
      omega
theorem l_X9_rolls_18 {K : Bk} {f : Nat} (ih : ∀ (m : am_m) (s : Rs) (u : Nat), OM m 3262 0 s.1 → BM m 3262 (bkR K s.2.1 s.2.2.1 s.2.2.2) → IG s.1 → u < 24 → gU s.1 u ≠ -2 → 13 ≤ f + gD s.1 u → ∃ t, rbM m K (rlR f s u) t ∧ m_X9_rolls f m (am_i u) = some (am_i (((rlR f s u).2.1 : Int) - (s.2.1 : Int)), t)) {m : am_m} {s : Rs} {u : Nat} {x1 : Int32} {k : Int32 → am_m → Option (Int32 × am_m)} (h : OM m 3262 0 s.1) (hB : BM m 3262 (bkR K s.2.1 s.2.2.1 s.2.2.2)) (hI : IG s.1) (hu : u < 24) (hu2 : gU s.1 u ≠ -2) (hd : 13 ≤ f + 1 + gD s.1 u) : ∃ t : am_m, rbM m K (rlK (rlR f) u s 24) t ∧ m_X9_rolls_18 (m_X9_rolls f) x1 (am_i u) k am_F (am_i 0) (am_i 0) m = k (am_i (((rlK (rlR f) u s 24).2.1 : Int) - (s.2.1 : Int))) t := by
  have hK := rlR_K hI hu hd
  refine Exists.elim (lo_inv (fun n j (t : Int32 × am_m) => m_X9_rolls_18 (m_X9_rolls f) x1 (am_i u) k n t.1 (am_i (j : Int)) t.2) (fun j t => t.1 = am_i (((rlK (rlR f) u s j).2.1 : Int) - (s.2.1 : Int)) ∧ rbM m K (rlK (rlR f) u s j) t.2) 0 24 (fun t => k t.1 t.2) (n := am_F) (s0 := (am_i 0, m)) ⟨congrArg am_i (Int.sub_self _).symm, Fr.refl _ _, h, hB⟩ (by omega) (am_Fv (by omega)) (fun n j t _ hj A => ?_) (fun n t A => rfl)) (fun t T => ⟨t.2, T.1.2, T.2.trans (by rw [T.1.1])⟩)
  obtain ⟨z0, m0⟩ := t
  obtain ⟨a0, a3, a4, a5⟩ := A
  dsimp only at a0 a3 a4 a5
  have eK := (rlK_ok hI hK j (by omega)).1
  have e1 := hI.1.2.2.1 j
  show ∃ s' : Int32 × am_m, m_X9_rolls_18 _ _ _ _ (n + 1) z0 _ m0 = m_X9_rolls_18 _ _ _ _ n s'.1 _ s'.2 ∧ _
  rw [m_X9_rolls_18, if_neg (by rw [i_le (by omega) (by omega) (by omega) (by omega)]; omega), s_X9_isUnit a4.TM (by omega) (by omega), nj, i_add, eK.1]
  have stay : ¬ gU s.1 j = (u : Int) → z0 = am_i (((rlK (rlR f) u s (j + 1)).2.1 : Int) - (s.2.1 : Int)) ∧ rbM m K (rlK (rlR f) u s (j + 1)) m0 := fun c1 => by
    have ej : rlK (rlR f) u s (j + 1) = rlK (rlR f) u s j := if_neg c1
    rw [ej]
    exact ⟨a0, a3, a4, a5⟩
  by_cases c0 : gU s.1 j = -2
  · rw [thr_f c0, Option.bind_some, if_pos (by decide)]
    exact ⟨(z0, m0), rfl, stay (fun e => by omega)⟩
  · have e2 := a4.2.1 j hj (by rw [eK.1]; exact c0)
    rw [Nat.zero_add, eK.1] at e2
    rw [thr_t hj c0, Option.bind_some, if_neg (by decide), i_ibt (by omega) (by omega) (by omega), cond_true, i_ix (by omega) (by omega), show ((24 : Int) + (j : Int)).toNat = 24 + j by omega, e2]
    by_cases c1 : gU s.1 j = (u : Int)
    · obtain ⟨_, n2, n3, n4⟩ := hI.1.ne hj c1
      have ej : rlK (rlR f) u s (j + 1) = rlR f (rlK (rlR f) u s j) j := if_pos c1
      obtain ⟨m1, ⟨b3, b4, b5⟩, b6⟩ := ih m0 (rlK (rlR f) u s j) j a4 a5 eK.2.2.2.1 hj (by rw [eK.1]; omega) (by rw [eK.2.1]; omega)
      rw [if_neg (fun z => z (by rw [c1])), b6, Option.bind_some]
      refine ⟨(z0 + am_i (((rlR f (rlK (rlR f) u s j) j).2.1 : Int) - ((rlK (rlR f) u s j).2.1 : Int)), m1), rfl, ?_, ?_⟩
      · show z0 + _ = _
        rw [ej, a0, i_add]
        exact congrArg am_i (by omega)
      · rw [ej]
        exact ⟨a3.trans b3, b4, b5⟩
    · rw [if_pos (by rw [i_eq (by omega) (by omega) (by omega) (by omega)]; exact c1)]
      exact ⟨(z0, m0), rfl, stay c1⟩
theorem l_rl_go {K : Bk} {f : Nat} (ih : ∀ (m : am_m) (s : Rs) (u : Nat), OM m 3262 0 s.1 → BM m 3262 (bkR K s.2.1 s.2.2.1 s.2.2.2) → IG s.1 → u < 24 → gU s.1 u ≠ -2 → 13 ≤ f + gD s.1 u → ∃ t, rbM m K (rlR f s u) t ∧ m_X9_rolls f m (am_i u) = some (am_i (((rlR f s u).2.1 : Int) - (s.2.1 : Int)), t)) {m : am_m} {s : Rs} {u : Nat} {x1 : Int32} {k : Int32 → am_m → Option (Int32 × am_m)} (h : OM m 3262 0 s.1) (hB : BM m 3262 (bkR K s.2.1 s.2.2.1 s.2.2.2)) (hI : IG s.1) (hu : u < 24) (hu2 : gU s.1 u ≠ -2) (hd : 13 ≤ f + 1 + gD s.1 u) {S' : Rs} {v : Int32} (hk : ∀ t, rbM m K (rlK (rlR f) u s 24) t → ∃ t', rbM m K S' t' ∧ k (am_i (((rlK (rlR f) u s 24).2.1 : Int) - (s.2.1 : Int))) t = some (v, t')) : ∃ t', rbM m K S' t' ∧ m_X9_rolls_18 (m_X9_rolls f) x1 (am_i u) k am_F (am_i 0) (am_i 0) m = some (v, t') := by
  obtain ⟨t, T1, T2⟩ := l_X9_rolls_18 ih (x1 := x1) (k := k) h hB hI hu hu2 hd
  obtain ⟨t', a, b⟩ := hk t T1
  exact ⟨t', a, T2.trans b⟩
theorem s_X9_rolls {K : Bk} : ∀ (f : Nat) (m : am_m) (s : Rs) (u : Nat), OM m 3262 0 s.1 → BM m 3262 (bkR K s.2.1 s.2.2.1 s.2.2.2) → IG s.1 → u < 24 → gU s.1 u ≠ -2 → 13 ≤ f + gD s.1 u → ∃ t, rbM m K (rlR f s u) t ∧ m_X9_rolls f m (am_i u) = some (am_i (((rlR f s u).2.1 : Int) - (s.2.1 : Int)), t) := by
  intro f
  induction f with
  | zero =>
    intro m s u _ _ hI _ _ hd
    have := hI.1.2.2.2.1 u
    omega
  | succ f ih =>
    intro m s u h hB hI hu hu2 hd
    have s1 := hI.2.2.2.1 u
    have es := h.2.2.1 u hu
    rw [Nat.zero_add] at es
    have step : ∀ (A B : Option (Int32 × am_m)), (bif am_ib ((am_i 48) + am_i u) 15517 then if ¬ (m 3262 (am_ix ((am_i 48) + am_i u))) = 0 then A else B else none) = if gS s.1 u = 0 then B else A := fun A B => by
      rw [i_add, i_ibt (by omega) (by omega) (by omega), cond_true, i_ix (by omega) (by omega), show ((48 : Int) + (u : Int)).toNat = 48 + u by omega, es]
      by_cases c : gS s.1 u = 0
      · rw [if_pos c, if_neg (by rw [c]; decide)]
      · rw [if_neg c, if_pos (by rw [i_zero, i_eq (by omega) (by omega) (by omega) (by omega)]; omega)]
    unfold m_X9_rolls
    rw [step]
    by_cases c : gS s.1 u = 0
    · rw [if_pos c]
      have e : rlR (f + 1) s u = s := if_pos c
      rw [e]
      exact ⟨m, ⟨Fr.refl _ _, h, hB⟩, by rw [Int.sub_self]⟩
    · rw [if_neg c]
      have e : rlR (f + 1) s u = rlF (rlK (rlR f) u s 24) u := if_neg c
      rw [e]
      have hK := rlR_K hI hu hd
      obtain ⟨k1, k2⟩ := rlK_ok hI hK 24 (Nat.le_refl _)
      refine l_rl_go ih h hB hI hu hu2 hd (fun t T => ?_)
      obtain ⟨a3, a4, a5⟩ := T
      obtain ⟨t', ⟨b3, b4, b5⟩, b6⟩ := l_X9_unit (self := m_X9_rolls f) (z := ((rlK (rlR f) u s 24).2.1 : Int) - (s.2.1 : Int)) a4 a5 k1.2.2.2.1 hu (by rw [k1.1]; exact hu2) (fun i hi hiu => k2 i hi (by rw [← k1.1]; exact hiu))
      refine ⟨t', ⟨a3.trans b3, b4, b5⟩, b6.trans ?_⟩
      refine congrArg (fun y => some (am_i y, t')) ?_
      show _ = (((rlK (rlR f) u s 24).2.1 + mgCT (rlK (rlR f) u s 24).1 u (kp (rlK (rlR f) u s 24).1 u) : Nat) : Int) - (s.2.1 : Int)
      omega
end RB
