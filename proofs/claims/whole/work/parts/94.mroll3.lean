/-! ===== mathematics: rolling up, the class's unit rolled up ===== -/
theorem min8 : ∀ n : Nat, n ≤ 8 → am_mn (am_i n + am_i 1) (am_i 8) = am_i (min (n + 1) 8 : Nat) := by decide +kernel
theorem m_sr (r : am_rr) (a k x b j : Nat) : am_sr r a k x b j = if b = a ∧ j = k then x else r b j := by
  unfold am_sr am_up
  by_cases h : b = a
  · by_cases h2 : j = k
    · simp [h, h2]
    · simp [h, h2]
  · simp [h]
/-- the layout stays while an Org's rows of versions change places -/
theorem am_Lay.perm {r r' : am_rr} {o : Nat} (h : am_Lay r) (ho : am_og o) (e : ∀ b, b ≠ o + 54 → r' b = r b) (hx : ∀ j, j < 192 → ∃ w, w < 192 ∧ r' (o + 54) j = o + 55 + w) : am_Lay r' := by
  have hv := (kVo ho).2.2
  have hq : ∀ q ∈ am_lays, am_sh q.1 ≠ (14, 192) := by decide +kernel
  have hb : ∀ b ∈ ([2970, 2976] : List Nat), am_sh b ≠ (14, 192) := by decide +kernel
  have ne : ∀ b, am_sh b ≠ (14, 192) → r' b = r b := fun b hb => e b (fun z => hb (by rw [z]; exact hv))
  obtain ⟨h1, h2, h3, h4, h5⟩ := h
  refine ⟨fun q hq2 => ?_, fun u hu => ?_, fun j hj => ?_, fun b hb2 k hk => ?_, fun o2 ho2 => ?_⟩
  · rw [ne _ (hq q hq2)]
    exact h1 q hq2
  · rw [ne _ (by decide)]
    exact h2 u hu
  · rw [ne _ (by decide)]
    exact h3 j hj
  · rw [ne _ (hb b (by rcases hb2 with rfl | rfl <;> simp))]
    exact h4 b hb2 k hk
  · obtain ⟨g1, g2, g3, g4, g5, g6, g7, g8, g9⟩ := h5 o2 ho2
    have n1 : r' o2 = r o2 := ne _ (by rw [(kO ho2).2.2]; decide)
    have n2 : r' (o2 + 3) = r (o2 + 3) := ne _ (by rw [(kWo ho2).2.2]; decide)
    have n3 : r' (o2 + 28) = r (o2 + 28) := ne _ (by rw [(kXo ho2).2.2]; decide)
    refine ⟨by rw [n1]; exact g1, by rw [n1]; exact g2, by rw [n1]; exact g3, by rw [n1]; exact g4, by rw [n1]; exact g5, by rw [n1]; exact g6, fun u hu => by rw [n2]; exact g7 u hu, fun u hu => by rw [n3]; exact g8 u hu, fun j hj => ?_⟩
    by_cases he : o2 = o
    · subst he
      exact hx j hj
    · rw [e _ (by omega)]
      exact g9 j hj
/-- the place that a row of versions comes from -/
def rtS (u i : Nat) : Nat := if i = 8 * u then 8 * u + 7 else if 8 * u < i ∧ i ≤ 8 * u + 7 then i - 1 else i
theorem rtS_lt {u i : Nat} (hu : u < 24) (hi : i < 192) : rtS u i < 192 := by
  unfold rtS
  split
  · omega
  · split <;> omega
theorem rtS_inj {u i j : Nat} (h : rtS u i = rtS u j) : i = j := by
  unfold rtS at h
  split at h
  · split at h
    · omega
    · split at h <;> omega
  · split at h
    · split at h
      · omega
      · split at h <;> omega
    · split at h
      · omega
      · split at h <;> omega
theorem RI.rot {r r' : am_rr} {o u : Nat} (h : RI r) (ho : am_og o) (hu : u < 24) (e : ∀ b, b ≠ o + 54 → r' b = r b) (hx : ∀ i, i < 192 → r' (o + 54) i = r (o + 54) (rtS u i)) : RI r' := by
  refine ⟨h.1.perm ho e (fun j hj => ?_), fun o2 ho2 i j hi hj q => ?_⟩
  · rw [hx j hj]
    exact h.1.vx ho (rtS_lt hu hj)
  · by_cases he : o2 = o
    · subst he
      rw [hx i hi, hx j hj] at q
      exact rtS_inj (h.2 o2 ho2 _ _ (rtS_lt hu hi) (rtS_lt hu hj) q)
    · rw [e _ (by omega)] at q
      exact h.2 o2 ho2 i j hi hj q
def rot (r : am_rr) (o u j : Nat) : am_rr := fun b i => if b = o + 54 ∧ 8 * u + 7 - j < i ∧ i ≤ 8 * u + 7 then r b (i - 1) else r b i
section RU
variable {m : am_m} {r : am_rr} {o : Nat} {g : Og} {u : Nat}
theorem l_X1_rolledUp_47 {x1 y1 : Int32} {a2 w4 : Nat} {k : am_rr → Option (am_m × am_rr)} (hu : u < 24) : m_X1_rolledUp_47 o x1 a2 m y1 (am_i ((8 * u : Nat) : Int)) w4 k am_F (am_i ((8 * u + 7 : Nat) : Int)) r = k (rot r o u 7) := by
  rw [show am_i ((8 * u + 7 : Nat) : Int) = am_i (((8 * u + 7 : Nat) : Int) - ((0 : Nat) : Int)) by rw [Int.natCast_zero, Int.sub_zero]]
  refine lo_go (fun n j (t : am_rr) => m_X1_rolledUp_47 o x1 a2 m y1 (am_i ((8 * u : Nat) : Int)) w4 k n (am_i (((8 * u + 7 : Nat) : Int) - (j : Int))) t) (fun j => rot r o u j) 0 7 (n := am_F) (s0 := r) (by funext b i; exact (if_neg (fun e => by omega)).symm) (by omega) (am_Fv (by omega)) (fun n j _ hj => ?_) (fun n => ?_)
  · show m_X1_rolledUp_47 _ _ _ _ _ _ _ _ (n + 1) _ _ = _
    rw [m_X1_rolledUp_47, if_neg (by rw [i_le (by omega) (by omega) (by omega) (by omega)]; omega), i_sub, i_ibt (by omega) (by omega) (by omega), cond_true, i_ibt (by omega) (by omega) (by omega), cond_true, am_letF, i_ix (by omega) (by omega), i_ix (by omega) (by omega), i_add, show ((8 * u + 7 : Nat) : Int) - (j : Int) + -1 = ((8 * u + 7 : Nat) : Int) - ((j + 1 : Nat) : Int) by omega]
    congr 1
    funext b i
    rw [m_sr]
    unfold rot
    rw [show (((8 * u + 7 : Nat) : Int) - (j : Int)).toNat = 8 * u + 7 - j by omega, show (((8 * u + 7 : Nat) : Int) - (j : Int) - 1).toNat = 8 * u + 6 - j by omega]
    by_cases e : b = o + 54 ∧ i = 8 * u + 7 - j
    · rw [if_pos e, if_neg (fun z => by omega), if_pos ⟨e.1, by omega, by omega⟩, e.1]
      congr 1
      omega
    · rw [if_neg e]
      by_cases e2 : b = o + 54 ∧ 8 * u + 7 - j < i ∧ i ≤ 8 * u + 7
      · rw [if_pos e2, if_pos ⟨e2.1, by omega, by omega⟩]
      · rw [if_neg e2, if_neg (fun e3 => e2 ⟨e3.1, by have : i ≠ 8 * u + 7 - j := fun z => e ⟨e3.1, z⟩; omega, by omega⟩)]
  · show m_X1_rolledUp_47 _ _ _ _ _ _ _ _ (n + 1) _ _ = _
    rw [m_X1_rolledUp_47, if_pos (by rw [i_le (by omega) (by omega) (by omega) (by omega)]; omega)]
theorem og_2983 (ho : am_og o) : 2983 ≤ o ∨ o + 247 ≤ 2983 := by
  rcases ho with rfl | rfl | rfl | ⟨i, hi, rfl⟩ <;> omega
theorem s_X1_rolledUp {f : Nat → Nat} (hR : RI r) (ho : am_og o) (h : OC m r o g) (hI : IG g) (hu : u < 24) (hf : Row m 2983 f) : ∃ m' r', m_X1_rolledUp m r o (am_i u) 2983 = some (m', r') ∧ RI r' ∧ (∀ b, b ≠ o + 54 → r' b = r b) ∧ Fr (fun b => o < b ∧ b < o + 247) m m' ∧ OC m' r' o (rlG g u f) := by
  have hs := og_2983 ho
  obtain ⟨V, hV⟩ : ∃ V, V = r (o + 54) (8 * u + 7) := ⟨_, rfl⟩
  have hv := vr_r hR ho (j := 8 * u + 7) (by omega)
  rw [← hV] at hv
  unfold m_X1_rolledUp
  rw [i_ibt (by omega) (by omega) (by omega), cond_true, cb64, cond_true, am_letF, cond_true, am_letF, i_ixn (by omega), x0, x64, i_mul, i_add, i_sub, i_ibt (by omega) (by omega) (by omega), cond_true, i_ix (by omega) (by omega), show ((u : Int) * 8 + 8 - 1).toNat = 8 * u + 7 by omega, show am_i ((u : Int) * 8 + 8 - 1) = am_i ((8 * u + 7 : Nat) : Int) from congrArg am_i (by omega), show am_i ((u : Int) * 8) = am_i ((8 * u : Nat) : Int) from congrArg am_i (by omega), l_X1_rolledUp_47 hu, i_ibt (by omega) (by omega) (by omega), cond_true, i_ixn (by omega), am_letF, cond_true, am_letF, cond_true, am_letF, ← hV]
  generalize e1 : am_sc m 2983 0 (aX o u) 0 64 = m1
  generalize e2 : am_si m1 (aS o) u (am_i 0) = m2
  generalize e3 : am_sc m2 2983 0 V 0 64 = m3
  generalize e4 : am_sr (rot r o u 7) (o + 54) (8 * u) V = r4
  have n1 : ∀ b, b ≠ aX o u → m1 b = m b := fun b hb => by rw [← e1, sc_ne hb]
  have n2 : ∀ b, b ≠ aS o → m2 b = m1 b := fun b hb => by rw [← e2, si_ne hb]
  have n3 : ∀ b, b ≠ V → m3 b = m2 b := fun b hb => by rw [← e3, sc_ne hb]
  have c1 : m3 (aC o) u = am_i (gC g u) := by
    rw [n3 _ (by unfold aC; omega), n2 _ (by unfold aC aS; omega), n1 _ (by unfold aC aX; omega)]
    exact h.2.2.2.2.1 u hu
  have hC := hI.2.2.2.2.1 u
  rw [c1, min8 _ hC]
  have r4x : ∀ i, i < 192 → r4 (o + 54) i = r (o + 54) (rtS u i) := fun i hi => by
    rw [← e4, m_sr]
    unfold rtS rot
    by_cases q1 : i = 8 * u
    · rw [if_pos ⟨rfl, q1⟩, if_pos q1, hV]
    · rw [if_neg (fun z => q1 z.2), if_neg q1]
      by_cases q2 : 8 * u < i ∧ i ≤ 8 * u + 7
      · rw [if_pos ⟨rfl, by omega, q2.2⟩, if_pos q2]
      · rw [if_neg (fun z => q2 ⟨by omega, z.2.2⟩), if_neg q2]
  have r4n : ∀ b, b ≠ o + 54 → r4 b = r b := fun b hb => by
    funext i
    rw [← e4, m_sr, if_neg (fun z => hb z.1)]
    exact if_neg (fun z => hb z.1)
  have n4 : ∀ b, b ≠ aC o → am_si m3 (aC o) u (am_i (min (gC g u + 1) 8 : Nat)) b = m3 b := fun b hb => si_ne hb
  refine ⟨_, _, rfl, hR.rot ho hu r4n r4x, r4n, fun b hb => ?_, fun k hk => ?_, fun k hk => ?_, fun k hk c hc => ?_, fun k hk c hc => ?_, fun k hk => ?_, fun k hk v hv1 hv2 c hc => ?_⟩
  · rw [n4 b (by unfold aC; omega), n3 b (by omega), n2 b (by unfold aS; omega), n1 b (by unfold aX; omega)]
  · rw [n4 _ (by unfold aU aC; omega), n3 _ (by unfold aU; omega), n2 _ (by unfold aU aS; omega), n1 _ (by unfold aU aX; omega)]
    exact h.1 k hk
  · rw [n4 _ (by unfold aS aC; omega), n3 _ (by unfold aS; omega), ← e2, m_si, n1 _ (by unfold aS aX; omega)]
    show _ = am_i ((if k = u then 0 else gS g k : Nat) : Int)
    by_cases e : k = u
    · rw [if_pos ⟨rfl, e⟩, if_pos e]; rfl
    · rw [if_neg (fun z => e z.2), if_neg e]
      exact h.2.1 k hk
  · rw [n4 _ (by unfold aW aC; omega), n3 _ (by unfold aW; omega), n2 _ (by unfold aW aS; omega), n1 _ (by unfold aW aX; omega)]
    exact h.2.2.1 k hk c hc
  · rw [n4 _ (by unfold aX aC; omega), n3 _ (by unfold aX; omega), n2 _ (by unfold aX aS; omega)]
    show _ = am_i (((if k = u then f else gM g k) c : Nat) : Int)
    by_cases e : k = u
    · rw [if_pos e, e, ← e1, sc_at hc]
      exact hf.1 c hc
    · rw [if_neg e, n1 _ (by unfold aX; omega)]
      exact h.2.2.2.1 k hk c hc
  · rw [m_si]
    show _ = am_i ((if k = u then min (gC g u + 1) 8 else gC g k : Nat) : Int)
    by_cases e : k = u
    · rw [if_pos ⟨rfl, e⟩, if_pos e]
    · rw [if_neg (fun z => e z.2), if_neg e, n3 _ (by unfold aC; omega), n2 _ (by unfold aC aS; omega), n1 _ (by unfold aC aX; omega)]
      exact h.2.2.2.2.1 k hk
  · have hv1 : v < (if k = u then min (gC g u + 1) 8 else gC g k) := hv1
    show _ = am_i (((if k = u then (if v = 0 then f else gV g u (v - 1)) else gV g k v) c : Nat) : Int)
    have d := vr_r hR ho (rtS_lt hu (i := 8 * k + v) (by omega))
    rw [r4x _ (by omega), n4 _ (by unfold aC; omega)]
    by_cases e : k = u
    · rw [if_pos e]
      rw [if_pos e] at hv1
      subst e
      by_cases e0 : v = 0
      · rw [if_pos e0, show rtS k (8 * k + v) = 8 * k + 7 by unfold rtS; rw [if_pos (by omega)], ← hV, ← e3, sc_at hc, n2 _ (by unfold aS; omega), n1 _ (by unfold aX; omega)]
        exact hf.1 c hc
      · rw [if_neg e0, show rtS k (8 * k + v) = 8 * k + (v - 1) by unfold rtS; rw [if_neg (by omega), if_pos (by omega)]; omega]
        have d2 := vr_r hR ho (j := 8 * k + (v - 1)) (by omega)
        rw [n3 _ (by rw [hV]; exact vr_ne hR ho (by omega) (by omega) (by omega)), n2 _ (by unfold aS; omega), n1 _ (by unfold aX; omega)]
        exact h.2.2.2.2.2 k hk (v - 1) (by omega) (by omega) c hc
    · rw [if_neg e]
      rw [if_neg e] at hv1
      rw [show rtS u (8 * k + v) = 8 * k + v by unfold rtS; rw [if_neg (by omega), if_neg (by omega)]]
      have d2 := vr_r hR ho (j := 8 * k + v) (by omega)
      rw [n3 _ (by rw [hV]; exact vr_ne hR ho (by omega) (by omega) (by omega)), n2 _ (by unfold aS; omega), n1 _ (by unfold aX; omega)]
      exact h.2.2.2.2.2 k hk v hv1 hv2 c hc
end RU
