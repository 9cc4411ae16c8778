/-! ===== mathematics, 6: trees, what makes stale ===== -/
section MT3
variable {m : am_m} {o : Nat} {up : Nat → Int} {d : Nat → Nat}
theorem fi_lt_s (P : Nat → Bool) (j : Nat) : (fi P (j + 1) < j + 1) ↔ (fi P j < j ∨ P j = true) := by
  have h1 : fi P (j + 1) = if fi P j < j then fi P j else if P j then j else j + 1 := rfl
  rw [h1]
  by_cases h : fi P j < j
  · rw [if_pos h]
    exact ⟨fun _ => Or.inl h, fun _ => by omega⟩
  · rw [if_neg h]
    by_cases h2 : P j = true
    · rw [if_pos h2]
      exact ⟨fun _ => Or.inr h2, fun _ => by omega⟩
    · rw [if_neg h2]
      exact ⟨fun e => by omega, fun e => by rcases e with e | e; exact absurd e h; exact absurd e h2⟩
theorem TC.kept {m' : am_m} (h : TC m o up) (e : m' (aU o) = m (aU o)) : TC m' o up := fun u hu => by rw [e]; exact h u hu
theorem s_X1_makeStale {u : Nat} (h : TC m o up) (hT : Tr up d) (hu : u < 24) (ht : up u ≠ -2) : ∃ m', m_X1_makeStale m o (am_i u) = some m' ∧ Fr (fun b => b = aS o) m m' ∧ ∀ k, k < 24 → m' (aS o) k = if inB up d u k = true then am_i 1 else m (aS o) k := by
  have hd := hT.2.2.2.1 u
  refine ⟨fun (b k : Nat) => if b = aS o ∧ fi (fun i => an up u i == (k : Int)) (d u + 1) < d u + 1 then am_i 1 else m b k, ?_, fun b hb => ?_, fun k hk => ?_⟩
  · unfold m_X1_makeStale
    refine lo_go (fun n j s => m_X1_makeStale_4 o (am_i u) (fun m7 => some m7) n (am_i (an up u j)) (am_i (j : Int)) s) (fun j (b k : Nat) => if b = aS o ∧ fi (fun i => an up u i == (k : Int)) j < j then am_i 1 else m b k) 0 (d u + 1) (by funext b k; rw [if_neg (fun e => Nat.not_lt_zero _ e.2)]) (Nat.zero_le _) (am_Fv (by omega)) (fun n j _ hj => ?_) (fun n => ?_)
    · obtain ⟨p, h1, h2, h3, h4⟩ := hT.anc hu ht j (by omega)
      have hK : TC (fun (b k : Nat) => if b = aS o ∧ fi (fun i => an up u i == (k : Int)) j < j then am_i 1 else m b k) o up := h.kept (by funext k; exact if_neg (fun e => absurd e.1 (by unfold aU aS; omega)))
      have hK2 : TC (am_si (fun (b k : Nat) => if b = aS o ∧ fi (fun i => an up u i == (k : Int)) j < j then am_i 1 else m b k) (aS o) p (am_i 1)) o up := hK.kept (by funext k; rw [m_si]; exact if_neg (fun e => absurd e.1 (by unfold aU aS; omega)))
      show m_X1_makeStale_4 o (am_i u) (fun m7 => some m7) (n + 1) (am_i (an up u j)) _ _ = m_X1_makeStale_4 o (am_i u) (fun m7 => some m7) n (am_i (an up u (j + 1))) _ _
      rw [m_X1_makeStale_4, Tr.nx h2, h2, s_X1_isThere hK hT (by omega) (by omega), thr_t h1 h3, if_neg (by rw [i_lt (by omega) (by omega) (by omega) (by omega)]; omega), Option.bind_some, if_neg (by rw [b1T]; decide), i_ibt (by omega) (by omega) (by omega), cond_true, i_ixn (by omega), am_letF, s_X1_upperOf hK2 hT h1 h3, Option.bind_some, i_add]
      have e : am_si (fun (b k : Nat) => if b = aS o ∧ fi (fun i => an up u i == (k : Int)) j < j then am_i 1 else m b k) (aS o) p (am_i 1) = (fun (b k : Nat) => if b = aS o ∧ fi (fun i => an up u i == (k : Int)) (j + 1) < j + 1 then am_i 1 else m b k) := by
        funext b k
        have F := fi_lt_s (fun i => an up u i == (k : Int)) j
        rw [m_si]
        by_cases c : b = aS o ∧ k = p
        · rw [if_pos c, if_pos ⟨c.1, F.mpr (Or.inr (by rw [h2, c.2]; exact beq_self_eq_true _))⟩]
        · rw [if_neg c]
          by_cases c2 : b = aS o ∧ fi (fun i => an up u i == (k : Int)) j < j
          · rw [if_pos c2, if_pos ⟨c2.1, F.mpr (Or.inl c2.2)⟩]
          · rw [if_neg c2, if_neg]
            rintro ⟨c3, c4⟩
            rcases F.mp c4 with c4 | c4
            · exact c2 ⟨c3, c4⟩
            · rw [h2] at c4
              have c5 := eq_of_beq c4
              exact c ⟨c3, by omega⟩
      rw [e]
      rfl
    · show m_X1_makeStale_4 o (am_i u) (fun m7 => some m7) (n + 1) (am_i (an up u (d u + 1))) _ _ = _
      have hK : TC (fun (b k : Nat) => if b = aS o ∧ fi (fun i => an up u i == (k : Int)) (d u + 1) < d u + 1 then am_i 1 else m b k) o up := h.kept (by funext k; exact if_neg (fun e => absurd e.1 (by unfold aU aS; omega)))
      rw [m_X1_makeStale_4, hT.end hu ht, s_X1_isThere hK hT (by decide) (by decide), thr_n (by decide)]
      by_cases c : 12 < ((d u + 1 : Nat) : Int)
      · rw [if_pos (by rw [i_lt (by omega) (by omega) (by omega) (by omega)]; exact c)]
      · rw [if_neg (by rw [i_lt (by omega) (by omega) (by omega) (by omega)]; exact c), Option.bind_some, if_pos (by rw [b1F]; decide)]
  · funext k
    exact if_neg (fun e => hb e.1)
  · show (if aS o = aS o ∧ fi (fun i => an up u i == (k : Int)) (d u + 1) < d u + 1 then am_i 1 else m (aS o) k) = _
    unfold inB
    by_cases c : fi (fun i => an up u i == (k : Int)) (d u + 1) < d u + 1
    · rw [if_pos ⟨rfl, c⟩, if_pos (decide_eq_true c)]
    · rw [if_neg (fun e => c e.2), if_neg (fun e => c (of_decide_eq_true e))]
theorem s_X1_makeStale0 {x : Int} (h : TC m o up) (hT : Tr up d) (h1 : -2147483648 ≤ x) (h2 : x ≤ 2147483647) (hx : thr up x = false) : m_X1_makeStale m o (am_i x) = some m := by
  unfold m_X1_makeStale am_F
  rw [m_X1_makeStale_4, s_X1_isThere h hT h1 h2, hx, if_neg (by decide), Option.bind_some, if_pos (by rw [b1F]; decide)]
theorem TM.kept {m' : am_m} (h : TM m up) (e : ∀ k, k < 48 → m' 3262 k = m 3262 k) : TM m' up := ⟨fun u hu => by rw [e u (by omega)]; exact h.1 u hu, fun u hu h2 => by rw [e _ (by omega)]; exact h.2 u hu h2⟩
theorem s_X9_isStaleFrom {u : Nat} (h : TM m up) (hT : Tr up d) (hu : u < 24) (ht : up u ≠ -2) : ∃ m', m_X9_isStaleFrom m (am_i u) = some m' ∧ Fr (fun b => b = 3262) m m' ∧ (∀ k, k < 24 → m' 3262 (48 + k) = if inB up d u k = true then am_i 1 else m 3262 (48 + k)) ∧ ∀ i, i < 48 ∨ 72 ≤ i → m' 3262 i = m 3262 i := by
  have hd := hT.2.2.2.1 u
  refine ⟨fun (b i : Nat) => if b = 3262 ∧ 48 ≤ i ∧ i < 72 ∧ fi (fun l => an up u l == ((i - 48 : Nat) : Int)) (d u + 1) < d u + 1 then am_i 1 else m b i, ?_, fun b hb => ?_, fun k hk => ?_, fun i hi => ?_⟩
  · unfold m_X9_isStaleFrom
    refine lo_go (fun n j s => m_X9_isStaleFrom_2 (am_i u) (fun m5 => some m5) n (am_i (an up u j)) s) (fun j (b i : Nat) => if b = 3262 ∧ 48 ≤ i ∧ i < 72 ∧ fi (fun l => an up u l == ((i - 48 : Nat) : Int)) j < j then am_i 1 else m b i) 0 (d u + 1) (by funext b k; rw [if_neg (fun e => Nat.not_lt_zero _ e.2.2.2)]) (Nat.zero_le _) (am_Fv (by omega)) (fun n j _ hj => ?_) (fun n => ?_)
    · obtain ⟨p, h1, h2, h3, h4⟩ := hT.anc hu ht j (by omega)
      show m_X9_isStaleFrom_2 (am_i u) (fun m5 => some m5) (n + 1) (am_i (an up u j)) _ = m_X9_isStaleFrom_2 (am_i u) (fun m5 => some m5) n (am_i (an up u (j + 1))) _
      have e : am_si (fun (b i : Nat) => if b = 3262 ∧ 48 ≤ i ∧ i < 72 ∧ fi (fun l => an up u l == ((i - 48 : Nat) : Int)) j < j then am_i 1 else m b i) 3262 (48 + p) (am_i 1) = (fun (b i : Nat) => if b = 3262 ∧ 48 ≤ i ∧ i < 72 ∧ fi (fun l => an up u l == ((i - 48 : Nat) : Int)) (j + 1) < j + 1 then am_i 1 else m b i) := by
        funext b i
        have F := fi_lt_s (fun l => an up u l == ((i - 48 : Nat) : Int)) j
        rw [m_si]
        by_cases c : b = 3262 ∧ i = 48 + p
        · rw [if_pos c, if_pos ⟨c.1, by omega, by omega, F.mpr (Or.inr (by rw [h2, c.2, Nat.add_sub_cancel_left]; exact beq_self_eq_true _))⟩]
        · rw [if_neg c]
          by_cases c2 : b = 3262 ∧ 48 ≤ i ∧ i < 72 ∧ fi (fun l => an up u l == ((i - 48 : Nat) : Int)) j < j
          · rw [if_pos c2, if_pos ⟨c2.1, c2.2.1, c2.2.2.1, F.mpr (Or.inl c2.2.2.2)⟩]
          · rw [if_neg c2, if_neg]
            rintro ⟨c3, c4, c5, c6⟩
            rcases F.mp c6 with c6 | c6
            · exact c2 ⟨c3, c4, c5, c6⟩
            · rw [h2] at c6
              have c7 := eq_of_beq c6
              exact c ⟨c3, by omega⟩
      have e2 : (if (3262 : Nat) = 3262 ∧ 48 ≤ 24 + p ∧ 24 + p < 72 ∧ fi (fun l => an up u l == ((24 + p - 48 : Nat) : Int)) (j + 1) < j + 1 then am_i 1 else m 3262 (24 + p)) = am_i (up p) := by
        rw [if_neg (fun e => by omega)]
        exact h.2 p h1 h3
      rw [m_X9_isStaleFrom_2, Tr.nx h2, h2, if_neg (by rw [i_eq (by omega) (by omega) (by omega) (by omega)]; omega), i_add, i_add, i_ibt (by omega) (by omega) (by omega), cond_true, i_ix (by omega) (by omega), ix_st, am_letF, i_ibt (by omega) (by omega) (by omega), cond_true, i_ix (by omega) (by omega), ix_ab, e]
      show m_X9_isStaleFrom_2 (am_i u) (fun m5 => some m5) n (if (3262 : Nat) = 3262 ∧ 48 ≤ 24 + p ∧ 24 + p < 72 ∧ fi (fun l => an up u l == ((24 + p - 48 : Nat) : Int)) (j + 1) < j + 1 then am_i 1 else m 3262 (24 + p)) _ = _
      rw [e2]
    · show m_X9_isStaleFrom_2 (am_i u) (fun m5 => some m5) (n + 1) (am_i (an up u (d u + 1))) _ = _
      rw [m_X9_isStaleFrom_2, hT.end hu ht, if_pos rfl]
  · funext k
    exact if_neg (fun e => hb e.1)
  · show (if (3262 : Nat) = 3262 ∧ 48 ≤ 48 + k ∧ 48 + k < 72 ∧ fi (fun l => an up u l == ((48 + k - 48 : Nat) : Int)) (d u + 1) < d u + 1 then am_i 1 else m 3262 (48 + k)) = _
    unfold inB
    rw [Nat.add_sub_cancel_left]
    by_cases c : fi (fun i => an up u i == (k : Int)) (d u + 1) < d u + 1
    · rw [if_pos ⟨rfl, by omega, by omega, c⟩, if_pos (decide_eq_true c)]
    · rw [if_neg (fun e => c e.2.2.2), if_neg (fun e => c (of_decide_eq_true e))]
  · exact if_neg (fun e => by omega)
theorem s_X9_isStaleFrom0 : m_X9_isStaleFrom m (am_i (-1)) = some m := by
  unfold m_X9_isStaleFrom am_F
  rw [m_X9_isStaleFrom_2, if_pos rfl]
end MT3
