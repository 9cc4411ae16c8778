/-! ===== mathematics, 9: the class's sums of branches ===== -/
/-- the class's rows of branches hold F -/
def rws (m : am_m) (F : Nat → Nat → Nat) : am_m := fun b i => if 2989 ≤ b ∧ b < 3013 ∧ i < 64 then am_i (F (b - 2989) i) else m b i
section MSB
variable {m : am_m} {o : Nat} {up : Nat → Int} {d : Nat → Nat} {ow : Nat → Nat → Nat} {F : Nat → Nat → Nat}
theorem rws_ne {b : Nat} (h : b < 2989 ∨ 3013 ≤ b) : rws m F b = m b := by
  funext i
  exact if_neg (fun e => by omega)
theorem rws_at {u i : Nat} (hu : u < 24) (hi : i < 64) : rws m F (aR u) i = am_i (F u i) := by
  show (if 2989 ≤ 2989 + u ∧ 2989 + u < 3013 ∧ i < 64 then am_i (F (2989 + u - 2989) i) else m (2989 + u) i) = _
  rw [if_pos ⟨by omega, by omega, hi⟩, Nat.add_sub_cancel_left]
theorem s_X5_addTo {a b : Nat} {f g : Nat → Nat} (hab : a ≠ b) (h : ∀ c, c < 64 → m a c = am_i (f c)) (h2 : ∀ c, c < 64 → m b c = am_i (g c)) : m_X5_addTo m a b = some (fil m a 64 (fun c => f c + g c) f) := by
  unfold m_X5_addTo
  refine lo_go (fun n j s => m_X5_addTo_2 a b (fun m6 => some m6) n (am_i (j : Int)) s) (fun j => fil m a j (fun c => f c + g c) f) 0 64 ?_ (by omega) (am_Fv (by omega)) (fun n j _ hj => ?_) (fun n => rfl)
  · funext b' i
    rw [fil_0]
    by_cases c : b' = a ∧ i < 64
    · rw [if_pos c, c.1, h i c.2]
    · rw [if_neg c]
  · show m_X5_addTo_2 a b _ (n + 1) _ _ = _
    have e1 : fil m a j (fun c => f c + g c) f a j = am_i (f j) := by rw [fil_at hj, if_neg (Nat.lt_irrefl j)]
    have e2 : fil m a j (fun c => f c + g c) f b j = am_i (g j) := by rw [fil_ne (fun e => hab e.symm)]; exact h2 j hj
    rw [m_X5_addTo_2]
    simp (disch := first | assumption | omega) only [i_add, i_sub, i_mul, i_lt, i_le, i_eq, i_ibt, i_ixn, i_ix, i_zero, am_letF, cond_true, cond_false, Option.bind_some, ↓reduceIte, m_si, m_sc, true_and, and_true, not_true_eq_false, not_false_eq_true, i_gtF, i_leT, i_geF, i_ltT, Int32.zero_add, Int.toNat_natCast, ix_own, ix_sum, ix_ver, ix_th, ix_ab, ix_st, ix_vm, ix_lim, ix_lim1, ix_lim2, ix_lim3, Int.toNat_zero, i_neF, i_eqT, b1T, b1F, e1, e2]
    rw [show (f j : Int) + (g j : Int) = ((f j + g j : Nat) : Int) by omega, fil_s (f := fun c => f c + g c) hj]
    rfl
theorem rws_add {p q : Nat} (hp : p < 24) (hq : q < 24) (hpq : p ≠ q) : m_X5_addTo (rws m F) (aR p) (aR q) = some (rws m (fun k c => if k = p then F p c + F q c else F k c)) := by
  rw [s_X5_addTo (f := F p) (g := F q) (by unfold aR; omega) (fun c hc => rws_at hp hc) (fun c hc => rws_at hq hc)]
  congr 1
  funext b i
  unfold fil
  by_cases c : b = aR p ∧ i < 64
  · rw [if_pos c, if_pos c.2, c.1, rws_at hp c.2, if_pos rfl]
  · rw [if_neg c]
    unfold rws
    by_cases c2 : 2989 ≤ b ∧ b < 3013 ∧ i < 64
    · rw [if_pos c2, if_pos c2]
      show _ = am_i ((if b - 2989 = p then F p i + F q i else F (b - 2989) i : Nat) : Int)
      rw [if_neg (fun e => c ⟨by unfold aR; omega, c2.2.2⟩)]
    · rw [if_neg c2, if_neg c2]
/-- the rows as they stand at a depth, j units looked at -/
def lev (up : Nat → Int) (d : Nat → Nat) (ow : Nat → Nat → Nat) (dep j k c : Nat) : Nat := if up k = -2 then ow k c else if dep ≤ d k then br up d ow k c else if d k + 1 = dep then ow k c + su (fun q => if up q = k then br up d ow q c else 0) j else ow k c
theorem l_sumBranches_2 {k : am_m → Option am_m} (hW : ∀ u, u < 24 → ∀ c, c < 64 → m (aW o u) c = am_i (ow u c)) (ho : ∀ u, u < 24 → aW o u < 2989 ∨ 3013 ≤ aW o u) : m_X1_sumBranches_2 o k am_F (am_i 0) m = k (rws m ow) := by
  refine lo_go (fun n j s => m_X1_sumBranches_2 o k n (am_i (j : Int)) s) (fun j (b i : Nat) => if 2989 ≤ b ∧ b < 2989 + j ∧ i < 64 then am_i (ow (b - 2989) i) else m b i) 0 24 (by funext b i; exact (if_neg (fun e => by omega)).symm) (by omega) (am_Fv (by omega)) (fun n j _ hj => ?_) (fun n => rfl)
  show m_X1_sumBranches_2 o k (n + 1) _ _ = _
  have hcb : am_cb2 (am_i 0) (am_i 0) (am_i 64) 64 64 = true := by decide
  have h0 : am_ix (am_i 0) = 0 := by decide
  have h64 : am_ix (am_i 64) = 64 := by decide
  rw [m_X1_sumBranches_2, if_neg (by rw [i_le (by omega) (by omega) (by omega) (by omega)]; omega), i_ibt (by omega) (by omega) (by omega), cond_true, cond_true, hcb, cond_true, am_letF, i_ixn (by omega), h0, h64, i_add]
  have e : am_sc (fun (b i : Nat) => if 2989 ≤ b ∧ b < 2989 + j ∧ i < 64 then am_i (ow (b - 2989) i) else m b i) (aW o j) 0 (aR j) 0 64 = (fun (b i : Nat) => if 2989 ≤ b ∧ b < 2989 + (j + 1) ∧ i < 64 then am_i (ow (b - 2989) i) else m b i) := by
    funext b i
    rw [m_sc]
    have h1 := ho j hj
    by_cases c : b = aR j ∧ 0 ≤ i ∧ i < 0 + 64
    · rw [if_pos c, if_neg (fun e => by omega), if_pos ⟨by rw [c.1]; unfold aR; omega, by rw [c.1]; unfold aR; omega, by omega⟩, c.1]
      unfold aR
      rw [Nat.add_sub_cancel_left, show 0 + (i - 0) = i by omega]
      exact hW j hj i (by omega)
    · rw [if_neg c]
      unfold aR at c
      by_cases c2 : 2989 ≤ b ∧ b < 2989 + j ∧ i < 64
      · rw [if_pos c2, if_pos ⟨c2.1, by omega, c2.2.2⟩]
      · rw [if_neg c2, if_neg (fun e => by omega)]
  rw [e]
  rfl
theorem l_sumBranches_39 {dep : Nat} {k : am_m → Option am_m} (h : TC m o up) (hT : Tr up d) (ho : aU o < 2989 ∨ 3013 ≤ aU o) (hd : dep ≤ 12) : m_X1_sumBranches_39 o (am_i dep) k am_F (am_i 0) (rws m (lev up d ow dep 0)) = k (rws m (lev up d ow dep 24)) := by
  refine lo_go (fun n j s => m_X1_sumBranches_39 o (am_i dep) k n (am_i (j : Int)) s) (fun j => rws m (lev up d ow dep j)) 0 24 rfl (by omega) (am_Fv (by omega)) (fun n j _ hj => ?_) (fun n => rfl)
  show m_X1_sumBranches_39 o (am_i dep) k (n + 1) _ _ = _
  have hK : TC (rws m (lev up d ow dep j)) o up := h.kept (rws_ne ho)
  rw [m_X1_sumBranches_39, if_neg (by rw [i_le (by omega) (by omega) (by omega) (by omega)]; omega), i_add]
  have same : (∀ k' : Nat, d k' + 1 = dep → up k' ≠ -2 → up j = k' → False) → lev up d ow dep (j + 1) = lev up d ow dep j := by
    intro hno
    funext k' c
    unfold lev
    by_cases c1 : up k' = -2
    · rw [if_pos c1, if_pos c1]
    · rw [if_neg c1, if_neg c1]
      by_cases c2 : dep ≤ d k'
      · rw [if_pos c2, if_pos c2]
      · rw [if_neg c2, if_neg c2]
        by_cases c3 : d k' + 1 = dep
        · rw [if_pos c3, if_pos c3, su_s, if_neg (fun e => hno k' c3 c1 e), Nat.add_zero]
        · rw [if_neg c3, if_neg c3]
  by_cases c0 : up j = -2
  · rw [s_X1_upperOf0 hK hT (by omega) (by omega) (thr_f c0), Option.bind_some, s_X1_isThere hK hT (by decide) (by decide), thr_n (by decide), Option.bind_some, if_pos (by rw [b1F]; decide), same (fun k' h1 h2 h3 => by omega)]
    rfl
  · rw [s_X1_upperOf hK hT hj c0, Option.bind_some]
    have e1 := hT.2.2.1 j
    rcases hT.up hj c0 with ⟨h1, h2⟩ | ⟨h1, p, p1, p2, p3, p4⟩
    · rw [h2, s_X1_isThere hK hT (by decide) (by decide), thr_n (by decide), Option.bind_some, if_pos (by rw [b1F]; decide), same (fun k' h3 h4 h5 => by omega)]
      rfl
    · have e2 := hT.2.2.2.1 j
      rw [p2, s_X1_isThere hK hT (by omega) (by omega), thr_t p1 p3, Option.bind_some, if_neg (by rw [b1T]; decide), s_X1_depthOf hK hT hj c0, Option.bind_some]
      by_cases c2 : d j = dep
      · rw [if_neg (by rw [c2]; exact fun e => e rfl), i_ibt (by omega) (by omega) (by omega), cond_true, i_ibt (by omega) (by omega) (by omega), cond_true, i_ixn (by omega), i_ixn (by omega), rws_add p1 hj (fun e => by rw [e] at p4; omega), Option.bind_some]
        have e3 : (fun k' c => if k' = p then lev up d ow dep j p c + lev up d ow dep j j c else lev up d ow dep j k' c) = lev up d ow dep (j + 1) := by
          funext k' c
          by_cases c3 : k' = p
          · rw [if_pos c3, c3]
            unfold lev
            rw [if_neg p3, if_neg c0, if_neg (by omega), if_pos (by omega), if_pos (by omega), if_neg p3, if_neg (by omega), if_pos (by omega), su_s, if_pos p2]
            omega
          · rw [if_neg c3]
            unfold lev
            have e9 : (if up j = (k' : Int) then br up d ow j c else 0) = 0 := if_neg (fun e => c3 (by omega))
            rw [su_s, e9]
            rfl
        rw [e3]
        rfl
      · have hz : ∀ k' : Nat, d k' + 1 = dep → up k' ≠ -2 → up j = k' → False := fun k' h3 h4 h5 => by
          have e9 : k' = p := by omega
          rw [e9] at h3
          omega
        rw [if_pos (by rw [i_eq (by omega) (by omega) (by omega) (by omega)]; omega), same hz]
        rfl
/-- with all units of a depth looked at, the next depth's rows are whole -/
theorem lev_s {dep : Nat} (hT : Tr up d) (h0 : 0 < dep) (k c : Nat) (hk : k < 24) : lev up d ow dep 24 k c = lev up d ow (dep - 1) 0 k c := by
  unfold lev
  by_cases c1 : up k = -2
  · rw [if_pos c1, if_pos c1]
  · rw [if_neg c1, if_neg c1]
    by_cases c2 : dep ≤ d k
    · rw [if_pos c2, if_pos (by omega)]
    · rw [if_neg c2]
      by_cases c3 : d k + 1 = dep
      · rw [if_pos c3, if_pos (by omega), br_low hT hk c1]
      · rw [if_neg c3, if_neg (by omega)]
        split <;> rfl
theorem rws_congr {G : Nat → Nat → Nat} (h : ∀ k c, k < 24 → F k c = G k c) : rws m F = rws m G := by
  funext b i
  unfold rws
  by_cases c : 2989 ≤ b ∧ b < 3013 ∧ i < 64
  · rw [if_pos c, if_pos c, h _ _ (by omega)]
  · rw [if_neg c, if_neg c]
theorem l_sumBranches_33 {k : am_m → Option am_m} (h : TC m o up) (hT : Tr up d) (ho : aU o < 2989 ∨ 3013 ≤ aU o) : m_X1_sumBranches_33 o k am_F (am_i 12) (rws m (lev up d ow 12 0)) = k (rws m (lev up d ow 0 0)) := by
  refine lo_go (fun n j s => m_X1_sumBranches_33 o k n (am_i ((12 : Int) - (j : Int))) s) (fun j => rws m (lev up d ow (12 - j) 0)) 0 12 rfl (by omega) (am_Fv (by omega)) (fun n j _ hj => ?_) (fun n => ?_)
  · show m_X1_sumBranches_33 o k (n + 1) _ _ = _
    rw [m_X1_sumBranches_33, if_neg (by rw [i_zero, i_le (by omega) (by omega) (by omega) (by omega)]; omega), show (12 : Int) - (j : Int) = ((12 - j : Nat) : Int) by omega, l_sumBranches_39 h hT ho (by omega), i_add]
    show m_X1_sumBranches_33 o k n (am_i (((12 - j : Nat) : Int) + -1)) (rws m (lev up d ow (12 - j) 24)) = m_X1_sumBranches_33 o k n (am_i ((12 : Int) - ((j + 1 : Nat) : Int))) (rws m (lev up d ow (12 - (j + 1)) 0))
    rw [rws_congr (fun k' c hk => lev_s hT (by omega) k' c hk), show 12 - j - 1 = 12 - (j + 1) by omega, show ((12 - j : Nat) : Int) + -1 = (12 : Int) - ((j + 1 : Nat) : Int) by omega]
  · show m_X1_sumBranches_33 o k (n + 1) _ _ = _
    rw [m_X1_sumBranches_33, if_pos (by decide)]
theorem s_X1_sumBranches (h : TC m o up) (hT : Tr up d) (hW : ∀ u, u < 24 → ∀ c, c < 64 → m (aW o u) c = am_i (ow u c)) (ho : ∀ u, u < 24 → aW o u < 2989 ∨ 3013 ≤ aW o u) (ho2 : aU o < 2989 ∨ 3013 ≤ aU o) : m_X1_sumBranches m o = some (rws m (lev up d ow 0 0)) := by
  unfold m_X1_sumBranches
  rw [l_sumBranches_2 hW ho]
  have e : rws m ow = rws m (lev up d ow 12 0) := by
    refine rws_congr (fun k c hk => ?_)
    have e1 := hT.2.2.2.1 k
    unfold lev
    by_cases c1 : up k = -2
    · rw [if_pos c1]
    · rw [if_neg c1]
      by_cases c2 : 12 ≤ d k
      · rw [if_pos c2, br_low hT hk c1, su_0 (fun q hq => ?_), Nat.add_zero]
        refine if_neg (fun e => ?_)
        have e2 := hT.2.2.2.1 q
        rcases hT.up hq (by omega) with ⟨-, e3⟩ | ⟨-, p, p1, p2, p3, p4⟩
        · omega
        · have : p = k := by omega
          rw [this] at p4
          omega
      · rw [if_neg c2]
        split <;> rfl
  rw [e, l_sumBranches_33 h hT ho2]
theorem lev_0 {k c : Nat} (hk : up k ≠ -2) : lev up d ow 0 0 k c = br up d ow k c := by
  unfold lev
  rw [if_neg hk, if_pos (Nat.zero_le _)]
end MSB
