/-! ===== mathematics: home ===== -/
theorem su_ple {f g : Nat → Nat} : ∀ n, (∀ c, f c ≤ g c) → su f n ≤ su g n
  | 0, _ => Nat.le_refl _
  | n + 1, h => by
    rw [su_s, su_s]
    have := su_ple n h
    have := h n
    omega
section HM
variable {m : am_m} {r : am_rr} {s : Sx} {g : Og} {u b : Nat}
theorem gB_in (hI : IG g) (hu : u < 24) (hu2 : gU g u ≠ -2) (h : inB (gU g) (gD g) u b = true) (c : Nat) : gB g u c ≤ gB g b c := by
  refine su_ple 24 (fun k => ?_)
  unfold brP
  by_cases q : (thr (gU g) (k : Int) && inB (gU g) (gD g) k u) = true
  · rw [if_pos q, if_pos]
    · exact Nat.le_refl _
    · rw [Bool.and_eq_true] at q ⊢
      obtain ⟨k', hk', ek, hk2⟩ := thr_i q.1
      have ek' : k = k' := by omega
      subst ek'
      exact ⟨q.1, inB_t hI.1 hk' hk2 q.2 h⟩
  · rw [if_neg q]; exact Nat.zero_le _
/-- the branch of b without u's -/
def hmD (g : Og) (u b : Nat) (c : Nat) : Nat := gB g b c - gB g u c
def hmR (g : Og) (u b : Nat) : Nat → Nat := if inB (gU g) (gD g) b u = true then gB g b else if inB (gU g) (gD g) u b = true then hmD g u b else gB g b
def hmF (g : Og) (u b : Nat) : Nat → Nat := if inB (gU g) (gD g) u b = true then hmD g u b else gB g b
def hmA (g : Og) (u b : Nat) : Nat := su (un (hmF g u b) (gB g u)) 64
def hmP (g : Og) (u b : Nat) : Bool := decide (gU g u = (b : Int)) || cmv (gU g) (gD g) (u : Int) (b : Int)
def hmL (g : Og) (u : Nat) (x : Int) : Nat := if x = -1 then 0 else hmA g u x.toNat
theorem hmF_le (hI : IG g) (c : Nat) : hmF g u b c ≤ 1000000 := by
  have := gB_le hI b c
  unfold hmF hmD
  split
  · show gB g b c - gB g u c ≤ _
    omega
  · omega
theorem hmA_le (hI : IG g) : hmA g u b ≤ 64000000 := su_b (B := 1000000) (un_b (hmF_le hI) (fun c => Nat.le_trans (gB_le hI u c) (by decide))) 64
theorem sc_fil {a d : Nat} {f g : Nat → Nat} (h : Row m a g) : am_sc m a 0 d 0 64 = fil m d 0 f g := by
  funext x i
  rw [fil_0]
  by_cases c : x = d ∧ i < 64
  · rw [if_pos c, c.1, sc_at c.2]
    exact h.1 i c.2
  · rw [if_neg c]
    by_cases c1 : x = d
    · rw [c1, sc_out (Or.inr (by omega))]
    · rw [sc_ne c1]
theorem l_X8_apart_31 {x1 x2 : Int32} {k : am_m → Option (Int32 × am_m)} (hu : u < 24) (hr : Row m (aR u) (gB g u)) (hI : IG g) (hu2 : gU g u ≠ -2) (h : inB (gU g) (gD g) u b = true) : m_X8_apartFromHome_31 x1 x2 (am_i u) k am_F (am_i 0) (fil m 3013 0 (hmD g u b) (gB g b)) = k (fil m 3013 64 (hmD g u b) (gB g b)) := by
  refine lo_go (fun n j (q : am_m) => m_X8_apartFromHome_31 x1 x2 (am_i u) k n (am_i (j : Int)) q) (fun j => fil m 3013 j (hmD g u b) (gB g b)) 0 64 (n := am_F) rfl (by omega) (am_Fv (by omega)) (fun n j _ hj => ?_) (fun n => rfl)
  have le := gB_in hI hu hu2 h j
  have b1 := gB_le hI b j
  have e1 : fil m 3013 j (hmD g u b) (gB g b) (aR u) j = am_i (gB g u j : Int) := by rw [fil_ne (by unfold aR; omega)]; exact hr.1 j hj
  show m_X8_apartFromHome_31 _ _ _ _ (n + 1) _ _ = _
  rw [m_X8_apartFromHome_31, if_neg (by rw [i_le (by omega) (by omega) (by omega) (by omega)]; omega), i_ibt (by omega) (by omega) (by omega), i_ibt (by omega) (by omega) (by omega)]
  simp only [cond_true, am_letF]
  rw [i_ixn (by omega), i_ixn (by omega), fil_at hj, if_neg (Nat.lt_irrefl j), e1, i_sub, show ((gB g b j : Int) - (gB g u j : Int)) = ((hmD g u b j : Nat) : Int) by unfold hmD; omega, fil_s hj, nj]
theorem s_apart (h : GS m r s) (hr : ∀ k, k < 24 → gU (xG s) k ≠ -2 → Row m (aR k) (gB (xG s) k)) (hu : u < 24) (hu2 : gU (xG s) u ≠ -2) (hb : b < 24) (hb2 : gU (xG s) b ≠ -2) : ∃ m', m_X8_apartFromHome m (am_i u) (am_i b) = some (am_i (hmA (xG s) u b : Nat), m') ∧ Fr (fun x => x = 3013) m m' := by
  unfold m_X8_apartFromHome
  rw [i_ibt (by omega) (by omega) (by omega), cond_true, cb64, cond_true, am_letF, i_ixn (by omega), x0, x64, sc_fil (f := hmD (xG s) u b) (hr b hb hb2)]
  have tc : TC (fil m 3013 0 (hmD (xG s) u b) (gB (xG s) b)) 4 (gU (xG s)) := fun k hk => by rw [fil_ne (by unfold aU; omega)]; exact h.tc k hk
  have rU : ∀ j, Row (fil m 3013 j (hmD (xG s) u b) (gB (xG s) b)) (aR u) (gB (xG s) u) := fun j => ⟨fun c hc => by rw [fil_ne (by unfold aR; omega)]; exact (hr u hu hu2).1 c hc, (hr u hu hu2).2⟩
  rw [s_X1_isInBranch tc h.tr hu hu2 (by omega) (by omega), Option.bind_some]
  cases c : inB (gU (xG s)) (gD (xG s)) u b
  · have eF : hmF (xG s) u b = gB (xG s) b := if_neg (by rw [c]; decide)
    have rr : Row (fil m 3013 0 (hmD (xG s) u b) (gB (xG s) b)) 3013 (hmF (xG s) u b) := ⟨fun i hi => by rw [fil_at hi, if_neg (Nat.not_lt_zero i), eF], hmF_le h.ig⟩
    rw [if_pos (by decide), i_ibt (by omega) (by omega) (by omega), cond_true, i_ixn (by omega), s_X5_unlikeness rr (rU 0), Option.bind_some]
    exact ⟨_, rfl, fil_Fr⟩
  · have eF : hmF (xG s) u b = hmD (xG s) u b := if_pos c
    have rr : Row (fil m 3013 64 (hmD (xG s) u b) (gB (xG s) b)) 3013 (hmF (xG s) u b) := ⟨fun i hi => by rw [fil_at hi, if_pos hi, eF], hmF_le h.ig⟩
    rw [if_neg (by decide), l_X8_apart_31 hu (hr u hu hu2) h.ig hu2 c, i_ibt (by omega) (by omega) (by omega), cond_true, i_ixn (by omega), s_X5_unlikeness rr (rU 64), Option.bind_some]
    exact ⟨_, rfl, fil_Fr⟩
theorem hmP_i (h : GS m r s) (hu : u < 24) (hu2 : gU (xG s) u ≠ -2) (hp : hmP (xG s) u b = true) (hb : b < 24) : gU (xG s) b ≠ -2 := by
  unfold hmP at hp
  rw [Bool.or_eq_true] at hp
  rcases hp with q | q
  · have q := of_decide_eq_true q
    rcases h.tr.up hu hu2 with ⟨_, e⟩ | ⟨_, p, p1, p2, p3, _⟩
    · omega
    · have : b = p := by omega
      rw [this]; exact p3
  · obtain ⟨v, b', p, e1, e2, g1, g2, g3, g4, _⟩ := cmv_i h.tr q
    have : b = b' := by omega
    rw [this]; exact g4
/-- the next best -/
theorem hm_s (B : Int) (j : Nat) (hj : j ≤ 24) (hB : B = -1 ∨ ∃ b : Nat, b < j ∧ B = b ∧ hmP g u b = true) (hI : IG g) {β : Type} (F : Int32 → Int32 → β) : (if am_i B = am_i (-1) then F (am_i j) (am_i (hmA g u j : Nat)) else if am_i (hmL g u B : Nat) ≤ am_i (hmA g u j : Nat) then F (am_i B) (am_i (hmL g u B : Nat)) else F (am_i j) (am_i (hmA g u j : Nat))) = F (am_i (if B = -1 then (j : Int) else if hmA g u j < hmA g u B.toNat then (j : Int) else B)) (am_i (hmL g u (if B = -1 then (j : Int) else if hmA g u j < hmA g u B.toNat then (j : Int) else B) : Nat)) ∧ (if am_i B = am_i (-1) then F (am_i j) (am_i (hmA g u j : Nat)) else if am_i (hmA g u j : Nat) < am_i (hmL g u B : Nat) then F (am_i j) (am_i (hmA g u j : Nat)) else F (am_i B) (am_i (hmL g u B : Nat))) = F (am_i (if B = -1 then (j : Int) else if hmA g u j < hmA g u B.toNat then (j : Int) else B)) (am_i (hmL g u (if B = -1 then (j : Int) else if hmA g u j < hmA g u B.toNat then (j : Int) else B) : Nat)) := by
  have e3 : hmL g u (j : Int) = hmA g u j := by unfold hmL; rw [if_neg (by omega), Int.toNat_natCast]
  rcases hB with rfl | ⟨b, hb, rfl, _⟩
  · rw [if_pos rfl, if_pos rfl, if_pos rfl, e3]
    exact ⟨rfl, rfl⟩
  · have e4 : hmL g u (b : Int) = hmA g u b := by unfold hmL; rw [if_neg (by omega), Int.toNat_natCast]
    have nb : ¬ am_i (b : Int) = am_i (-1) := by rw [i_eq (by omega) (by omega) (by omega) (by omega)]; omega
    have a1 := hmA_le (u := u) (b := j) hI
    have a2 := hmA_le (u := u) (b := b) hI
    rw [if_neg nb, if_neg nb, if_neg (show ¬ (b : Int) = -1 by omega), Int.toNat_natCast, e4]
    by_cases c3 : hmA g u j < hmA g u b
    · rw [if_pos c3, e3, if_neg (by rw [i_le (by omega) (by omega) (by omega) (by omega)]; omega), if_pos (by rw [i_lt (by omega) (by omega) (by omega) (by omega)]; omega)]
      exact ⟨rfl, rfl⟩
    · rw [if_neg c3, e4, if_pos (by rw [i_le (by omega) (by omega) (by omega) (by omega)]; omega), if_neg (by rw [i_lt (by omega) (by omega) (by omega) (by omega)]; omega)]
      exact ⟨rfl, rfl⟩
theorem hm_B (P : Nat → Bool) (A : Nat → Nat) (j : Nat) : (P j = true → twB P A (j + 1) = if twB P A j = -1 then (j : Int) else if A j < A (twB P A j).toNat then (j : Int) else twB P A j) ∧ (¬ P j = true → twB P A (j + 1) = twB P A j) := ⟨fun h => if_pos h, fun h => if_neg h⟩
theorem hmP_0 (h1 : ¬ (b : Int) = gU g u) (h2 : cmv (gU g) (gD g) (u : Int) (b : Int) = false) : ¬ hmP g u b = true := by
  unfold hmP
  rw [h2, Bool.or_false]
  exact fun e => h1 (of_decide_eq_true e).symm
theorem l_X8_home (h : GS m r s) (hr : ∀ k, k < 24 → gU (xG s) k ≠ -2 → Row m (aR k) (gB (xG s) k)) (hu : u < 24) (hu2 : gU (xG s) u ≠ -2) : ∃ m', m_X8_home_35 (am_i u) (am_i u) (fun u16 m17 => some (u16, m17)) am_F (am_i (-1)) (am_i 0) (am_i 0) m = some (am_i (twB (hmP (xG s) u) (hmA (xG s) u) 24), m') ∧ GS m' r s := by
  refine Exists.elim (lo_inv (fun n j (t : Int32 × Int32 × am_m) => m_X8_home_35 (am_i u) (am_i u) (fun u16 m17 => some (u16, m17)) n t.1 t.2.1 (am_i (j : Int)) t.2.2) (fun j t => t.1 = am_i (twB (hmP (xG s) u) (hmA (xG s) u) j) ∧ t.2.1 = am_i (hmL (xG s) u (twB (hmP (xG s) u) (hmA (xG s) u) j) : Nat) ∧ GS t.2.2 r s ∧ ∀ k, k < 24 → gU (xG s) k ≠ -2 → Row t.2.2 (aR k) (gB (xG s) k)) 0 24 (fun t => some (t.1, t.2.2)) (s0 := (am_i (-1), am_i 0, m)) (n := am_F) ⟨rfl, rfl, h, hr⟩ (by omega) (am_Fv (by omega)) (fun n j t _ hj a => ?_) (fun n t a => rfl)) (fun t L => ?_)
  · obtain ⟨z2, z3, m0⟩ := t
    obtain ⟨a1, a2, a3, a4⟩ := a
    dsimp only at a1 a2 a3 a4
    have hB := twB_r (hmP (xG s) u) (hmA (xG s) u) j
    obtain ⟨eY, eN⟩ := hm_B (hmP (xG s) u) (hmA (xG s) u) j
    show ∃ s' : Int32 × Int32 × am_m, m_X8_home_35 _ _ _ (n + 1) z2 z3 _ m0 = m_X8_home_35 _ _ _ n s'.1 s'.2.1 _ s'.2.2 ∧ s'.1 = am_i (twB _ _ (j + 1)) ∧ s'.2.1 = am_i (hmL _ _ (twB _ _ (j + 1)) : Nat) ∧ _
    have up1 := a3.tr.2.2.1 u
    have key : gU (xG s) j ≠ -2 → hmP (xG s) u j = true → ∃ s' : Int32 × Int32 × am_m, ((m_X8_apartFromHome m0 (am_i u) (am_i j)).bind fun q8 => if z2 = am_i (-1) then m_X8_home_35 (am_i u) (am_i u) (fun u16 m17 => some (u16, m17)) n (am_i j) q8.1 (am_i ((j + 1 : Nat) : Int)) q8.2 else if z3 ≤ q8.1 then m_X8_home_35 (am_i u) (am_i u) (fun u16 m17 => some (u16, m17)) n z2 z3 (am_i ((j + 1 : Nat) : Int)) q8.2 else m_X8_home_35 (am_i u) (am_i u) (fun u16 m17 => some (u16, m17)) n (am_i j) q8.1 (am_i ((j + 1 : Nat) : Int)) q8.2) = m_X8_home_35 (am_i u) (am_i u) (fun u16 m17 => some (u16, m17)) n s'.1 s'.2.1 (am_i ((j + 1 : Nat) : Int)) s'.2.2 ∧ s'.1 = am_i (twB (hmP (xG s) u) (hmA (xG s) u) (j + 1)) ∧ s'.2.1 = am_i (hmL (xG s) u (twB (hmP (xG s) u) (hmA (xG s) u) (j + 1)) : Nat) ∧ GS s'.2.2 r s ∧ ∀ k, k < 24 → gU (xG s) k ≠ -2 → Row s'.2.2 (aR k) (gB (xG s) k) := by
      intro hj2 hp
      obtain ⟨m1, e1, f1⟩ := s_apart a3 a4 hu hu2 hj hj2
      rw [e1, Option.bind_some, eY hp, a1, a2]
      refine ⟨(_, _, m1), (hm_s (g := xG s) (u := u) _ j (by omega) hB a3.ig (fun x y => m_X8_home_35 (am_i u) (am_i u) (fun u16 m17 => some (u16, m17)) n x y (am_i ((j + 1 : Nat) : Int)) m1)).1, rfl, rfl, a3.sc1 (fun b hb => f1 b (by unfold Scr at hb; omega)), fun k hk hk2 => ⟨fun c hc => by show m1 (aR k) c = _; rw [f1 _ (by unfold aR; omega)]; exact (a4 k hk hk2).1 c hc, (a4 k hk hk2).2⟩⟩
    rw [m_X8_home_35, if_neg (by rw [i_le (by omega) (by omega) (by omega) (by omega)]; omega), s_X1_upperOf a3.tc a3.tr hu hu2, Option.bind_some, nj]
    by_cases c1 : (j : Int) = gU (xG s) u
    · have hp : hmP (xG s) u j = true := by
        unfold hmP
        rw [decide_eq_true c1.symm, Bool.true_or]
      rw [if_pos (by rw [c1])]
      exact key (hmP_i a3 hu hu2 hp hj) hp
    · rw [if_neg (by rw [i_eq (by omega) (by omega) (by omega) (by omega)]; exact c1), s_X1_canMove a3.tc a3.tr (by omega) (by omega) (by omega) (by omega), Option.bind_some]
      cases c2 : cmv (gU (xG s)) (gD (xG s)) (u : Int) (j : Int)
      · rw [if_neg (by decide), eN (hmP_0 c1 c2)]
        exact ⟨(z2, z3, m0), rfl, a1, a2, a3, a4⟩
      · have hp : hmP (xG s) u j = true := by
          unfold hmP
          rw [c2, Bool.or_true]
        rw [if_pos (by decide)]
        exact key (hmP_i a3 hu hu2 hp hj) hp
  · refine ⟨t.2.2, L.2.trans ?_, L.1.2.2.1⟩
    rw [L.1.1]
end HM
