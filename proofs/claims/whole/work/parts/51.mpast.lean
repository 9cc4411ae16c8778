/-! ===== mathematics: what was, in the class and in the reference ===== -/
/-- one more is kept, the eleventh latest is lost -/
def pushH (n : Nat) (h : Nat → Og) (g : Og) : Nat → Og := if n < 10 then (fun i => if i = n then g else h i) else (fun i => if i = 9 then g else h (i + 1))
def PC (m : am_m) (r : am_rr) (n : Nat) (h : Nat → Og) : Prop := m 498 2 = am_i n ∧ ∃ p : Nat, p < 10 ∧ m 498 1 = am_i p ∧ ∀ i, i < n → OC m r (500 + 247 * ((p + 10 - n + i) % 10)) (h i)
def PM (m : am_m) (n : Nat) (h : Nat → Og) : Prop := m 3261 4 = am_i n ∧ ∀ i, i < n → OM m 3265 (15456 * i) (h i)
theorem og_k {i : Nat} (h : i < 10) : am_og (500 + 247 * i) := Or.inr (Or.inr (Or.inr ⟨i, h, rfl⟩))
theorem mod10 : ∀ p : Nat, p < 10 → (am_i p + am_i 1) - (am_i p + am_i 1) / am_i 10 * am_i 10 = am_i ((p + 1) % 10 : Nat) ∧ am_ix ((am_i p + am_i 10 - am_i 1) - (am_i p + am_i 10 - am_i 1) / am_i 10 * am_i 10) = (p + 9) % 10 ∧ (am_i p + am_i 10 - am_i 1) - (am_i p + am_i 10 - am_i 1) / am_i 10 * am_i 10 = am_i ((p + 9) % 10 : Nat) := by decide +kernel
theorem min10 : ∀ n : Nat, n ≤ 10 → am_mn (am_i n + am_i 1) (am_i 10) = am_i (min (n + 1) 10 : Nat) := by decide +kernel
section PA
variable {m : am_m} {r : am_rr} {n : Nat} {h : Nat → Og} {g : Og}
theorem PC.kept {m' : am_m} {r' : am_rr} (H : PC m r n h) (hR : RI r) (hn : n ≤ 10) (e : ∀ b, 498 ≤ b → b < 2970 → m' b = m b) (er : ∀ i, i < 10 → r' (500 + 247 * i + 54) = r (500 + 247 * i + 54)) : PC m' r' n h := by
  obtain ⟨h1, p, hp, h2, h3⟩ := H
  refine ⟨by rw [e 498 (by omega) (by omega)]; exact h1, p, hp, by rw [e 498 (by omega) (by omega)]; exact h2, fun i hi => ?_⟩
  have hq : (p + 10 - n + i) % 10 < 10 := Nat.mod_lt _ (by decide)
  exact (h3 i hi).kept hR (og_k hq) (fun b b1 b2 => e b (by omega) (by omega)) (er _ hq)
theorem s_X2_keep (H : PC m r n h) (hn : n ≤ 10) (hR : RI r) (hg : OC m r 4 g) (hI : IG g) : ∃ m', m_X2_keep m r 4 = some m' ∧ Fr (fun b => 498 ≤ b ∧ b < 2970) m m' ∧ PC m' r (min (n + 1) 10) (pushH n h g) := by
  obtain ⟨h1, p, hp, h2, h3⟩ := H
  unfold m_X2_keep
  obtain ⟨q, g1, g2, g3⟩ := s_X1_takeOver (o := 500 + 247 * p) (o1 := 4) (og_k hp) og4 (by omega) hR hg hI
  rw [h2, i_ibt (by omega) (by omega) (by omega), cond_true, i_ixn (by omega), g1, Option.bind_some, am_letF, am_letF]
  have e1 : q 498 = m 498 := g2 498 (by omega)
  have s1 : am_si q 498 1 ((q 498 1 + am_i 1) - (q 498 1 + am_i 1) / am_i 10 * am_i 10) 498 2 = am_i n := by rw [si_o (by decide), e1, h1]
  refine ⟨_, rfl, ?_, ?_, (p + 1) % 10, Nat.mod_lt _ (by decide), ?_, fun i hi => ?_⟩
  · exact ((g2.mono (fun b hb => ⟨by omega, by omega⟩)).si2 ⟨by omega, by omega⟩).si2 ⟨by omega, by omega⟩
  · rw [si_at, s1, min10 n hn]
  · rw [si_o (by decide), si_at, e1, h2, (mod10 p hp).1]
  · have k2 : ∀ b, 500 ≤ b → am_si (am_si q 498 1 ((q 498 1 + am_i 1) - (q 498 1 + am_i 1) / am_i 10 * am_i 10)) 498 2 (am_mn (am_si q 498 1 ((q 498 1 + am_i 1) - (q 498 1 + am_i 1) / am_i 10 * am_i 10) 498 2 + am_i 1) (am_i 10)) b = q b := fun b hb => by rw [si_ne (by omega), si_ne (by omega)]
    have hq : ((p + 1) % 10 + 10 - min (n + 1) 10 + i) % 10 < 10 := Nat.mod_lt _ (by decide)
    by_cases e : ((p + 1) % 10 + 10 - min (n + 1) 10 + i) % 10 = p
    · have e2 : pushH n h g i = g := by
        unfold pushH
        by_cases c : n < 10
        · rw [if_pos c]
          exact if_pos (by omega)
        · rw [if_neg c]
          exact if_pos (by omega)
      rw [e, e2]
      exact g3.kept hR (og_k hp) (fun b b1 b2 => k2 b (by omega)) rfl
    · have e2 : ∃ j, j < n ∧ pushH n h g i = h j ∧ ((p + 1) % 10 + 10 - min (n + 1) 10 + i) % 10 = (p + 10 - n + j) % 10 := by
        unfold pushH
        by_cases c : n < 10
        · rw [if_pos c]
          exact ⟨i, by omega, if_neg (by omega), by omega⟩
        · rw [if_neg c]
          exact ⟨i + 1, by omega, if_neg (by omega), by omega⟩
      obtain ⟨j, j1, j2, j3⟩ := e2
      have := h3 j j1
      rw [j2]
      rw [← j3] at this
      refine this.kept hR (og_k hq) (fun b b1 b2 => ?_) rfl
      rw [k2 b (by omega)]
      exact g2 b (by omega)
theorem s_X2_takeBack0 (H : PC m r 0 h) : m_X2_takeBack m r 4 = some (am_i 0, m) := by
  obtain ⟨h1, p, hp, h2, h3⟩ := H
  unfold m_X2_takeBack
  rw [h2, (mod10 p hp).2.2, i_ibt (by omega) (by have := Nat.mod_lt (p + 9) (show 0 < 10 by decide); omega) (by omega), cond_true, h1, if_pos (by decide)]
theorem s_X2_takeBack (H : PC m r (n + 1) h) (hn : n < 10) (hR : RI r) (hI : IG (h n)) : ∃ m', m_X2_takeBack m r 4 = some (am_i 1, m') ∧ Fr (fun b => (4 < b ∧ b < 251) ∨ b = 498) m m' ∧ OC m' r 4 (h n) ∧ PC m' r n h := by
  obtain ⟨h1, p, hp, h2, h3⟩ := H
  have hq : (p + 9) % 10 < 10 := Nat.mod_lt _ (by decide)
  have hs : OC m r (500 + 247 * ((p + 9) % 10)) (h n) := by
    have := h3 n (by omega)
    rwa [show (p + 10 - (n + 1) + n) % 10 = (p + 9) % 10 by omega] at this
  unfold m_X2_takeBack
  obtain ⟨q, g1, g2, g3⟩ := s_X1_takeOver (o := 4) (o1 := 500 + 247 * ((p + 9) % 10)) og4 (og_k hq) (by omega) hR hs hI
  rw [h2, (mod10 p hp).2.2, i_ibt (by omega) (by omega) (by omega), cond_true, h1, if_neg (by rw [i_zero, i_eq (by omega) (by omega) (by omega) (by omega)]; omega), i_ixn (by omega), g1, Option.bind_some, am_letF, am_letF]
  have e1 : q 498 = m 498 := g2 498 (by omega)
  have k2 : ∀ b, b ≠ 498 → ∀ x y, am_si (am_si q 498 1 x) 498 2 y b = q b := fun b hb x y => by rw [si_ne hb, si_ne hb]
  refine ⟨_, rfl, ?_, ?_, ?_, (p + 9) % 10, hq, ?_, fun i hi => ?_⟩
  · exact ((g2.mono (B := fun b => (4 < b ∧ b < 251) ∨ b = 498) (fun b hb => Or.inl ⟨by omega, by omega⟩)).si2 (Or.inr rfl)).si2 (Or.inr rfl)
  · exact g3.kept hR og4 (fun b b1 b2 => k2 b (by omega) _ _) rfl
  · rw [si_at, si_o (by decide), e1, h1, i_sub]
    congr 1
    omega
  · rw [si_o (by decide), si_at]
  · have hq2 : ((p + 9) % 10 + 10 - n + i) % 10 < 10 := Nat.mod_lt _ (by decide)
    have := h3 i (by omega)
    rw [show (p + 10 - (n + 1) + i) % 10 = ((p + 9) % 10 + 10 - n + i) % 10 by omega] at this
    refine this.kept hR (og_k hq2) (fun b b1 b2 => ?_) rfl
    rw [k2 b (by omega)]
    exact g2 b (by omega)
theorem sc_s {a b sp dp j : Nat} (h : a ≠ b) : am_si (am_sc m a sp b dp j) b (dp + j) (am_sc m a sp b dp j a (sp + j)) = am_sc m a sp b dp (j + 1) := by
  funext c i
  rw [m_si, sc_ne h, m_sc, m_sc]
  by_cases e : c = b ∧ i = dp + j
  · rw [if_pos e, if_pos ⟨e.1, by omega, by omega⟩, show i - dp = j by omega]
  · rw [if_neg e]
    by_cases e2 : c = b ∧ dp ≤ i ∧ i < dp + j
    · rw [if_pos e2, if_pos ⟨e2.1, e2.2.1, by omega⟩]
    · rw [if_neg e2, if_neg (fun e3 => e2 ⟨e3.1, e3.2.1, by have : i ≠ dp + j := fun z => e ⟨e3.1, z⟩; omega⟩)]
theorem sc_0 {a b sp dp : Nat} : am_sc m a sp b dp 0 = m := by
  funext c i
  rw [m_sc, if_neg (by omega)]
theorem sc_in {src sp dst dp n i : Nat} (h : i < n) : am_sc m src sp dst dp n dst (dp + i) = m src (sp + i) := by
  rw [m_sc, if_pos ⟨rfl, by omega, by omega⟩, show dp + i - dp = i by omega]
theorem sc_out {src sp dst dp n i : Nat} (h : i < dp ∨ dp + n ≤ i) : am_sc m src sp dst dp n dst i = m dst i := by
  rw [m_sc, if_neg (by omega)]
theorem l_X9_remembers_53 {n : Nat} {k : am_m → Option am_m} (h1 : m 3261 4 = am_i n) (hn : n < 10) : m_X9_remembers_53 k am_F (am_i 0) m = k (am_sc m 3262 0 3265 (15456 * n) 15456) := by
  refine lo_go (fun n j (s : am_m) => m_X9_remembers_53 k n (am_i (j : Int)) s) (fun j => am_sc m 3262 0 3265 (15456 * n) j) 0 15456 sc_0.symm (by omega) (am_Fv (by omega)) (fun z j _ hj => ?_) (fun n => rfl)
  show m_X9_remembers_53 k (z + 1) _ _ = _
  have e : am_sc m 3262 0 3265 (15456 * n) j 3261 4 = am_i n := by rw [sc_ne (by decide)]; exact h1
  rw [m_X9_remembers_53, e, i_mul, i_add, if_neg (by rw [i_le (by omega) (by omega) (by omega) (by omega)]; omega), i_ibt (by omega) (by omega) (by omega), i_ibt (by omega) (by omega) (by omega), cond_true, cond_true, am_letF, i_ixn (by omega), i_ix (by omega) (by omega), show ((15456 : Int) * (n : Int) + (j : Int)).toNat = 15456 * n + j by omega, i_add]
  have e2 := sc_s (m := m) (a := 3262) (b := 3265) (sp := 0) (dp := 15456 * n) (j := j) (by decide)
  rw [Nat.zero_add] at e2
  rw [e2]
  rfl
theorem l_X9_keepsAside_53 {n : Nat} {k : am_m → Option am_m} (h1 : m 3261 4 = am_i n) (hn : n < 10) : m_X9_keepsAside_53 k am_F (am_i 0) m = k (am_sc m 3263 0 3265 (15456 * n) 15456) := by
  refine lo_go (fun n j (s : am_m) => m_X9_keepsAside_53 k n (am_i (j : Int)) s) (fun j => am_sc m 3263 0 3265 (15456 * n) j) 0 15456 sc_0.symm (by omega) (am_Fv (by omega)) (fun z j _ hj => ?_) (fun n => rfl)
  show m_X9_keepsAside_53 k (z + 1) _ _ = _
  have e : am_sc m 3263 0 3265 (15456 * n) j 3261 4 = am_i n := by rw [sc_ne (by decide)]; exact h1
  rw [m_X9_keepsAside_53, e, i_mul, i_add, if_neg (by rw [i_le (by omega) (by omega) (by omega) (by omega)]; omega), i_ibt (by omega) (by omega) (by omega), i_ibt (by omega) (by omega) (by omega), cond_true, cond_true, am_letF, i_ixn (by omega), i_ix (by omega) (by omega), show ((15456 : Int) * (n : Int) + (j : Int)).toNat = 15456 * n + j by omega, i_add]
  have e2 := sc_s (m := m) (a := 3263) (b := 3265) (sp := 0) (dp := 15456 * n) (j := j) (by decide)
  rw [Nat.zero_add] at e2
  rw [e2]
  rfl
/-- the row of what was, moved down by one, as far as j -/
def shD (m : am_m) (j : Nat) : am_m := fun b i => if b = 3265 ∧ i < j then m 3265 (i + 15456) else m b i
theorem shD_ne {j b : Nat} (h : b ≠ 3265) : shD m j b = m b := by
  funext i
  exact if_neg (fun e => h e.1)
theorem shD_s {j : Nat} : am_si (shD m j) 3265 j (m 3265 (j + 15456)) = shD m (j + 1) := by
  funext b i
  rw [m_si]
  show (if b = 3265 ∧ i = j then m 3265 (j + 15456) else if b = 3265 ∧ i < j then m 3265 (i + 15456) else m b i) = if b = 3265 ∧ i < j + 1 then m 3265 (i + 15456) else m b i
  by_cases e : b = 3265 ∧ i = j
  · rw [if_pos e, if_pos ⟨e.1, by omega⟩, e.2]
  · rw [if_neg e]
    by_cases e2 : b = 3265 ∧ i < j
    · rw [if_pos e2, if_pos ⟨e2.1, by omega⟩]
    · rw [if_neg e2, if_neg (fun e3 => e2 ⟨e3.1, by have : i ≠ j := fun z => e ⟨e3.1, z⟩; omega⟩)]
theorem l_X9_remembers_13 {k : am_m → Option am_m} : m_X9_remembers_13 k am_F (am_i 15456) m = k (shD m 139104) := by
  rw [show am_i 15456 = am_i (15456 + ((0 : Nat) : Int)) by rw [Int.natCast_zero, Int.add_zero]]
  refine lo_go (fun n j (s : am_m) => m_X9_remembers_13 k n (am_i (15456 + (j : Int))) s) (fun j => shD m j) 0 139104 (by funext b i; exact (if_neg (fun e => Nat.not_lt_zero _ e.2)).symm) (by omega) (am_Fv (by omega)) (fun z j _ hj => ?_) (fun n => rfl)
  show m_X9_remembers_13 k (z + 1) _ _ = _
  have e : shD m j 3265 (j + 15456) = m 3265 (j + 15456) := if_neg (fun e => by omega)
  rw [m_X9_remembers_13, i_sub, if_neg (by rw [i_le (by omega) (by omega) (by omega) (by omega)]; omega), i_ibt (by omega) (by omega) (by omega), i_ibt (by omega) (by omega) (by omega), cond_true, cond_true, am_letF, i_ix (by omega) (by omega), i_ix (by omega) (by omega), show ((15456 : Int) + (j : Int) - 15456).toNat = j by omega, show ((15456 : Int) + (j : Int)).toNat = j + 15456 by omega, e, shD_s, i_add]
  congr 2
theorem l_X9_keepsAside_13 {k : am_m → Option am_m} : m_X9_keepsAside_13 k am_F (am_i 15456) m = k (shD m 139104) := by
  rw [show am_i 15456 = am_i (15456 + ((0 : Nat) : Int)) by rw [Int.natCast_zero, Int.add_zero]]
  refine lo_go (fun n j (s : am_m) => m_X9_keepsAside_13 k n (am_i (15456 + (j : Int))) s) (fun j => shD m j) 0 139104 (by funext b i; exact (if_neg (fun e => Nat.not_lt_zero _ e.2)).symm) (by omega) (am_Fv (by omega)) (fun z j _ hj => ?_) (fun n => rfl)
  show m_X9_keepsAside_13 k (z + 1) _ _ = _
  have e : shD m j 3265 (j + 15456) = m 3265 (j + 15456) := if_neg (fun e => by omega)
  rw [m_X9_keepsAside_13, i_sub, if_neg (by rw [i_le (by omega) (by omega) (by omega) (by omega)]; omega), i_ibt (by omega) (by omega) (by omega), i_ibt (by omega) (by omega) (by omega), cond_true, cond_true, am_letF, i_ix (by omega) (by omega), i_ix (by omega) (by omega), show ((15456 : Int) + (j : Int) - 15456).toNat = j by omega, show ((15456 : Int) + (j : Int)).toNat = j + 15456 by omega, e, shD_s, i_add]
  congr 2
/-- what is kept behind, whatever row it comes from -/
theorem PM_push {a : Nat} (H : PM m n h) (hn : n ≤ 10) (ha : a = 3262 ∨ a = 3263) (hg : OM m a 0 g) :
    (n < 10 → PM (am_si (am_sc m a 0 3265 (15456 * n) 15456) 3261 4 (am_i n + am_i 1)) (min (n + 1) 10) (pushH n h g)) ∧
    (n = 10 → PM (am_si (am_sc (am_si (shD m 139104) 3261 4 (am_i 9)) a 0 3265 (15456 * 9) 15456) 3261 4 (am_i 9 + am_i 1)) (min (n + 1) 10) (pushH n h g)) := by
  refine ⟨fun c => ⟨?_, fun i hi => ?_⟩, fun c => ⟨?_, fun i hi => ?_⟩⟩
  · rw [si_at, i_add]
    congr 1
    omega
  · by_cases e : i = n
    · have e2 : pushH n h g i = g := by unfold pushH; rw [if_pos c]; exact if_pos e
      rw [e2, e]
      refine hg.copy (fun j hj => ?_)
      rw [si_ne (by decide), sc_in hj]
    · have e2 : pushH n h g i = h i := by unfold pushH; rw [if_pos c]; exact if_neg e
      rw [e2]
      refine (H.2 i (by omega)).kept (fun j hj => ?_)
      rw [si_ne (by decide), sc_out (by omega)]
  · rw [si_at, c]
    decide
  · by_cases e : i = 9
    · have e2 : pushH n h g i = g := by unfold pushH; rw [if_neg (by omega)]; exact if_pos e
      rw [e2, e]
      refine hg.copy (fun j hj => ?_)
      rw [si_ne (by decide), sc_in hj, si_ne (by omega), shD_ne (by omega)]
    · have e2 : pushH n h g i = h (i + 1) := by unfold pushH; rw [if_neg (by omega)]; exact if_neg e
      rw [e2]
      refine (H.2 (i + 1) (by omega)).copy (fun j hj => ?_)
      rw [si_ne (by decide), sc_out (by omega), si_ne (by decide)]
      show (if 3265 = 3265 ∧ 15456 * i + j < 139104 then m 3265 (15456 * i + j + 15456) else m 3265 _) = _
      rw [if_pos ⟨rfl, by omega⟩]
      congr 1
      omega
def F5 (b : Nat) : Prop := b = 3261 ∨ b = 3265
theorem Fr.shD {j : Nat} : Fr F5 m (shD m j) := fun b hb => shD_ne (fun e => hb (Or.inr e))
theorem s_X9_remembers (H : PM m n h) (hn : n ≤ 10) (hg : OM m 3262 0 g) : ∃ m', m_X9_remembers m = some m' ∧ Fr F5 m m' ∧ (∀ j, j ≠ 4 → m' 3261 j = m 3261 j) ∧ PM m' (min (n + 1) 10) (pushH n h g) := by
  unfold m_X9_remembers
  rw [H.1]
  by_cases c : n < 10
  · rw [if_pos (by rw [i_eq (by omega) (by omega) (by omega) (by omega)]; omega), l_X9_remembers_53 H.1 c, am_letF, sc_ne (by decide), H.1]
    refine ⟨_, rfl, ?_, fun j hj => ?_, (PM_push H hn (Or.inl rfl) hg).1 c⟩
    · exact ((Fr.refl _ _).sc (Or.inr rfl)).si2 (Or.inl rfl)
    · rw [si_o hj, sc_ne (by decide)]
  · have c2 : n = 10 := by omega
    rw [if_neg (by rw [c2]; decide), l_X9_remembers_13, am_letF, shD_ne (by decide), H.1, show am_i (n : Int) - am_i 1 = am_i ((9 : Nat) : Int) by rw [c2]; decide, l_X9_remembers_53 (n := 9) si_at (by decide), am_letF, sc_ne (by decide), si_at]
    refine ⟨_, rfl, ?_, fun j hj => ?_, (PM_push H hn (Or.inl rfl) hg).2 c2⟩
    · exact ((Fr.shD.si2 (Or.inl rfl)).sc (Or.inr rfl)).si2 (Or.inl rfl)
    · rw [si_o hj, sc_ne (by decide), si_o hj, shD_ne (by decide)]
theorem s_X9_keepsAside (H : PM m n h) (hn : n ≤ 10) (hg : OM m 3263 0 g) : ∃ m', m_X9_keepsAside m = some m' ∧ Fr F5 m m' ∧ (∀ j, j ≠ 4 → m' 3261 j = m 3261 j) ∧ PM m' (min (n + 1) 10) (pushH n h g) := by
  unfold m_X9_keepsAside
  rw [H.1]
  by_cases c : n < 10
  · rw [if_pos (by rw [i_eq (by omega) (by omega) (by omega) (by omega)]; omega), l_X9_keepsAside_53 H.1 c, am_letF, sc_ne (by decide), H.1]
    refine ⟨_, rfl, ?_, fun j hj => ?_, (PM_push H hn (Or.inr rfl) hg).1 c⟩
    · exact ((Fr.refl _ _).sc (Or.inr rfl)).si2 (Or.inl rfl)
    · rw [si_o hj, sc_ne (by decide)]
  · have c2 : n = 10 := by omega
    rw [if_neg (by rw [c2]; decide), l_X9_keepsAside_13, am_letF, shD_ne (by decide), H.1, show am_i (n : Int) - am_i 1 = am_i ((9 : Nat) : Int) by rw [c2]; decide, l_X9_keepsAside_53 (n := 9) si_at (by decide), am_letF, sc_ne (by decide), si_at]
    refine ⟨_, rfl, ?_, fun j hj => ?_, (PM_push H hn (Or.inr rfl) hg).2 c2⟩
    · exact ((Fr.shD.si2 (Or.inl rfl)).sc (Or.inr rfl)).si2 (Or.inl rfl)
    · rw [si_o hj, sc_ne (by decide), si_o hj, shD_ne (by decide)]
theorem l_X9_undo_21 {n : Nat} {k : am_m → Option (Int32 × am_m)} (h1 : m 3261 4 = am_i n) (hn : n < 10) : m_X9_undo_21 k am_F (am_i 0) m = k (am_sc m 3265 (15456 * n) 3262 0 15456) := by
  refine lo_go (fun n j (s : am_m) => m_X9_undo_21 k n (am_i (j : Int)) s) (fun j => am_sc m 3265 (15456 * n) 3262 0 j) 0 15456 sc_0.symm (by omega) (am_Fv (by omega)) (fun z j _ hj => ?_) (fun n => rfl)
  show m_X9_undo_21 k (z + 1) _ _ = _
  have e : am_sc m 3265 (15456 * n) 3262 0 j 3261 4 = am_i n := by rw [sc_ne (by decide)]; exact h1
  rw [m_X9_undo_21, e, i_mul, i_add, if_neg (by rw [i_le (by omega) (by omega) (by omega) (by omega)]; omega), i_ibt (by omega) (by omega) (by omega), i_ibt (by omega) (by omega) (by omega), cond_true, cond_true, am_letF, i_ixn (by omega), i_ix (by omega) (by omega), show ((15456 : Int) * (n : Int) + (j : Int)).toNat = 15456 * n + j by omega, i_add]
  have e2 := sc_s (m := m) (a := 3265) (b := 3262) (sp := 15456 * n) (dp := 0) (j := j) (by decide)
  rw [Nat.zero_add] at e2
  rw [e2]
  rfl
end PA
