/-! ===== mathematics: rolling up, the reference's steps ===== -/
theorem s_nd9 {m : am_m} {off : Nat} {f : Nat → Nat} (hw : RowW m off f) (ho : off + 64 ≤ 15517) : ∃ m1, m_X9_nodesAt m (am_i off) = some (am_i (com f f : Nat), m1) ∧ Fr (fun b => b = 3267) m m1 := by
  obtain ⟨m1, e1, f1, g1⟩ := s_X9_lays (a := 3267) hw ho (by decide)
  refine ⟨m1, ?_, f1⟩
  unfold m_X9_nodesAt
  rw [e1, Option.bind_some, s_X9_nodes g1]
  rfl
theorem own_at {m : am_m} (u : Nat) : m_X9_ownAt m (am_i (u : Int)) = some (am_i ((72 + 64 * u : Nat) : Int)) := by
  unfold m_X9_ownAt
  rw [i_mul, i_add]
  rfl
theorem sum_at {m : am_m} (u : Nat) : m_X9_sumAt m (am_i (u : Int)) = some (am_i ((1608 + 64 * u : Nat) : Int)) := by
  unfold m_X9_sumAt
  rw [i_mul, i_add]
  rfl
section RM
variable {m : am_m} {g : Og} {u : Nat}
theorem OM.fr {m' : am_m} {A : Nat → Prop} (h : OM m 3262 0 g) (f : Fr A m m') (hA : ¬ A 3262) : OM m' 3262 0 g := h.kept (fun i _ => by rw [f _ hA])
/-- the part kept so far, as the reference writes it -/
def kpI (m : am_m) (g : Og) (u j : Nat) (t : Int32 × Int32 × am_m) : Prop := ((t.1 = am_i (-1) ∧ kpB g u j = (u, -1)) ∨ (t.1 = am_i ((kpB g u j).1 : Nat) ∧ (kpB g u j).1 < 24 ∧ t.2.1 = am_i (kpB g u j).2 ∧ 0 ≤ (kpB g u j).2)) ∧ Fr (fun b => b = 3267) m t.2.2
theorem kpB_t {j : Nat} (h : gU g j = (u : Int) ∧ (kpB g u j).2 < (com (gM g j) (gM g j) : Nat)) : kpB g u (j + 1) = (j, ((com (gM g j) (gM g j) : Nat) : Int)) := if_pos h
theorem kpB_f {j : Nat} (h : ¬ (gU g j = (u : Int) ∧ (kpB g u j).2 < (com (gM g j) (gM g j) : Nat))) : kpB g u (j + 1) = kpB g u j := if_neg h
theorem l_X9_keptPart_7 {x1 : Int32} {k : Int32 → Int32 → am_m → Option (Int32 × am_m)} (h : OM m 3262 0 g) (hI : IG g) (hu : u < 24) : ∃ t, kpI m g u 24 t ∧ m_X9_keptPart_7 x1 (am_i u) k am_F (am_i (-1)) (am_i 0) (am_i 0) m = k t.1 t.2.1 t.2.2 := by
  refine lo_inv (fun n j (t : Int32 × Int32 × am_m) => m_X9_keptPart_7 x1 (am_i u) k n t.1 t.2.1 (am_i (j : Int)) t.2.2) (kpI m g u) 0 24 (fun t => k t.1 t.2.1 t.2.2) (n := am_F) (s0 := (am_i (-1), am_i 0, m)) ⟨Or.inl ⟨rfl, rfl⟩, Fr.refl _ _⟩ (by omega) (am_Fv (by omega)) (fun n j t _ hj A => ?_) (fun n t A => rfl)
  obtain ⟨z1, z2, m0⟩ := t
  obtain ⟨a1, a2⟩ := A
  dsimp only at a1 a2
  have ht : OM m0 3262 0 g := h.fr a2 (by decide)
  have e1 := hI.1.2.2.1 j
  show ∃ s' : Int32 × Int32 × am_m, m_X9_keptPart_7 _ _ _ (n + 1) z1 z2 _ m0 = m_X9_keptPart_7 _ _ _ n s'.1 s'.2.1 _ s'.2.2 ∧ _
  rw [m_X9_keptPart_7, if_neg (by rw [i_le (by omega) (by omega) (by omega) (by omega)]; omega), s_X9_isUnit ht.TM (by omega) (by omega), nj, i_add]
  by_cases c0 : gU g j = -2
  · rw [thr_f c0, Option.bind_some, if_pos (by decide)]
    have hn : ¬ (gU g j = (u : Int) ∧ (kpB g u j).2 < (com (gM g j) (gM g j) : Nat)) := fun e => by omega
    refine ⟨(z1, z2, m0), rfl, ?_, a2⟩
    rw [kpB_f hn]
    exact a1
  · have e2 := ht.2.1 j hj c0
    rw [Nat.zero_add] at e2
    rw [thr_t hj c0, Option.bind_some, if_neg (by decide), i_ibt (by omega) (by omega) (by omega), cond_true, i_ix (by omega) (by omega), show ((24 : Int) + (j : Int)).toNat = 24 + j by omega, e2]
    by_cases c : gU g j = (u : Int)
    · obtain ⟨m1, q1, q2⟩ := s_nd9 (ht.sum hI hj) (by omega)
      rw [if_pos (by rw [c]), sum_at, Option.bind_some, q1, Option.bind_some]
      dsimp only
      have b2 := com_le (gM g j) (gM g j)
      rcases a1 with ⟨a1, a3⟩ | ⟨a1, a3, a4, a5⟩
      · have hp : gU g j = (u : Int) ∧ (kpB g u j).2 < (com (gM g j) (gM g j) : Nat) := ⟨c, by rw [a3]; show (-1 : Int) < _; omega⟩
        rw [if_pos a1]
        refine ⟨(am_i j, am_i (com (gM g j) (gM g j) : Nat), m1), rfl, Or.inr ?_, a2.trans q2⟩
        rw [kpB_t hp]
        exact ⟨rfl, hj, rfl, by show (0 : Int) ≤ ((_ : Nat) : Int); omega⟩
      · have b1 := kpB_b g u j
        rw [if_neg (by rw [a1, i_eq (by omega) (by omega) (by omega) (by omega)]; omega)]
        by_cases c2 : (kpB g u j).2 < (com (gM g j) (gM g j) : Nat)
        · rw [if_pos (by rw [a4, i_lt (by omega) (by omega) (by omega) (by omega)]; exact c2)]
          refine ⟨(am_i j, am_i (com (gM g j) (gM g j) : Nat), m1), rfl, Or.inr ?_, a2.trans q2⟩
          rw [kpB_t ⟨c, c2⟩]
          exact ⟨rfl, hj, rfl, by show (0 : Int) ≤ ((_ : Nat) : Int); omega⟩
        · rw [if_neg (by rw [a4, i_lt (by omega) (by omega) (by omega) (by omega)]; exact c2)]
          refine ⟨(z1, z2, m1), rfl, Or.inr ?_, a2.trans q2⟩
          rw [kpB_f (fun e => c2 e.2)]
          exact ⟨a1, a3, a4, a5⟩
    · rw [if_neg (by rw [i_eq (by omega) (by omega) (by omega) (by omega)]; exact c)]
      refine ⟨(z1, z2, m0), rfl, ?_, a2⟩
      rw [kpB_f (fun e => c e.1)]
      exact a1
theorem s_X9_keptPart (h : OM m 3262 0 g) (hI : IG g) (hu : u < 24) : ∃ m', m_X9_keptPart m (am_i u) = some (am_i (kp g u : Nat), m') ∧ Fr (fun b => b = 3267) m m' := by
  unfold m_X9_keptPart
  obtain ⟨⟨z1, z2, m0⟩, ⟨A1, A2⟩, e1⟩ := l_X9_keptPart_7 (x1 := am_i u) (k := fun u10 u11 m12 => if u10 = (am_i (-1)) then some (am_i u, m12) else (m_X9_ownAt m12 (am_i u)).bind fun q14 => (m_X9_nodesAt m12 q14).bind fun q15 => if q15.1 ≤ u11 then some (u10, q15.2) else some (am_i u, q15.2)) h hI hu
  dsimp only at A1 A2 e1
  rw [e1]
  have ht : OM m0 3262 0 g := h.fr A2 (by decide)
  have b2 := com_le (gO g u) (gO g u)
  have b1 := kpB_b g u 24
  rcases A1 with ⟨a1, a3⟩ | ⟨a1, a3, a4, a5⟩
  · refine ⟨m0, ?_, A2⟩
    have ek : kp g u = u := by
      unfold kp
      rw [a3]
      exact if_pos (show (-1 : Int) < _ by omega)
    rw [if_pos a1, ek]
  · obtain ⟨m1, q1, q2⟩ := s_nd9 (ht.own hI hu) (by omega)
    refine ⟨m1, ?_, A2.trans q2⟩
    rw [if_neg (by rw [a1, i_eq (by omega) (by omega) (by omega) (by omega)]; omega), own_at, Option.bind_some, q1, Option.bind_some]
    dsimp only
    unfold kp
    by_cases c : (kpB g u 24).2 < (com (gO g u) (gO g u) : Nat)
    · rw [if_neg (by rw [a4, i_le (by omega) (by omega) (by omega) (by omega)]; omega), if_pos c]
    · rw [if_pos (by rw [a4, i_le (by omega) (by omega) (by omega) (by omega)]; omega), if_neg c, a1]
/-- the counts while rolling up -/
def bkR (k : Bk) (c n b : Nat) : Bk := ((fun i => if i = 0 then bkC k 0 + am_i c else if i = 2 then bkC k 2 + am_i n else if i = 4 then bkC k 4 + am_i b else bkC k i), k.2)
theorem bkR_0 {k : Bk} {c n b e : Nat} : bkAdd (bkR k c n b) 0 (am_i e) = bkR k (c + e) n b := by
  refine congrArg (fun f => (f, k.2)) (funext fun i => ?_)
  show (if i = 0 then (if i = 0 then bkC k 0 + am_i c else if i = 2 then bkC k 2 + am_i n else if i = 4 then bkC k 4 + am_i b else bkC k i) + am_i e else if i = 0 then bkC k 0 + am_i c else if i = 2 then bkC k 2 + am_i n else if i = 4 then bkC k 4 + am_i b else bkC k i) = if i = 0 then bkC k 0 + am_i ((c + e : Nat) : Int) else if i = 2 then bkC k 2 + am_i n else if i = 4 then bkC k 4 + am_i b else bkC k i
  by_cases h : i = 0
  · rw [if_pos h, if_pos h, if_pos h, Int32.add_assoc, i_add]; rfl
  · rw [if_neg h, if_neg h, if_neg h]
theorem bkR_2 {k : Bk} {c n b e : Nat} : bkAdd (bkR k c n b) 2 (am_i e) = bkR k c (n + e) b := by
  refine congrArg (fun f => (f, k.2)) (funext fun i => ?_)
  show (if i = 2 then (if i = 0 then bkC k 0 + am_i c else if i = 2 then bkC k 2 + am_i n else if i = 4 then bkC k 4 + am_i b else bkC k i) + am_i e else if i = 0 then bkC k 0 + am_i c else if i = 2 then bkC k 2 + am_i n else if i = 4 then bkC k 4 + am_i b else bkC k i) = if i = 0 then bkC k 0 + am_i c else if i = 2 then bkC k 2 + am_i ((n + e : Nat) : Int) else if i = 4 then bkC k 4 + am_i b else bkC k i
  by_cases h : i = 2
  · have h0 : ¬ i = 0 := by omega
    rw [if_pos h, if_neg h0, if_pos h, if_neg h0, if_pos h, Int32.add_assoc, i_add]; rfl
  · rw [if_neg h, if_neg h, if_neg h]
theorem bkR_4 {k : Bk} {c n b e : Nat} : bkAdd (bkR k c n b) 4 (am_i e) = bkR k c n (b + e) := by
  refine congrArg (fun f => (f, k.2)) (funext fun i => ?_)
  show (if i = 4 then (if i = 0 then bkC k 0 + am_i c else if i = 2 then bkC k 2 + am_i n else if i = 4 then bkC k 4 + am_i b else bkC k i) + am_i e else if i = 0 then bkC k 0 + am_i c else if i = 2 then bkC k 2 + am_i n else if i = 4 then bkC k 4 + am_i b else bkC k i) = if i = 0 then bkC k 0 + am_i c else if i = 2 then bkC k 2 + am_i n else if i = 4 then bkC k 4 + am_i ((b + e : Nat) : Int) else bkC k i
  by_cases h : i = 4
  · have h0 : ¬ i = 0 := by omega
    have h2 : ¬ i = 2 := by omega
    rw [if_pos h, if_neg h0, if_neg h2, if_pos h, if_neg h0, if_neg h2, if_pos h, Int32.add_assoc, i_add]; rfl
  · rw [if_neg h, if_neg h, if_neg h]
theorem bkR_i (k : Bk) : bkR k 0 0 0 = k := by
  obtain ⟨f, k2⟩ := k
  refine congrArg (fun f => (f, k2)) (funext fun i => ?_)
  show (if i = 0 then f 0 + am_i ((0 : Nat) : Int) else if i = 2 then f 2 + am_i ((0 : Nat) : Int) else if i = 4 then f 4 + am_i ((0 : Nat) : Int) else f i) = f i
  have z : am_i ((0 : Nat) : Int) = 0 := by decide
  rw [z]
  by_cases h : i = 0
  · rw [if_pos h, h, Int32.add_zero]
  · rw [if_neg h]
    by_cases h2 : i = 2
    · rw [if_pos h2, h2, Int32.add_zero]
    · rw [if_neg h2]
      by_cases h3 : i = 4
      · rw [if_pos h3, h3, Int32.add_zero]
      · rw [if_neg h3]
theorem bkR_e {k : Bk} {c n b : Nat} : bkAdd (bkAdd (bkAdd k 0 (am_i c)) 2 (am_i n)) 4 (am_i b) = bkR k c n b := by
  have e := bkR_4 (k := k) (c := c) (n := n) (b := 0) (e := b)
  have e2 := bkR_2 (k := k) (c := c) (n := 0) (b := 0) (e := n)
  have e3 := bkR_0 (k := k) (c := 0) (n := 0) (b := 0) (e := c)
  rw [bkR_i, Nat.zero_add] at e3
  rw [Nat.zero_add] at e e2
  rw [e3, e2, e]
theorem bkR_IB {k : Bk} {c n b : Nat} (h : IB k) : IB (bkR k c n b) := h
def FZ6 (b : Nat) : Prop := b = 3262 ∨ b = 3266 ∨ b = 3267
theorem s_X9_merges {off : Nat} {F f : Nat → Nat} {k : Bk} {c n b : Nat} (hF : Row m 3266 F) (hw : RowW m off f) (ho : off + 64 ≤ 15517) (hB : BM m 3262 (bkR k c n b)) (hs : ∀ e, F e + f e ≤ 1000000) : ∃ m', m_X9_merges m (am_i off) = some (am_i (com F f : Nat), m') ∧ Fr FZ6 m m' ∧ (∀ i, i < 15456 → m' 3262 i = m 3262 i) ∧ BM m' 3262 (bkR k (c + com F f) (n + 1) b) ∧ Row m' 3266 (fun e => F e + f e) := by
  obtain ⟨m1, e1, f1, g1⟩ := s_X9_lays (a := 3267) hw ho (by decide)
  have hF1 : Row m1 3266 F := hF.kept f1 (by decide)
  have hl : ∀ (y2 : Int32) (kk : am_m → Option (Int32 × am_m)), m_X9_merges_23 (am_i off) y2 kk am_F (am_i 0) m1 = kk (fil m1 3266 64 (fun e => F e + f e) F) := fun y2 kk => by
    refine lo_go (fun n j (t : am_m) => m_X9_merges_23 (am_i off) y2 kk n (am_i (j : Int)) t) (fun j => fil m1 3266 j (fun e => F e + f e) F) 0 64 (n := am_F) (s0 := m1) ?_ (by omega) (am_Fv (by omega)) (fun n j _ hj => ?_) (fun n => rfl)
    · funext b' i
      rw [fil_0]
      by_cases c : b' = 3266 ∧ i < 64
      · rw [if_pos c, c.1, hF1.1 i c.2]
      · rw [if_neg c]
    · show m_X9_merges_23 _ _ _ (n + 1) _ _ = _
      have q1 : fil m1 3266 j (fun e => F e + f e) F 3266 j = am_i (F j) := by rw [fil_at hj, if_neg (Nat.lt_irrefl j)]
      have q2 : fil m1 3266 j (fun e => F e + f e) F 3267 j = am_i (f j) := by rw [fil_ne (by decide)]; exact g1.1 j hj
      rw [m_X9_merges_23, if_neg (by rw [i_le (by omega) (by omega) (by omega) (by omega)]; omega), i_ibt (by omega) (by omega) (by omega), cond_true, cond_true, cond_true, am_letF, i_ixn (by omega), q1, q2, nj, i_add, show (F j : Int) + (f j : Int) = ((F j + f j : Nat) : Int) by omega, fil_s (f := fun e => F e + f e) hj]
  have hB1 : BM (fil m1 3266 64 (fun e => F e + f e) F) 3262 (bkR k c n b) := hB.copy (fun i _ _ => by rw [fil_ne (by decide), f1 3262 (by decide)])
  obtain ⟨m4, e4, f4, hB4⟩ := s_X9_counts (w := 0) (x := am_i (com F f : Nat)) hB1 (by decide)
  rw [bkR_0] at hB4
  obtain ⟨m5, e5, f5, hB5⟩ := s_X9_counts (w := 2) (x := am_i ((1 : Nat) : Int)) hB4 (by decide)
  rw [bkR_2] at hB5
  refine ⟨m5, ?_, fun b hb => ?_, fun i hi => ?_, hB5, ?_⟩
  · unfold m_X9_merges
    rw [e1, Option.bind_some, s_X9_common hF1 g1, Option.bind_some, hl]
    rw [show m_X9_counts (fil m1 3266 64 (fun e => F e + f e) F) (am_i 0) _ = some m4 from e4, Option.bind_some, show m_X9_counts m4 (am_i 2) (am_i 1) = some m5 from e5, Option.bind_some]
  · rw [f5.1 b (fun e => hb (Or.inl e)), f4.1 b (fun e => hb (Or.inl e)), fil_ne (fun e => hb (Or.inr (Or.inl e))), f1 b (fun e => hb (Or.inr (Or.inr e)))]
  · rw [f5.2 i hi, f4.2 i hi, fil_ne (by decide), f1 3262 (by decide)]
  · exact ((fil_Row hs).kept f4.1 (by decide)).kept f5.1 (by decide)
theorem l_X9_rolls_92 {self : am_m → Int32 → Option (Int32 × am_m)} {x1 : Int32} {z : Int} {kk c n b : Nat} {K : Bk} {k : Int32 → am_m → Option (Int32 × am_m)} (h : OM m 3262 0 g) (hI : IG g) (hu : u < 24) (hkk : kk < 24) (hle : ∀ j, j ≤ 24 → ∀ e, mgR g u kk j e ≤ 239976) (hB : BM m 3262 (bkR K c n b)) (hf : Row m 3266 (mgR g u kk 0)) : ∃ m', Fr FZ6 m m' ∧ (∀ i, i < 15456 → m' 3262 i = m 3262 i) ∧ BM m' 3262 (bkR K (c + mgC g u kk 24) (n + mgN g u kk 24) b) ∧ Row m' 3266 (mgR g u kk 24) ∧ m_X9_rolls_92 self x1 (am_i u) (am_i kk) k am_F (am_i z) (am_i 0) m = k (am_i (z + mgC g u kk 24)) m' := by
  refine Exists.elim (lo_inv (fun n j (t : Int32 × am_m) => m_X9_rolls_92 self x1 (am_i u) (am_i kk) k n t.1 (am_i (j : Int)) t.2) (fun j t => t.1 = am_i (z + mgC g u kk j) ∧ Fr FZ6 m t.2 ∧ (∀ i, i < 15456 → t.2 3262 i = m 3262 i) ∧ BM t.2 3262 (bkR K (c + mgC g u kk j) (n + mgN g u kk j) b) ∧ Row t.2 3266 (mgR g u kk j)) 0 24 (fun t => k t.1 t.2) (n := am_F) (s0 := (am_i z, m)) ⟨congrArg am_i (by show z = z + ((0 : Nat) : Int); omega), Fr.refl _ _, fun _ _ => rfl, hB, hf⟩ (by omega) (am_Fv (by omega)) (fun n' j t _ hj A => ?_) (fun n t A => rfl)) (fun t T => ⟨t.2, T.1.2.1, T.1.2.2.1, T.1.2.2.2.1, T.1.2.2.2.2, T.2.trans (by rw [T.1.1])⟩)
  obtain ⟨z1, m0⟩ := t
  obtain ⟨a1, a2, a3, a4, a5⟩ := A
  dsimp only at a1 a2 a3 a4 a5
  have ht : OM m0 3262 0 g := h.kept (fun i hi => a3 _ (by omega))
  have e1 := hI.1.2.2.1 j
  show ∃ s' : Int32 × am_m, m_X9_rolls_92 _ _ _ _ _ (n' + 1) z1 _ m0 = m_X9_rolls_92 _ _ _ _ _ n' s'.1 _ s'.2 ∧ _
  rw [m_X9_rolls_92, if_neg (by rw [i_le (by omega) (by omega) (by omega) (by omega)]; omega), s_X9_isUnit ht.TM (by omega) (by omega), nj, i_add]
  have stay : ¬ mgP g u kk j → ((z1 = am_i (z + mgC g u kk (j + 1))) ∧ Fr FZ6 m m0 ∧ (∀ i, i < 15456 → m0 3262 i = m 3262 i) ∧ BM m0 3262 (bkR K (c + mgC g u kk (j + 1)) (n + mgN g u kk (j + 1)) b) ∧ Row m0 3266 (mgR g u kk (j + 1))) := fun hn => by
    have q1 : mgC g u kk (j + 1) = mgC g u kk j := if_neg hn
    have q2 : mgN g u kk (j + 1) = mgN g u kk j := if_neg hn
    rw [q1, q2, mgR_n hn]
    exact ⟨a1, a2, a3, a4, a5⟩
  by_cases c0 : gU g j = -2
  · rw [thr_f c0, Option.bind_some, if_pos (by decide)]
    exact ⟨(z1, m0), rfl, stay (fun e => by have := e.1; omega)⟩
  · have e2 := ht.2.1 j hj c0
    rw [Nat.zero_add] at e2
    rw [thr_t hj c0, Option.bind_some, if_neg (by decide), i_ibt (by omega) (by omega) (by omega), cond_true, i_ix (by omega) (by omega), show ((24 : Int) + (j : Int)).toNat = 24 + j by omega, e2]
    by_cases c1 : gU g j = (u : Int)
    · rw [if_neg (fun y => y (by rw [c1]))]
      by_cases c2 : j = kk
      · rw [if_pos (by rw [c2])]
        exact ⟨(z1, m0), rfl, stay (fun e => e.2 c2)⟩
      · have hp : mgP g u kk j := ⟨c1, c2⟩
        have hle2 := hle (j + 1) (by omega)
        rw [mgR_s hp] at hle2
        obtain ⟨m', f1, f2, f3, f4, f5⟩ := s_X9_merges a5 (ht.sum hI hj) (by omega) a4 (fun e => Nat.le_trans (hle2 e) (by decide))
        rw [if_neg (by rw [i_eq (by omega) (by omega) (by omega) (by omega)]; omega), sum_at, Option.bind_some, f1, Option.bind_some]
        have q1 : mgC g u kk (j + 1) = mgC g u kk j + com (mgR g u kk j) (gM g j) := if_pos hp
        have q2 : mgN g u kk (j + 1) = mgN g u kk j + 1 := if_pos hp
        refine ⟨(z1 + am_i (com (mgR g u kk j) (gM g j) : Nat), m'), rfl, ?_, a2.trans f2, fun i hi => (f3 i hi).trans (a3 i hi), ?_, by rw [mgR_s hp]; exact f5⟩
        · show z1 + _ = _
          rw [a1, i_add, q1]
          exact congrArg am_i (by omega)
        · rw [q1, q2, ← Nat.add_assoc, ← Nat.add_assoc]; exact f4
    · rw [if_pos (by rw [i_eq (by omega) (by omega) (by omega) (by omega)]; exact c1)]
      exact ⟨(z1, m0), rfl, stay (fun e => c1 e.1)⟩
end RM
