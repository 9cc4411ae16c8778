/-! ===== mathematics: the state: an organisation, in the class and in the reference ===== -/
/-- above, depth, stale, own, sum, how many versions, versions -/
abbrev Og : Type := (Nat → Int) × (Nat → Nat) × (Nat → Nat) × (Nat → Nat → Nat) × (Nat → Nat → Nat) × (Nat → Nat) × (Nat → Nat → Nat → Nat)
def gU (g : Og) : Nat → Int := g.1
def gD (g : Og) : Nat → Nat := g.2.1
def gS (g : Og) : Nat → Nat := g.2.2.1
def gO (g : Og) : Nat → Nat → Nat := g.2.2.2.1
def gM (g : Og) : Nat → Nat → Nat := g.2.2.2.2.1
def gC (g : Og) : Nat → Nat := g.2.2.2.2.2.1
def gV (g : Og) : Nat → Nat → Nat → Nat := g.2.2.2.2.2.2
/-- what holds of it at all times -/
def IG (g : Og) : Prop := Tr (gU g) (gD g) ∧ (∀ u c, gO g u c ≤ 9999) ∧ (∀ u c, gM g u c ≤ 239976) ∧ (∀ u, gS g u ≤ 1) ∧ (∀ u, gC g u ≤ 8) ∧ (∀ u v c, gV g u v c ≤ 239976) ∧ (∀ u, u < 24 → gU g u = -2 → gS g u = 0 ∧ gC g u = 0 ∧ (∀ c, gO g u c = 0) ∧ ∀ c, gM g u c = 0) ∧ ∀ u, u < 24 → gU g u ≠ -2 → gS g u = 0 → ∀ c, gM g u c = br (gU g) (gD g) (gO g) u c
/-- the class's Org at o -/
def OC (m : am_m) (r : am_rr) (o : Nat) (g : Og) : Prop := (∀ u, u < 24 → m (aU o) u = am_i (gU g u)) ∧ (∀ u, u < 24 → m (aS o) u = am_i (gS g u)) ∧ (∀ u, u < 24 → ∀ c, c < 64 → m (aW o u) c = am_i (gO g u c)) ∧ (∀ u, u < 24 → ∀ c, c < 64 → m (aX o u) c = am_i (gM g u c)) ∧ (∀ u, u < 24 → m (aC o) u = am_i (gC g u)) ∧ ∀ u, u < 24 → ∀ v, v < gC g u → v < 8 → ∀ c, c < 64 → m (r (o + 54) (8 * u + v)) c = am_i (gV g u v c)
/-- the reference's row a, from off on -/
def OM (m : am_m) (a off : Nat) (g : Og) : Prop := (∀ u, u < 24 → m a (off + u) = am_i (if gU g u = -2 then 0 else 1)) ∧ (∀ u, u < 24 → gU g u ≠ -2 → m a (off + (24 + u)) = am_i (gU g u)) ∧ (∀ u, u < 24 → m a (off + (48 + u)) = am_i (gS g u)) ∧ (∀ u, u < 24 → ∀ c, c < 64 → m a (off + (72 + 64 * u + c)) = am_i (gO g u c)) ∧ (∀ u, u < 24 → ∀ c, c < 64 → m a (off + (1608 + 64 * u + c)) = am_i (gM g u c)) ∧ (∀ u, u < 24 → m a (off + (3144 + u)) = am_i (gC g u)) ∧ ∀ u, u < 24 → ∀ v, v < gC g u → v < 8 → ∀ c, c < 64 → m a (off + (3168 + 64 * (8 * u + v) + c)) = am_i (gV g u v c)
/-- the references: the layout, and no row of versions lies in two places -/
def RI (r : am_rr) : Prop := am_Lay r ∧ ∀ o, am_og o → ∀ i j, i < 192 → j < 192 → r (o + 54) i = r (o + 54) j → i = j
theorem vr_r {r : am_rr} {o j : Nat} (hR : RI r) (ho : am_og o) (hj : j < 192) : o + 55 ≤ r (o + 54) j ∧ r (o + 54) j < o + 247 := by
  obtain ⟨w, h1, h2⟩ := hR.1.vx ho hj
  rw [h2]
  omega
theorem vr_ne {r : am_rr} {o i j : Nat} (hR : RI r) (ho : am_og o) (hi : i < 192) (hj : j < 192) (h : i ≠ j) : r (o + 54) i ≠ r (o + 54) j := fun e => h (hR.2 o ho i j hi hj e)
theorem og_sep {o o1 : Nat} (h : am_og o) (h1 : am_og o1) (hn : o ≠ o1) : o + 247 ≤ o1 ∨ o1 + 247 ≤ o := by
  rcases h with rfl | rfl | rfl | ⟨i, hi, rfl⟩ <;> rcases h1 with rfl | rfl | rfl | ⟨j, hj, rfl⟩ <;> omega
theorem og_lt {o : Nat} (h : am_og o) : 4 ≤ o ∧ o + 247 ≤ 3261 := by
  rcases h with rfl | rfl | rfl | ⟨i, hi, rfl⟩ <;> omega
theorem OC.kept {m m' : am_m} {r r' : am_rr} {o : Nat} {g : Og} (h : OC m r o g) (hR : RI r) (ho : am_og o) (e : ∀ b, o < b → b < o + 247 → m' b = m b) (er : r' (o + 54) = r (o + 54)) : OC m' r' o g := by
  refine ⟨fun u hu => ?_, fun u hu => ?_, fun u hu c hc => ?_, fun u hu c hc => ?_, fun u hu => ?_, fun u hu v hv hv2 c hc => ?_⟩
  · rw [e _ (by unfold aU; omega) (by unfold aU; omega)]; exact h.1 u hu
  · rw [e _ (by unfold aS; omega) (by unfold aS; omega)]; exact h.2.1 u hu
  · rw [e _ (by unfold aW; omega) (by unfold aW; omega)]; exact h.2.2.1 u hu c hc
  · rw [e _ (by unfold aX; omega) (by unfold aX; omega)]; exact h.2.2.2.1 u hu c hc
  · rw [e _ (by unfold aC; omega) (by unfold aC; omega)]; exact h.2.2.2.2.1 u hu
  · have := vr_r hR ho (j := 8 * u + v) (by omega)
    rw [er, e _ (by omega) (by omega)]; exact h.2.2.2.2.2 u hu v hv hv2 c hc
theorem OM.kept {m m' : am_m} {a off : Nat} {g : Og} (h : OM m a off g) (e : ∀ i, i < 15456 → m' a (off + i) = m a (off + i)) : OM m' a off g := by
  refine ⟨fun u hu => ?_, fun u hu h2 => ?_, fun u hu => ?_, fun u hu c hc => ?_, fun u hu c hc => ?_, fun u hu => ?_, fun u hu v hv hv2 c hc => ?_⟩
  · rw [e _ (by omega)]; exact h.1 u hu
  · rw [e _ (by omega)]; exact h.2.1 u hu h2
  · rw [e _ (by omega)]; exact h.2.2.1 u hu
  · rw [e _ (by omega)]; exact h.2.2.2.1 u hu c hc
  · rw [e _ (by omega)]; exact h.2.2.2.2.1 u hu c hc
  · rw [e _ (by omega)]; exact h.2.2.2.2.2.1 u hu
  · rw [e _ (by omega)]; exact h.2.2.2.2.2.2 u hu v hv hv2 c hc
/-- one row is another's copy -/
theorem OM.copy {m m' : am_m} {a b off off2 : Nat} {g : Og} (h : OM m a off g) (e : ∀ i, i < 15456 → m' b (off2 + i) = m a (off + i)) : OM m' b off2 g := by
  refine ⟨fun u hu => ?_, fun u hu h2 => ?_, fun u hu => ?_, fun u hu c hc => ?_, fun u hu c hc => ?_, fun u hu => ?_, fun u hu v hv hv2 c hc => ?_⟩
  · rw [e _ (by omega)]; exact h.1 u hu
  · rw [e _ (by omega)]; exact h.2.1 u hu h2
  · rw [e _ (by omega)]; exact h.2.2.1 u hu
  · rw [e _ (by omega)]; exact h.2.2.2.1 u hu c hc
  · rw [e _ (by omega)]; exact h.2.2.2.2.1 u hu c hc
  · rw [e _ (by omega)]; exact h.2.2.2.2.2.1 u hu
  · rw [e _ (by omega)]; exact h.2.2.2.2.2.2 u hu v hv hv2 c hc
theorem OM.TM {m : am_m} {g : Og} (h : OM m 3262 0 g) : TM m (gU g) := ⟨fun u hu => by have := h.1 u hu; rwa [Nat.zero_add] at this, fun u hu h2 => by have := h.2.1 u hu h2; rwa [Nat.zero_add] at this⟩
theorem OM.own {m : am_m} {g : Og} {u : Nat} (h : OM m 3262 0 g) (hI : IG g) (hu : u < 24) : RowW m (72 + 64 * u) (gO g u) := ⟨fun c hc => by have := h.2.2.2.1 u hu c hc; rwa [Nat.zero_add] at this, fun c => Nat.le_trans (hI.2.1 u c) (by decide)⟩
theorem OM.sum {m : am_m} {g : Og} {u : Nat} (h : OM m 3262 0 g) (hI : IG g) (hu : u < 24) : RowW m (1608 + 64 * u) (gM g u) := ⟨fun c hc => by have := h.2.2.2.2.1 u hu c hc; rwa [Nat.zero_add] at this, fun c => Nat.le_trans (hI.2.2.1 u c) (by decide)⟩
theorem OC.own {m : am_m} {r : am_rr} {o : Nat} {g : Og} {u : Nat} (h : OC m r o g) (hI : IG g) (hu : u < 24) : Row m (aW o u) (gO g u) := ⟨fun c hc => h.2.2.1 u hu c hc, fun c => Nat.le_trans (hI.2.1 u c) (by decide)⟩
theorem OC.sum {m : am_m} {r : am_rr} {o : Nat} {g : Og} {u : Nat} (h : OC m r o g) (hI : IG g) (hu : u < 24) : Row m (aX o u) (gM g u) := ⟨fun c hc => h.2.2.2.1 u hu c hc, fun c => Nat.le_trans (hI.2.2.1 u c) (by decide)⟩
theorem IG.su {g : Og} (hI : IG g) (u : Nat) : su (gM g u) 64 ≤ 15358464 := su_b (hI.2.2.1 u) 64
/-- a loop with an invariant of its state -/
theorem lo_inv {σ β : Type} (F : Nat → Nat → σ → Option β) (I : Nat → σ → Prop) (z N : Nat) (k : σ → Option β) {n : Nat} {s0 : σ} (h0 : I z s0) (hz : z ≤ N) (hn : N - z < n) (hs : ∀ n j s, z ≤ j → j < N → I j s → ∃ s', F (n + 1) j s = F n (j + 1) s' ∧ I (j + 1) s') (he : ∀ n s, I N s → F (n + 1) N s = k s) : ∃ s, I N s ∧ F n z s0 = k s := by
  have H : ∀ n y s, z ≤ y → y ≤ N → N - y < n → I y s → ∃ s', I N s' ∧ F n y s = k s' := by
    intro n
    induction n with
    | zero => intro y s _ _ h; omega
    | succ n ih =>
      intro y s hzy hy hn hI
      by_cases h : y = N
      · subst h
        exact ⟨s, hI, he n s hI⟩
      · obtain ⟨s', e, hI'⟩ := hs n y s hzy (by omega) hI
        rw [e]
        exact ih (y + 1) s' (by omega) (by omega) (by omega) hI'
  exact H n z s0 (Nat.le_refl _) hz hn h0
theorem x0 : am_ix (am_i 0) = 0 := by decide
theorem x64 : am_ix (am_i 64) = 64 := by decide
theorem x24 : am_ix (am_i 24) = 24 := by decide
theorem cb64 : am_cb2 (am_i 0) (am_i 0) (am_i 64) 64 64 = true := by decide
theorem cb24 : am_cb2 (am_i 0) (am_i 0) (am_i 24) 24 24 = true := by decide
theorem sc_at {m : am_m} {src dst n c : Nat} (hc : c < n) : am_sc m src 0 dst 0 n dst c = m src c := by
  rw [m_sc, if_pos ⟨rfl, by omega, by omega⟩, Nat.zero_add, Nat.sub_zero]
theorem sc_ne {m : am_m} {src sp dst dp n b : Nat} (h : b ≠ dst) : am_sc m src sp dst dp n b = m b := by
  funext j
  rw [m_sc, if_neg (fun e => h e.1)]
theorem si_ne {m : am_m} {a k b : Nat} {x : Int32} (h : b ≠ a) : am_si m a k x b = m b := by
  funext j
  rw [m_si, if_neg (fun e => h e.1)]
theorem si_at {m : am_m} {a k : Nat} {x : Int32} : am_si m a k x a k = x := by rw [m_si, if_pos ⟨rfl, rfl⟩]
theorem si_o {m : am_m} {a k j : Nat} {x : Int32} (h : j ≠ k) : am_si m a k x a j = m a j := by rw [m_si, if_neg (fun e => h e.2)]
theorem Fr.sc {A : Nat → Prop} {m m' : am_m} {src sp dst dp n : Nat} (h : Fr A m m') (hd : A dst) : Fr A m (am_sc m' src sp dst dp n) := fun b hb => by
  rw [sc_ne (fun e => hb (by rw [e]; exact hd))]
  exact h b hb
theorem Fr.si2 {A : Nat → Prop} {m m' : am_m} {a k : Nat} {x : Int32} (h : Fr A m m') (hd : A a) : Fr A m (am_si m' a k x) := fun b hb => by
  rw [si_ne (fun e => hb (by rw [e]; exact hd))]
  exact h b hb
/-- an Org copied as far as unit j -/
def toJ (m0 : am_m) (r : am_rr) (o : Nat) (g : Og) (j : Nat) (s : am_m) : Prop := Fr (fun b => o < b ∧ b < o + 247) m0 s ∧ (∀ u, u < 24 → s (aU o) u = am_i (gU g u)) ∧ (∀ u, u < 24 → s (aS o) u = am_i (gS g u)) ∧ (∀ u, u < 24 → s (aC o) u = am_i (gC g u)) ∧ (∀ u, u < j → u < 24 → ∀ c, c < 64 → s (aW o u) c = am_i (gO g u c)) ∧ (∀ u, u < j → u < 24 → ∀ c, c < 64 → s (aX o u) c = am_i (gM g u c)) ∧ ∀ u, u < j → u < 24 → ∀ v, v < gC g u → v < 8 → ∀ c, c < 64 → s (r (o + 54) (8 * u + v)) c = am_i (gV g u v c)
section TO
variable {m : am_m} {r : am_rr} {o o1 : Nat} {g : Og}
theorem l_takeOver_93 {j : Nat} {s0 : am_m} {k : am_m → Option am_m} (ho : am_og o) (ho1 : am_og o1) (hne : o ≠ o1) (hR : RI r) (h : OC m r o1 g) (hI : IG g) (hj : j < 24) (hJ : toJ m r o g j s0) (hw : ∀ c, c < 64 → s0 (aW o j) c = am_i (gO g j c)) (hx : ∀ c, c < 64 → s0 (aX o j) c = am_i (gM g j c)) : ∃ s, toJ m r o g (j + 1) s ∧ m_X1_takeOver_93 o o1 r (am_i j) k am_F (am_i 0) s0 = k s := by
  have hC := hI.2.2.2.2.1 j
  have sep := og_sep ho ho1 hne
  refine Exists.elim (lo_inv (fun n v s => m_X1_takeOver_93 o o1 r (am_i j) k n (am_i (v : Int)) s) (fun v s => toJ m r o g j s ∧ (∀ c, c < 64 → s (aW o j) c = am_i (gO g j c)) ∧ (∀ c, c < 64 → s (aX o j) c = am_i (gM g j c)) ∧ ∀ v', v' < v → ∀ c, c < 64 → s (r (o + 54) (8 * j + v')) c = am_i (gV g j v' c)) 0 (gC g j) k (s0 := s0) (n := am_F) ⟨hJ, hw, hx, fun v' hv => absurd hv (Nat.not_lt_zero _)⟩ (Nat.zero_le _) (am_Fv (by omega)) (fun n v s _ hv a => ?_) (fun n s a => ?_)) (fun s L => ?_)
  · obtain ⟨a1, a2, a3, a4⟩ := a
    have e8 : am_ix (am_i (j : Int) * am_i 8 + am_i (v : Int)) = 8 * j + v := by
      rw [i_mul, i_add, i_ix (by omega) (by omega)]; omega
    have b8 : am_ib (am_i (j : Int) * am_i 8 + am_i (v : Int)) 192 = true := by
      rw [i_mul, i_add, i_ibt (by omega) (by omega) (by omega)]
    have d1 := vr_r hR ho (j := 8 * j + v) (by omega)
    have d2 := vr_r hR ho1 (j := 8 * j + v) (by omega)
    refine ⟨am_sc s (r (o1 + 54) (8 * j + v)) 0 (r (o + 54) (8 * j + v)) 0 64, ?_, ⟨a1.1.sc ⟨by omega, by omega⟩, fun u hu => ?_, fun u hu => ?_, fun u hu => ?_, fun u hu hu2 c hc => ?_, fun u hu hu2 c hc => ?_, fun u hu hu2 v2 hv2 hv3 c hc => ?_⟩, fun c hc => ?_, fun c hc => ?_, fun v' hv' c hc => ?_⟩
    · show m_X1_takeOver_93 o o1 r (am_i j) k (n + 1) (am_i (v : Int)) s = _
      rw [m_X1_takeOver_93, i_ibt (by omega) (by omega) (by omega), cond_true, i_ixn (by omega), a1.2.2.2.1 j hj, if_neg (by rw [i_le (by omega) (by omega) (by omega) (by omega)]; omega), if_neg (by rw [i_le (by omega) (by omega) (by omega) (by omega)]; omega), b8, cond_true, cond_true, cb64, cond_true, am_letF, e8, x0, x64, i_add]
      rfl
    · rw [sc_ne (by unfold aU; omega)]; exact a1.2.1 u hu
    · rw [sc_ne (by unfold aS; omega)]; exact a1.2.2.1 u hu
    · rw [sc_ne (by unfold aC; omega)]; exact a1.2.2.2.1 u hu
    · rw [sc_ne (by unfold aW; omega)]; exact a1.2.2.2.2.1 u hu hu2 c hc
    · rw [sc_ne (by unfold aX; omega)]; exact a1.2.2.2.2.2.1 u hu hu2 c hc
    · rw [sc_ne (vr_ne hR ho (by omega) (by omega) (by omega))]; exact a1.2.2.2.2.2.2 u hu hu2 v2 hv2 hv3 c hc
    · rw [sc_ne (by unfold aW; omega)]; exact a2 c hc
    · rw [sc_ne (by unfold aX; omega)]; exact a3 c hc
    · by_cases e : v' = v
      · rw [e, sc_at hc, a1.1 _ (by omega)]
        exact h.2.2.2.2.2 j hj v hv (by omega) c hc
      · rw [sc_ne (vr_ne hR ho (by omega) (by omega) (by omega))]; exact a4 v' (by omega) c hc
  · obtain ⟨a1, a2, a3, a4⟩ := a
    show m_X1_takeOver_93 o o1 r (am_i j) k (n + 1) (am_i (gC g j : Nat)) s = _
    rw [m_X1_takeOver_93, i_ibt (by omega) (by omega) (by omega), cond_true, i_ixn (by omega), a1.2.2.2.1 j hj, if_pos (by rw [i_le (by omega) (by omega) (by omega) (by omega)]; omega)]
  · obtain ⟨⟨h1, h2, h3, h4⟩, h5⟩ := L
    refine ⟨s, ⟨h1.1, h1.2.1, h1.2.2.1, h1.2.2.2.1, fun u hu hu2 => ?_, fun u hu hu2 => ?_, fun u hu hu2 v hv hv2 => ?_⟩, h5⟩
    · by_cases e : u = j
      · rw [e]; exact h2
      · exact h1.2.2.2.2.1 u (by omega) hu2
    · by_cases e : u = j
      · rw [e]; exact h3
      · exact h1.2.2.2.2.2.1 u (by omega) hu2
    · by_cases e : u = j
      · rw [e]; rw [e] at hv; exact h4 v hv
      · exact h1.2.2.2.2.2.2 u (by omega) hu2 v hv hv2
theorem s_X1_takeOver (ho : am_og o) (ho1 : am_og o1) (hne : o ≠ o1) (hR : RI r) (h : OC m r o1 g) (hI : IG g) : ∃ m', m_X1_takeOver m r o o1 = some m' ∧ Fr (fun b => o < b ∧ b < o + 247) m m' ∧ OC m' r o g := by
  have sep := og_sep ho ho1 hne
  unfold m_X1_takeOver
  have hb : am_bits (am_sc m (aU o1) (am_ix (am_i 0)) (aU o) (am_ix (am_i 0)) (am_ix (am_i 24))) (aS o1) (am_ix (am_i 0)) (am_ix (am_i 24)) = true := by
    unfold am_bits
    rw [List.all_eq_true]
    intro j hj
    rw [x24, List.mem_range] at hj
    rw [sc_ne (by unfold aS aU; omega), x0, Nat.zero_add, h.2.1 j hj]
    have := hI.2.2.2.1 j
    rcases Nat.lt_or_ge 0 (gS g j) with q | q
    · rw [show gS g j = 1 by omega]; decide
    · rw [show gS g j = 0 by omega]; decide
  rw [cb24, cond_true, am_letF, cond_true, hb, cond_true, am_letF, cond_true, am_letF, x0, x24]
  refine Exists.elim (lo_inv (fun n j s => m_X1_takeOver_47 o o1 r (fun m27 => some m27) n (am_i (j : Int)) s) (toJ m r o g) 0 24 some (s0 := am_sc (am_sc (am_sc m (aU o1) 0 (aU o) 0 24) (aS o1) 0 (aS o) 0 24) (aC o1) 0 (aC o) 0 24) (n := am_F) ?_ (by omega) (am_Fv (by omega)) (fun n j s _ hj a => ?_) (fun n s a => rfl)) (fun s L => ?_)
  · refine ⟨((Fr.refl _ _).sc ⟨by unfold aU; omega, by unfold aU; omega⟩).sc ⟨by unfold aS; omega, by unfold aS; omega⟩ |>.sc ⟨by unfold aC; omega, by unfold aC; omega⟩, fun u hu => ?_, fun u hu => ?_, fun u hu => ?_, fun u hu => absurd hu (Nat.not_lt_zero _), fun u hu => absurd hu (Nat.not_lt_zero _), fun u hu => absurd hu (Nat.not_lt_zero _)⟩
    · rw [sc_ne (by unfold aU aC; omega), sc_ne (by unfold aU aS; omega), sc_at hu]; exact h.1 u hu
    · rw [sc_ne (by unfold aS aC; omega), sc_at hu, sc_ne (by unfold aS aU; omega)]; exact h.2.1 u hu
    · rw [sc_at hu, sc_ne (by unfold aC aS; omega), sc_ne (by unfold aC aU; omega)]; exact h.2.2.2.2.1 u hu
  · have f1 : Fr (fun b => o < b ∧ b < o + 247) m (am_sc (am_sc s (aW o1 j) 0 (aW o j) 0 64) (aX o1 j) 0 (aX o j) 0 64) := (a.1.sc ⟨by unfold aW; omega, by unfold aW; omega⟩).sc ⟨by unfold aX; omega, by unfold aX; omega⟩
    obtain ⟨s', g1, g2⟩ := l_takeOver_93 (j := j) (s0 := am_sc (am_sc s (aW o1 j) 0 (aW o j) 0 64) (aX o1 j) 0 (aX o j) 0 64) (k := fun m26 => m_X1_takeOver_47 o o1 r (fun m27 => some m27) n (am_i (j : Int) + am_i 1) m26) ho ho1 hne hR h hI hj ⟨f1, fun u hu => by rw [sc_ne (by unfold aU aX; omega), sc_ne (by unfold aU aW; omega)]; exact a.2.1 u hu, fun u hu => by rw [sc_ne (by unfold aS aX; omega), sc_ne (by unfold aS aW; omega)]; exact a.2.2.1 u hu, fun u hu => by rw [sc_ne (by unfold aC aX; omega), sc_ne (by unfold aC aW; omega)]; exact a.2.2.2.1 u hu, fun u hu hu2 c hc => by rw [sc_ne (by unfold aW aX; omega), sc_ne (by unfold aW; omega)]; exact a.2.2.2.2.1 u hu hu2 c hc, fun u hu hu2 c hc => by rw [sc_ne (by unfold aX; omega), sc_ne (by unfold aX aW; omega)]; exact a.2.2.2.2.2.1 u hu hu2 c hc, fun u hu hu2 v hv hv2 c hc => by have d1 := vr_r hR ho (j := 8 * u + v) (by omega); rw [sc_ne (by unfold aX; omega), sc_ne (by unfold aW; omega)]; exact a.2.2.2.2.2.2 u hu hu2 v hv hv2 c hc⟩ (fun c hc => by rw [sc_ne (by unfold aW aX; omega), sc_at hc, a.1 _ (by unfold aW; omega)]; exact h.2.2.1 j hj c hc) (fun c hc => by rw [sc_at hc, sc_ne (by unfold aX aW; omega), a.1 _ (by unfold aX; omega)]; exact h.2.2.2.1 j hj c hc)
    refine ⟨s', ?_, g1⟩
    show m_X1_takeOver_47 o o1 r (fun m27 => some m27) (n + 1) (am_i (j : Int)) s = _
    rw [m_X1_takeOver_47, if_neg (by rw [i_le (by omega) (by omega) (by omega) (by omega)]; omega), i_ibt (by omega) (by omega) (by omega), cond_true, cond_true, cb64, cond_true, am_letF, cond_true, cond_true, cond_true, am_letF, i_ixn (by omega), x0, x64, g2, i_add]
    rfl
  · obtain ⟨h1, h2⟩ := L
    exact ⟨s, h2, h1.1, h1.2.1, h1.2.2.1, fun u hu => h1.2.2.2.2.1 u hu hu, fun u hu => h1.2.2.2.2.2.1 u hu hu, h1.2.2.2.1, fun u hu => h1.2.2.2.2.2.2 u hu hu⟩
end TO
