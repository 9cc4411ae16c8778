/-! ===== mathematics: goes ===== -/
section GO
variable {m : am_m} {r : am_rr} {s : Sx} {g : Og} {u p : Nat}
/-- a unit goes: what is left of it -/
def ogL (g : Og) (u : Nat) : Og := ((fun k => if k = u then (-2 : Int) else gU g k), gD g, (fun k => if k = u then 0 else gS g k), (fun k c => if k = u then 0 else gO g k c), (fun k c => if k = u then 0 else gM g k c), (fun k => if k = u then 0 else gC g k), gV g)
def leM (m : am_m) (u : Nat) : am_m := rwS (rwS (am_si (am_si (am_si m (aU 4) u (am_i (-2))) (aS 4) u (am_i 0)) (aC 4) u (am_i 0)) (aW 4 u) (fun _ => am_i 0)) (aX 4 u) (fun _ => am_i 0)
theorem s_X1_leave (hu : u < 24) : m_X1_leave m 4 (am_i u) = some (leM m u) := by
  unfold m_X1_leave
  rw [i_ibt (by omega) (by omega) (by omega), i_ixn (by omega)]
  simp only [cond_true, am_letF]
  rw [s_fill, Option.bind_some, s_fill, Option.bind_some]
  rfl
theorem leM_F (hu : u < 24) : Fr (fun b => 5 ≤ b ∧ b < 58) m (leM m u) := fun b hb => by
  unfold leM
  rw [rwS_ne (by unfold aX; omega), rwS_ne (by unfold aW; omega), si_ne (by unfold aC; omega), si_ne (by unfold aS; omega), si_ne (by unfold aU; omega)]
theorem OC.leave (h : OC m r 4 g) (hR : RI r) (hu : u < 24) : OC (leM m u) r 4 (ogL g u) := by
  refine ⟨fun k hk => ?_, fun k hk => ?_, fun k hk c hc => ?_, fun k hk c hc => ?_, fun k hk => ?_, fun k hk v hv hv2 c hc => ?_⟩
  · show leM m u (aU 4) k = am_i (if k = u then (-2 : Int) else gU g k)
    unfold leM
    rw [rwS_ne (by unfold aU aX; omega), rwS_ne (by unfold aU aW; omega), si_ne (by unfold aU aC; omega), si_ne (by unfold aU aS; omega), m_si]
    by_cases c : k = u
    · rw [if_pos ⟨rfl, c⟩, if_pos c]
    · rw [if_neg (fun e => c e.2), if_neg c]; exact h.1 k hk
  · show leM m u (aS 4) k = am_i ((if k = u then 0 else gS g k : Nat) : Int)
    unfold leM
    rw [rwS_ne (by unfold aS aX; omega), rwS_ne (by unfold aS aW; omega), si_ne (by unfold aS aC; omega), m_si]
    by_cases c : k = u
    · rw [if_pos ⟨rfl, c⟩, if_pos c]; rfl
    · rw [if_neg (fun e => c e.2), if_neg c, si_ne (by unfold aU aS; omega)]; exact h.2.1 k hk
  · show leM m u (aW 4 k) c = am_i ((if k = u then 0 else gO g k c : Nat) : Int)
    unfold leM
    rw [rwS_ne (by unfold aW aX; omega)]
    by_cases e : k = u
    · rw [if_pos e, e, rwS_at hc]; rfl
    · rw [if_neg e, rwS_ne (by unfold aW; omega), si_ne (by unfold aW aC; omega), si_ne (by unfold aW aS; omega), si_ne (by unfold aW aU; omega)]
      exact h.2.2.1 k hk c hc
  · show leM m u (aX 4 k) c = am_i ((if k = u then 0 else gM g k c : Nat) : Int)
    unfold leM
    by_cases e : k = u
    · rw [if_pos e, e, rwS_at hc]; rfl
    · rw [if_neg e, rwS_ne (by unfold aX; omega), rwS_ne (by unfold aX aW; omega), si_ne (by unfold aX aC; omega), si_ne (by unfold aX aS; omega), si_ne (by unfold aX aU; omega)]
      exact h.2.2.2.1 k hk c hc
  · show leM m u (aC 4) k = am_i ((if k = u then 0 else gC g k : Nat) : Int)
    unfold leM
    rw [rwS_ne (by unfold aC aX; omega), rwS_ne (by unfold aC aW; omega), m_si]
    by_cases c : k = u
    · rw [if_pos ⟨rfl, c⟩, if_pos c]; rfl
    · rw [if_neg (fun e => c e.2), if_neg c, si_ne (by unfold aC aS; omega), si_ne (by unfold aC aU; omega)]; exact h.2.2.2.2.1 k hk
  · have hv' : v < (if k = u then 0 else gC g k) := hv
    have ku : k ≠ u := fun e => by rw [if_pos e] at hv'; omega
    rw [if_neg ku] at hv'
    have := vr_r hR og4 (j := 8 * k + v) (by omega)
    rw [leM_F hu _ (by omega)]
    exact h.2.2.2.2.2 k hk v hv' hv2 c hc
theorem OM.leave (h : OM m 3262 0 g) (hu : u < 24) : OM (clM (am_si m 3262 u (am_i 0)) u 64) 3262 0 (ogL g u) := by
  refine ⟨fun k hk => ?_, fun k hk k2 => ?_, fun k hk => ?_, fun k hk c hc => ?_, fun k hk c hc => ?_, fun k hk => ?_, fun k hk v hv hv2 c hc => ?_⟩
  · show _ = am_i (if (if k = u then (-2 : Int) else gU g k) = -2 then 0 else 1)
    rw [Nat.zero_add, clM_o (by omega), m_si]
    by_cases c : k = u
    · rw [if_pos ⟨rfl, c⟩, if_pos c, if_pos rfl]
    · rw [if_neg (fun e => c e.2), if_neg c]
      have := h.1 k hk
      rwa [Nat.zero_add] at this
  · have k2' : (if k = u then (-2 : Int) else gU g k) ≠ -2 := k2
    have ku : k ≠ u := fun e => by rw [if_pos e] at k2'; exact k2' rfl
    show _ = am_i (if k = u then (-2 : Int) else gU g k)
    rw [if_neg ku] at k2' ⊢
    rw [Nat.zero_add, clM_o (by omega), si_o (by omega)]
    have := h.2.1 k hk k2'
    rwa [Nat.zero_add] at this
  · show _ = am_i ((if k = u then 0 else gS g k : Nat) : Int)
    rw [Nat.zero_add]
    by_cases c : k = u
    · rw [if_pos c, clM_at (by omega)]; rfl
    · rw [if_neg c, clM_o (by omega), si_o (by omega)]
      have := h.2.2.1 k hk
      rwa [Nat.zero_add] at this
  · show _ = am_i ((if k = u then 0 else gO g k c : Nat) : Int)
    rw [Nat.zero_add]
    by_cases e : k = u
    · rw [if_pos e, clM_at (by omega)]; rfl
    · rw [if_neg e, clM_o (by omega), si_o (by omega)]
      have := h.2.2.2.1 k hk c hc
      rwa [Nat.zero_add] at this
  · show _ = am_i ((if k = u then 0 else gM g k c : Nat) : Int)
    rw [Nat.zero_add]
    by_cases e : k = u
    · rw [if_pos e, clM_at (by omega)]; rfl
    · rw [if_neg e, clM_o (by omega), si_o (by omega)]
      have := h.2.2.2.2.1 k hk c hc
      rwa [Nat.zero_add] at this
  · show _ = am_i ((if k = u then 0 else gC g k : Nat) : Int)
    rw [Nat.zero_add]
    by_cases c : k = u
    · rw [if_pos c, clM_at (by omega)]; rfl
    · rw [if_neg c, clM_o (by omega), si_o (by omega)]
      have := h.2.2.2.2.2.1 k hk
      rwa [Nat.zero_add] at this
  · have hv' : v < (if k = u then 0 else gC g k) := hv
    have ku : k ≠ u := fun e => by rw [if_pos e] at hv'; omega
    rw [if_neg ku] at hv'
    rw [Nat.zero_add, clM_o (by omega), si_o (by omega)]
    have := h.2.2.2.2.2.2 k hk v hv' hv2 c hc
    rwa [Nat.zero_add] at this
theorem ogL_U {k : Nat} (h : k ≠ u) : gU (ogL g u) k = gU g k := if_neg h
theorem ogL_Uu : gU (ogL g u) u = -2 := if_pos rfl
theorem ogL_Tr (hT : Tr (gU g) (gD g)) (h0 : u ≠ 0) (hl : ∀ k, k < 24 → gU g k ≠ (u : Int)) : Tr (gU (ogL g u)) (gD (ogL g u)) := by
  refine ⟨?_, hT.2.1, fun k => ?_, hT.2.2.2.1, fun k hk hk0 => ?_⟩
  · rw [ogL_U (fun e => h0 e.symm)]; exact hT.1
  · show -2 ≤ (if k = u then (-2 : Int) else gU g k) ∧ (if k = u then (-2 : Int) else gU g k) < 24
    have := hT.2.2.1 k
    split <;> omega
  · by_cases c : k = u
    · exact Or.inl (by rw [c]; exact ogL_Uu)
    · rcases hT.2.2.2.2 k hk hk0 with z | ⟨q, q1, q2, q3, q4⟩
      · exact Or.inl (by rw [ogL_U c]; exact z)
      · have qu : q ≠ u := fun e => hl k hk (by rw [← e]; exact q2)
        exact Or.inr ⟨q, q1, by rw [ogL_U c]; exact q2, by rw [ogL_U qu]; exact q3, q4⟩
theorem ogL_inB (hT : Tr (gU g) (gD g)) (h0 : u ≠ 0) (hl : ∀ k, k < 24 → gU g k ≠ (u : Int)) {k : Nat} (hk : k < 24) (hk2 : gU g k ≠ -2) (ku : k ≠ u) (w : Nat) : inB (gU (ogL g u)) (gD (ogL g u)) k w = inB (gU g) (gD g) k w := by
  refine inB_iff hT (ogL_Tr hT h0 hl) hk hk2 (by rw [ogL_U ku]; exact hk2) rfl (fun i hi => ?_)
  obtain ⟨q, q1, q2, q3, q4⟩ := hT.anc hk hk2 i hi
  refine ⟨q, q2, ogL_U (fun e => ?_)⟩
  cases i with
  | zero =>
    have : (k : Int) = (q : Int) := q2
    omega
  | succ j =>
    obtain ⟨t, t1, t2, t3, t4⟩ := hT.anc hk hk2 j (by omega)
    rw [Tr.nx t2] at q2
    exact hl t t1 (by rw [q2, e])
theorem ogL_IG {ow : Nat → Nat → Nat} (hI : IG g) (hu : u < 24) (hu2 : gU g u ≠ -2) (h0 : u ≠ 0) (hl : ∀ k, k < 24 → gU g k ≠ (u : Int)) (hp : p < 24) (hp1 : gU g u = (p : Int)) (hp2 : gU g p ≠ -2) (pu : p ≠ u) (h9 : ∀ k c, ow k c ≤ 9999) (ho : ∀ k, k ≠ p → k ≠ u → ∀ c, ow k c = gO g k c) : IG (ogS (ogL (ogO g ow) u) (stU (ogL (ogO g ow) u) p)) := by
  have hT := hI.1
  have hT' : Tr (gU (ogL (ogO g ow) u)) (gD (ogL (ogO g ow) u)) := ogL_Tr (g := ogO g ow) hT h0 hl
  have hp2' : gU (ogL (ogO g ow) u) p ≠ -2 := by rw [ogL_U pu]; exact hp2
  have st1 : ∀ k, (if k = u then 0 else gS g k) ≤ 1 := fun k => by
    have := hI.2.2.2.1 k
    split <;> omega
  refine ⟨hT', fun k c => ?_, fun k c => ?_, fun k => ?_, fun k => ?_, hI.2.2.2.2.2.1, fun k hk hk2 => ?_, fun v hv hv2 hv3 c => ?_⟩
  · show (if k = u then 0 else ow k c) ≤ 9999
    have := h9 k c
    split <;> omega
  · show (if k = u then 0 else gM g k c) ≤ 239976
    have := hI.2.2.1 k c
    split <;> omega
  · show (if inB (gU (ogL (ogO g ow) u)) (gD (ogL (ogO g ow) u)) p k = true then 1 else if k = u then 0 else gS g k) ≤ 1
    have := st1 k
    split
    · exact Nat.le_refl _
    · exact this
  · show (if k = u then 0 else gC g k) ≤ 8
    have := hI.2.2.2.2.1 k
    split <;> omega
  · have nz : ¬ inB (gU (ogL (ogO g ow) u)) (gD (ogL (ogO g ow) u)) p k = true := fun z => (inB_d hT' hp hp2' z).2.2 hk2
    have es : gS (ogS (ogL (ogO g ow) u) (stU (ogL (ogO g ow) u) p)) k = if k = u then 0 else gS g k := if_neg nz
    rw [es]
    show _ ∧ (if k = u then 0 else gC g k) = 0 ∧ (∀ c, (if k = u then 0 else ow k c) = 0) ∧ ∀ c, (if k = u then 0 else gM g k c) = 0
    by_cases ku : k = u
    · rw [if_pos ku, if_pos ku]
      exact ⟨rfl, rfl, fun c => if_pos ku, fun c => if_pos ku⟩
    · have hk2' : gU g k = -2 := by
        have : gU (ogL (ogO g ow) u) k = -2 := hk2
        rwa [ogL_U ku] at this
      have q := hI.2.2.2.2.2.2.1 k hk hk2'
      rw [if_neg ku, if_neg ku]
      refine ⟨q.1, q.2.1, fun c => ?_, fun c => ?_⟩
      · rw [if_neg ku, ho k (fun e => hp2 (by rw [← e]; exact hk2')) ku]
        exact q.2.2.1 c
      · rw [if_neg ku]; exact q.2.2.2 c
  · have vu : v ≠ u := fun e => hv2 (by rw [e]; exact ogL_Uu)
    have hv2' : gU g v ≠ -2 := by
      have : gU (ogL (ogO g ow) u) v ≠ -2 := hv2
      rwa [ogL_U vu] at this
    obtain ⟨s0, np⟩ := stU_0 (g := ogL (ogO g ow) u) hv3
    have s0' : gS g v = 0 := by
      have : (if v = u then 0 else gS g v) = 0 := s0
      rwa [if_neg vu] at this
    have np' : ¬ inB (gU g) (gD g) p v = true := fun z => np (by rw [ogL_inB (g := ogO g ow) hT h0 hl hp hp2 pu]; exact z)
    show (if v = u then 0 else gM g v c) = br (gU (ogL (ogO g ow) u)) (gD (ogL (ogO g ow) u)) (fun k c => if k = u then 0 else ow k c) v c
    rw [if_neg vu, hI.2.2.2.2.2.2.2 v hv hv2' s0' c]
    refine su_congr 24 (fun k hk => ?_)
    unfold brP
    by_cases ku : k = u
    · rw [ku, if_neg]
      · split
        · exact (if_pos rfl).symm
        · rfl
      · intro z
        rw [Bool.and_eq_true] at z
        obtain ⟨j, j1, j2, j3⟩ := inB_e hT hu hu2 z.2
        cases j with
        | zero =>
          have : (u : Int) = (v : Int) := j2
          omega
        | succ j =>
          have e1 : an (gU g) u 1 = (p : Int) := by rw [Tr.nx (j := 0) (p := u) rfl]; exact hp1
          have e2 := an_add e1 j
          rw [show 1 + j = j + 1 by omega, j2] at e2
          have du := hT.up hu hu2
          rcases du with ⟨a, _⟩ | ⟨_, t, t1, t2, t3, t4⟩
          · exact h0 a
          · have : p = t := by omega
            subst this
            exact np' (inB_i (j := j) e2 (by omega))
    · have e : thr (gU (ogL (ogO g ow) u)) (k : Int) = thr (gU g) (k : Int) := by
        unfold thr
        rw [Int.toNat_natCast, ogL_U ku]
        rfl
      rw [e]
      cases z : thr (gU g) (k : Int)
      · rfl
      · obtain ⟨k', hk', ek, hk2⟩ := thr_i z
        have ek' : k = k' := by omega
        subst ek'
        rw [ogL_inB (g := ogO g ow) hT h0 hl hk hk2 ku]
        show (if (true && inB (gU g) (gD g) k v) = true then gO g k c else 0) = if (true && inB (gU g) (gD g) k v) = true then (if k = u then 0 else ow k c) else 0
        by_cases y : (true && inB (gU g) (gD g) k v) = true
        · rw [if_pos y, if_pos y, if_neg ku]
          refine (ho k (fun e => ?_) ku c).symm
          rw [e] at y
          exact np' y
        · rw [if_neg y, if_neg y]
end GO
