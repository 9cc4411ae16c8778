/-! ===== mathematics: trees that change: comes, moves, goes ===== -/
section T4
variable {up up' : Nat → Int} {d d' : Nat → Nat}
theorem an_congr {k : Nat} : ∀ j, (∀ i, i < j → ∃ p : Nat, an up k i = (p : Int) ∧ up' p = up p) → an up' k j = an up k j := by
  intro j
  induction j with
  | zero => intro _; rfl
  | succ j ih =>
    intro h
    have e := ih (fun i hi => h i (by omega))
    obtain ⟨p, h1, h2⟩ := h j (by omega)
    show (if an up' k j < 0 then -1 else up' (an up' k j).toNat) = (if an up k j < 0 then -1 else up (an up k j).toNat)
    rw [e, h1, if_neg (by omega), if_neg (by omega), Int.toNat_natCast, h2]
theorem bool_iff {a b : Bool} (h : a = true ↔ b = true) : a = b := by
  cases a <;> cases b
  · rfl
  · exact absurd (h.mpr rfl) (by decide)
  · exact absurd (h.mp rfl) (by decide)
  · rfl
/-- a branch seen from both trees -/
theorem inB_iff {k v : Nat} (hT : Tr up d) (hT' : Tr up' d') (hk : k < 24) (hk2 : up k ≠ -2) (hk3 : up' k ≠ -2) (hd : d' k = d k) (h : ∀ i, i ≤ d k → ∃ p : Nat, an up k i = (p : Int) ∧ up' p = up p) : inB up' d' k v = inB up d k v := by
  apply bool_iff
  constructor
  · intro z
    obtain ⟨j, j1, j2, j3⟩ := inB_e hT' hk hk3 z
    rw [an_congr j (fun i hi => h i (by omega))] at j2
    exact inB_i j2 (by omega)
  · intro z
    obtain ⟨j, j1, j2, j3⟩ := inB_e hT hk hk2 z
    rw [← an_congr (up' := up') j (fun i hi => h i (by omega))] at j2
    exact inB_i j2 (by omega)
/-- what lies above u is there -/
theorem Tr.pa (hT : Tr up d) {u : Nat} (hu : u < 24) (hu2 : up u ≠ -2) (h0 : u ≠ 0) : ∃ p : Nat, p < 24 ∧ up u = (p : Int) ∧ up p ≠ -2 ∧ d u = d p + 1 := by
  rcases hT.up hu hu2 with ⟨a, _⟩ | ⟨_, b⟩
  · exact absurd a h0
  · exact b
/-- a unit comes -/
def ogC (g : Og) (u b : Nat) : Og := ((fun k => if k = u then (b : Int) else gU g k), (fun k => if k = u then gD g b + 1 else gD g k), gS g, gO g, gM g, gC g, gV g)
theorem ogC_Tr {g : Og} (hT : Tr (gU g) (gD g)) {u b : Nat} (hu : u < 24) (hu2 : gU g u = -2) (hb : b < 24) (hb2 : gU g b ≠ -2) (hd : gD g b < 12) : Tr (gU (ogC g u b)) (gD (ogC g u b)) := by
  have u0 : u ≠ 0 := fun e => by rw [e, hT.1] at hu2; omega
  refine ⟨?_, ?_, fun k => ?_, fun k => ?_, fun k hk hk0 => ?_⟩
  · show (if 0 = u then (b : Int) else gU g 0) = -1
    rw [if_neg (fun e => u0 e.symm)]; exact hT.1
  · show (if 0 = u then gD g b + 1 else gD g 0) = 0
    rw [if_neg (fun e => u0 e.symm)]; exact hT.2.1
  · show -2 ≤ (if k = u then (b : Int) else gU g k) ∧ (if k = u then (b : Int) else gU g k) < 24
    have := hT.2.2.1 k
    split <;> omega
  · show (if k = u then gD g b + 1 else gD g k) ≤ 12
    have := hT.2.2.2.1 k
    split <;> omega
  · show (if k = u then (b : Int) else gU g k) = -2 ∨ ∃ p : Nat, p < 24 ∧ (if k = u then (b : Int) else gU g k) = (p : Int) ∧ (if p = u then (b : Int) else gU g p) ≠ -2 ∧ (if k = u then gD g b + 1 else gD g k) = (if p = u then gD g b + 1 else gD g p) + 1
    have bu : b ≠ u := fun e => hb2 (by rw [e]; exact hu2)
    by_cases c : k = u
    · rw [if_pos c, if_pos c]
      refine Or.inr ⟨b, hb, rfl, ?_, ?_⟩
      · rw [if_neg bu]; exact hb2
      · rw [if_neg bu]
    · rw [if_neg c, if_neg c]
      rcases hT.2.2.2.2 k hk hk0 with z | ⟨p, p1, p2, p3, p4⟩
      · exact Or.inl z
      · have pu : p ≠ u := fun e => p3 (by rw [e]; exact hu2)
        exact Or.inr ⟨p, p1, p2, by rw [if_neg pu]; exact p3, by rw [if_neg pu]; exact p4⟩
theorem ogC_IG {g : Og} (hI : IG g) {u b : Nat} (hu : u < 24) (hu2 : gU g u = -2) (hb : b < 24) (hb2 : gU g b ≠ -2) (hd : gD g b < 12) : IG (ogC g u b) := by
  have hT := hI.1
  have hT' := ogC_Tr hT hu hu2 hb hb2 hd
  have ab := hI.2.2.2.2.2.2.1 u hu hu2
  have nU : ∀ k, k ≠ u → gU (ogC g u b) k = gU g k := fun k hk => if_neg hk
  have nD : ∀ k, k ≠ u → gD (ogC g u b) k = gD g k := fun k hk => if_neg hk
  refine ⟨hT', hI.2.1, hI.2.2.1, hI.2.2.2.1, hI.2.2.2.2.1, hI.2.2.2.2.2.1, fun k hk hk2 => ?_, fun v hv hv2 hv3 c => ?_⟩
  · have ku : k ≠ u := fun e => by
      have : gU (ogC g u b) u = (b : Int) := if_pos rfl
      rw [e, this] at hk2
      omega
    rw [nU k ku] at hk2
    exact hI.2.2.2.2.2.2.1 k hk hk2
  · show gM g v c = br (gU (ogC g u b)) (gD (ogC g u b)) (gO g) v c
    have same : ∀ k, k < 24 → k ≠ u → gU g k ≠ -2 → ∀ w : Nat, inB (gU (ogC g u b)) (gD (ogC g u b)) k w = inB (gU g) (gD g) k w := by
      intro k hk ku hk2 w
      refine inB_iff hT hT' hk hk2 (by rw [nU k ku]; exact hk2) (nD k ku) (fun i hi => ?_)
      obtain ⟨p, p1, p2, p3, p4⟩ := hT.anc hk hk2 i hi
      exact ⟨p, p2, nU p (fun e => p3 (by rw [e]; exact hu2))⟩
    by_cases vu : v = u
    · rw [vu, ab.2.2.2 c]
      symm
      refine su_0 (fun k hk => ?_)
      unfold brP
      by_cases ku : k = u
      · rw [ku, ab.2.2.1 c]
        split <;> rfl
      · by_cases z : (thr (gU (ogC g u b)) (k : Int) && inB (gU (ogC g u b)) (gD (ogC g u b)) k u) = true
        · rw [Bool.and_eq_true] at z
          obtain ⟨k', hk', ek, hk2⟩ := thr_i z.1
          have ek' : k = k' := by omega
          subst ek'
          rw [nU k ku] at hk2
          rw [same k hk ku hk2] at z
          exact absurd hu2 (inB_d hT hk hk2 z.2).2.2
        · rw [if_neg z]
    · rw [nU v vu] at hv2
      rw [hI.2.2.2.2.2.2.2 v hv hv2 hv3 c]
      refine su_congr 24 (fun k hk => ?_)
      unfold brP
      by_cases ku : k = u
      · rw [ku, ab.2.2.1 c]
        split <;> split <;> rfl
      · have e : thr (gU (ogC g u b)) (k : Int) = thr (gU g) (k : Int) := by unfold thr; rw [Int.toNat_natCast, nU k ku]
        rw [e]
        cases z : thr (gU g) (k : Int)
        · rfl
        · obtain ⟨k', hk', ek, hk2⟩ := thr_i z
          have ek' : k = k' := by omega
          subst ek'
          rw [same k hk ku hk2]
theorem hgt_ge {u : Nat} : ∀ (n k : Nat), k < n → thr up (k : Int) = true → inB up d k u = true → d k - d u ≤ hgt up d u n := by
  intro n
  induction n with
  | zero => intro k h; exact absurd h (Nat.not_lt_zero _)
  | succ n ih =>
    intro k hk h1 h2
    show d k - d u ≤ (if (thr up (n : Int) && inB up d n u) = true then max (hgt up d u n) (d n - d u) else hgt up d u n)
    by_cases e : k = n
    · rw [← e, h1, h2, if_pos (show (true && true) = true from rfl)]
      omega
    · have := ih k (by omega) h1 h2
      split <;> omega
/-- a unit moves, with its branch -/
def ogM (g : Og) (u b : Nat) : Og := ((fun k => if k = u then (b : Int) else gU g k), (fun k => if (thr (gU g) (k : Int) && inB (gU g) (gD g) k u) = true then gD g k - gD g u + (gD g b + 1) else gD g k), gS g, gO g, gM g, gC g, gV g)
section MV
variable {g : Og} {u b : Nat}
theorem ogM_U {k : Nat} (h : k ≠ u) : gU (ogM g u b) k = gU g k := if_neg h
theorem ogM_Dn {k : Nat} (h : ¬ inB (gU g) (gD g) k u = true) : gD (ogM g u b) k = gD g k := by
  refine if_neg (fun z => h ?_)
  rw [Bool.and_eq_true] at z
  exact z.2
theorem ogM_Dp {k : Nat} (hk : k < 24) (hk2 : gU g k ≠ -2) (h : inB (gU g) (gD g) k u = true) : gD (ogM g u b) k = gD g k - gD g u + (gD g b + 1) := if_pos (by rw [thr_t hk hk2, h]; rfl)
theorem ogM_Tr (hT : Tr (gU g) (gD g)) (hu : u < 24) (hu2 : gU g u ≠ -2) (hb : b < 24) (hb2 : gU g b ≠ -2) (hn : ¬ inB (gU g) (gD g) b u = true) (hd : gD g b + 1 + hgt (gU g) (gD g) u 24 ≤ 12) : Tr (gU (ogM g u b)) (gD (ogM g u b)) := by
  have u0 : u ≠ 0 := fun e => hn (by rw [e]; exact inB_0 hT hb hb2)
  have bu : b ≠ u := fun e => hn (by rw [e]; exact inB_self u)
  refine ⟨?_, ?_, fun k => ?_, fun k => ?_, fun k hk hk0 => ?_⟩
  · rw [ogM_U (fun e => u0 e.symm)]; exact hT.1
  · rw [ogM_Dn]
    · exact hT.2.1
    · intro z
      have h0 : gU g 0 ≠ -2 := by rw [hT.1]; decide
      have := (inB_d hT (by decide) h0 z)
      rw [hT.2.1] at this
      obtain ⟨j, j1, j2, j3⟩ := inB_e hT (by decide) h0 z
      rw [hT.2.1] at j1
      have : j = 0 := by omega
      rw [this] at j2
      have e : ((0 : Nat) : Int) = (u : Int) := j2
      omega
  · show -2 ≤ (if k = u then (b : Int) else gU g k) ∧ (if k = u then (b : Int) else gU g k) < 24
    have := hT.2.2.1 k
    split <;> omega
  · show (if (thr (gU g) (k : Int) && inB (gU g) (gD g) k u) = true then gD g k - gD g u + (gD g b + 1) else gD g k) ≤ 12
    by_cases z : (thr (gU g) (k : Int) && inB (gU g) (gD g) k u) = true
    · rw [if_pos z]
      rw [Bool.and_eq_true] at z
      obtain ⟨k', hk', ek, hk2⟩ := thr_i z.1
      have := hgt_ge 24 k (by omega) z.1 z.2
      omega
    · rw [if_neg z]
      exact hT.2.2.2.1 k
  · by_cases ka : gU g k = -2
    · by_cases ku : k = u
      · rw [ku] at ka; exact absurd ka hu2
      · exact Or.inl (by rw [ogM_U ku]; exact ka)
    · refine Or.inr ?_
      by_cases ku : k = u
      · refine ⟨b, hb, if_pos ku, ?_, ?_⟩
        · rw [ogM_U bu]; exact hb2
        · rw [ku, ogM_Dp hu hu2 (inB_self u), ogM_Dn hn]
          omega
      · obtain ⟨p, p1, p2, p3, p4⟩ := hT.pa hk ka hk0
        have pu' : gU (ogM g u b) p ≠ -2 := by
          by_cases pu : p = u
          · rw [pu]
            show (if u = u then (b : Int) else gU g u) ≠ -2
            rw [if_pos rfl]; omega
          · rw [ogM_U pu]; exact p3
        refine ⟨p, p1, by rw [ogM_U ku]; exact p2, pu', ?_⟩
        by_cases z : inB (gU g) (gD g) k u = true
        · have zp : inB (gU g) (gD g) p u = true := by
            obtain ⟨j, j1, j2, j3⟩ := inB_e hT hk ka z
            cases j with
            | zero => exact absurd (show (k : Int) = (u : Int) from j2) (by omega)
            | succ j =>
              refine inB_i (j := j) ?_ (by omega)
              have e : an (gU g) k 1 = (p : Int) := by rw [Tr.nx (j := 0) (p := k) rfl]; exact p2
              have := an_add e j
              rw [this, show 1 + j = j + 1 by omega]
              exact j2
          have dp := (inB_d hT p1 p3 zp).1
          rw [ogM_Dp hk ka z, ogM_Dp p1 p3 zp]
          omega
        · have zp : ¬ inB (gU g) (gD g) p u = true := by
            intro y
            obtain ⟨j, j1, j2, j3⟩ := inB_e hT p1 p3 y
            refine z (inB_i (j := j + 1) ?_ (by omega))
            have e : an (gU g) k 1 = (p : Int) := by rw [Tr.nx (j := 0) (p := k) rfl]; exact p2
            have := an_add e j
            rw [show j + 1 = 1 + j by omega, ← this]
            exact j2
          rw [ogM_Dn z, ogM_Dn zp]
          exact p4
/-- what is stale when u has moved below b -/
def stM (g : Og) (u b p : Nat) (k : Nat) : Nat := if inB (gU (ogM g u b)) (gD (ogM g u b)) b k = true then 1 else stU g p k
theorem ogM_IG (hI : IG g) {p : Nat} (hu : u < 24) (hu2 : gU g u ≠ -2) (hb : b < 24) (hb2 : gU g b ≠ -2) (hn : ¬ inB (gU g) (gD g) b u = true) (hd : gD g b + 1 + hgt (gU g) (gD g) u 24 ≤ 12) (hp : p < 24) (hp1 : gU g u = (p : Int)) (hp2 : gU g p ≠ -2) : IG (ogS (ogM g u b) (stM g u b p)) := by
  have hT := hI.1
  have hT' := ogM_Tr hT hu hu2 hb hb2 hn hd
  have bu : b ≠ u := fun e => hn (by rw [e]; exact inB_self u)
  have there : ∀ k, k < 24 → (gU (ogM g u b) k = -2 ↔ gU g k = -2) := by
    intro k hk
    by_cases ku : k = u
    · rw [ku]
      show (if u = u then (b : Int) else gU g u) = -2 ↔ _
      rw [if_pos rfl]
      constructor
      · intro z; omega
      · intro z; exact absurd z hu2
    · rw [ogM_U ku]
  refine ⟨hT', hI.2.1, hI.2.2.1, fun k => ?_, hI.2.2.2.2.1, hI.2.2.2.2.2.1, fun k hk hk2 => ?_, fun v hv hv2 hv3 c => ?_⟩
  · show (if inB (gU (ogM g u b)) (gD (ogM g u b)) b k = true then 1 else stU g p k) ≤ 1
    have := stU_le hI p k
    split <;> omega
  · have hk2' : gU g k = -2 := (there k hk).mp hk2
    have q := hI.2.2.2.2.2.2.1 k hk hk2'
    refine ⟨?_, q.2⟩
    show (if inB (gU (ogM g u b)) (gD (ogM g u b)) b k = true then 1 else stU g p k) = 0
    rw [if_neg]
    · exact stU_abs hI hp hp2 hk hk2'
    · intro z
      exact (inB_d hT' hb (by rw [ogM_U bu]; exact hb2) z).2.2 hk2
  · have hv2' : gU g v ≠ -2 := fun e => hv2 ((there v hv).mpr e)
    have hv3 : (if inB (gU (ogM g u b)) (gD (ogM g u b)) b v = true then 1 else stU g p v) = 0 := hv3
    have nb : ¬ inB (gU (ogM g u b)) (gD (ogM g u b)) b v = true := by
      intro z
      rw [if_pos z] at hv3
      cases hv3
    rw [if_neg nb] at hv3
    obtain ⟨s0, np⟩ := stU_0 hv3
    show gM g v c = br (gU (ogM g u b)) (gD (ogM g u b)) (gO g) v c
    rw [hI.2.2.2.2.2.2.2 v hv hv2' s0 c]
    refine su_congr 24 (fun k hk => ?_)
    unfold brP
    have e : thr (gU (ogM g u b)) (k : Int) = thr (gU g) (k : Int) := by
      apply bool_iff
      constructor
      · intro z
        obtain ⟨k', hk', ek, hk2⟩ := thr_i z
        have ek' : k = k' := by omega
        subst ek'
        exact thr_t hk (fun w => hk2 ((there k hk).mpr w))
      · intro z
        obtain ⟨k', hk', ek, hk2⟩ := thr_i z
        have ek' : k = k' := by omega
        subst ek'
        exact thr_t hk (fun w => hk2 ((there k hk).mp w))
    rw [e]
    cases zt : thr (gU g) (k : Int)
    · rfl
    · obtain ⟨k', hk', ek, hk2⟩ := thr_i zt
      have ek' : k = k' := by omega
      subst ek'
      have hk3 : gU (ogM g u b) k ≠ -2 := fun w => hk2 ((there k hk).mp w)
      have key : inB (gU (ogM g u b)) (gD (ogM g u b)) k v = inB (gU g) (gD g) k v := by
        by_cases z : inB (gU g) (gD g) k u = true
        · obtain ⟨t, t1, t2, t3⟩ := inB_e hT hk hk2 z
          have chain : ∀ j, j ≤ t → an (gU (ogM g u b)) k j = an (gU g) k j := by
            intro j hj
            refine an_congr j (fun i hi => ?_)
            obtain ⟨q, q1, q2, q3, q4⟩ := hT.anc hk hk2 i (by omega)
            refine ⟨q, q2, ogM_U (fun w => ?_)⟩
            rw [w] at q4
            omega
          have dk := ogM_Dp (b := b) hk hk2 z
          apply bool_iff
          constructor
          · intro y
            obtain ⟨j, j1, j2, j3⟩ := inB_e hT' hk hk3 y
            by_cases jt : j ≤ t
            · rw [chain j jt] at j2
              exact inB_i j2 (by omega)
            · exfalso
              have e1 : an (gU (ogM g u b)) k t = (u : Int) := by rw [chain t (Nat.le_refl _)]; exact t2
              have e2 : an (gU (ogM g u b)) k (t + 1) = (b : Int) := by
                rw [Tr.nx e1]
                exact if_pos rfl
              have e3 := an_add e2 (j - t - 1)
              rw [show t + 1 + (j - t - 1) = j by omega, j2] at e3
              have db : gD (ogM g u b) b = gD g b := ogM_Dn hn
              exact nb (inB_i e3 (by omega))
          · intro y
            obtain ⟨j, j1, j2, j3⟩ := inB_e hT hk hk2 y
            by_cases jt : j ≤ t
            · rw [← chain j jt] at j2
              exact inB_i j2 (by omega)
            · exfalso
              have e2 : an (gU g) k (t + 1) = (p : Int) := by rw [Tr.nx t2]; exact hp1
              have e3 := an_add e2 (j - t - 1)
              rw [show t + 1 + (j - t - 1) = j by omega, j2] at e3
              have dp := hT.pa hu hu2 (fun w => by rw [w, hT.1] at hp1; omega)
              obtain ⟨p', _, p2', _, p4'⟩ := dp
              have : p' = p := by omega
              rw [this] at p4'
              exact np (inB_i e3 (by omega))
        · refine inB_iff hT hT' hk hk2 hk3 (ogM_Dn z) (fun i hi => ?_)
          obtain ⟨q, q1, q2, q3, q4⟩ := hT.anc hk hk2 i hi
          refine ⟨q, q2, ogM_U (fun w => z ?_)⟩
          rw [w] at q2
          exact inB_i q2 hi
      rw [key]
end MV
end T4
