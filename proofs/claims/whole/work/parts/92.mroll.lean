/-! ===== mathematics: rolling up, what comes of it ===== -/
/-- an organisation, the cost, merges, units rolled up so far -/
abbrev Rs : Type := Og × Nat × Nat × Nat
/-- the part that is kept, as far as unit j, and its nodes -/
def kpB (g : Og) (u : Nat) : Nat → Nat × Int
  | 0 => (u, -1)
  | j + 1 => if gU g j = (u : Int) ∧ (kpB g u j).2 < (com (gM g j) (gM g j) : Nat) then (j, (com (gM g j) (gM g j) : Nat)) else kpB g u j
def kp (g : Og) (u : Nat) : Nat := if (kpB g u 24).2 < (com (gO g u) (gO g u) : Nat) then u else (kpB g u 24).1
/-- what is merged in of unit i -/
abbrev mgP (g : Og) (u k i : Nat) : Prop := gU g i = (u : Int) ∧ i ≠ k
def mgV (g : Og) (u k c i : Nat) : Nat := if mgP g u k i then gM g i c else 0
/-- the row with the parts merged in as far as unit j, what it costs, how many they are -/
def mgR (g : Og) (u k j : Nat) : Nat → Nat := fun c => (if k = u then gO g u c else gM g k c) + su (mgV g u k c) j
def mgC (g : Og) (u k : Nat) : Nat → Nat
  | 0 => 0
  | j + 1 => if mgP g u k j then mgC g u k j + com (mgR g u k j) (gM g j) else mgC g u k j
def mgN (g : Og) (u k : Nat) : Nat → Nat
  | 0 => 0
  | j + 1 => if mgP g u k j then mgN g u k j + 1 else mgN g u k j
def mgRT (g : Og) (u k : Nat) : Nat → Nat := fun c => mgR g u k 24 c + if k = u then 0 else gO g u c
def mgCT (g : Og) (u k : Nat) : Nat := mgC g u k 24 + if k = u then 0 else com (mgR g u k 24) (gO g u)
def mgNT (g : Og) (u k : Nat) : Nat := mgN g u k 24 + if k = u then 0 else 1
/-- a unit rolled up: its sum, not stale, one more version -/
def rlG (g : Og) (u : Nat) (f : Nat → Nat) : Og := (gU g, gD g, fun k => if k = u then 0 else gS g k, gO g, fun k => if k = u then f else gM g k, fun k => if k = u then min (gC g u + 1) 8 else gC g k, fun k v => if k = u then (if v = 0 then f else gV g u (v - 1)) else gV g k v)
def rlF (s : Rs) (u : Nat) : Rs := (rlG s.1 u (mgRT s.1 u (kp s.1 u)), s.2.1 + mgCT s.1 u (kp s.1 u), s.2.2.1 + mgNT s.1 u (kp s.1 u), s.2.2.2 + 1)
def rlK (R : Rs → Nat → Rs) (u : Nat) (s : Rs) : Nat → Rs
  | 0 => s
  | j + 1 => if gU s.1 j = (u : Int) then R (rlK R u s j) j else rlK R u s j
def rlR : Nat → Rs → Nat → Rs
  | 0, s, _ => s
  | f + 1, s, u => if gS s.1 u = 0 then s else rlF (rlK (rlR f) u s 24) u
theorem mgR_0 (g : Og) (u k : Nat) : mgR g u k 0 = if k = u then gO g u else gM g k := by
  funext c
  show (if k = u then gO g u c else gM g k c) + 0 = _
  by_cases e : k = u
  · rw [if_pos e, if_pos e]; rfl
  · rw [if_neg e, if_neg e]; rfl
theorem mgR_s {g : Og} {u k j : Nat} (h : mgP g u k j) : mgR g u k (j + 1) = fun c => mgR g u k j c + gM g j c := by
  funext c
  show _ + (su (mgV g u k c) j + mgV g u k c j) = _ + su (mgV g u k c) j + _
  have : mgV g u k c j = gM g j c := if_pos h
  rw [this, Nat.add_assoc]
theorem mgR_n {g : Og} {u k j : Nat} (h : ¬ mgP g u k j) : mgR g u k (j + 1) = mgR g u k j := by
  funext c
  show _ + (su (mgV g u k c) j + mgV g u k c j) = _ + su (mgV g u k c) j
  have : mgV g u k c j = 0 := if_neg h
  rw [this, Nat.add_zero]
theorem kpB_is (g : Og) (u : Nat) : ∀ j, j ≤ 24 → (kpB g u j).1 = u ∨ ((kpB g u j).1 < 24 ∧ gU g (kpB g u j).1 = (u : Int)) := by
  intro j
  induction j with
  | zero => intro _; exact Or.inl rfl
  | succ j ih =>
    intro hj
    unfold kpB
    split
    · rename_i h; exact Or.inr ⟨by omega, h.1⟩
    · exact ih (by omega)
theorem kp_is (g : Og) (u : Nat) : kp g u = u ∨ (kp g u < 24 ∧ gU g (kp g u) = (u : Int)) := by
  unfold kp
  split
  · exact Or.inl rfl
  · exact kpB_is g u 24 (Nat.le_refl _)
theorem kpB_b (g : Og) (u : Nat) : ∀ j, -1 ≤ (kpB g u j).2 ∧ (kpB g u j).2 ≤ 448 := by
  intro j
  induction j with
  | zero => exact ⟨by show (-1 : Int) ≤ -1; omega, by show (-1 : Int) ≤ 448; omega⟩
  | succ j ih =>
    have := com_le (gM g j) (gM g j)
    unfold kpB
    split
    · exact ⟨by show (-1 : Int) ≤ (com _ _ : Nat); omega, by show ((com _ _ : Nat) : Int) ≤ 448; omega⟩
    · exact ih
theorem su_out {f : Nat → Nat} {n k : Nat} (hk : k < n) : su f n = f k + su (fun i => if i = k then 0 else f i) n := by
  have e : su f n = su (fun i => (if i = k then f k else 0) + (if i = k then 0 else f i)) n := su_congr n (fun i _ => by
    by_cases h : i = k
    · rw [if_pos h, if_pos h, h, Nat.add_zero]
    · rw [if_neg h, if_neg h, Nat.zero_add])
  rw [e, su_add, su_one hk (fun c _ hc => if_neg hc), if_pos rfl]
section RO
variable {g : Og} {u : Nat}
theorem Tr.ne {up : Nat → Int} {d : Nat → Nat} (hT : Tr up d) {u k : Nat} (hk : k < 24) (h : up k = (u : Int)) : k ≠ u ∧ u < 24 ∧ up u ≠ -2 ∧ d k = d u + 1 := by
  rcases hT.up hk (by omega) with ⟨_, h2⟩ | ⟨_, p, p1, p2, p3, p4⟩
  · omega
  · have e : p = u := by omega
    subst e
    exact ⟨fun e => by rw [e] at p4; omega, p1, p3, p4⟩
/-- the whole row: own and what lies right below -/
theorem mgRT_is {k : Nat} (hT : Tr (gU g) (gD g)) (hu : u < 24) (hk : k = u ∨ (k < 24 ∧ gU g k = (u : Int))) (c : Nat) : mgRT g u k c = gO g u c + su (fun i => if gU g i = (u : Int) then gM g i c else 0) 24 := by
  show (if k = u then gO g u c else gM g k c) + su (mgV g u k c) 24 + (if k = u then 0 else gO g u c) = _
  by_cases e : k = u
  · rw [if_pos e, if_pos e, Nat.add_zero]
    congr 1
    refine su_congr 24 (fun i hi => ?_)
    unfold mgV mgP
    by_cases z : gU g i = (u : Int)
    · rw [if_pos ⟨z, fun y => (hT.ne hi z).1 (by rw [y, e])⟩, if_pos z]
    · rw [if_neg (fun y => z y.1), if_neg z]
  · obtain ⟨k1, k2⟩ := hk.resolve_left e
    rw [if_neg e, if_neg e]
    have q := su_out (f := fun i => if gU g i = (u : Int) then gM g i c else 0) k1
    have q1 : (if gU g k = (u : Int) then gM g k c else 0) = gM g k c := if_pos k2
    have q : su (fun i => if gU g i = (u : Int) then gM g i c else 0) 24 = gM g k c + su (fun i => if i = k then 0 else if gU g i = (u : Int) then gM g i c else 0) 24 := q.trans (by rw [q1])
    have q2 : su (mgV g u k c) 24 = su (fun i => if i = k then 0 else if gU g i = (u : Int) then gM g i c else 0) 24 := su_congr 24 (fun i hi => by
      unfold mgV mgP
      by_cases z : i = k
      · rw [if_neg (fun y => y.2 z), if_pos z]
      · rw [if_neg z]
        by_cases z2 : gU g i = (u : Int)
        · rw [if_pos ⟨z2, z⟩, if_pos z2]
        · rw [if_neg (fun y => z2 y.1), if_neg z2])
    rw [q2, q]
    omega
theorem mgRT_br {k : Nat} (hI : IG g) (hu : u < 24) (hu2 : gU g u ≠ -2) (hk : k = u ∨ (k < 24 ∧ gU g k = (u : Int))) (hS : ∀ i, i < 24 → gU g i = (u : Int) → gS g i = 0) (c : Nat) : mgRT g u k c = br (gU g) (gD g) (gO g) u c := by
  rw [mgRT_is hI.1 hu hk, br_low hI.1 hu hu2]
  congr 1
  refine su_congr 24 (fun i hi => ?_)
  by_cases z : gU g i = (u : Int)
  · rw [if_pos z, if_pos z]
    exact hI.2.2.2.2.2.2.2 i hi (by omega) (hS i hi z) c
  · rw [if_neg z, if_neg z]
theorem mgR_le {k j : Nat} (hI : IG g) (hu : u < 24) (hu2 : gU g u ≠ -2) (hk : k = u ∨ (k < 24 ∧ gU g k = (u : Int))) (hS : ∀ i, i < 24 → gU g i = (u : Int) → gS g i = 0) (hj : j ≤ 24) (c : Nat) : mgR g u k j c ≤ 239976 := by
  have q := mgRT_br hI hu hu2 hk hS c
  have q2 := br_le (up := gU g) (d := gD g) hI.2.1 u c
  have q3 : mgRT g u k c = mgR g u k 24 c + if k = u then 0 else gO g u c := rfl
  have q4 : mgR g u k j c ≤ mgR g u k 24 c := Nat.add_le_add_left (su_mono hj) _
  omega
theorem rlG_IG (hI : IG g) (hu : u < 24) (hu2 : gU g u ≠ -2) {f : Nat → Nat} (hf : ∀ c, f c = br (gU g) (gD g) (gO g) u c) : IG (rlG g u f) := by
  have hf2 : ∀ c, f c ≤ 239976 := fun c => by rw [hf c]; exact br_le hI.2.1 u c
  refine ⟨hI.1, hI.2.1, fun k c => ?_, fun k => ?_, fun k => ?_, fun k v c => ?_, fun k hk hk2 => ?_, fun k hk hk2 hk3 c => ?_⟩
  · show (if k = u then f else gM g k) c ≤ _
    split
    · exact hf2 c
    · exact hI.2.2.1 k c
  · show (if k = u then 0 else gS g k) ≤ 1
    have := hI.2.2.2.1 k
    split <;> omega
  · show (if k = u then min (gC g u + 1) 8 else gC g k) ≤ 8
    have := hI.2.2.2.2.1 k
    split <;> omega
  · show (if k = u then (if v = 0 then f else gV g u (v - 1)) else gV g k v) c ≤ _
    split
    · split
      · exact hf2 c
      · exact hI.2.2.2.2.2.1 u (v - 1) c
    · exact hI.2.2.2.2.2.1 k v c
  · have e : k ≠ u := fun e => hu2 (by rw [← e]; exact hk2)
    obtain ⟨h1, h2, h3, h4⟩ := hI.2.2.2.2.2.2.1 k hk hk2
    refine ⟨?_, ?_, h3, fun c => ?_⟩
    · show (if k = u then 0 else gS g k) = 0
      rw [if_neg e]; exact h1
    · show (if k = u then min (gC g u + 1) 8 else gC g k) = 0
      rw [if_neg e]; exact h2
    · show (if k = u then f else gM g k) c = 0
      rw [if_neg e]; exact h4 c
  · show (if k = u then f else gM g k) c = br (gU g) (gD g) (gO g) k c
    have hk3 : (if k = u then 0 else gS g k) = 0 := hk3
    by_cases e : k = u
    · rw [if_pos e, e]; exact hf c
    · rw [if_neg e]
      rw [if_neg e] at hk3
      exact hI.2.2.2.2.2.2.2 k hk hk2 hk3 c
/-- what rolling up keeps -/
def RK (s t : Rs) : Prop := gU t.1 = gU s.1 ∧ gD t.1 = gD s.1 ∧ gO t.1 = gO s.1 ∧ IG t.1 ∧ ∀ v, gS s.1 v = 0 → gS t.1 v = 0
theorem RK.refl {s : Rs} (h : IG s.1) : RK s s := ⟨rfl, rfl, rfl, h, fun _ h => h⟩
theorem RK.trans {s t w : Rs} (h : RK s t) (h2 : RK t w) : RK s w := ⟨h2.1.trans h.1, h2.2.1.trans h.2.1, h2.2.2.1.trans h.2.2.1, h2.2.2.2.1, fun v hv => h2.2.2.2.2 v (h.2.2.2.2 v hv)⟩
def RKK (R : Rs → Nat → Rs) (u : Nat) (s : Rs) : Prop := ∀ (t : Rs) (i : Nat), RK s t → i < 24 → gU s.1 i = (u : Int) → RK t (R t i) ∧ gS (R t i).1 i = 0
theorem rlK_ok {R : Rs → Nat → Rs} {s : Rs} (hI : IG s.1) (hR : RKK R u s) : ∀ j, j ≤ 24 → RK s (rlK R u s j) ∧ ∀ i, i < j → gU s.1 i = (u : Int) → gS (rlK R u s j).1 i = 0 := by
  intro j
  induction j with
  | zero => intro _; exact ⟨RK.refl hI, fun i hi => absurd hi (Nat.not_lt_zero i)⟩
  | succ j ih =>
    intro hj
    obtain ⟨h1, h2⟩ := ih (by omega)
    by_cases c : gU s.1 j = (u : Int)
    · obtain ⟨g1, g2⟩ := hR _ j h1 (by omega) c
      have e : rlK R u s (j + 1) = R (rlK R u s j) j := if_pos c
      rw [e]
      refine ⟨h1.trans g1, fun i hi hi2 => ?_⟩
      by_cases z : i = j
      · rw [z]; exact g2
      · exact g1.2.2.2.2 i (h2 i (by omega) hi2)
    · have e : rlK R u s (j + 1) = rlK R u s j := if_neg c
      rw [e]
      exact ⟨h1, fun i hi hi2 => h2 i (by have : i ≠ j := fun z => c (by rw [← z]; exact hi2); omega) hi2⟩
theorem rlF_ok {s : Rs} (hI : IG s.1) (hu : u < 24) (hu2 : gU s.1 u ≠ -2) (hS : ∀ i, i < 24 → gU s.1 i = (u : Int) → gS s.1 i = 0) : RK s (rlF s u) ∧ gS (rlF s u).1 u = 0 := by
  refine ⟨⟨rfl, rfl, rfl, rlG_IG hI hu hu2 (fun c => mgRT_br hI hu hu2 (kp_is s.1 u) hS c), fun v hv => ?_⟩, if_pos rfl⟩
  show (if v = u then 0 else gS s.1 v) = 0
  rw [hv]
  split <;> rfl
theorem rlR_ok : ∀ (f : Nat) (s : Rs) (u : Nat), IG s.1 → u < 24 → gU s.1 u ≠ -2 → 13 ≤ f + gD s.1 u → RK s (rlR f s u) ∧ gS (rlR f s u).1 u = 0 := by
  intro f
  induction f with
  | zero =>
    intro s u hI hu hu2 hd
    have := hI.1.2.2.2.1 u
    omega
  | succ f ih =>
    intro s u hI hu hu2 hd
    by_cases c : gS s.1 u = 0
    · have e : rlR (f + 1) s u = s := if_pos c
      rw [e]
      exact ⟨RK.refl hI, c⟩
    · have e : rlR (f + 1) s u = rlF (rlK (rlR f) u s 24) u := if_neg c
      rw [e]
      have hR : RKK (rlR f) u s := fun t i ht hi hiu => by
        obtain ⟨_, _, _, n4⟩ := hI.1.ne hi hiu
        refine ih t i ht.2.2.2.1 hi (by rw [ht.1]; omega) ?_
        rw [ht.2.1]
        omega
      obtain ⟨h1, h2⟩ := rlK_ok hI hR 24 (Nat.le_refl _)
      obtain ⟨h3, h4⟩ := rlF_ok h1.2.2.2.1 hu (by rw [h1.1]; exact hu2) (fun i hi hiu => h2 i hi (by rw [← h1.1]; exact hiu))
      exact ⟨h1.trans h3, h4⟩
end RO
