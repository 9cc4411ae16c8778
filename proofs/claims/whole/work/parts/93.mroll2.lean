/-! ===== mathematics: rolling up, the class's steps ===== -/
section RC
variable {m : am_m} {r : am_rr} {o : Nat} {g : Og} {u : Nat}
/-- the roller's numbers -/
def CZ (m : am_m) (c a b : Nat) : Prop := m 2982 1 = am_i (c : Int) ∧ m 2982 2 = am_i (a : Int) ∧ m 2982 3 = am_i (b : Int)
theorem l_X4_keptPart_7 {x2 : Int32} {k : Int32 → Int32 → Option Int32} (h : OC m r o g) (hI : IG g) (hu : u < 24) : m_X4_keptPart_7 o x2 m (am_i u) k am_F (am_i u) (am_i (-1)) (am_i 0) = k (am_i ((kpB g u 24).1 : Nat)) (am_i (kpB g u 24).2) := by
  refine lo_go (fun n j (t : Int32 × Int32) => m_X4_keptPart_7 o x2 m (am_i u) k n t.1 t.2 (am_i (j : Int))) (fun j => (am_i ((kpB g u j).1 : Nat), am_i (kpB g u j).2)) 0 24 (n := am_F) (s0 := (am_i u, am_i (-1))) rfl (by omega) (am_Fv (by omega)) (fun n j _ hj => ?_) (fun n => rfl)
  have e1 := hI.1.2.2.1 j
  have b1 := kpB_b g u j
  have b2 := com_le (gM g j) (gM g j)
  show m_X4_keptPart_7 _ _ _ _ _ (n + 1) _ _ _ = m_X4_keptPart_7 _ _ _ _ _ n (am_i ((if gU g j = (u : Int) ∧ (kpB g u j).2 < (com (gM g j) (gM g j) : Nat) then (j, ((com (gM g j) (gM g j) : Nat) : Int)) else kpB g u j).1 : Nat)) (am_i (if gU g j = (u : Int) ∧ (kpB g u j).2 < (com (gM g j) (gM g j) : Nat) then (j, ((com (gM g j) (gM g j) : Nat) : Int)) else kpB g u j).2) _
  rw [m_X4_keptPart_7, if_neg (by rw [i_le (by omega) (by omega) (by omega) (by omega)]; omega), i_ibt (by omega) (by omega) (by omega), cond_true, i_ixn (by omega), h.1 j hj, nj]
  by_cases c : gU g j = (u : Int)
  · rw [if_pos (by rw [c]), cond_true, s_X6_maskOf (h.sum hI hj), Option.bind_some, s_X6_nodesOf (Bm_mk _), Option.bind_some]
    by_cases c2 : (kpB g u j).2 < (com (gM g j) (gM g j) : Nat)
    · rw [if_neg (by rw [i_le (by omega) (by omega) (by omega) (by omega)]; omega), if_pos ⟨c, c2⟩]
    · rw [if_pos (by rw [i_le (by omega) (by omega) (by omega) (by omega)]; omega), if_neg (fun z => c2 z.2)]
  · rw [if_neg (by rw [i_eq (by omega) (by omega) (by omega) (by omega)]; exact c), if_neg (fun z => c z.1)]
theorem s_X4_keptPart (h : OC m r o g) (hI : IG g) (hu : u < 24) : m_X4_keptPart m o (am_i u) = some (am_i (kp g u : Nat)) := by
  have b1 := kpB_b g u 24
  have b2 := com_le (gO g u) (gO g u)
  unfold m_X4_keptPart kp
  rw [l_X4_keptPart_7 h hI hu, i_ibt (by omega) (by omega) (by omega), cond_true, i_ixn (by omega), s_X6_maskOf (h.own hI hu), Option.bind_some, s_X6_nodesOf (Bm_mk _), Option.bind_some]
  by_cases c : (kpB g u 24).2 < (com (gO g u) (gO g u) : Nat)
  · rw [if_neg (by rw [i_le (by omega) (by omega) (by omega) (by omega)]; omega), if_pos c]
  · rw [if_pos (by rw [i_le (by omega) (by omega) (by omega) (by omega)]; omega), if_neg c]
def FZ7 (b : Nat) : Prop := b = 2982 ∨ b = 2983
theorem s_X4_mergeIn {a c n b : Nat} {f h : Nat → Nat} (hz : CZ m c n b) (hf : Row m 2983 f) (hh : Row m a h) (ha : ¬ FZ7 a) (hs : ∀ e, f e + h e ≤ 1000000) : ∃ m', m_X4_mergeIn m a = some m' ∧ Fr FZ7 m m' ∧ CZ m' (c + com f h) (n + 1) b ∧ Row m' 2983 (fun e => f e + h e) := by
  obtain ⟨z1, z2, z3⟩ := hz
  have a1 : a ≠ 2982 := fun e => ha (Or.inl e)
  have a2 : a ≠ 2983 := fun e => ha (Or.inr e)
  unfold m_X4_mergeIn
  rw [s_X6_maskOf hf, Option.bind_some, s_X6_maskOf hh, Option.bind_some, s_X6_common (Bm_mk _) (Bm_mk _), Option.bind_some, am_letF, am_letF, z1, si_o (show 2 ≠ 1 by decide), z2, i_add, i_add]
  generalize e5 : am_si (am_si m 2982 1 (am_i ((c : Int) + (com f h : Nat)))) 2982 2 (am_i ((n : Int) + 1)) = m5
  have k5 : ∀ b, b ≠ 2982 → m5 b = m b := fun b hb => by rw [← e5, si_ne hb, si_ne hb]
  have q := s_X5_addTo (m := m5) (a := 2983) (b := a) (f := f) (g := h) (fun e => a2 e.symm) (fun c hc => by rw [k5 2983 (by decide)]; exact hf.1 c hc) (fun c hc => by rw [k5 a a1]; exact hh.1 c hc)
  rw [q, Option.bind_some]
  refine ⟨_, rfl, fun b hb => ?_, ⟨?_, ?_, ?_⟩, ?_⟩
  · rw [fil_ne (fun e => hb (Or.inr e))]
    exact k5 b (fun e => hb (Or.inl e))
  · rw [fil_ne (by decide), ← e5, si_o (by decide), si_at]; rfl
  · rw [fil_ne (by decide), ← e5, si_at]; rfl
  · rw [fil_ne (by decide), ← e5, si_o (by decide), si_o (by decide)]; exact z3
  · exact fil_Row hs
theorem l_X4_mergeParts_38 {x2 x3 : Int32} {kk c n b : Nat} {k : am_m → Option am_m} (ho : am_og o) (h : OC m r o g) (hR : RI r) (hI : IG g) (hu : u < 24) (hkk : kk < 24) (hle : ∀ j, j ≤ 24 → ∀ e, mgR g u kk j e ≤ 239976) (hz : CZ m c n b) (hf : Row m 2983 (mgR g u kk 0)) : ∃ m', Fr FZ7 m m' ∧ CZ m' (c + mgC g u kk 24) (n + mgN g u kk 24) b ∧ Row m' 2983 (mgR g u kk 24) ∧ m_X4_mergeParts_38 o x2 x3 (am_i u) (am_i kk) k am_F (am_i 0) m = k m' := by
  have hol := og_lt ho
  have hsep : ∀ e, o < e → e < o + 247 → ¬ FZ7 e := fun e h1 h2 z => by
    unfold FZ7 at z
    rcases ho with rfl | rfl | rfl | ⟨i, hi, rfl⟩ <;> omega
  refine Exists.elim (lo_inv (fun n j (t : am_m) => m_X4_mergeParts_38 o x2 x3 (am_i u) (am_i kk) k n (am_i (j : Int)) t) (fun j t => Fr FZ7 m t ∧ CZ t (c + mgC g u kk j) (n + mgN g u kk j) b ∧ Row t 2983 (mgR g u kk j)) 0 24 k (n := am_F) (s0 := m) ⟨Fr.refl _ _, hz, hf⟩ (by omega) (am_Fv (by omega)) (fun n' j t _ hj A => ?_) (fun n t A => rfl)) (fun t T => ⟨t, T.1.1, T.1.2.1, T.1.2.2, T.2⟩)
  obtain ⟨a1, a2, a3⟩ := A
  have e1 := hI.1.2.2.1 j
  have ht : OC t r o g := h.kept hR ho (fun e h1 h2 => a1 e (hsep e h1 h2)) rfl
  show ∃ s' : am_m, m_X4_mergeParts_38 _ _ _ _ _ _ (n' + 1) _ t = m_X4_mergeParts_38 _ _ _ _ _ _ n' _ s' ∧ _
  rw [m_X4_mergeParts_38, if_neg (by rw [i_le (by omega) (by omega) (by omega) (by omega)]; omega), i_ibt (by omega) (by omega) (by omega), cond_true, i_ixn (by omega), ht.1 j hj, nj]
  by_cases c1 : gU g j = (u : Int)
  · rw [if_neg (fun z => z (by rw [c1]))]
    by_cases c2 : j = kk
    · rw [if_pos (by rw [c2])]
      have hn : ¬ mgP g u kk j := fun z => z.2 c2
      refine ⟨t, rfl, a1, ?_, by rw [mgR_n hn]; exact a3⟩
      have q1 : mgC g u kk (j + 1) = mgC g u kk j := if_neg hn
      have q2 : mgN g u kk (j + 1) = mgN g u kk j := if_neg hn
      rw [q1, q2]; exact a2
    · have hp : mgP g u kk j := ⟨c1, c2⟩
      have hle2 := hle (j + 1) (by omega)
      rw [mgR_s hp] at hle2
      obtain ⟨t', f1, f2, f3, f4⟩ := s_X4_mergeIn (a := aX o j) a2 a3 (ht.sum hI hj) (hsep _ (by unfold aX; omega) (by unfold aX; omega)) (fun e => Nat.le_trans (hle2 e) (by decide))
      rw [if_neg (by rw [i_eq (by omega) (by omega) (by omega) (by omega)]; omega), cond_true, f1, Option.bind_some]
      refine ⟨t', rfl, a1.trans f2, ?_, by rw [mgR_s hp]; exact f4⟩
      have q1 : mgC g u kk (j + 1) = mgC g u kk j + com (mgR g u kk j) (gM g j) := if_pos hp
      have q2 : mgN g u kk (j + 1) = mgN g u kk j + 1 := if_pos hp
      rw [q1, q2, ← Nat.add_assoc, ← Nat.add_assoc]; exact f3
  · rw [if_pos (by rw [i_eq (by omega) (by omega) (by omega) (by omega)]; exact c1)]
    have hn : ¬ mgP g u kk j := fun z => c1 z.1
    refine ⟨t, rfl, a1, ?_, by rw [mgR_n hn]; exact a3⟩
    have q1 : mgC g u kk (j + 1) = mgC g u kk j := if_neg hn
    have q2 : mgN g u kk (j + 1) = mgN g u kk j := if_neg hn
    rw [q1, q2]; exact a2
theorem s_X4_mergeParts {kk c n b : Nat} (ho : am_og o) (h : OC m r o g) (hR : RI r) (hI : IG g) (hu : u < 24) (hk : kk = u ∨ (kk < 24 ∧ gU g kk = (u : Int))) (hle : ∀ j, j ≤ 24 → ∀ e, mgR g u kk j e ≤ 239976) (hlT : ∀ e, mgRT g u kk e ≤ 239976) (hz : CZ m c n b) : ∃ m', m_X4_mergeParts m o (am_i u) (am_i kk) = some m' ∧ Fr FZ7 m m' ∧ CZ m' (c + mgCT g u kk) (n + mgNT g u kk) b ∧ Row m' 2983 (mgRT g u kk) := by
  have hol := og_lt ho
  have hkk : kk < 24 := by omega
  have hsep : ∀ e, o < e → e < o + 247 → ¬ FZ7 e := fun e h1 h2 z => by
    unfold FZ7 at z
    rcases ho with rfl | rfl | rfl | ⟨i, hi, rfl⟩ <;> omega
  have start : ∀ a f, Row m a f → ¬ FZ7 a → (∀ e, mgR g u kk 0 e = f e) → OC (am_sc m a 0 2983 0 64) r o g ∧ CZ (am_sc m a 0 2983 0 64) c n b ∧ Row (am_sc m a 0 2983 0 64) 2983 (mgR g u kk 0) ∧ Fr FZ7 m (am_sc m a 0 2983 0 64) := fun a f hf ha he => by
    have hF : Fr FZ7 m (am_sc m a 0 2983 0 64) := (Fr.refl _ _).sc (Or.inr rfl)
    refine ⟨h.kept hR ho (fun e h1 h2 => hF e (hsep e h1 h2)) rfl, ⟨?_, ?_, ?_⟩, ⟨fun e h1 => ?_, fun e => ?_⟩, hF⟩
    · rw [sc_ne (by decide)]; exact hz.1
    · rw [sc_ne (by decide)]; exact hz.2.1
    · rw [sc_ne (by decide)]; exact hz.2.2
    · rw [sc_at h1, he]; exact hf.1 e h1
    · exact Nat.le_trans (hle 0 (by omega) e) (by decide)
  unfold m_X4_mergeParts
  by_cases c1 : kk = u
  · obtain ⟨g1, g2, g3, g4⟩ := start (aW o u) (gO g u) (h.own hI hu) (hsep _ (by unfold aW; omega) (by unfold aW; omega)) (fun e => by rw [mgR_0, if_pos c1])
    obtain ⟨m', f1, f2, f3, f4⟩ := l_X4_mergeParts_38 (x2 := am_i u) (x3 := am_i kk) (k := fun m18 => if am_i (kk : Int) = am_i (u : Int) then some m18 else bif am_ib (am_i (u : Int)) 24 then (m_X4_mergeIn m18 (aW o (am_ix (am_i (u : Int))))).bind fun q21 => some q21 else none) ho g1 hR hI hu hkk hle g2 g3
    rw [if_neg (fun z => z (by rw [c1])), i_ibt (by omega) (by omega) (by omega), cond_true, cb64, cond_true, am_letF, x0, x64, i_ixn (by omega)]
    rw [i_ibt (by omega) (by omega) (by omega), cond_true, i_ixn (by omega)] at f4
    rw [f4, if_pos (by rw [c1])]
    have q1 : mgCT g u kk = mgC g u kk 24 := by unfold mgCT; rw [if_pos c1, Nat.add_zero]
    have q2 : mgNT g u kk = mgN g u kk 24 := by unfold mgNT; rw [if_pos c1, Nat.add_zero]
    have q3 : mgRT g u kk = mgR g u kk 24 := by unfold mgRT; funext e; rw [if_pos c1, Nat.add_zero]
    rw [q1, q2, q3]
    exact ⟨m', rfl, g4.trans f1, f2, f3⟩
  · obtain ⟨g1, g2, g3, g4⟩ := start (aX o kk) (gM g kk) (h.sum hI hkk) (hsep _ (by unfold aX; omega) (by unfold aX; omega)) (fun e => by rw [mgR_0, if_neg c1])
    obtain ⟨m', f1, f2, f3, f4⟩ := l_X4_mergeParts_38 (x2 := am_i u) (x3 := am_i kk) (k := fun m11 => if am_i (kk : Int) = am_i (u : Int) then some m11 else bif am_ib (am_i (u : Int)) 24 then (m_X4_mergeIn m11 (aW o (am_ix (am_i (u : Int))))).bind fun q14 => some q14 else none) ho g1 hR hI hu hkk hle g2 g3
    have g5 : OC m' r o g := g1.kept hR ho (fun e h1 h2 => f1 e (hsep e h1 h2)) rfl
    have hlT2 : ∀ e, mgR g u kk 24 e + gO g u e ≤ 1000000 := fun e => by
      have := hlT e
      have q3 : mgRT g u kk e = mgR g u kk 24 e + if kk = u then 0 else gO g u e := rfl
      rw [if_neg c1] at q3
      omega
    obtain ⟨m2, k1, k2, k3, k4⟩ := s_X4_mergeIn (a := aW o u) f2 f3 (g5.own hI hu) (hsep _ (by unfold aW; omega) (by unfold aW; omega)) hlT2
    have cne : ¬ am_i (kk : Int) = am_i (u : Int) := by rw [i_eq (by omega) (by omega) (by omega) (by omega)]; omega
    rw [if_pos cne, i_ibt (by omega) (by omega) (by omega), cond_true, cb64, cond_true, am_letF, x0, x64, i_ixn (k := kk) (by omega), f4, if_neg cne, i_ibt (by omega) (by omega) (by omega), cond_true, i_ixn (by omega), k1]
    have q1 : mgCT g u kk = mgC g u kk 24 + com (mgR g u kk 24) (gO g u) := by unfold mgCT; rw [if_neg c1]
    have q2 : mgNT g u kk = mgN g u kk 24 + 1 := by unfold mgNT; rw [if_neg c1]
    have q3 : mgRT g u kk = fun e => mgR g u kk 24 e + gO g u e := by unfold mgRT; funext e; rw [if_neg c1]
    rw [q1, q2, q3, ← Nat.add_assoc, ← Nat.add_assoc]
    exact ⟨m2, rfl, (g4.trans f1).trans k2, k3, k4⟩
end RC
