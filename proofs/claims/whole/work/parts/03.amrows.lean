/-! ===== THE ABSTRACT MACHINE, 7m: rows of rows ===== -/
/-- an outer array of n rows, each at the next address -/
def am_mkr (h : am_H) (n : Nat) : am_H := (h.1 + 1 + n, h.2.1, am_up h.2.2 h.1 (fun j => if j < n then h.1 + 1 + j else 0))
theorem am_outer (c : ClassId) (N h0 : Nat) : ∀ i : Nat, Jvm.Free.Multi.outerC c N h0 i = arrV c N (fun j => va_rf (if j < i then some (h0 + 1 + j) else none))
  | 0 => by
    show ({ cls := c, slots := Array.replicate N .null, vm := .none } : Cell) = _
    rw [arrV_new]
    refine congrArg (arrV c N) (funext fun j => ?_)
    simp [va_rf]
  | i + 1 => by
    show (Jvm.Free.Multi.outerC c N h0 i).setSlot i (.ref (h0 + 1 + i)) = _
    rw [am_outer c N h0 i, arrV_store]
    refine congrArg (arrV c N) (funext fun j => ?_)
    by_cases e : j = i
    · subst e
      simp [updV, va_rf]
    · by_cases h : j < i
      · simp [updV, e, h, Nat.lt_succ_of_lt h]
      · simp [updV, e, h, show ¬ j < i + 1 by omega]
section AM7M
variable {G : am_G} {M : am_M} {d : Nat} {r : Option Value} {h' h : am_H} {pc : Nat} {lv : am_L} {st : List Value} {H H1 : Heap}
theorem am_SL_mkr {n k : Nat} (hn : 3 ≤ n) : ∀ i, (∀ j, j < i → (am_sh (n + 1 + j)).2 = k) → am_SL (n + 1 + i) = am_SL n + (am_sh n).2 + i * k
  | 0, _ => by rw [Nat.add_zero, am_SL_nx hn, Nat.zero_mul, Nat.add_zero]
  | i + 1, hj => by
    have e := am_SL_mkr hn i (fun j h => hj j (by omega))
    have e2 : am_SL (n + 1 + i + 1) = am_SL (n + 1 + i) + (am_sh (n + 1 + i)).2 := am_SL_nx (by omega)
    show am_SL (n + 1 + i + 1) = _
    rw [e2, e, hj i (by omega), Nat.succ_mul]
    omega
set_option maxHeartbeats 1000000 in
theorem am_mna {idx N K : Nat} {n k : Int32} (hd : decode M.2.1 pc = .ok (.multianewarray idx 2, 4)) (hw : Jvm.Cond.classLink M.1.cls idx "[[I" ∈ am_tbl) (hw3 : Jvm.Cond.arrayClass .int ∈ am_tbl) (hsh : am_sh h.1 = (14, N)) (hsh2 : ∀ j, j < N → am_sh (h.1 + 1 + j) = (11, K)) (hn : ¬ n < 0) (hk : ¬ k < 0) (hN : n.toNatClampNeg = N) (hK : k.toNatClampNeg = K) (hb1 : N ≤ 200) (hb2 : K ≤ 200) (hmx : h.1 + 1 + N ≤ 3273)
    (kk : am_W G M d r h' (pc + 4) lv (.ref h.1 :: st) (am_mkr h N)) : am_W G M d r h' pc lv (.int k :: .int n :: st) h := by
  subst hN
  subst hK
  refine ⟨by have : h.1 + 1 + n.toNatClampNeg ≤ h'.1 := kk.1
             omega, fun p e R s m args below meth c ls H locs n0 Q hx hb hml hnm hown hts hC hn0 hRm hret hR hL hl => ?_⟩
  have h3 : 3 ≤ h.1 := hR.1
  have hle : h.1 + 1 + n.toNatClampNeg ≤ h'.1 := kk.1
  have hs1 := am_SL_mkr (k := k.toNatClampNeg) h3 n.toNatClampNeg (fun j hj => by rw [hsh2 j hj])
  rw [hsh] at hs1
  have hs2 := am_SL_le hle
  have hs3 := am_SL_le hn0
  obtain ⟨k1, k2, k3, k4⟩ := hRm
  have htop := hR.top
  have e2 : (am_mkr h n.toNatClampNeg).1 - n0 = h.1 - n0 + 1 + n.toNatClampNeg := by show h.1 + 1 + n.toNatClampNeg - n0 = _; omega
  have e3 : am_SL (am_mkr h n.toNatClampNeg).1 - am_SL n0 = am_SL h.1 - am_SL n0 + n.toNatClampNeg + n.toNatClampNeg * k.toNatClampNeg := by
    show am_SL (h.1 + 1 + n.toNatClampNeg) - _ = _
    omega
  intro T hT Xs
  obtain ⟨vm₁, cA, comp, -, fA, fC, hO, -, X', step⟩ := Xs.multianewarray2F hx hown (hts _ hw) (show (Jvm.Cond.arrayOver (.array .int)).before args s = true from hC.2.2.2.2.2.2.1.2.1) (hts _ hw3) (g := F0 m pc ls (.int k :: .int n :: st.map (am_v G))) rfl (by rw [hb]; exact hd) rfl hn hk (by omega) (by show _ * componentBytes FieldType.int ≤ _; have : componentBytes FieldType.int = 4 := rfl; rw [this]; omega) (by omega) rfl rfl (by omega) (by omega)
  have hcA : cA = am_cA G 14 := Option.some.inj (fA.symm.trans (hC.1.2 4 (am_cA G 14, .array .int) rfl).2)
  have hcB : comp = am_cA G 11 := Option.some.inj (fC.symm.trans (hC.1.2 1 (am_cA G 11, .int) rfl).2)
  subst hcA
  subst hcB
  generalize hF : Jvm.Free.Multi.fill (T.setVm vm₁) (am_cA G 14) (am_cA G 11) n.toNatClampNeg k.toNatClampNeg (defaultValue .int) n.toNatClampNeg = F at X' step
  have hTh : (T.setVm vm₁).heap = H := hT
  obtain ⟨f1, f2, -, -⟩ := Jvm.Free.Multi.fill_facts (T.setVm vm₁) (am_cA G 14) (am_cA G 11) n.toNatClampNeg k.toNatClampNeg (defaultValue .int) n.toNatClampNeg
  rw [hF, hTh] at f1 f2
  have hold : ∀ x : Nat, x < H.size → F.heap[x]? = H[x]? := fun x hx => by
    have := Jvm.Free.Multi.fill_old (T.setVm vm₁) (am_cA G 14) (am_cA G 11) n.toNatClampNeg k.toNatClampNeg (defaultValue .int) (a := x) (by rw [hTh]; exact hx) n.toNatClampNeg
    rw [hF, hTh] at this
    exact this
  have hrow : ∀ j : Nat, j < n.toNatClampNeg → F.heap[H.size + 1 + j]? = some (Jvm.Free.Multi.innerC (am_cA G 11) k.toNatClampNeg (defaultValue .int)) := fun j hj => by
    have := Jvm.Free.Multi.fill_inner (T.setVm vm₁) (am_cA G 14) (am_cA G 11) n.toNatClampNeg k.toNatClampNeg (defaultValue .int) n.toNatClampNeg j hj
    rw [hF, hTh] at this
    exact this
  rw [am_outer] at f2
  have hR1 : am_R G (am_mkr h n.toNatClampNeg) F.heap := by
    obtain ⟨r1, r2, r3, r4, r5, r6, r7⟩ := hR
    refine ⟨by show 3 ≤ h.1 + 1 + _; omega, hmx, by show F.heap.size + 3 = _ + (h.1 + 1 + _); omega, fun q hq => ?_, fun b hb hbl => ?_, r6, fun b hb => ?_⟩
    · rw [hold q (by omega)]
      exact r4 q hq
    · have hbl2 : b < h.1 + 1 + n.toNatClampNeg := hbl
      by_cases hbn : b = h.1
      · subst hbn
        rw [am_e_ref (ci := 14) (by rw [hsh]) (by decide), htop, hsh]
        show F.heap[_]? = some (vp_cell _ _)
        rw [f2, vp_cell_q]
        refine congrArg (fun z => some (arrV (am_cA G 14) n.toNatClampNeg z)) (funext fun j => congrArg va_rf ?_)
        show _ = am_o G (am_up h.2.2 h.1 _ h.1 j)
        rw [am_up_same]
        by_cases hj : j < n.toNatClampNeg
        · rw [if_pos hj, if_pos hj]
          unfold am_o
          rw [if_neg (by omega), am_r3 (by omega)]
          congr 1
          omega
        · rw [if_neg hj, if_neg hj]
          rfl
      · by_cases hbl3 : b < h.1
        · have ec : am_e G (am_mkr h n.toNatClampNeg) b = am_e G h b := am_e_congr rfl (am_up_ne _ _ hbn)
          rw [ec]
          exact (r5 b hb hbl3).kept (hold _ (by show am_r G b < _; rw [am_r3 hb]; omega))
        · obtain ⟨j, rfl⟩ : ∃ j, b = h.1 + 1 + j := ⟨b - h.1 - 1, by omega⟩
          have hj : j < n.toNatClampNeg := by omega
          rw [am_e_arr (ci := 11) (by rw [hsh2 j hj]) (by decide) (by decide), hsh2 j hj]
          show F.heap[_]? = some (vp_cell _ _)
          rw [vp_cell_i, show am_r G (h.1 + 1 + j) = H.size + 1 + j from by rw [am_r3 (by omega)]; omega, hrow j hj]
          show _ = some (arrV _ _ (fun q => .int (h.2.1 (h.1 + 1 + j) q)))
          rw [funext (r7 (h.1 + 1 + j) (by omega)).1]
          rw [← arrV_new]
          rfl
    · have hb2 : h.1 + 1 + n.toNatClampNeg ≤ b := hb
      refine ⟨(r7 b (by omega)).1, fun j => ?_⟩
      show am_up h.2.2 h.1 _ b j = 0
      rw [am_up_ne _ _ (by omega)]
      exact (r7 b (by omega)).2 j
  have K := kk.2 p e R s m args below meth c ls F.heap locs n0 Q hx hb hml hnm hown hts hC (by show n0 ≤ h.1 + 1 + _; omega) ⟨k1, k2, k3, k4⟩ hret hR1 hL hl
  rw [e2, e3] at K
  obtain ⟨t, a1, b1⟩ := K F rfl X'
  refine ⟨t, step t ?_, b1⟩
  rw [show T.heap.size = am_r G h.1 from by rw [hT, htop]]
  exact a1
end AM7M
