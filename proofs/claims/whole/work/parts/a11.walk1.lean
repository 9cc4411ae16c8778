/-! ===== the walks, 1 ===== -/
set_option maxRecDepth 100000 in
set_option maxHeartbeats 4000000 in
theorem x_X4_rollBranch_27 {G : am_G} {o1 : Nat} {x2 : Int32} {x3 : Int32} {y2 : Int32} {y3 : Int32} {res : am_m × am_rr} {self : am_m → am_rr → Nat → Int32 → Int32 → Option (am_m × am_rr)} {dd : Nat} {k : am_m → am_rr → Option (am_m × am_rr)} (hO1 : am_og o1) (hdd : 5 ≤ dd) (sh : ∀ {m : am_m} {r : am_rr} {o1 : Nat} {x2 : Int32} {x3 : Int32} {res : am_m × am_rr}, am_Lay r → am_og o1 → self m r o1 x2 x3 = some res → am_Met G mt_X4_rollBranch dd [.ref 2982, .ref o1, .int x2, .int x3] (am_hh m r) none (am_hh res.1 res.2)) (slr : ∀ {m : am_m} {r : am_rr} {o1 : Nat} {x2 : Int32} {x3 : Int32} {res : am_m × am_rr}, am_Lay r → am_og o1 → self m r o1 x2 x3 = some res → am_Lay res.2) : ∀ (n : Nat) (z4 : Int32) (m : am_m) (r : am_rr) (hL : am_Lay r), m_X4_rollBranch_27 self o1 x2 x3 y2 y3 k n z4 m r = some res → (∀ (m1 : am_m) (r1 : am_rr), k m1 r1 = some res → am_Lay r1 → am_W G mt_X4_rollBranch (dd + 1) none (am_hh res.1 res.2) 61 [(0, .ref 2982), (1, .ref o1), (2, .int y2)] [] (am_hh m1 r1)) → am_W G mt_X4_rollBranch (dd + 1) none (am_hh res.1 res.2) 27 [(0, .ref 2982), (1, .ref o1), (2, .int y2), (3, .int y3), (4, .int z4)] [] (am_hh m r) := by
  intro n
  induction n with
  | zero => intro z4 m r hL hm K; cases hm
  | succ n ih =>
    intro z4 m r hL hm K
    unfold m_X4_rollBranch_27 at hm
    refine am_steps ck_X4_rollBranch 2 (pc' := 31) (lv' := [(0, .ref 2982), (1, .ref o1), (2, .int y2), (3, .int y3), (4, .int z4)]) (st' := [.int (am_i 24), .int z4]) rfl ?_
    refine am_icmp (tgt := 61) (am_fd ck_X4_rollBranch (pc := 31) rfl) rfl (fun hc6 => ?_) (fun hc6 => ?_)
    · replace hm := am_it hm hc6
      refine am_subp [0, 1, 2] rfl ?_
      exact K _ _ hm hL
    · replace hm := am_if hm hc6
      refine am_steps ck_X4_rollBranch 1 (pc' := 35) (lv' := [(0, .ref 2982), (1, .ref o1), (2, .int y2), (3, .int y3), (4, .int z4)]) (st' := [.ref o1]) rfl ?_
      refine ms_getr (ci := 1) (k := 0) (v := (aU o1)) (am_fd ck_X4_rollBranch (pc := 35) rfl) tw_36 (kO hO1) rfl (lyO0 hL hO1) (kU hO1) ?_
      refine am_steps ck_X4_rollBranch 1 (pc' := 40) (lv' := [(0, .ref 2982), (1, .ref o1), (2, .int y2), (3, .int y3), (4, .int z4)]) (st' := [.int z4, .ref (aU o1)]) rfl ?_
      obtain ⟨hb7, hm⟩ := am_gE hm
      refine ms_iald (n := 24) (am_fd ck_X4_rollBranch (pc := 40) rfl) (kU hO1) hb7 ?_
      refine am_steps ck_X4_rollBranch 1 (pc' := 42) (lv' := [(0, .ref 2982), (1, .ref o1), (2, .int y2), (3, .int y3), (4, .int z4)]) (st' := [.int y2, .int (m (aU o1) (am_ix z4))]) rfl ?_
      refine am_icmp (tgt := 55) (am_fd ck_X4_rollBranch (pc := 42) rfl) rfl (fun hc8 => ?_) (fun hc8 => ?_)
      · replace hm := am_it hm hc8
        refine am_steps ck_X4_rollBranch 2 (pc' := 27) (lv' := [(4, .int (z4 + am_i 1)), (0, .ref 2982), (1, .ref o1), (2, .int y2), (3, .int y3)]) (st' := []) rfl ?_
        refine am_subp [1, 2, 3, 4, 0] rfl ?_
        exact ih _ _ _ hL hm K
      · replace hm := am_if hm hc8
        refine am_steps ck_X4_rollBranch 6 (pc' := 52) (lv' := [(0, .ref 2982), (1, .ref o1), (2, .int y2), (3, .int y3), (4, .int z4)]) (st' := [.int (y3 + (am_i 1)), .int z4, .ref o1, .ref 2982]) rfl ?_
        obtain ⟨q9, hq9, hm⟩ := am_bE hm
        refine ms_callVv (M2 := mt_X4_rollBranch) (d2 := dd) (ci := 4) [.ref o1, .int z4, .int (y3 + (am_i 1))] (am_fd ck_X4_rollBranch (pc := 52) rfl) ok_X4_rollBranch tw_371 tw_373 ts_0 (by decide) kc_2982 (by omega) (Nat.le_of_ble_eq_true rfl) (sh hL hO1 hq9) ?_
        have hL := slr hL hO1 hq9
        refine am_steps ck_X4_rollBranch 2 (pc' := 27) (lv' := [(4, .int (z4 + am_i 1)), (0, .ref 2982), (1, .ref o1), (2, .int y2), (3, .int y3)]) (st' := []) rfl ?_
        refine am_subp [1, 2, 3, 4, 0] rfl ?_
        exact ih _ _ _ hL hm K
set_option maxRecDepth 100000 in
set_option maxHeartbeats 4000000 in
theorem x_X4_rollBranch {G : am_G} : ∀ (f : Nat) {m : am_m} {r : am_rr} {o1 : Nat} {x2 : Int32} {x3 : Int32} {res : am_m × am_rr}, am_Lay r → am_og o1 → m_X4_rollBranch f m r o1 x2 x3 = some res → am_Met G mt_X4_rollBranch (5 + f) [.ref 2982, .ref o1, .int x2, .int x3] (am_hh m r) none (am_hh res.1 res.2) := by
  intro f
  induction f with
  | zero => intro m r o1 x2 x3 res hL hO1 hm; cases hm
  | succ f sh =>
    intro m r o1 x2 x3 res hL hO1 hm
    refine am_of (by decide) (Nat.le_of_ble_eq_true rfl) ?_
    have hdd : 5 ≤ 5 + f := Nat.le_add_right _ _
    have slr := @lr_X4_rollBranch f
    change (if (am_i 12) < x3 then some (m, r) else (m_X1_isThere m o1 x2).bind fun q2 => if q2 = 0 then some (m, r) else bif am_ib x2 24 then if ¬ (m (aS o1) (am_ix x2)) = 0 then m_X4_rollBranch_27 (m_X4_rollBranch f) o1 x2 x3 x2 x3 (fun m10 r11 => (m_X4_keptPart m10 o1 x2).bind fun q12 => (m_X4_mergeParts m10 o1 x2 q12).bind fun q13 => (m_X1_rolledUp q13 r11 o1 x2 2983).bind fun q14 => am_let (am_si q14.1 2982 3 ((q14.1 2982 3) + (am_i 1))) (fun m15 => some (m15, q14.2))) am_F (am_i 0) m r else some (m, r) else none) = some res at hm
    show am_W G mt_X4_rollBranch (5 + f + 1) _ _ 0 [(0, .ref 2982), (1, .ref o1), (2, .int x2), (3, .int x3)] [] (am_hh m r)
    refine am_steps ck_X4_rollBranch 2 (pc' := 3) (lv' := [(0, .ref 2982), (1, .ref o1), (2, .int x2), (3, .int x3)]) (st' := [.int (am_i 12), .int x3]) rfl ?_
    refine am_icmp (tgt := 23) (am_fd ck_X4_rollBranch (pc := 3) rfl) rfl (fun hc1 => ?_) (fun hc1 => ?_)
    · replace hm := am_it hm hc1
      cases hm
      exact am_end (am_fd ck_X4_rollBranch (pc := 23) rfl) am_rV rfl rfl
    · replace hm := am_if hm hc1
      refine am_steps ck_X4_rollBranch 2 (pc' := 8) (lv' := [(0, .ref 2982), (1, .ref o1), (2, .int x2), (3, .int x3)]) (st' := [.int x2, .ref o1]) rfl ?_
      obtain ⟨q2, hq2, hm⟩ := am_bE hm
      refine ms_callV (M2 := mt_X1_isThere) (d2 := 1) (ci := 1) [.int x2] (am_fd ck_X4_rollBranch (pc := 8) rfl) ok_X1_isThere tw_375 tw_232 tw_233 (by decide) (kO hO1) (by omega) (Nat.le_of_ble_eq_true rfl) (x_X1_isThere hL hO1 hq2) ?_
      refine am_ifc (tgt := 23) (am_fd ck_X4_rollBranch (pc := 11) rfl) rfl (fun hc3 => ?_) (fun hc3 => ?_)
      · replace hm := am_it hm hc3
        cases hm
        exact am_end (am_fd ck_X4_rollBranch (pc := 23) rfl) am_rV rfl rfl
      · replace hm := am_if hm hc3
        refine am_steps ck_X4_rollBranch 1 (pc' := 15) (lv' := [(0, .ref 2982), (1, .ref o1), (2, .int x2), (3, .int x3)]) (st' := [.ref o1]) rfl ?_
        refine ms_getr (ci := 1) (k := 1) (v := (aS o1)) (am_fd ck_X4_rollBranch (pc := 15) rfl) tw_39 (kO hO1) rfl (lyO1 hL hO1) (kS hO1) ?_
        refine am_steps ck_X4_rollBranch 1 (pc' := 19) (lv' := [(0, .ref 2982), (1, .ref o1), (2, .int x2), (3, .int x3)]) (st' := [.int x2, .ref (aS o1)]) rfl ?_
        obtain ⟨hb4, hm⟩ := am_gE hm
        refine ms_zald (n := 24) (am_fd ck_X4_rollBranch (pc := 19) rfl) (kS hO1) hb4 ?_
        refine am_ifc (tgt := 24) (am_fd ck_X4_rollBranch (pc := 20) rfl) rfl (fun hc5 => ?_) (fun hc5 => ?_)
        · replace hm := am_it hm hc5
          refine am_steps ck_X4_rollBranch 2 (pc' := 27) (lv' := [(4, .int (am_i 0)), (0, .ref 2982), (1, .ref o1), (2, .int x2), (3, .int x3)]) (st' := []) rfl ?_
          refine am_subp [1, 2, 3, 4, 0] rfl ?_
          refine x_X4_rollBranch_27 hO1 hdd sh slr am_F _ _ _ hL hm (fun m10 r11 hm hL => ?_)
          refine am_steps ck_X4_rollBranch 5 (pc' := 66) (lv' := [(0, .ref 2982), (1, .ref o1), (2, .int x2)]) (st' := [.int x2, .ref o1, .int x2, .ref o1, .ref 2982]) rfl ?_
          obtain ⟨q12, hq12, hm⟩ := am_bE hm
          refine ms_callS (M2 := mt_X4_keptPart) (d2 := 4) [.ref o1, .int x2] (am_fd ck_X4_rollBranch (pc := 66) rfl) ok_X4_keptPart tw_376 tw_377 (by omega) (Nat.le_of_ble_eq_true rfl) (x_X4_keptPart hL hO1 hq12) ?_
          obtain ⟨q13, hq13, hm⟩ := am_bE hm
          refine ms_callVv (M2 := mt_X4_mergeParts) (d2 := 4) (ci := 4) [.ref o1, .int x2, .int q12] (am_fd ck_X4_rollBranch (pc := 69) rfl) ok_X4_mergeParts tw_384 tw_386 ts_1 (by decide) kc_2982 (by omega) (Nat.le_of_ble_eq_true rfl) (x_X4_mergeParts hL hO1 hq13) ?_
          refine am_steps ck_X4_rollBranch 3 (pc' := 75) (lv' := [(0, .ref 2982), (1, .ref o1), (2, .int x2)]) (st' := [.ref 2982, .int x2, .ref o1]) rfl ?_
          refine ms_getr (ci := 4) (k := 0) (v := 2983) (am_fd ck_X4_rollBranch (pc := 75) rfl) tw_129 kc_2982 rfl (ly_2982_0 hL) kc_2983 ?_
          obtain ⟨q14, hq14, hm⟩ := am_bE hm
          refine ms_callVv (M2 := mt_X1_rolledUp) (d2 := 2) (ci := 1) [.int x2, .ref 2983] (am_fd ck_X4_rollBranch (pc := 78) rfl) ok_X1_rolledUp tw_397 tw_398 tw_399 (by decide) (kO hO1) (by omega) (Nat.le_of_ble_eq_true rfl) (x_X1_rolledUp hL hO1 kc_2983 hq14) ?_
          have hL := lr_X1_rolledUp hL hO1 kc_2983 hq14
          refine am_steps ck_X4_rollBranch 2 (pc' := 83) (lv' := [(0, .ref 2982), (1, .ref o1), (2, .int x2)]) (st' := [.ref 2982, .ref 2982]) rfl ?_
          refine ms_geti (ci := 4) (k := 3) (am_fd ck_X4_rollBranch (pc := 83) rfl) tw_133 kc_2982 rfl ?_
          refine am_steps ck_X4_rollBranch 2 (pc' := 88) (lv' := [(0, .ref 2982), (1, .ref o1), (2, .int x2)]) (st' := [.int ((q14.1 2982 3) + (am_i 1)), .ref 2982]) rfl ?_
          refine ms_puti (ci := 4) (k := 3) (am_fd ck_X4_rollBranch (pc := 88) rfl) tw_133 kc_2982 rfl rfl (fun m15 em15 => ?_)
          replace hm := am_letE em15 hm
          cases hm
          exact am_end (am_fd ck_X4_rollBranch (pc := 91) rfl) am_rV rfl rfl
        · replace hm := am_if hm hc5
          cases hm
          exact am_end (am_fd ck_X4_rollBranch (pc := 23) rfl) am_rV rfl rfl
set_option maxRecDepth 100000 in
set_option maxHeartbeats 4000000 in
theorem x_X4_rollAll {G : am_G} {m : am_m} {r : am_rr} {o1 : Nat} {x2 : Int32} {res : Int32 × am_m × am_rr} (hL : am_Lay r) (hO1 : am_og o1) (hm : m_X4_rollAll m r o1 x2 = some res) : am_Met G mt_X4_rollAll 26 [.ref 2982, .ref o1, .int x2] (am_hh m r) (some (.int res.1)) (am_hh res.2.1 res.2.2) := by
  refine am_of (by decide) (Nat.le_of_ble_eq_true rfl) ?_
  unfold m_X4_rollAll at hm
  show am_W G mt_X4_rollAll 26 _ _ 0 [(0, .ref 2982), (1, .ref o1), (2, .int x2)] [] (am_hh m r)
  refine am_steps ck_X4_rollAll 2 (pc' := 2) (lv' := [(0, .ref 2982), (1, .ref o1), (2, .int x2)]) (st' := [.int (am_i 0), .ref 2982]) rfl ?_
  refine ms_puti (ci := 4) (k := 1) (am_fd ck_X4_rollAll (pc := 2) rfl) tw_130 kc_2982 rfl rfl (fun m1 em1 => ?_)
  replace hm := am_letE em1 hm
  refine am_steps ck_X4_rollAll 2 (pc' := 7) (lv' := [(0, .ref 2982), (1, .ref o1), (2, .int x2)]) (st' := [.int (am_i 0), .ref 2982]) rfl ?_
  refine ms_puti (ci := 4) (k := 2) (am_fd ck_X4_rollAll (pc := 7) rfl) tw_131 kc_2982 rfl rfl (fun m2 em2 => ?_)
  replace hm := am_letE em2 hm
  refine am_steps ck_X4_rollAll 2 (pc' := 12) (lv' := [(0, .ref 2982), (1, .ref o1), (2, .int x2)]) (st' := [.int (am_i 0), .ref 2982]) rfl ?_
  refine ms_puti (ci := 4) (k := 3) (am_fd ck_X4_rollAll (pc := 12) rfl) tw_133 kc_2982 rfl rfl (fun m3 em3 => ?_)
  replace hm := am_letE em3 hm
  refine am_steps ck_X4_rollAll 4 (pc' := 19) (lv' := [(0, .ref 2982), (1, .ref o1), (2, .int x2)]) (st' := [.int (am_i 0), .int x2, .ref o1, .ref 2982]) rfl ?_
  obtain ⟨q4, hq4, hm⟩ := am_bE hm
  refine ms_callVv (M2 := mt_X4_rollBranch) (d2 := 25) (ci := 4) [.ref o1, .int x2, .int (am_i 0)] (am_fd ck_X4_rollAll (pc := 19) rfl) ok_X4_rollBranch tw_371 tw_373 ts_0 (by decide) kc_2982 (Nat.le_of_ble_eq_true rfl) (Nat.le_of_ble_eq_true rfl) (x_X4_rollBranch 20 hL hO1 hq4) ?_
  have hL := lr_X4_rollBranch 20 hL hO1 hq4
  refine am_steps ck_X4_rollAll 1 (pc' := 23) (lv' := [(0, .ref 2982), (1, .ref o1), (2, .int x2)]) (st' := [.ref 2982]) rfl ?_
  refine ms_geti (ci := 4) (k := 1) (am_fd ck_X4_rollAll (pc := 23) rfl) tw_130 kc_2982 rfl ?_
  cases hm
  exact am_end (am_fd ck_X4_rollAll (pc := 26) rfl) am_rI rfl rfl
set_option maxRecDepth 100000 in
set_option maxHeartbeats 4000000 in
theorem x_X5_totalOf_9 {G : am_G} {a1 : Nat} {x2 : Int32} {x3 : Int32} {m : am_m} {r : am_rr} {y2 : Int32} {res : Int32} {k : Int32 → Option (Int32)} (hL : am_Lay r) (ha1 : am_k a1 11 64) : ∀ (n : Nat) (z3 : Int32) (z4 : Int32), m_X5_totalOf_9 a1 x2 x3 m y2 k n z3 z4 = some res → (∀ (u3 : Int32), k u3 = some res → am_W G mt_X5_totalOf 1 (some (.int res)) (am_hh m r) 35 [(3, .int u3)] [] (am_hh m r)) → am_W G mt_X5_totalOf 1 (some (.int res)) (am_hh m r) 9 [(0, .ref a1), (2, .int y2), (3, .int z3), (4, .int z4)] [] (am_hh m r) := by
  intro n
  induction n with
  | zero => intro z3 z4 hm K; cases hm
  | succ n ih =>
    intro z3 z4 hm K
    unfold m_X5_totalOf_9 at hm
    refine am_steps ck_X5_totalOf 2 (pc' := 12) (lv' := [(0, .ref a1), (2, .int y2), (3, .int z3), (4, .int z4)]) (st' := [.int y2, .int z4]) rfl ?_
    refine am_icmp (tgt := 35) (am_fd ck_X5_totalOf (pc := 12) rfl) rfl (fun hc1 => ?_) (fun hc1 => ?_)
    · replace hm := am_it hm hc1
      refine am_subp [2] rfl ?_
      exact K _ hm
    · replace hm := am_if hm hc1
      refine am_steps ck_X5_totalOf 2 (pc' := 18) (lv' := [(0, .ref a1), (2, .int y2), (3, .int z3), (4, .int z4)]) (st' := [.ref a1, .int z4]) rfl ?_
      refine ms_alen (n := 64) (x := am_i 64) (am_fd ck_X5_totalOf (pc := 18) rfl) ha1 (by decide) ?_
      refine am_icmp (tgt := 35) (am_fd ck_X5_totalOf (pc := 19) rfl) rfl (fun hc2 => ?_) (fun hc2 => ?_)
      · replace hm := am_it hm hc2
        refine am_subp [2] rfl ?_
        exact K _ hm
      · replace hm := am_if hm hc2
        refine am_steps ck_X5_totalOf 3 (pc' := 26) (lv' := [(0, .ref a1), (2, .int y2), (3, .int z3), (4, .int z4)]) (st' := [.int z4, .ref a1, .int z3]) rfl ?_
        obtain ⟨hb3, hm⟩ := am_gE hm
        refine ms_iald (n := 64) (am_fd ck_X5_totalOf (pc := 26) rfl) ha1 hb3 ?_
        refine am_steps ck_X5_totalOf 4 (pc' := 9) (lv' := [(4, .int (z4 + am_i 1)), (3, .int (z3 + (m a1 (am_ix z4)))), (0, .ref a1), (2, .int y2)]) (st' := []) rfl ?_
        refine am_subp [2, 3, 1, 0] rfl ?_
        exact ih _ _ hm K
set_option maxRecDepth 100000 in
set_option maxHeartbeats 4000000 in
theorem x_X5_totalOf {G : am_G} {m : am_m} {r : am_rr} {a1 : Nat} {x2 : Int32} {x3 : Int32} {res : Int32} (hL : am_Lay r) (ha1 : am_k a1 11 64) (hm : m_X5_totalOf m a1 x2 x3 = some res) : am_Met G mt_X5_totalOf 1 [.ref a1, .int x2, .int x3] (am_hh m r) (some (.int res)) (am_hh m r) := by
  refine am_of (by decide) (Nat.le_of_ble_eq_true rfl) ?_
  unfold m_X5_totalOf at hm
  show am_W G mt_X5_totalOf 1 _ _ 0 [(0, .ref a1), (1, .int x2), (2, .int x3)] [] (am_hh m r)
  refine am_steps ck_X5_totalOf 4 (pc' := 4) (lv' := [(3, .int (am_i 0)), (0, .ref a1), (1, .int x2), (2, .int x3)]) (st' := [.int (am_i 0), .int x2]) rfl ?_
  refine am_mmax (am_fd ck_X5_totalOf (pc := 4) rfl) tw_524 mth_max_s mth_ini mth_max_c (Nat.le_of_ble_eq_true rfl) (Nat.le_of_ble_eq_true rfl) ?_
  refine am_steps ck_X5_totalOf 1 (pc' := 9) (lv' := [(4, .int (am_mx x2 (am_i 0))), (3, .int (am_i 0)), (0, .ref a1), (1, .int x2), (2, .int x3)]) (st' := []) rfl ?_
  refine am_subp [2, 4, 1, 0] rfl ?_
  refine x_X5_totalOf_9 hL ha1 am_F _ _ hm (fun u4 hm => ?_)
  refine am_steps ck_X5_totalOf 1 (pc' := 36) (lv' := [(3, .int u4)]) (st' := [.int u4]) rfl ?_
  cases hm
  exact am_end (am_fd ck_X5_totalOf (pc := 36) rfl) am_rI rfl rfl
set_option maxRecDepth 100000 in
set_option maxHeartbeats 4000000 in
theorem x_X5_allOf {G : am_G} {m : am_m} {r : am_rr} {a1 : Nat} {res : Int32} (hL : am_Lay r) (ha1 : am_k a1 11 64) (hm : m_X5_allOf m a1 = some res) : am_Met G mt_X5_allOf 2 [.ref a1] (am_hh m r) (some (.int res)) (am_hh m r) := by
  refine am_of (by decide) (Nat.le_of_ble_eq_true rfl) ?_
  unfold m_X5_allOf at hm
  show am_W G mt_X5_allOf 2 _ _ 0 [(0, .ref a1)] [] (am_hh m r)
  refine am_steps ck_X5_allOf 3 (pc' := 4) (lv' := [(0, .ref a1)]) (st' := [.int (am_i 63), .int (am_i 0), .ref a1]) rfl ?_
  obtain ⟨q1, hq1, hm⟩ := am_bE hm
  refine ms_callS (M2 := mt_X5_totalOf) (d2 := 1) [.ref a1, .int (am_i 0), .int (am_i 63)] (am_fd ck_X5_allOf (pc := 4) rfl) ok_X5_totalOf tw_588 tw_522 (Nat.le_of_ble_eq_true rfl) (Nat.le_of_ble_eq_true rfl) (x_X5_totalOf hL ha1 hq1) ?_
  cases hm
  exact am_end (am_fd ck_X5_allOf (pc := 7) rfl) am_rI rfl rfl
set_option maxRecDepth 100000 in
set_option maxHeartbeats 4000000 in
theorem x_X5_fits_3 {G : am_G} {a1 : Nat} {x2 : Int32} {x3 : Int32} {a4 : Nat} {m : am_m} {r : am_rr} {y2 : Int32} {res : Int32} {k : Option (Int32)} (hL : am_Lay r) (ha1 : am_k a1 11 64) (ha4 : am_k a4 11 64) : ∀ (n : Nat) (z4 : Int32), m_X5_fits_3 a1 x2 x3 a4 m y2 k n z4 = some res → (k = some res → am_W G mt_X5_fits 1 (some (.int res)) (am_hh m r) 39 [] [] (am_hh m r)) → am_W G mt_X5_fits 1 (some (.int res)) (am_hh m r) 3 [(0, .ref a1), (2, .int y2), (3, .ref a4), (4, .int z4)] [] (am_hh m r) := by
  intro n
  induction n with
  | zero => intro z4 hm K; cases hm
  | succ n ih =>
    intro z4 hm K
    unfold m_X5_fits_3 at hm
    refine am_steps ck_X5_fits 2 (pc' := 6) (lv' := [(0, .ref a1), (2, .int y2), (3, .ref a4), (4, .int z4)]) (st' := [.int y2, .int z4]) rfl ?_
    refine am_icmp (tgt := 39) (am_fd ck_X5_fits (pc := 6) rfl) rfl (fun hc1 => ?_) (fun hc1 => ?_)
    · replace hm := am_it hm hc1
      refine am_subp [] rfl ?_
      exact K hm
    · replace hm := am_if hm hc1
      refine am_steps ck_X5_fits 2 (pc' := 13) (lv' := [(0, .ref a1), (2, .int y2), (3, .ref a4), (4, .int z4)]) (st' := [.int (am_i 64), .int z4]) rfl ?_
      refine am_icmp (tgt := 39) (am_fd ck_X5_fits (pc := 13) rfl) rfl (fun hc2 => ?_) (fun hc2 => ?_)
      · replace hm := am_it hm hc2
        refine am_subp [] rfl ?_
        exact K hm
      · replace hm := am_if hm hc2
        refine am_steps ck_X5_fits 2 (pc' := 19) (lv' := [(0, .ref a1), (2, .int y2), (3, .ref a4), (4, .int z4)]) (st' := [.int z4, .ref a1]) rfl ?_
        obtain ⟨hb3, hm⟩ := am_gE hm
        refine ms_iald (n := 64) (am_fd ck_X5_fits (pc := 19) rfl) ha1 hb3 ?_
        refine am_steps ck_X5_fits 2 (pc' := 23) (lv' := [(0, .ref a1), (2, .int y2), (3, .ref a4), (4, .int z4)]) (st' := [.int z4, .ref a4, .int (m a1 (am_ix z4))]) rfl ?_
        obtain ⟨hb4, hm⟩ := am_gE hm
        refine ms_iald (n := 64) (am_fd ck_X5_fits (pc := 23) rfl) ha4 hb4 ?_
        refine am_steps ck_X5_fits 2 (pc' := 28) (lv' := [(0, .ref a1), (2, .int y2), (3, .ref a4), (4, .int z4)]) (st' := [.int (am_i 9999), .int ((m a1 (am_ix z4)) + (m a4 (am_ix z4)))]) rfl ?_
        refine am_icmp (tgt := 33) (am_fd ck_X5_fits (pc := 28) rfl) rfl (fun hc5 => ?_) (fun hc5 => ?_)
        · replace hm := am_it hm hc5
          refine am_steps ck_X5_fits 2 (pc' := 3) (lv' := [(4, .int (z4 + am_i 1)), (0, .ref a1), (2, .int y2), (3, .ref a4)]) (st' := []) rfl ?_
          refine am_subp [1, 2, 3, 0] rfl ?_
          exact ih _ hm K
        · replace hm := am_if hm hc5
          refine am_steps ck_X5_fits 1 (pc' := 32) (lv' := [(0, .ref a1), (2, .int y2), (3, .ref a4), (4, .int z4)]) (st' := [.int (am_i 0)]) rfl ?_
          cases hm
          exact am_end (am_fd ck_X5_fits (pc := 32) rfl) am_rZ0 rfl rfl
set_option maxRecDepth 100000 in
set_option maxHeartbeats 4000000 in
theorem x_X5_fits {G : am_G} {m : am_m} {r : am_rr} {a1 : Nat} {x2 : Int32} {x3 : Int32} {a4 : Nat} {res : Int32} (hL : am_Lay r) (ha1 : am_k a1 11 64) (ha4 : am_k a4 11 64) (hm : m_X5_fits m a1 x2 x3 a4 = some res) : am_Met G mt_X5_fits 1 [.ref a1, .int x2, .int x3, .ref a4] (am_hh m r) (some (.int res)) (am_hh m r) := by
  refine am_of (by decide) (Nat.le_of_ble_eq_true rfl) ?_
  unfold m_X5_fits at hm
  show am_W G mt_X5_fits 1 _ _ 0 [(0, .ref a1), (1, .int x2), (2, .int x3), (3, .ref a4)] [] (am_hh m r)
  refine am_steps ck_X5_fits 2 (pc' := 3) (lv' := [(4, .int x2), (0, .ref a1), (1, .int x2), (2, .int x3), (3, .ref a4)]) (st' := []) rfl ?_
  refine am_subp [1, 3, 4, 0] rfl ?_
  refine x_X5_fits_3 hL ha1 ha4 am_F _ hm (fun hm => ?_)
  refine am_steps ck_X5_fits 1 (pc' := 40) (lv' := []) (st' := [.int (am_i 1)]) rfl ?_
  cases hm
  exact am_end (am_fd ck_X5_fits (pc := 40) rfl) am_rZ1 rfl rfl
set_option maxRecDepth 100000 in
set_option maxHeartbeats 4000000 in
theorem x_X5_pour_6 {G : am_G} {a1 : Nat} {x2 : Int32} {x3 : Int32} {a4 : Nat} {r : am_rr} {y2 : Int32} {res : Int32 × am_m} {k : Int32 → am_m → Option (Int32 × am_m)} (hL : am_Lay r) (ha1 : am_k a1 11 64) (ha4 : am_k a4 11 64) : ∀ (n : Nat) (z4 : Int32) (z5 : Int32) (m : am_m), m_X5_pour_6 a1 x2 x3 a4 y2 k n z4 z5 m = some res → (∀ (u4 : Int32) (m1 : am_m), k u4 m1 = some res → am_W G mt_X5_pour 1 (some (.int res.1)) (am_hh res.2 r) 50 [(4, .int u4)] [] (am_hh m1 r)) → am_W G mt_X5_pour 1 (some (.int res.1)) (am_hh res.2 r) 6 [(0, .ref a1), (2, .int y2), (3, .ref a4), (4, .int z4), (5, .int z5)] [] (am_hh m r) := by
  intro n
  induction n with
  | zero => intro z4 z5 m hm K; cases hm
  | succ n ih =>
    intro z4 z5 m hm K
    unfold m_X5_pour_6 at hm
    refine am_steps ck_X5_pour 2 (pc' := 9) (lv' := [(0, .ref a1), (2, .int y2), (3, .ref a4), (4, .int z4), (5, .int z5)]) (st' := [.int y2, .int z5]) rfl ?_
    refine am_icmp (tgt := 50) (am_fd ck_X5_pour (pc := 9) rfl) rfl (fun hc1 => ?_) (fun hc1 => ?_)
    · replace hm := am_it hm hc1
      refine am_subp [3] rfl ?_
      exact K _ _ hm
    · replace hm := am_if hm hc1
      refine am_steps ck_X5_pour 2 (pc' := 16) (lv' := [(0, .ref a1), (2, .int y2), (3, .ref a4), (4, .int z4), (5, .int z5)]) (st' := [.int (am_i 64), .int z5]) rfl ?_
      refine am_icmp (tgt := 50) (am_fd ck_X5_pour (pc := 16) rfl) rfl (fun hc2 => ?_) (fun hc2 => ?_)
      · replace hm := am_it hm hc2
        refine am_subp [3] rfl ?_
        exact K _ _ hm
      · replace hm := am_if hm hc2
        refine am_steps ck_X5_pour 3 (pc' := 24) (lv' := [(0, .ref a1), (2, .int y2), (3, .ref a4), (4, .int z4), (5, .int z5)]) (st' := [.int z5, .ref a1, .int z4]) rfl ?_
        obtain ⟨hb3, hm⟩ := am_gE hm
        refine ms_iald (n := 64) (am_fd ck_X5_pour (pc := 24) rfl) ha1 hb3 ?_
        refine am_steps ck_X5_pour 5 (pc' := 32) (lv' := [(4, .int (z4 + (m a1 (am_ix z5)))), (0, .ref a1), (2, .int y2), (3, .ref a4), (5, .int z5)]) (st' := [.int z5, .ref a4, .int z5, .ref a4]) rfl ?_
        obtain ⟨hb4, hm⟩ := am_gE hm
        refine ms_iald (n := 64) (am_fd ck_X5_pour (pc := 32) rfl) ha4 hb4 ?_
        refine am_steps ck_X5_pour 2 (pc' := 36) (lv' := [(4, .int (z4 + (m a1 (am_ix z5)))), (0, .ref a1), (2, .int y2), (3, .ref a4), (5, .int z5)]) (st' := [.int z5, .ref a1, .int (m a4 (am_ix z5)), .int z5, .ref a4]) rfl ?_
        obtain ⟨hb5, hm⟩ := am_gE hm
        refine ms_iald (n := 64) (am_fd ck_X5_pour (pc := 36) rfl) ha1 hb5 ?_
        refine am_steps ck_X5_pour 1 (pc' := 38) (lv' := [(4, .int (z4 + (m a1 (am_ix z5)))), (0, .ref a1), (2, .int y2), (3, .ref a4), (5, .int z5)]) (st' := [.int ((m a4 (am_ix z5)) + (m a1 (am_ix z5))), .int z5, .ref a4]) rfl ?_
        obtain ⟨hb6, hm⟩ := am_gE hm
        refine ms_iast (n := 64) (am_fd ck_X5_pour (pc := 38) rfl) ha4 hb6 (fun m7 em7 => ?_)
        replace hm := am_letE em7 hm
        refine am_steps ck_X5_pour 3 (pc' := 43) (lv' := [(4, .int (z4 + (m a1 (am_ix z5)))), (0, .ref a1), (2, .int y2), (3, .ref a4), (5, .int z5)]) (st' := [.int (am_i 0), .int z5, .ref a1]) rfl ?_
        obtain ⟨hb8, hm⟩ := am_gE hm
        refine ms_iast (n := 64) (am_fd ck_X5_pour (pc := 43) rfl) ha1 hb8 (fun m9 em9 => ?_)
        replace hm := am_letE em9 hm
        refine am_steps ck_X5_pour 2 (pc' := 6) (lv' := [(5, .int (z5 + am_i 1)), (4, .int (z4 + (m a1 (am_ix z5)))), (0, .ref a1), (2, .int y2), (3, .ref a4)]) (st' := []) rfl ?_
        refine am_subp [2, 3, 4, 1, 0] rfl ?_
        exact ih _ _ _ hm K
set_option maxRecDepth 100000 in
set_option maxHeartbeats 4000000 in
theorem x_X5_pour {G : am_G} {m : am_m} {r : am_rr} {a1 : Nat} {x2 : Int32} {x3 : Int32} {a4 : Nat} {res : Int32 × am_m} (hL : am_Lay r) (ha1 : am_k a1 11 64) (ha4 : am_k a4 11 64) (hm : m_X5_pour m a1 x2 x3 a4 = some res) : am_Met G mt_X5_pour 1 [.ref a1, .int x2, .int x3, .ref a4] (am_hh m r) (some (.int res.1)) (am_hh res.2 r) := by
  refine am_of (by decide) (Nat.le_of_ble_eq_true rfl) ?_
  unfold m_X5_pour at hm
  show am_W G mt_X5_pour 1 _ _ 0 [(0, .ref a1), (1, .int x2), (2, .int x3), (3, .ref a4)] [] (am_hh m r)
  refine am_steps ck_X5_pour 4 (pc' := 6) (lv' := [(5, .int x2), (4, .int (am_i 0)), (0, .ref a1), (1, .int x2), (2, .int x3), (3, .ref a4)]) (st' := []) rfl ?_
  refine am_subp [2, 4, 5, 1, 0] rfl ?_
  refine x_X5_pour_6 hL ha1 ha4 am_F _ _ _ hm (fun u10 m11 hm => ?_)
  refine am_steps ck_X5_pour 1 (pc' := 52) (lv' := [(4, .int u10)]) (st' := [.int u10]) rfl ?_
  cases hm
  exact am_end (am_fd ck_X5_pour (pc := 52) rfl) am_rI rfl rfl
set_option maxRecDepth 100000 in
set_option maxHeartbeats 4000000 in
theorem x_X5_unlikeness_4 {G : am_G} {a1 : Nat} {a2 : Nat} {m : am_m} {r : am_rr} {res : Int32} {k : Int32 → Option (Int32)} (hL : am_Lay r) (ha1 : am_k a1 11 64) (ha2 : am_k a2 11 64) : ∀ (n : Nat) (z2 : Int32) (z3 : Int32), m_X5_unlikeness_4 a1 a2 m k n z2 z3 = some res → (∀ (u2 : Int32), k u2 = some res → am_W G mt_X5_unlikeness 1 (some (.int res)) (am_hh m r) 29 [(2, .int u2)] [] (am_hh m r)) → am_W G mt_X5_unlikeness 1 (some (.int res)) (am_hh m r) 4 [(0, .ref a1), (1, .ref a2), (2, .int z2), (3, .int z3)] [] (am_hh m r) := by
  intro n
  induction n with
  | zero => intro z2 z3 hm K; cases hm
  | succ n ih =>
    intro z2 z3 hm K
    unfold m_X5_unlikeness_4 at hm
    refine am_steps ck_X5_unlikeness 2 (pc' := 7) (lv' := [(0, .ref a1), (1, .ref a2), (2, .int z2), (3, .int z3)]) (st' := [.int (am_i 64), .int z3]) rfl ?_
    refine am_icmp (tgt := 29) (am_fd ck_X5_unlikeness (pc := 7) rfl) rfl (fun hc1 => ?_) (fun hc1 => ?_)
    · replace hm := am_it hm hc1
      refine am_subp [2] rfl ?_
      exact K _ hm
    · replace hm := am_if hm hc1
      refine am_steps ck_X5_unlikeness 3 (pc' := 13) (lv' := [(0, .ref a1), (1, .ref a2), (2, .int z2), (3, .int z3)]) (st' := [.int z3, .ref a1, .int z2]) rfl ?_
      obtain ⟨hb2, hm⟩ := am_gE hm
      refine ms_iald (n := 64) (am_fd ck_X5_unlikeness (pc := 13) rfl) ha1 hb2 ?_
      refine am_steps ck_X5_unlikeness 2 (pc' := 16) (lv' := [(0, .ref a1), (1, .ref a2), (2, .int z2), (3, .int z3)]) (st' := [.int z3, .ref a2, .int (m a1 (am_ix z3)), .int z2]) rfl ?_
      obtain ⟨hb3, hm⟩ := am_gE hm
      refine ms_iald (n := 64) (am_fd ck_X5_unlikeness (pc := 16) rfl) ha2 hb3 ?_
      refine am_steps ck_X5_unlikeness 1 (pc' := 18) (lv' := [(0, .ref a1), (1, .ref a2), (2, .int z2), (3, .int z3)]) (st' := [.int ((m a1 (am_ix z3)) - (m a2 (am_ix z3))), .int z2]) rfl ?_
      refine am_mabs (am_fd ck_X5_unlikeness (pc := 18) rfl) tw_582 mth_abs_s mth_ini mth_abs_c (Nat.le_of_ble_eq_true rfl) (Nat.le_of_ble_eq_true rfl) ?_
      refine am_steps ck_X5_unlikeness 4 (pc' := 4) (lv' := [(3, .int (z3 + am_i 1)), (2, .int (z2 + (am_ab ((m a1 (am_ix z3)) - (m a2 (am_ix z3)))))), (0, .ref a1), (1, .ref a2)]) (st' := []) rfl ?_
      refine am_subp [2, 3, 1, 0] rfl ?_
      exact ih _ _ hm K
set_option maxRecDepth 100000 in
set_option maxHeartbeats 4000000 in
theorem x_X5_unlikeness {G : am_G} {m : am_m} {r : am_rr} {a1 : Nat} {a2 : Nat} {res : Int32} (hL : am_Lay r) (ha1 : am_k a1 11 64) (ha2 : am_k a2 11 64) (hm : m_X5_unlikeness m a1 a2 = some res) : am_Met G mt_X5_unlikeness 1 [.ref a1, .ref a2] (am_hh m r) (some (.int res)) (am_hh m r) := by
  refine am_of (by decide) (Nat.le_of_ble_eq_true rfl) ?_
  unfold m_X5_unlikeness at hm
  show am_W G mt_X5_unlikeness 1 _ _ 0 [(0, .ref a1), (1, .ref a2)] [] (am_hh m r)
  refine am_steps ck_X5_unlikeness 4 (pc' := 4) (lv' := [(3, .int (am_i 0)), (2, .int (am_i 0)), (0, .ref a1), (1, .ref a2)]) (st' := []) rfl ?_
  refine am_subp [2, 3, 1, 0] rfl ?_
  refine x_X5_unlikeness_4 hL ha1 ha2 am_F _ _ hm (fun u4 hm => ?_)
  refine am_steps ck_X5_unlikeness 1 (pc' := 30) (lv' := [(2, .int u4)]) (st' := [.int u4]) rfl ?_
  cases hm
  exact am_end (am_fd ck_X5_unlikeness (pc := 30) rfl) am_rI rfl rfl
set_option maxRecDepth 100000 in
set_option maxHeartbeats 4000000 in
theorem x_X5_lesserOf_4 {G : am_G} {a1 : Nat} {a2 : Nat} {m : am_m} {r : am_rr} {res : Int32} {k : Int32 → Option (Int32)} (hL : am_Lay r) (ha1 : am_k a1 11 64) (ha2 : am_k a2 11 64) : ∀ (n : Nat) (z2 : Int32) (z3 : Int32), m_X5_lesserOf_4 a1 a2 m k n z2 z3 = some res → (∀ (u2 : Int32), k u2 = some res → am_W G mt_X5_lesserOf 1 (some (.int res)) (am_hh m r) 28 [(2, .int u2)] [] (am_hh m r)) → am_W G mt_X5_lesserOf 1 (some (.int res)) (am_hh m r) 4 [(0, .ref a1), (1, .ref a2), (2, .int z2), (3, .int z3)] [] (am_hh m r) := by
  intro n
  induction n with
  | zero => intro z2 z3 hm K; cases hm
  | succ n ih =>
    intro z2 z3 hm K
    unfold m_X5_lesserOf_4 at hm
    refine am_steps ck_X5_lesserOf 2 (pc' := 7) (lv' := [(0, .ref a1), (1, .ref a2), (2, .int z2), (3, .int z3)]) (st' := [.int (am_i 64), .int z3]) rfl ?_
    refine am_icmp (tgt := 28) (am_fd ck_X5_lesserOf (pc := 7) rfl) rfl (fun hc1 => ?_) (fun hc1 => ?_)
    · replace hm := am_it hm hc1
      refine am_subp [2] rfl ?_
      exact K _ hm
    · replace hm := am_if hm hc1
      refine am_steps ck_X5_lesserOf 3 (pc' := 13) (lv' := [(0, .ref a1), (1, .ref a2), (2, .int z2), (3, .int z3)]) (st' := [.int z3, .ref a1, .int z2]) rfl ?_
      obtain ⟨hb2, hm⟩ := am_gE hm
      refine ms_iald (n := 64) (am_fd ck_X5_lesserOf (pc := 13) rfl) ha1 hb2 ?_
      refine am_steps ck_X5_lesserOf 2 (pc' := 16) (lv' := [(0, .ref a1), (1, .ref a2), (2, .int z2), (3, .int z3)]) (st' := [.int z3, .ref a2, .int (m a1 (am_ix z3)), .int z2]) rfl ?_
      obtain ⟨hb3, hm⟩ := am_gE hm
      refine ms_iald (n := 64) (am_fd ck_X5_lesserOf (pc := 16) rfl) ha2 hb3 ?_
      refine am_mmin (am_fd ck_X5_lesserOf (pc := 17) rfl) tw_786 mth_min_s mth_ini mth_min_c (Nat.le_of_ble_eq_true rfl) (Nat.le_of_ble_eq_true rfl) ?_
      refine am_steps ck_X5_lesserOf 4 (pc' := 4) (lv' := [(3, .int (z3 + am_i 1)), (2, .int (z2 + (am_mn (m a1 (am_ix z3)) (m a2 (am_ix z3))))), (0, .ref a1), (1, .ref a2)]) (st' := []) rfl ?_
      refine am_subp [2, 3, 1, 0] rfl ?_
      exact ih _ _ hm K
set_option maxRecDepth 100000 in
set_option maxHeartbeats 4000000 in
theorem x_X5_lesserOf {G : am_G} {m : am_m} {r : am_rr} {a1 : Nat} {a2 : Nat} {res : Int32} (hL : am_Lay r) (ha1 : am_k a1 11 64) (ha2 : am_k a2 11 64) (hm : m_X5_lesserOf m a1 a2 = some res) : am_Met G mt_X5_lesserOf 1 [.ref a1, .ref a2] (am_hh m r) (some (.int res)) (am_hh m r) := by
  refine am_of (by decide) (Nat.le_of_ble_eq_true rfl) ?_
  unfold m_X5_lesserOf at hm
  show am_W G mt_X5_lesserOf 1 _ _ 0 [(0, .ref a1), (1, .ref a2)] [] (am_hh m r)
  refine am_steps ck_X5_lesserOf 4 (pc' := 4) (lv' := [(3, .int (am_i 0)), (2, .int (am_i 0)), (0, .ref a1), (1, .ref a2)]) (st' := []) rfl ?_
  refine am_subp [2, 3, 1, 0] rfl ?_
  refine x_X5_lesserOf_4 hL ha1 ha2 am_F _ _ hm (fun u4 hm => ?_)
  refine am_steps ck_X5_lesserOf 1 (pc' := 29) (lv' := [(2, .int u4)]) (st' := [.int u4]) rfl ?_
  cases hm
  exact am_end (am_fd ck_X5_lesserOf (pc := 29) rfl) am_rI rfl rfl
set_option maxRecDepth 100000 in
set_option maxHeartbeats 4000000 in
theorem x_X5_categoryAt_10 {G : am_G} {a1 : Nat} {x2 : Int32} {m : am_m} {r : am_rr} {res : Int32} {k : Option (Int32)} (hL : am_Lay r) (ha1 : am_k a1 11 64) : ∀ (n : Nat) (z2 : Int32) (z3 : Int32), m_X5_categoryAt_10 a1 x2 m k n z2 z3 = some res → (k = some res → am_W G mt_X5_categoryAt 1 (some (.int res)) (am_hh m r) 37 [] [] (am_hh m r)) → am_W G mt_X5_categoryAt 1 (some (.int res)) (am_hh m r) 10 [(0, .ref a1), (2, .int z2), (3, .int z3)] [] (am_hh m r) := by
  intro n
  induction n with
  | zero => intro z2 z3 hm K; cases hm
  | succ n ih =>
    intro z2 z3 hm K
    unfold m_X5_categoryAt_10 at hm
    refine am_steps ck_X5_categoryAt 2 (pc' := 13) (lv' := [(0, .ref a1), (2, .int z2), (3, .int z3)]) (st' := [.int (am_i 64), .int z3]) rfl ?_
    refine am_icmp (tgt := 37) (am_fd ck_X5_categoryAt (pc := 13) rfl) rfl (fun hc2 => ?_) (fun hc2 => ?_)
    · replace hm := am_it hm hc2
      refine am_subp [] rfl ?_
      exact K hm
    · replace hm := am_if hm hc2
      refine am_steps ck_X5_categoryAt 3 (pc' := 19) (lv' := [(0, .ref a1), (2, .int z2), (3, .int z3)]) (st' := [.int z3, .ref a1, .int z2]) rfl ?_
      obtain ⟨hb3, hm⟩ := am_gE hm
      refine ms_iald (n := 64) (am_fd ck_X5_categoryAt (pc := 19) rfl) ha1 hb3 ?_
      refine am_icmp (tgt := 25) (am_fd ck_X5_categoryAt (pc := 20) rfl) rfl (fun hc4 => ?_) (fun hc4 => ?_)
      · replace hm := am_it hm hc4
        refine am_steps ck_X5_categoryAt 3 (pc' := 28) (lv' := [(0, .ref a1), (2, .int z2), (3, .int z3)]) (st' := [.int z3, .ref a1, .int z2]) rfl ?_
        obtain ⟨hb5, hm⟩ := am_gE hm
        refine ms_iald (n := 64) (am_fd ck_X5_categoryAt (pc := 28) rfl) ha1 hb5 ?_
        refine am_steps ck_X5_categoryAt 4 (pc' := 10) (lv' := [(3, .int (z3 + am_i 1)), (2, .int (z2 - (m a1 (am_ix z3)))), (0, .ref a1)]) (st' := []) rfl ?_
        refine am_subp [2, 1, 0] rfl ?_
        exact ih _ _ hm K
      · replace hm := am_if hm hc4
        refine am_steps ck_X5_categoryAt 1 (pc' := 24) (lv' := [(0, .ref a1), (2, .int z2), (3, .int z3)]) (st' := [.int z3]) rfl ?_
        cases hm
        exact am_end (am_fd ck_X5_categoryAt (pc := 24) rfl) am_rI rfl rfl
set_option maxRecDepth 100000 in
set_option maxHeartbeats 4000000 in
theorem x_X5_categoryAt {G : am_G} {m : am_m} {r : am_rr} {a1 : Nat} {x2 : Int32} {res : Int32} (hL : am_Lay r) (ha1 : am_k a1 11 64) (hm : m_X5_categoryAt m a1 x2 = some res) : am_Met G mt_X5_categoryAt 1 [.ref a1, .int x2] (am_hh m r) (some (.int res)) (am_hh m r) := by
  refine am_of (by decide) (Nat.le_of_ble_eq_true rfl) ?_
  unfold m_X5_categoryAt at hm
  show am_W G mt_X5_categoryAt 1 _ _ 0 [(0, .ref a1), (1, .int x2)] [] (am_hh m r)
  refine am_steps ck_X5_categoryAt 1 (pc' := 1) (lv' := [(0, .ref a1), (1, .int x2)]) (st' := [.int x2]) rfl ?_
  refine am_ifc (tgt := 6) (am_fd ck_X5_categoryAt (pc := 1) rfl) rfl (fun hc1 => ?_) (fun hc1 => ?_)
  · replace hm := am_it hm hc1
    refine am_steps ck_X5_categoryAt 4 (pc' := 10) (lv' := [(3, .int (am_i 0)), (2, .int x2), (0, .ref a1), (1, .int x2)]) (st' := []) rfl ?_
    refine am_subp [2, 1, 0] rfl ?_
    refine x_X5_categoryAt_10 hL ha1 am_F _ _ hm (fun hm => ?_)
    refine am_steps ck_X5_categoryAt 1 (pc' := 38) (lv' := []) (st' := [.int (am_i (-1))]) rfl ?_
    cases hm
    exact am_end (am_fd ck_X5_categoryAt (pc := 38) rfl) am_rI rfl rfl
  · replace hm := am_if hm hc1
    refine am_steps ck_X5_categoryAt 1 (pc' := 5) (lv' := [(0, .ref a1), (1, .int x2)]) (st' := [.int (am_i (-1))]) rfl ?_
    cases hm
    exact am_end (am_fd ck_X5_categoryAt (pc := 5) rfl) am_rI rfl rfl
set_option maxRecDepth 100000 in
set_option maxHeartbeats 4000000 in
theorem x_X5_firstLeader {G : am_G} {m : am_m} {r : am_rr} {a1 : Nat} {res : Int32} (hL : am_Lay r) (ha1 : am_k a1 11 64) (hm : m_X5_firstLeader m a1 = some res) : am_Met G mt_X5_firstLeader 4 [.ref a1] (am_hh m r) (some (.int res)) (am_hh m r) := by
  refine am_of (by decide) (Nat.le_of_ble_eq_true rfl) ?_
  unfold m_X5_firstLeader at hm
  show am_W G mt_X5_firstLeader 4 _ _ 0 [(0, .ref a1)] [] (am_hh m r)
  refine am_steps ck_X5_firstLeader 2 (pc' := 2) (lv' := [(0, .ref a1)]) (st' := [.int (am_i 0), .ref a1]) rfl ?_
  obtain ⟨q1, hq1, hm⟩ := am_bE hm
  refine ms_callS (M2 := mt_X5_leaderAt) (d2 := 3) [.ref a1, .int (am_i 0)] (am_fd ck_X5_firstLeader (pc := 2) rfl) ok_X5_leaderAt tw_807 tw_643 (Nat.le_of_ble_eq_true rfl) (Nat.le_of_ble_eq_true rfl) (x_X5_leaderAt hL ha1 hq1) ?_
  cases hm
  exact am_end (am_fd ck_X5_firstLeader (pc := 5) rfl) am_rI rfl rfl
set_option maxRecDepth 100000 in
set_option maxHeartbeats 4000000 in
theorem x_X5_nextSeat_4 {G : am_G} {a1 : Nat} {a2 : Nat} {m : am_m} {r : am_rr} {res : Int32} {k : Int32 → Option (Int32)} (hL : am_Lay r) (ha1 : am_k a1 11 64) (ha2 : am_k a2 11 64) : ∀ (n : Nat) (z2 : Int32) (z3 : Int32), m_X5_nextSeat_4 a1 a2 m k n z2 z3 = some res → (∀ (u2 : Int32), k u2 = some res → am_W G mt_X5_nextSeat 1 (some (.int res)) (am_hh m r) 58 [(2, .int u2)] [] (am_hh m r)) → am_W G mt_X5_nextSeat 1 (some (.int res)) (am_hh m r) 4 [(0, .ref a1), (1, .ref a2), (2, .int z2), (3, .int z3)] [] (am_hh m r) := by
  intro n
  induction n with
  | zero => intro z2 z3 hm K; cases hm
  | succ n ih =>
    intro z2 z3 hm K
    unfold m_X5_nextSeat_4 at hm
    refine am_steps ck_X5_nextSeat 2 (pc' := 7) (lv' := [(0, .ref a1), (1, .ref a2), (2, .int z2), (3, .int z3)]) (st' := [.int (am_i 64), .int z3]) rfl ?_
    refine am_icmp (tgt := 58) (am_fd ck_X5_nextSeat (pc := 7) rfl) rfl (fun hc1 => ?_) (fun hc1 => ?_)
    · replace hm := am_it hm hc1
      refine am_subp [2] rfl ?_
      exact K _ hm
    · replace hm := am_if hm hc1
      refine am_steps ck_X5_nextSeat 2 (pc' := 12) (lv' := [(0, .ref a1), (1, .ref a2), (2, .int z2), (3, .int z3)]) (st' := [.int z3, .ref a1]) rfl ?_
      obtain ⟨hb2, hm⟩ := am_gE hm
      refine ms_iald (n := 64) (am_fd ck_X5_nextSeat (pc := 12) rfl) ha1 hb2 ?_
      refine am_ifc (tgt := 19) (am_fd ck_X5_nextSeat (pc := 13) rfl) rfl (fun hc3 => ?_) (fun hc3 => ?_)
      · replace hm := am_it hm hc3
        refine am_steps ck_X5_nextSeat 2 (pc' := 21) (lv' := [(0, .ref a1), (1, .ref a2), (2, .int z2), (3, .int z3)]) (st' := [.int (am_i (-1)), .int z2]) rfl ?_
        refine am_icmp (tgt := 50) (am_fd ck_X5_nextSeat (pc := 21) rfl) rfl (fun hc4 => ?_) (fun hc4 => ?_)
        · replace hm := am_it hm hc4
          refine am_steps ck_X5_nextSeat 4 (pc' := 4) (lv' := [(3, .int (z3 + am_i 1)), (2, .int z3), (0, .ref a1), (1, .ref a2)]) (st' := []) rfl ?_
          refine am_subp [2, 3, 1, 0] rfl ?_
          exact ih _ _ hm K
        · replace hm := am_if hm hc4
          refine am_steps ck_X5_nextSeat 2 (pc' := 26) (lv' := [(0, .ref a1), (1, .ref a2), (2, .int z2), (3, .int z3)]) (st' := [.int z3, .ref a1]) rfl ?_
          obtain ⟨hb5, hm⟩ := am_gE hm
          refine ms_iald (n := 64) (am_fd ck_X5_nextSeat (pc := 26) rfl) ha1 hb5 ?_
          refine am_steps ck_X5_nextSeat 3 (pc' := 30) (lv' := [(0, .ref a1), (1, .ref a2), (2, .int z2), (3, .int z3)]) (st' := [.int z2, .ref a2, .long (m a1 (am_ix z3)).toInt64]) rfl ?_
          obtain ⟨hb6, hm⟩ := am_gE hm
          refine ms_iald (n := 64) (am_fd ck_X5_nextSeat (pc := 30) rfl) ha2 hb6 ?_
          refine am_steps ck_X5_nextSeat 6 (pc' := 37) (lv' := [(0, .ref a1), (1, .ref a2), (2, .int z2), (3, .int z3)]) (st' := [.int z2, .ref a1, .long ((m a1 (am_ix z3)).toInt64 * ((m a2 (am_ix z2)) + (am_i 1)).toInt64)]) rfl ?_
          obtain ⟨hb7, hm⟩ := am_gE hm
          refine ms_iald (n := 64) (am_fd ck_X5_nextSeat (pc := 37) rfl) ha1 hb7 ?_
          refine am_steps ck_X5_nextSeat 3 (pc' := 41) (lv' := [(0, .ref a1), (1, .ref a2), (2, .int z2), (3, .int z3)]) (st' := [.int z3, .ref a2, .long (m a1 (am_ix z2)).toInt64, .long ((m a1 (am_ix z3)).toInt64 * ((m a2 (am_ix z2)) + (am_i 1)).toInt64)]) rfl ?_
          obtain ⟨hb8, hm⟩ := am_gE hm
          refine ms_iald (n := 64) (am_fd ck_X5_nextSeat (pc := 41) rfl) ha2 hb8 ?_
          refine am_steps ck_X5_nextSeat 5 (pc' := 47) (lv' := [(0, .ref a1), (1, .ref a2), (2, .int z2), (3, .int z3)]) (st' := [.int (lg_cmp ((m a1 (am_ix z3)).toInt64 * ((m a2 (am_ix z2)) + (am_i 1)).toInt64) ((m a1 (am_ix z2)).toInt64 * ((m a2 (am_ix z3)) + (am_i 1)).toInt64))]) rfl ?_
          refine am_ifc (tgt := 52) (am_fd ck_X5_nextSeat (pc := 47) rfl) rfl (fun hc9 => ?_) (fun hc9 => ?_)
          · replace hm := am_it hm hc9
            refine am_steps ck_X5_nextSeat 2 (pc' := 4) (lv' := [(3, .int (z3 + am_i 1)), (0, .ref a1), (1, .ref a2), (2, .int z2)]) (st' := []) rfl ?_
            refine am_subp [1, 2, 3, 0] rfl ?_
            exact ih _ _ hm K
          · replace hm := am_if hm hc9
            refine am_steps ck_X5_nextSeat 4 (pc' := 4) (lv' := [(3, .int (z3 + am_i 1)), (2, .int z3), (0, .ref a1), (1, .ref a2)]) (st' := []) rfl ?_
            refine am_subp [2, 3, 1, 0] rfl ?_
            exact ih _ _ hm K
      · replace hm := am_if hm hc3
        refine am_steps ck_X5_nextSeat 3 (pc' := 4) (lv' := [(3, .int (z3 + am_i 1)), (0, .ref a1), (1, .ref a2), (2, .int z2)]) (st' := []) rfl ?_
        refine am_subp [1, 2, 3, 0] rfl ?_
        exact ih _ _ hm K
set_option maxRecDepth 100000 in
set_option maxHeartbeats 4000000 in
theorem x_X5_nextSeat {G : am_G} {m : am_m} {r : am_rr} {a1 : Nat} {a2 : Nat} {res : Int32} (hL : am_Lay r) (ha1 : am_k a1 11 64) (ha2 : am_k a2 11 64) (hm : m_X5_nextSeat m a1 a2 = some res) : am_Met G mt_X5_nextSeat 1 [.ref a1, .ref a2] (am_hh m r) (some (.int res)) (am_hh m r) := by
  refine am_of (by decide) (Nat.le_of_ble_eq_true rfl) ?_
  unfold m_X5_nextSeat at hm
  show am_W G mt_X5_nextSeat 1 _ _ 0 [(0, .ref a1), (1, .ref a2)] [] (am_hh m r)
  refine am_steps ck_X5_nextSeat 4 (pc' := 4) (lv' := [(3, .int (am_i 0)), (2, .int (am_i (-1))), (0, .ref a1), (1, .ref a2)]) (st' := []) rfl ?_
  refine am_subp [2, 3, 1, 0] rfl ?_
  refine x_X5_nextSeat_4 hL ha1 ha2 am_F _ _ hm (fun u10 hm => ?_)
  refine am_steps ck_X5_nextSeat 1 (pc' := 59) (lv' := [(2, .int u10)]) (st' := [.int u10]) rfl ?_
  cases hm
  exact am_end (am_fd ck_X5_nextSeat (pc := 59) rfl) am_rI rfl rfl
set_option maxRecDepth 100000 in
set_option maxHeartbeats 4000000 in
theorem x_X5_percentOf_30 {G : am_G} {a1 : Nat} {x2 : Int32} {m : am_m} {r : am_rr} {y1 : Int32} {y2 : Int32} {y5 : Int32} {res : Int32} {k : Int32 → Int32 → Option (Int32)} (hL : am_Lay r) (ha1 : am_k a1 11 64) : ∀ (n : Nat) (z3 : Int32) (z4 : Int32) (z6 : Int32), m_X5_percentOf_30 a1 x2 m y1 y2 y5 k n z3 z4 z6 = some res → (∀ (u3 : Int32) (u4 : Int32), k u3 u4 = some res → am_W G mt_X5_percentOf 3 (some (.int res)) (am_hh m r) 89 [(0, .ref a1), (1, .int y1), (2, .int y2), (3, .int u3), (4, .int u4)] [] (am_hh m r)) → am_W G mt_X5_percentOf 3 (some (.int res)) (am_hh m r) 30 [(0, .ref a1), (1, .int y1), (2, .int y2), (3, .int z3), (4, .int z4), (5, .int y5), (6, .int z6)] [] (am_hh m r) := by
  intro n
  induction n with
  | zero => intro z3 z4 z6 hm K; cases hm
  | succ n ih =>
    intro z3 z4 z6 hm K
    unfold m_X5_percentOf_30 at hm
    refine am_steps ck_X5_percentOf 2 (pc' := 34) (lv' := [(0, .ref a1), (1, .int y1), (2, .int y2), (3, .int z3), (4, .int z4), (5, .int y5), (6, .int z6)]) (st' := [.int (am_i 64), .int z6]) rfl ?_
    refine am_icmp (tgt := 89) (am_fd ck_X5_percentOf (pc := 34) rfl) rfl (fun hc5 => ?_) (fun hc5 => ?_)
    · replace hm := am_it hm hc5
      refine am_subp [0, 1, 2, 3, 4] rfl ?_
      exact K _ _ hm
    · replace hm := am_if hm hc5
      refine am_steps ck_X5_percentOf 4 (pc' := 43) (lv' := [(0, .ref a1), (1, .int y1), (2, .int y2), (3, .int z3), (4, .int z4), (5, .int y5), (6, .int z6)]) (st' := [.int z6, .ref a1, .int (am_i 100), .int z3]) rfl ?_
      obtain ⟨hb6, hm⟩ := am_gE hm
      refine ms_iald (n := 64) (am_fd ck_X5_percentOf (pc := 43) rfl) ha1 hb6 ?_
      refine am_steps ck_X5_percentOf 2 (pc' := 46) (lv' := [(0, .ref a1), (1, .int y1), (2, .int y2), (3, .int z3), (4, .int z4), (5, .int y5), (6, .int z6)]) (st' := [.int y2, .int ((am_i 100) * (m a1 (am_ix z6))), .int z3]) rfl ?_
      obtain ⟨hb7, hm⟩ := am_gE hm
      refine am_idiv (am_fd ck_X5_percentOf (pc := 46) rfl) (am_nzE hb7) ?_
      refine am_steps ck_X5_percentOf 5 (pc' := 54) (lv' := [(3, .int (z3 - (((am_i 100) * (m a1 (am_ix z6))) / y2))), (0, .ref a1), (1, .int y1), (2, .int y2), (4, .int z4), (5, .int y5), (6, .int z6)]) (st' := [.int z6, .ref a1, .int (am_i 100)]) rfl ?_
      obtain ⟨hb8, hm⟩ := am_gE hm
      refine ms_iald (n := 64) (am_fd ck_X5_percentOf (pc := 54) rfl) ha1 hb8 ?_
      refine am_steps ck_X5_percentOf 2 (pc' := 57) (lv' := [(3, .int (z3 - (((am_i 100) * (m a1 (am_ix z6))) / y2))), (0, .ref a1), (1, .int y1), (2, .int y2), (4, .int z4), (5, .int y5), (6, .int z6)]) (st' := [.int y2, .int ((am_i 100) * (m a1 (am_ix z6)))]) rfl ?_
      obtain ⟨hb9, hm⟩ := am_gE hm
      refine am_irem (am_fd ck_X5_percentOf (pc := 57) rfl) (am_nzE hb9) ?_
      refine am_steps ck_X5_percentOf 3 (pc' := 64) (lv' := [(7, .int (((am_i 100) * (m a1 (am_ix z6))) - ((am_i 100) * (m a1 (am_ix z6))) / y2 * y2)), (3, .int (z3 - (((am_i 100) * (m a1 (am_ix z6))) / y2))), (0, .ref a1), (1, .int y1), (2, .int y2), (4, .int z4), (5, .int y5), (6, .int z6)]) (st' := [.int y5, .int (((am_i 100) * (m a1 (am_ix z6))) - ((am_i 100) * (m a1 (am_ix z6))) / y2 * y2)]) rfl ?_
      refine am_icmp (tgt := 80) (am_fd ck_X5_percentOf (pc := 64) rfl) rfl (fun hc10 => ?_) (fun hc10 => ?_)
      · replace hm := am_it hm hc10
        refine am_steps ck_X5_percentOf 3 (pc' := 30) (lv' := [(6, .int (z6 + am_i 1)), (4, .int (z4 + am_i 1)), (7, .int (((am_i 100) * (m a1 (am_ix z6))) - ((am_i 100) * (m a1 (am_ix z6))) / y2 * y2)), (3, .int (z3 - (((am_i 100) * (m a1 (am_ix z6))) / y2))), (0, .ref a1), (1, .int y1), (2, .int y2), (5, .int y5)]) (st' := []) rfl ?_
        refine am_subp [4, 5, 6, 3, 1, 7, 0] rfl ?_
        exact ih _ _ _ hm K
      · replace hm := am_if hm hc10
        refine am_steps ck_X5_percentOf 2 (pc' := 71) (lv' := [(7, .int (((am_i 100) * (m a1 (am_ix z6))) - ((am_i 100) * (m a1 (am_ix z6))) / y2 * y2)), (3, .int (z3 - (((am_i 100) * (m a1 (am_ix z6))) / y2))), (0, .ref a1), (1, .int y1), (2, .int y2), (4, .int z4), (5, .int y5), (6, .int z6)]) (st' := [.int y5, .int (((am_i 100) * (m a1 (am_ix z6))) - ((am_i 100) * (m a1 (am_ix z6))) / y2 * y2)]) rfl ?_
        refine am_icmp (tgt := 83) (am_fd ck_X5_percentOf (pc := 71) rfl) rfl (fun hc11 => ?_) (fun hc11 => ?_)
        · replace hm := am_it hm hc11
          refine am_steps ck_X5_percentOf 2 (pc' := 30) (lv' := [(6, .int (z6 + am_i 1)), (7, .int (((am_i 100) * (m a1 (am_ix z6))) - ((am_i 100) * (m a1 (am_ix z6))) / y2 * y2)), (3, .int (z3 - (((am_i 100) * (m a1 (am_ix z6))) / y2))), (0, .ref a1), (1, .int y1), (2, .int y2), (4, .int z4), (5, .int y5)]) (st' := []) rfl ?_
          refine am_subp [3, 4, 5, 2, 6, 7, 0] rfl ?_
          exact ih _ _ _ hm K
        · replace hm := am_if hm hc11
          refine am_steps ck_X5_percentOf 2 (pc' := 77) (lv' := [(7, .int (((am_i 100) * (m a1 (am_ix z6))) - ((am_i 100) * (m a1 (am_ix z6))) / y2 * y2)), (3, .int (z3 - (((am_i 100) * (m a1 (am_ix z6))) / y2))), (0, .ref a1), (1, .int y1), (2, .int y2), (4, .int z4), (5, .int y5), (6, .int z6)]) (st' := [.int y1, .int z6]) rfl ?_
          refine am_icmp (tgt := 83) (am_fd ck_X5_percentOf (pc := 77) rfl) rfl (fun hc12 => ?_) (fun hc12 => ?_)
          · replace hm := am_it hm hc12
            refine am_steps ck_X5_percentOf 2 (pc' := 30) (lv' := [(6, .int (z6 + am_i 1)), (7, .int (((am_i 100) * (m a1 (am_ix z6))) - ((am_i 100) * (m a1 (am_ix z6))) / y2 * y2)), (3, .int (z3 - (((am_i 100) * (m a1 (am_ix z6))) / y2))), (0, .ref a1), (1, .int y1), (2, .int y2), (4, .int z4), (5, .int y5)]) (st' := []) rfl ?_
            refine am_subp [3, 4, 5, 2, 6, 7, 0] rfl ?_
            exact ih _ _ _ hm K
          · replace hm := am_if hm hc12
            refine am_steps ck_X5_percentOf 3 (pc' := 30) (lv' := [(6, .int (z6 + am_i 1)), (4, .int (z4 + am_i 1)), (7, .int (((am_i 100) * (m a1 (am_ix z6))) - ((am_i 100) * (m a1 (am_ix z6))) / y2 * y2)), (3, .int (z3 - (((am_i 100) * (m a1 (am_ix z6))) / y2))), (0, .ref a1), (1, .int y1), (2, .int y2), (5, .int y5)]) (st' := []) rfl ?_
            refine am_subp [4, 5, 6, 3, 1, 7, 0] rfl ?_
            exact ih _ _ _ hm K
set_option maxRecDepth 100000 in
set_option maxHeartbeats 4000000 in
theorem x_X5_percentOf {G : am_G} {m : am_m} {r : am_rr} {a1 : Nat} {x2 : Int32} {res : Int32} (hL : am_Lay r) (ha1 : am_k a1 11 64) (hm : m_X5_percentOf m a1 x2 = some res) : am_Met G mt_X5_percentOf 3 [.ref a1, .int x2] (am_hh m r) (some (.int res)) (am_hh m r) := by
  refine am_of (by decide) (Nat.le_of_ble_eq_true rfl) ?_
  unfold m_X5_percentOf at hm
  show am_W G mt_X5_percentOf 3 _ _ 0 [(0, .ref a1), (1, .int x2)] [] (am_hh m r)
  refine am_steps ck_X5_percentOf 1 (pc' := 1) (lv' := [(0, .ref a1), (1, .int x2)]) (st' := [.ref a1]) rfl ?_
  obtain ⟨q1, hq1, hm⟩ := am_bE hm
  refine ms_callS (M2 := mt_X5_allOf) (d2 := 2) [.ref a1] (am_fd ck_X5_percentOf (pc := 1) rfl) ok_X5_allOf tw_679 tw_586 (Nat.le_of_ble_eq_true rfl) (Nat.le_of_ble_eq_true rfl) (x_X5_allOf hL ha1 hq1) ?_
  refine am_steps ck_X5_percentOf 2 (pc' := 6) (lv' := [(2, .int q1), (0, .ref a1), (1, .int x2)]) (st' := [.int q1]) rfl ?_
  refine am_ifc (tgt := 11) (am_fd ck_X5_percentOf (pc := 6) rfl) rfl (fun hc2 => ?_) (fun hc2 => ?_)
  · replace hm := am_it hm hc2
    refine am_steps ck_X5_percentOf 7 (pc' := 21) (lv' := [(4, .int (am_i 0)), (3, .int (am_i 100)), (2, .int q1), (0, .ref a1), (1, .int x2)]) (st' := [.int x2, .ref a1, .int (am_i 100)]) rfl ?_
    obtain ⟨hb3, hm⟩ := am_gE hm
    refine ms_iald (n := 64) (am_fd ck_X5_percentOf (pc := 21) rfl) ha1 hb3 ?_
    refine am_steps ck_X5_percentOf 2 (pc' := 24) (lv' := [(4, .int (am_i 0)), (3, .int (am_i 100)), (2, .int q1), (0, .ref a1), (1, .int x2)]) (st' := [.int q1, .int ((am_i 100) * (m a1 (am_ix x2)))]) rfl ?_
    obtain ⟨hb4, hm⟩ := am_gE hm
    refine am_irem (am_fd ck_X5_percentOf (pc := 24) rfl) (am_nzE hb4) ?_
    refine am_steps ck_X5_percentOf 3 (pc' := 30) (lv' := [(6, .int (am_i 0)), (5, .int (((am_i 100) * (m a1 (am_ix x2))) - ((am_i 100) * (m a1 (am_ix x2))) / q1 * q1)), (4, .int (am_i 0)), (3, .int (am_i 100)), (2, .int q1), (0, .ref a1), (1, .int x2)]) (st' := []) rfl ?_
    refine am_subp [5, 6, 4, 3, 2, 1, 0] rfl ?_
    refine x_X5_percentOf_30 hL ha1 am_F _ _ _ hm (fun u13 u14 hm => ?_)
    refine am_steps ck_X5_percentOf 3 (pc' := 93) (lv' := [(0, .ref a1), (1, .int x2), (2, .int q1), (3, .int u13), (4, .int u14)]) (st' := [.int x2, .ref a1, .int (am_i 100)]) rfl ?_
    obtain ⟨hb15, hm⟩ := am_gE hm
    refine ms_iald (n := 64) (am_fd ck_X5_percentOf (pc := 93) rfl) ha1 hb15 ?_
    refine am_steps ck_X5_percentOf 2 (pc' := 96) (lv' := [(0, .ref a1), (1, .int x2), (2, .int q1), (3, .int u13), (4, .int u14)]) (st' := [.int q1, .int ((am_i 100) * (m a1 (am_ix x2)))]) rfl ?_
    obtain ⟨hb16, hm⟩ := am_gE hm
    refine am_idiv (am_fd ck_X5_percentOf (pc := 96) rfl) (am_nzE hb16) ?_
    refine am_steps ck_X5_percentOf 2 (pc' := 100) (lv' := [(0, .ref a1), (1, .int x2), (2, .int q1), (3, .int u13), (4, .int u14)]) (st' := [.int u13, .int u14, .int (((am_i 100) * (m a1 (am_ix x2))) / q1)]) rfl ?_
    refine am_icmp (tgt := 107) (am_fd ck_X5_percentOf (pc := 100) rfl) rfl (fun hc17 => ?_) (fun hc17 => ?_)
    · replace hm := am_it hm hc17
      refine am_steps ck_X5_percentOf 2 (pc' := 109) (lv' := [(0, .ref a1), (1, .int x2), (2, .int q1), (3, .int u13), (4, .int u14)]) (st' := [.int ((((am_i 100) * (m a1 (am_ix x2))) / q1) + (am_i 0))]) rfl ?_
      cases hm
      exact am_end (am_fd ck_X5_percentOf (pc := 109) rfl) am_rI rfl rfl
    · replace hm := am_if hm hc17
      refine am_steps ck_X5_percentOf 3 (pc' := 109) (lv' := [(0, .ref a1), (1, .int x2), (2, .int q1), (3, .int u13), (4, .int u14)]) (st' := [.int ((((am_i 100) * (m a1 (am_ix x2))) / q1) + (am_i 1))]) rfl ?_
      cases hm
      exact am_end (am_fd ck_X5_percentOf (pc := 109) rfl) am_rI rfl rfl
  · replace hm := am_if hm hc2
    refine am_steps ck_X5_percentOf 1 (pc' := 10) (lv' := [(2, .int q1), (0, .ref a1), (1, .int x2)]) (st' := [.int (am_i 0)]) rfl ?_
    cases hm
    exact am_end (am_fd ck_X5_percentOf (pc := 10) rfl) am_rI rfl rfl
set_option maxRecDepth 100000 in
set_option maxHeartbeats 4000000 in
theorem x_X5_quantileOf_12 {G : am_G} {a1 : Nat} {x2 : Int32} {m : am_m} {r : am_rr} {y1 : Int32} {y2 : Int64} {res : Int32} {k : Option (Int32)} (hL : am_Lay r) (ha1 : am_k a1 11 64) : ∀ (n : Nat) (z4 : Int64) (z6 : Int32), m_X5_quantileOf_12 a1 x2 m y1 y2 k n z4 z6 = some res → (k = some res → am_W G mt_X5_quantileOf 3 (some (.int res)) (am_hh m r) 58 [] [] (am_hh m r)) → am_W G mt_X5_quantileOf 3 (some (.int res)) (am_hh m r) 12 [(0, .ref a1), (1, .int y1), (2, .long y2), (4, .long z4), (6, .int z6)] [] (am_hh m r) := by
  intro n
  induction n with
  | zero => intro z4 z6 hm K; cases hm
  | succ n ih =>
    intro z4 z6 hm K
    unfold m_X5_quantileOf_12 at hm
    refine am_steps ck_X5_quantileOf 2 (pc' := 16) (lv' := [(0, .ref a1), (1, .int y1), (2, .long y2), (4, .long z4), (6, .int z6)]) (st' := [.int (am_i 64), .int z6]) rfl ?_
    refine am_icmp (tgt := 58) (am_fd ck_X5_quantileOf (pc := 16) rfl) rfl (fun hc2 => ?_) (fun hc2 => ?_)
    · replace hm := am_it hm hc2
      refine am_subp [] rfl ?_
      exact K hm
    · replace hm := am_if hm hc2
      refine am_steps ck_X5_quantileOf 3 (pc' := 22) (lv' := [(0, .ref a1), (1, .int y1), (2, .long y2), (4, .long z4), (6, .int z6)]) (st' := [.int (lg_cmp y2 (Int64.ofNat 0))]) rfl ?_
      refine am_ifc (tgt := 58) (am_fd ck_X5_quantileOf (pc := 22) rfl) rfl (fun hc3 => ?_) (fun hc3 => ?_)
      · replace hm := am_it hm hc3
        refine am_subp [] rfl ?_
        exact K hm
      · replace hm := am_if hm hc3
        refine am_steps ck_X5_quantileOf 3 (pc' := 30) (lv' := [(0, .ref a1), (1, .int y1), (2, .long y2), (4, .long z4), (6, .int z6)]) (st' := [.int z6, .ref a1, .long z4]) rfl ?_
        obtain ⟨hb4, hm⟩ := am_gE hm
        refine ms_iald (n := 64) (am_fd ck_X5_quantileOf (pc := 30) rfl) ha1 hb4 ?_
        refine am_steps ck_X5_quantileOf 3 (pc' := 35) (lv' := [(4, .long (z4 + (m a1 (am_ix z6)).toInt64)), (0, .ref a1), (1, .int y1), (2, .long y2), (6, .int z6)]) (st' := []) rfl ?_
        refine am_ldc2 (am_fd ck_X5_quantileOf (pc := 35) rfl) tw_687 ?_
        refine am_steps ck_X5_quantileOf 7 (pc' := 46) (lv' := [(4, .long (z4 + (m a1 (am_ix z6)).toInt64)), (0, .ref a1), (1, .int y1), (2, .long y2), (6, .int z6)]) (st' := [.int (lg_cmp ((100 : Int64) * (z4 + (m a1 (am_ix z6)).toInt64)) (y1.toInt64 * y2))]) rfl ?_
        refine am_ifc (tgt := 52) (am_fd ck_X5_quantileOf (pc := 46) rfl) rfl (fun hc5 => ?_) (fun hc5 => ?_)
        · replace hm := am_it hm hc5
          refine am_steps ck_X5_quantileOf 2 (pc' := 12) (lv' := [(6, .int (z6 + am_i 1)), (4, .long (z4 + (m a1 (am_ix z6)).toInt64)), (0, .ref a1), (1, .int y1), (2, .long y2)]) (st' := []) rfl ?_
          refine am_subp [2, 3, 4, 1, 0] rfl ?_
          exact ih _ _ hm K
        · replace hm := am_if hm hc5
          refine am_steps ck_X5_quantileOf 1 (pc' := 51) (lv' := [(4, .long (z4 + (m a1 (am_ix z6)).toInt64)), (0, .ref a1), (1, .int y1), (2, .long y2), (6, .int z6)]) (st' := [.int z6]) rfl ?_
          cases hm
          exact am_end (am_fd ck_X5_quantileOf (pc := 51) rfl) am_rI rfl rfl
set_option maxRecDepth 100000 in
set_option maxHeartbeats 4000000 in
theorem x_X5_quantileOf {G : am_G} {m : am_m} {r : am_rr} {a1 : Nat} {x2 : Int32} {res : Int32} (hL : am_Lay r) (ha1 : am_k a1 11 64) (hm : m_X5_quantileOf m a1 x2 = some res) : am_Met G mt_X5_quantileOf 3 [.ref a1, .int x2] (am_hh m r) (some (.int res)) (am_hh m r) := by
  refine am_of (by decide) (Nat.le_of_ble_eq_true rfl) ?_
  unfold m_X5_quantileOf at hm
  show am_W G mt_X5_quantileOf 3 _ _ 0 [(0, .ref a1), (1, .int x2)] [] (am_hh m r)
  refine am_steps ck_X5_quantileOf 1 (pc' := 1) (lv' := [(0, .ref a1), (1, .int x2)]) (st' := [.ref a1]) rfl ?_
  obtain ⟨q1, hq1, hm⟩ := am_bE hm
  refine ms_callS (M2 := mt_X5_allOf) (d2 := 2) [.ref a1] (am_fd ck_X5_quantileOf (pc := 1) rfl) ok_X5_allOf tw_679 tw_586 (Nat.le_of_ble_eq_true rfl) (Nat.le_of_ble_eq_true rfl) (x_X5_allOf hL ha1 hq1) ?_
  refine am_steps ck_X5_quantileOf 6 (pc' := 12) (lv' := [(6, .int (am_i 0)), (4, .long (Int64.ofNat 0)), (2, .long q1.toInt64), (0, .ref a1), (1, .int x2)]) (st' := []) rfl ?_
  refine am_subp [3, 4, 2, 1, 0] rfl ?_
  refine x_X5_quantileOf_12 hL ha1 am_F _ _ hm (fun hm => ?_)
  refine am_steps ck_X5_quantileOf 1 (pc' := 59) (lv' := []) (st' := [.int (am_i (-1))]) rfl ?_
  cases hm
  exact am_end (am_fd ck_X5_quantileOf (pc := 59) rfl) am_rI rfl rfl
set_option maxRecDepth 100000 in
set_option maxHeartbeats 4000000 in
theorem x_X5_fewestOf_15 {G : am_G} {a1 : Nat} {x2 : Int32} {m : am_m} {r : am_rr} {y1 : Int32} {y2 : Int64} {res : Int32} {k : Option (Int32)} (hL : am_Lay r) (ha1 : am_k a1 11 64) : ∀ (n : Nat) (z4 : Int64) (z6 : Int32) (z7 : Int32), m_X5_fewestOf_15 a1 x2 m y1 y2 k n z4 z6 z7 = some res → (k = some res → am_W G mt_X5_fewestOf 3 (some (.int res)) (am_hh m r) 71 [] [] (am_hh m r)) → am_W G mt_X5_fewestOf 3 (some (.int res)) (am_hh m r) 15 [(0, .ref a1), (1, .int y1), (2, .long y2), (4, .long z4), (6, .int z6), (7, .int z7)] [] (am_hh m r) := by
  intro n
  induction n with
  | zero => intro z4 z6 z7 hm K; cases hm
  | succ n ih =>
    intro z4 z6 z7 hm K
    unfold m_X5_fewestOf_15 at hm
    refine am_steps ck_X5_fewestOf 2 (pc' := 19) (lv' := [(0, .ref a1), (1, .int y1), (2, .long y2), (4, .long z4), (6, .int z6), (7, .int z7)]) (st' := [.int (am_i 64), .int z7]) rfl ?_
    refine am_icmp (tgt := 71) (am_fd ck_X5_fewestOf (pc := 19) rfl) rfl (fun hc2 => ?_) (fun hc2 => ?_)
    · replace hm := am_it hm hc2
      refine am_subp [] rfl ?_
      exact K hm
    · replace hm := am_if hm hc2
      refine am_steps ck_X5_fewestOf 2 (pc' := 25) (lv' := [(0, .ref a1), (1, .int y1), (2, .long y2), (4, .long z4), (6, .int z6), (7, .int z7)]) (st' := [.int z6, .ref a1]) rfl ?_
      obtain ⟨q3, hq3, hm⟩ := am_bE hm
      refine ms_callS (M2 := mt_X5_leaderBehind) (d2 := 2) [.ref a1, .int z6] (am_fd ck_X5_fewestOf (pc := 25) rfl) ok_X5_leaderBehind tw_645 tw_646 (Nat.le_of_ble_eq_true rfl) (Nat.le_of_ble_eq_true rfl) (x_X5_leaderBehind hL ha1 hq3) ?_
      refine am_steps ck_X5_fewestOf 3 (pc' := 33) (lv' := [(6, .int q3), (0, .ref a1), (1, .int y1), (2, .long y2), (4, .long z4), (7, .int z7)]) (st' := [.int (am_i (-1)), .int q3]) rfl ?_
      refine am_icmp (tgt := 38) (am_fd ck_X5_fewestOf (pc := 33) rfl) rfl (fun hc4 => ?_) (fun hc4 => ?_)
      · replace hm := am_it hm hc4
        refine am_steps ck_X5_fewestOf 3 (pc' := 43) (lv' := [(6, .int q3), (0, .ref a1), (1, .int y1), (2, .long y2), (4, .long z4), (7, .int z7)]) (st' := [.int q3, .ref a1, .long z4]) rfl ?_
        obtain ⟨hb5, hm⟩ := am_gE hm
        refine ms_iald (n := 64) (am_fd ck_X5_fewestOf (pc := 43) rfl) ha1 hb5 ?_
        refine am_steps ck_X5_fewestOf 3 (pc' := 48) (lv' := [(4, .long (z4 + (m a1 (am_ix q3)).toInt64)), (6, .int q3), (0, .ref a1), (1, .int y1), (2, .long y2), (7, .int z7)]) (st' := []) rfl ?_
        refine am_ldc2 (am_fd ck_X5_fewestOf (pc := 48) rfl) tw_687 ?_
        refine am_steps ck_X5_fewestOf 7 (pc' := 59) (lv' := [(4, .long (z4 + (m a1 (am_ix q3)).toInt64)), (6, .int q3), (0, .ref a1), (1, .int y1), (2, .long y2), (7, .int z7)]) (st' := [.int (lg_cmp ((100 : Int64) * (z4 + (m a1 (am_ix q3)).toInt64)) (y1.toInt64 * y2))]) rfl ?_
        refine am_ifc (tgt := 65) (am_fd ck_X5_fewestOf (pc := 59) rfl) rfl (fun hc6 => ?_) (fun hc6 => ?_)
        · replace hm := am_it hm hc6
          refine am_steps ck_X5_fewestOf 2 (pc' := 15) (lv' := [(7, .int (z7 + am_i 1)), (4, .long (z4 + (m a1 (am_ix q3)).toInt64)), (6, .int q3), (0, .ref a1), (1, .int y1), (2, .long y2)]) (st' := []) rfl ?_
          refine am_subp [3, 4, 5, 1, 2, 0] rfl ?_
          exact ih _ _ _ hm K
        · replace hm := am_if hm hc6
          refine am_steps ck_X5_fewestOf 1 (pc' := 64) (lv' := [(4, .long (z4 + (m a1 (am_ix q3)).toInt64)), (6, .int q3), (0, .ref a1), (1, .int y1), (2, .long y2), (7, .int z7)]) (st' := [.int z7]) rfl ?_
          cases hm
          exact am_end (am_fd ck_X5_fewestOf (pc := 64) rfl) am_rI rfl rfl
      · replace hm := am_if hm hc4
        refine am_steps ck_X5_fewestOf 1 (pc' := 37) (lv' := [(6, .int q3), (0, .ref a1), (1, .int y1), (2, .long y2), (4, .long z4), (7, .int z7)]) (st' := [.int (am_i (-1))]) rfl ?_
        cases hm
        exact am_end (am_fd ck_X5_fewestOf (pc := 37) rfl) am_rI rfl rfl
set_option maxRecDepth 100000 in
set_option maxHeartbeats 4000000 in
theorem x_X5_fewestOf {G : am_G} {m : am_m} {r : am_rr} {a1 : Nat} {x2 : Int32} {res : Int32} (hL : am_Lay r) (ha1 : am_k a1 11 64) (hm : m_X5_fewestOf m a1 x2 = some res) : am_Met G mt_X5_fewestOf 3 [.ref a1, .int x2] (am_hh m r) (some (.int res)) (am_hh m r) := by
  refine am_of (by decide) (Nat.le_of_ble_eq_true rfl) ?_
  unfold m_X5_fewestOf at hm
  show am_W G mt_X5_fewestOf 3 _ _ 0 [(0, .ref a1), (1, .int x2)] [] (am_hh m r)
  refine am_steps ck_X5_fewestOf 1 (pc' := 1) (lv' := [(0, .ref a1), (1, .int x2)]) (st' := [.ref a1]) rfl ?_
  obtain ⟨q1, hq1, hm⟩ := am_bE hm
  refine ms_callS (M2 := mt_X5_allOf) (d2 := 2) [.ref a1] (am_fd ck_X5_fewestOf (pc := 1) rfl) ok_X5_allOf tw_679 tw_586 (Nat.le_of_ble_eq_true rfl) (Nat.le_of_ble_eq_true rfl) (x_X5_allOf hL ha1 hq1) ?_
  refine am_steps ck_X5_fewestOf 8 (pc' := 15) (lv' := [(7, .int (am_i 1)), (6, .int (am_i (-1))), (4, .long (Int64.ofNat 0)), (2, .long q1.toInt64), (0, .ref a1), (1, .int x2)]) (st' := []) rfl ?_
  refine am_subp [4, 5, 3, 2, 1, 0] rfl ?_
  refine x_X5_fewestOf_15 hL ha1 am_F _ _ _ hm (fun hm => ?_)
  refine am_steps ck_X5_fewestOf 1 (pc' := 72) (lv' := []) (st' := [.int (am_i (-1))]) rfl ?_
  cases hm
  exact am_end (am_fd ck_X5_fewestOf (pc := 72) rfl) am_rI rfl rfl
set_option maxRecDepth 100000 in
set_option maxHeartbeats 4000000 in
theorem x_X5_startsRun {G : am_G} {m : am_m} {r : am_rr} {a1 : Nat} {x2 : Int32} {res : Int32} (hL : am_Lay r) (ha1 : am_k a1 11 64) (hm : m_X5_startsRun m a1 x2 = some res) : am_Met G mt_X5_startsRun 1 [.ref a1, .int x2] (am_hh m r) (some (.int res)) (am_hh m r) := by
  refine am_of (by decide) (Nat.le_of_ble_eq_true rfl) ?_
  unfold m_X5_startsRun at hm
  show am_W G mt_X5_startsRun 1 _ _ 0 [(0, .ref a1), (1, .int x2)] [] (am_hh m r)
  refine am_steps ck_X5_startsRun 2 (pc' := 2) (lv' := [(0, .ref a1), (1, .int x2)]) (st' := [.int x2, .ref a1]) rfl ?_
  obtain ⟨hb1, hm⟩ := am_gE hm
  refine ms_iald (n := 64) (am_fd ck_X5_startsRun (pc := 2) rfl) ha1 hb1 ?_
  refine am_ifc (tgt := 22) (am_fd ck_X5_startsRun (pc := 3) rfl) rfl (fun hc2 => ?_) (fun hc2 => ?_)
  · replace hm := am_it hm hc2
    refine am_steps ck_X5_startsRun 1 (pc' := 23) (lv' := [(0, .ref a1), (1, .int x2)]) (st' := [.int (am_i 0)]) rfl ?_
    cases hm
    exact am_end (am_fd ck_X5_startsRun (pc := 23) rfl) am_rZ0 rfl rfl
  · replace hm := am_if hm hc2
    refine am_steps ck_X5_startsRun 1 (pc' := 7) (lv' := [(0, .ref a1), (1, .int x2)]) (st' := [.int x2]) rfl ?_
    refine am_ifc (tgt := 18) (am_fd ck_X5_startsRun (pc := 7) rfl) rfl (fun hc3 => ?_) (fun hc3 => ?_)
    · replace hm := am_it hm hc3
      refine am_steps ck_X5_startsRun 2 (pc' := 23) (lv' := [(0, .ref a1), (1, .int x2)]) (st' := [.int (am_i 1)]) rfl ?_
      cases hm
      exact am_end (am_fd ck_X5_startsRun (pc := 23) rfl) am_rZ1 rfl rfl
    · replace hm := am_if hm hc3
      refine am_steps ck_X5_startsRun 4 (pc' := 14) (lv' := [(0, .ref a1), (1, .int x2)]) (st' := [.int (x2 - (am_i 1)), .ref a1]) rfl ?_
      obtain ⟨hb4, hm⟩ := am_gE hm
      refine ms_iald (n := 64) (am_fd ck_X5_startsRun (pc := 14) rfl) ha1 hb4 ?_
      refine am_ifc (tgt := 22) (am_fd ck_X5_startsRun (pc := 15) rfl) rfl (fun hc5 => ?_) (fun hc5 => ?_)
      · replace hm := am_it hm hc5
        refine am_steps ck_X5_startsRun 1 (pc' := 23) (lv' := [(0, .ref a1), (1, .int x2)]) (st' := [.int (am_i 0)]) rfl ?_
        cases hm
        exact am_end (am_fd ck_X5_startsRun (pc := 23) rfl) am_rZ0 rfl rfl
      · replace hm := am_if hm hc5
        refine am_steps ck_X5_startsRun 2 (pc' := 23) (lv' := [(0, .ref a1), (1, .int x2)]) (st' := [.int (am_i 1)]) rfl ?_
        cases hm
        exact am_end (am_fd ck_X5_startsRun (pc := 23) rfl) am_rZ1 rfl rfl
set_option maxRecDepth 100000 in
set_option maxHeartbeats 4000000 in
theorem x_X5_runCount_4 {G : am_G} {a1 : Nat} {m : am_m} {r : am_rr} {res : Int32} {k : Int32 → Option (Int32)} (hL : am_Lay r) (ha1 : am_k a1 11 64) : ∀ (n : Nat) (z1 : Int32) (z2 : Int32), m_X5_runCount_4 a1 m k n z1 z2 = some res → (∀ (u1 : Int32), k u1 = some res → am_W G mt_X5_runCount 2 (some (.int res)) (am_hh m r) 27 [(1, .int u1)] [] (am_hh m r)) → am_W G mt_X5_runCount 2 (some (.int res)) (am_hh m r) 4 [(0, .ref a1), (1, .int z1), (2, .int z2)] [] (am_hh m r) := by
  intro n
  induction n with
  | zero => intro z1 z2 hm K; cases hm
  | succ n ih =>
    intro z1 z2 hm K
    unfold m_X5_runCount_4 at hm
    refine am_steps ck_X5_runCount 2 (pc' := 7) (lv' := [(0, .ref a1), (1, .int z1), (2, .int z2)]) (st' := [.int (am_i 64), .int z2]) rfl ?_
    refine am_icmp (tgt := 27) (am_fd ck_X5_runCount (pc := 7) rfl) rfl (fun hc1 => ?_) (fun hc1 => ?_)
    · replace hm := am_it hm hc1
      refine am_subp [1] rfl ?_
      exact K _ hm
    · replace hm := am_if hm hc1
      refine am_steps ck_X5_runCount 2 (pc' := 12) (lv' := [(0, .ref a1), (1, .int z1), (2, .int z2)]) (st' := [.int z2, .ref a1]) rfl ?_
      obtain ⟨q2, hq2, hm⟩ := am_bE hm
      refine ms_callS (M2 := mt_X5_startsRun) (d2 := 1) [.ref a1, .int z2] (am_fd ck_X5_runCount (pc := 12) rfl) ok_X5_startsRun tw_702 tw_703 (Nat.le_of_ble_eq_true rfl) (Nat.le_of_ble_eq_true rfl) (x_X5_startsRun hL ha1 hq2) ?_
      refine am_ifc (tgt := 21) (am_fd ck_X5_runCount (pc := 15) rfl) rfl (fun hc3 => ?_) (fun hc3 => ?_)
      · replace hm := am_it hm hc3
        refine am_steps ck_X5_runCount 2 (pc' := 4) (lv' := [(2, .int (z2 + am_i 1)), (0, .ref a1), (1, .int z1)]) (st' := []) rfl ?_
        refine am_subp [1, 2, 0] rfl ?_
        exact ih _ _ hm K
      · replace hm := am_if hm hc3
        refine am_steps ck_X5_runCount 3 (pc' := 4) (lv' := [(2, .int (z2 + am_i 1)), (1, .int (z1 + am_i 1)), (0, .ref a1)]) (st' := []) rfl ?_
        refine am_subp [2, 1, 0] rfl ?_
        exact ih _ _ hm K
set_option maxRecDepth 100000 in
set_option maxHeartbeats 4000000 in
theorem x_X5_runCount {G : am_G} {m : am_m} {r : am_rr} {a1 : Nat} {res : Int32} (hL : am_Lay r) (ha1 : am_k a1 11 64) (hm : m_X5_runCount m a1 = some res) : am_Met G mt_X5_runCount 2 [.ref a1] (am_hh m r) (some (.int res)) (am_hh m r) := by
  refine am_of (by decide) (Nat.le_of_ble_eq_true rfl) ?_
  unfold m_X5_runCount at hm
  show am_W G mt_X5_runCount 2 _ _ 0 [(0, .ref a1)] [] (am_hh m r)
  refine am_steps ck_X5_runCount 4 (pc' := 4) (lv' := [(2, .int (am_i 0)), (1, .int (am_i 0)), (0, .ref a1)]) (st' := []) rfl ?_
  refine am_subp [2, 1, 0] rfl ?_
  refine x_X5_runCount_4 hL ha1 am_F _ _ hm (fun u4 hm => ?_)
  refine am_steps ck_X5_runCount 1 (pc' := 28) (lv' := [(1, .int u4)]) (st' := [.int u4]) rfl ?_
  cases hm
  exact am_end (am_fd ck_X5_runCount (pc := 28) rfl) am_rI rfl rfl
set_option maxRecDepth 100000 in
set_option maxHeartbeats 4000000 in
theorem x_X5_runEnd_2 {G : am_G} {a1 : Nat} {x2 : Int32} {m : am_m} {r : am_rr} {res : Int32} {k : Int32 → Option (Int32)} (hL : am_Lay r) (ha1 : am_k a1 11 64) : ∀ (n : Nat) (z2 : Int32), m_X5_runEnd_2 a1 x2 m k n z2 = some res → (∀ (u2 : Int32), k u2 = some res → am_W G mt_X5_runEnd 1 (some (.int res)) (am_hh m r) 24 [(2, .int u2)] [] (am_hh m r)) → am_W G mt_X5_runEnd 1 (some (.int res)) (am_hh m r) 2 [(0, .ref a1), (2, .int z2)] [] (am_hh m r) := by
  intro n
  induction n with
  | zero => intro z2 hm K; cases hm
  | succ n ih =>
    intro z2 hm K
    unfold m_X5_runEnd_2 at hm
    refine am_steps ck_X5_runEnd 4 (pc' := 7) (lv' := [(0, .ref a1), (2, .int z2)]) (st' := [.int (am_i 64), .int (z2 + (am_i 1))]) rfl ?_
    refine am_icmp (tgt := 24) (am_fd ck_X5_runEnd (pc := 7) rfl) rfl (fun hc1 => ?_) (fun hc1 => ?_)
    · replace hm := am_it hm hc1
      refine am_subp [1] rfl ?_
      exact K _ hm
    · replace hm := am_if hm hc1
      refine am_steps ck_X5_runEnd 4 (pc' := 14) (lv' := [(0, .ref a1), (2, .int z2)]) (st' := [.int (z2 + (am_i 1)), .ref a1]) rfl ?_
      obtain ⟨hb2, hm⟩ := am_gE hm
      refine ms_iald (n := 64) (am_fd ck_X5_runEnd (pc := 14) rfl) ha1 hb2 ?_
      refine am_ifc (tgt := 24) (am_fd ck_X5_runEnd (pc := 15) rfl) rfl (fun hc3 => ?_) (fun hc3 => ?_)
      · replace hm := am_it hm hc3
        refine am_subp [1] rfl ?_
        exact K _ hm
      · replace hm := am_if hm hc3
        refine am_steps ck_X5_runEnd 2 (pc' := 2) (lv' := [(2, .int (z2 + am_i 1)), (0, .ref a1)]) (st' := []) rfl ?_
        refine am_subp [1, 0] rfl ?_
        exact ih _ hm K
set_option maxRecDepth 100000 in
set_option maxHeartbeats 4000000 in
theorem x_X5_runEnd {G : am_G} {m : am_m} {r : am_rr} {a1 : Nat} {x2 : Int32} {res : Int32} (hL : am_Lay r) (ha1 : am_k a1 11 64) (hm : m_X5_runEnd m a1 x2 = some res) : am_Met G mt_X5_runEnd 1 [.ref a1, .int x2] (am_hh m r) (some (.int res)) (am_hh m r) := by
  refine am_of (by decide) (Nat.le_of_ble_eq_true rfl) ?_
  unfold m_X5_runEnd at hm
  show am_W G mt_X5_runEnd 1 _ _ 0 [(0, .ref a1), (1, .int x2)] [] (am_hh m r)
  refine am_steps ck_X5_runEnd 2 (pc' := 2) (lv' := [(2, .int x2), (0, .ref a1), (1, .int x2)]) (st' := []) rfl ?_
  refine am_subp [1, 0] rfl ?_
  refine x_X5_runEnd_2 hL ha1 am_F _ hm (fun u4 hm => ?_)
  refine am_steps ck_X5_runEnd 1 (pc' := 25) (lv' := [(2, .int u4)]) (st' := [.int u4]) rfl ?_
  cases hm
  exact am_end (am_fd ck_X5_runEnd (pc := 25) rfl) am_rI rfl rfl
set_option maxRecDepth 100000 in
set_option maxHeartbeats 4000000 in
theorem x_X5_greatestRun_7 {G : am_G} {a1 : Nat} {x2 : Int32} {m : am_m} {r : am_rr} {y1 : Int32} {res : Int32} {k : Int32 → Option (Int32)} (hL : am_Lay r) (ha1 : am_k a1 11 64) : ∀ (n : Nat) (z2 : Int32) (z3 : Int32) (z4 : Int32), m_X5_greatestRun_7 a1 x2 m y1 k n z2 z3 z4 = some res → (∀ (u2 : Int32), k u2 = some res → am_W G mt_X5_greatestRun 2 (some (.int res)) (am_hh m r) 76 [(2, .int u2)] [] (am_hh m r)) → am_W G mt_X5_greatestRun 2 (some (.int res)) (am_hh m r) 7 [(0, .ref a1), (1, .int y1), (2, .int z2), (3, .int z3), (4, .int z4)] [] (am_hh m r) := by
  intro n
  induction n with
  | zero => intro z2 z3 z4 hm K; cases hm
  | succ n ih =>
    intro z2 z3 z4 hm K
    unfold m_X5_greatestRun_7 at hm
    refine am_steps ck_X5_greatestRun 2 (pc' := 11) (lv' := [(0, .ref a1), (1, .int y1), (2, .int z2), (3, .int z3), (4, .int z4)]) (st' := [.int (am_i 64), .int z4]) rfl ?_
    refine am_icmp (tgt := 76) (am_fd ck_X5_greatestRun (pc := 11) rfl) rfl (fun hc1 => ?_) (fun hc1 => ?_)
    · replace hm := am_it hm hc1
      refine am_subp [2] rfl ?_
      exact K _ hm
    · replace hm := am_if hm hc1
      refine am_steps ck_X5_greatestRun 2 (pc' := 17) (lv' := [(0, .ref a1), (1, .int y1), (2, .int z2), (3, .int z3), (4, .int z4)]) (st' := [.int z4, .ref a1]) rfl ?_
      obtain ⟨q2, hq2, hm⟩ := am_bE hm
      refine ms_callS (M2 := mt_X5_startsRun) (d2 := 1) [.ref a1, .int z4] (am_fd ck_X5_greatestRun (pc := 17) rfl) ok_X5_startsRun tw_702 tw_703 (Nat.le_of_ble_eq_true rfl) (Nat.le_of_ble_eq_true rfl) (x_X5_startsRun hL ha1 hq2) ?_
      refine am_ifc (tgt := 26) (am_fd ck_X5_greatestRun (pc := 20) rfl) rfl (fun hc3 => ?_) (fun hc3 => ?_)
      · replace hm := am_it hm hc3
        refine am_steps ck_X5_greatestRun 2 (pc' := 29) (lv' := [(0, .ref a1), (1, .int y1), (2, .int z2), (3, .int z3), (4, .int z4)]) (st' := [.int z4, .ref a1]) rfl ?_
        obtain ⟨q4, hq4, hm⟩ := am_bE hm
        refine ms_callS (M2 := mt_X5_runEnd) (d2 := 1) [.ref a1, .int z4] (am_fd ck_X5_greatestRun (pc := 29) rfl) ok_X5_runEnd tw_711 tw_712 (Nat.le_of_ble_eq_true rfl) (Nat.le_of_ble_eq_true rfl) (x_X5_runEnd hL ha1 hq4) ?_
        refine am_steps ck_X5_greatestRun 2 (pc' := 35) (lv' := [(5, .int q4), (0, .ref a1), (1, .int y1), (2, .int z2), (3, .int z3), (4, .int z4)]) (st' := [.int y1]) rfl ?_
        refine am_ifc (tgt := 48) (am_fd ck_X5_greatestRun (pc := 35) rfl) rfl (fun hc5 => ?_) (fun hc5 => ?_)
        · replace hm := am_it hm hc5
          refine am_steps ck_X5_greatestRun 3 (pc' := 53) (lv' := [(5, .int q4), (0, .ref a1), (1, .int y1), (2, .int z2), (3, .int z3), (4, .int z4)]) (st' := [.int q4, .int z4, .ref a1]) rfl ?_
          obtain ⟨q6, hq6, hm⟩ := am_bE hm
          refine ms_callS (M2 := mt_X5_totalOf) (d2 := 1) [.ref a1, .int z4, .int q4] (am_fd ck_X5_greatestRun (pc := 53) rfl) ok_X5_totalOf tw_588 tw_522 (Nat.le_of_ble_eq_true rfl) (Nat.le_of_ble_eq_true rfl) (x_X5_totalOf hL ha1 hq6) ?_
          refine am_steps ck_X5_greatestRun 3 (pc' := 61) (lv' := [(6, .int q6), (5, .int q4), (0, .ref a1), (1, .int y1), (2, .int z2), (3, .int z3), (4, .int z4)]) (st' := [.int z3, .int q6]) rfl ?_
          refine am_icmp (tgt := 70) (am_fd ck_X5_greatestRun (pc := 61) rfl) rfl (fun hc7 => ?_) (fun hc7 => ?_)
          · replace hm := am_it hm hc7
            refine am_steps ck_X5_greatestRun 2 (pc' := 7) (lv' := [(4, .int (z4 + am_i 1)), (6, .int q6), (5, .int q4), (0, .ref a1), (1, .int y1), (2, .int z2), (3, .int z3)]) (st' := []) rfl ?_
            refine am_subp [3, 4, 5, 6, 0] rfl ?_
            exact ih _ _ _ hm K
          · replace hm := am_if hm hc7
            refine am_steps ck_X5_greatestRun 6 (pc' := 7) (lv' := [(4, .int (z4 + am_i 1)), (3, .int q6), (2, .int z4), (6, .int q6), (5, .int q4), (0, .ref a1), (1, .int y1)]) (st' := []) rfl ?_
            refine am_subp [5, 6, 2, 1, 0] rfl ?_
            exact ih _ _ _ hm K
        · replace hm := am_if hm hc5
          refine am_steps ck_X5_greatestRun 9 (pc' := 61) (lv' := [(6, .int ((q4 - z4) + (am_i 1))), (5, .int q4), (0, .ref a1), (1, .int y1), (2, .int z2), (3, .int z3), (4, .int z4)]) (st' := [.int z3, .int ((q4 - z4) + (am_i 1))]) rfl ?_
          refine am_icmp (tgt := 70) (am_fd ck_X5_greatestRun (pc := 61) rfl) rfl (fun hc8 => ?_) (fun hc8 => ?_)
          · replace hm := am_it hm hc8
            refine am_steps ck_X5_greatestRun 2 (pc' := 7) (lv' := [(4, .int (z4 + am_i 1)), (6, .int ((q4 - z4) + (am_i 1))), (5, .int q4), (0, .ref a1), (1, .int y1), (2, .int z2), (3, .int z3)]) (st' := []) rfl ?_
            refine am_subp [3, 4, 5, 6, 0] rfl ?_
            exact ih _ _ _ hm K
          · replace hm := am_if hm hc8
            refine am_steps ck_X5_greatestRun 6 (pc' := 7) (lv' := [(4, .int (z4 + am_i 1)), (3, .int ((q4 - z4) + (am_i 1))), (2, .int z4), (6, .int ((q4 - z4) + (am_i 1))), (5, .int q4), (0, .ref a1), (1, .int y1)]) (st' := []) rfl ?_
            refine am_subp [5, 6, 2, 1, 0] rfl ?_
            exact ih _ _ _ hm K
      · replace hm := am_if hm hc3
        refine am_steps ck_X5_greatestRun 3 (pc' := 7) (lv' := [(4, .int (z4 + am_i 1)), (0, .ref a1), (1, .int y1), (2, .int z2), (3, .int z3)]) (st' := []) rfl ?_
        refine am_subp [1, 2, 3, 4, 0] rfl ?_
        exact ih _ _ _ hm K
set_option maxRecDepth 100000 in
set_option maxHeartbeats 4000000 in
theorem x_X5_greatestRun {G : am_G} {m : am_m} {r : am_rr} {a1 : Nat} {x2 : Int32} {res : Int32} (hL : am_Lay r) (ha1 : am_k a1 11 64) (hm : m_X5_greatestRun m a1 x2 = some res) : am_Met G mt_X5_greatestRun 2 [.ref a1, .int x2] (am_hh m r) (some (.int res)) (am_hh m r) := by
  refine am_of (by decide) (Nat.le_of_ble_eq_true rfl) ?_
  unfold m_X5_greatestRun at hm
  show am_W G mt_X5_greatestRun 2 _ _ 0 [(0, .ref a1), (1, .int x2)] [] (am_hh m r)
  refine am_steps ck_X5_greatestRun 6 (pc' := 7) (lv' := [(4, .int (am_i 0)), (3, .int (am_i 0)), (2, .int (am_i (-1))), (0, .ref a1), (1, .int x2)]) (st' := []) rfl ?_
  refine am_subp [3, 4, 2, 1, 0] rfl ?_
  refine x_X5_greatestRun_7 hL ha1 am_F _ _ _ hm (fun u9 hm => ?_)
  refine am_steps ck_X5_greatestRun 1 (pc' := 77) (lv' := [(2, .int u9)]) (st' := [.int u9]) rfl ?_
  cases hm
  exact am_end (am_fd ck_X5_greatestRun (pc := 77) rfl) am_rI rfl rfl
set_option maxRecDepth 100000 in
set_option maxHeartbeats 4000000 in
theorem x_X5_runAt_32 {G : am_G} {a1 : Nat} {x2 : Int32} {m : am_m} {r : am_rr} {y1 : Int32} {res : Int32} {k : Option (Int32)} (hL : am_Lay r) (ha1 : am_k a1 11 64) : ∀ (n : Nat) (z2 : Int32) (z3 : Int32), m_X5_runAt_32 a1 x2 m y1 k n z2 z3 = some res → (k = some res → am_W G mt_X5_runAt 3 (some (.int res)) (am_hh m r) 65 [] [] (am_hh m r)) → am_W G mt_X5_runAt 3 (some (.int res)) (am_hh m r) 32 [(0, .ref a1), (1, .int y1), (2, .int z2), (3, .int z3)] [] (am_hh m r) := by
  intro n
  induction n with
  | zero => intro z2 z3 hm K; cases hm
  | succ n ih =>
    intro z2 z3 hm K
    unfold m_X5_runAt_32 at hm
    refine am_steps ck_X5_runAt 2 (pc' := 35) (lv' := [(0, .ref a1), (1, .int y1), (2, .int z2), (3, .int z3)]) (st' := [.int (am_i 64), .int z3]) rfl ?_
    refine am_icmp (tgt := 65) (am_fd ck_X5_runAt (pc := 35) rfl) rfl (fun hc6 => ?_) (fun hc6 => ?_)
    · replace hm := am_it hm hc6
      refine am_subp [] rfl ?_
      exact K hm
    · replace hm := am_if hm hc6
      refine am_steps ck_X5_runAt 2 (pc' := 40) (lv' := [(0, .ref a1), (1, .int y1), (2, .int z2), (3, .int z3)]) (st' := [.int z3, .ref a1]) rfl ?_
      obtain ⟨q7, hq7, hm⟩ := am_bE hm
      refine ms_callS (M2 := mt_X5_startsRun) (d2 := 1) [.ref a1, .int z3] (am_fd ck_X5_runAt (pc := 40) rfl) ok_X5_startsRun tw_702 tw_703 (Nat.le_of_ble_eq_true rfl) (Nat.le_of_ble_eq_true rfl) (x_X5_startsRun hL ha1 hq7) ?_
      refine am_ifc (tgt := 49) (am_fd ck_X5_runAt (pc := 43) rfl) rfl (fun hc8 => ?_) (fun hc8 => ?_)
      · replace hm := am_it hm hc8
        refine am_steps ck_X5_runAt 2 (pc' := 51) (lv' := [(0, .ref a1), (1, .int y1), (2, .int z2), (3, .int z3)]) (st' := [.int y1, .int z2]) rfl ?_
        refine am_icmp (tgt := 56) (am_fd ck_X5_runAt (pc := 51) rfl) rfl (fun hc9 => ?_) (fun hc9 => ?_)
        · replace hm := am_it hm hc9
          refine am_steps ck_X5_runAt 3 (pc' := 32) (lv' := [(3, .int (z3 + am_i 1)), (2, .int (z2 + am_i 1)), (0, .ref a1), (1, .int y1)]) (st' := []) rfl ?_
          refine am_subp [2, 3, 1, 0] rfl ?_
          exact ih _ _ hm K
        · replace hm := am_if hm hc9
          refine am_steps ck_X5_runAt 1 (pc' := 55) (lv' := [(0, .ref a1), (1, .int y1), (2, .int z2), (3, .int z3)]) (st' := [.int z3]) rfl ?_
          cases hm
          exact am_end (am_fd ck_X5_runAt (pc := 55) rfl) am_rI rfl rfl
      · replace hm := am_if hm hc8
        refine am_steps ck_X5_runAt 3 (pc' := 32) (lv' := [(3, .int (z3 + am_i 1)), (0, .ref a1), (1, .int y1), (2, .int z2)]) (st' := []) rfl ?_
        refine am_subp [1, 2, 3, 0] rfl ?_
        exact ih _ _ hm K
set_option maxRecDepth 100000 in
set_option maxHeartbeats 4000000 in
theorem x_X5_runAt {G : am_G} {m : am_m} {r : am_rr} {a1 : Nat} {x2 : Int32} {res : Int32} (hL : am_Lay r) (ha1 : am_k a1 11 64) (hm : m_X5_runAt m a1 x2 = some res) : am_Met G mt_X5_runAt 3 [.ref a1, .int x2] (am_hh m r) (some (.int res)) (am_hh m r) := by
  refine am_of (by decide) (Nat.le_of_ble_eq_true rfl) ?_
  unfold m_X5_runAt at hm
  show am_W G mt_X5_runAt 3 _ _ 0 [(0, .ref a1), (1, .int x2)] [] (am_hh m r)
  refine am_steps ck_X5_runAt 2 (pc' := 3) (lv' := [(0, .ref a1), (1, .int x2)]) (st' := [.int (am_i (-2)), .int x2]) rfl ?_
  refine am_icmp (tgt := 12) (am_fd ck_X5_runAt (pc := 3) rfl) rfl (fun hc1 => ?_) (fun hc1 => ?_)
  · replace hm := am_it hm hc1
    refine am_steps ck_X5_runAt 3 (pc' := 16) (lv' := [(0, .ref a1), (1, .int x2)]) (st' := [.int (am_i (-2)), .int x2, .ref a1]) rfl ?_
    refine am_icmp (tgt := 23) (am_fd ck_X5_runAt (pc := 16) rfl) rfl (fun hc2 => ?_) (fun hc2 => ?_)
    · replace hm := am_it hm hc2
      refine am_steps ck_X5_runAt 1 (pc' := 24) (lv' := [(0, .ref a1), (1, .int x2)]) (st' := [.int (am_i 0), .ref a1]) rfl ?_
      obtain ⟨q3, hq3, hm⟩ := am_bE hm
      refine ms_callS (M2 := mt_X5_greatestRun) (d2 := 2) [.ref a1, .int (am_i 0)] (am_fd ck_X5_runAt (pc := 24) rfl) ok_X5_greatestRun tw_708 tw_709 (Nat.le_of_ble_eq_true rfl) (Nat.le_of_ble_eq_true rfl) (x_X5_greatestRun hL ha1 hq3) ?_
      cases hm
      exact am_end (am_fd ck_X5_runAt (pc := 27) rfl) am_rI rfl rfl
    · replace hm := am_if hm hc2
      refine am_steps ck_X5_runAt 2 (pc' := 24) (lv' := [(0, .ref a1), (1, .int x2)]) (st' := [.int (am_i 1), .ref a1]) rfl ?_
      obtain ⟨q4, hq4, hm⟩ := am_bE hm
      refine ms_callS (M2 := mt_X5_greatestRun) (d2 := 2) [.ref a1, .int (am_i 1)] (am_fd ck_X5_runAt (pc := 24) rfl) ok_X5_greatestRun tw_708 tw_709 (Nat.le_of_ble_eq_true rfl) (Nat.le_of_ble_eq_true rfl) (x_X5_greatestRun hL ha1 hq4) ?_
      cases hm
      exact am_end (am_fd ck_X5_runAt (pc := 27) rfl) am_rI rfl rfl
  · replace hm := am_if hm hc1
    refine am_steps ck_X5_runAt 2 (pc' := 9) (lv' := [(0, .ref a1), (1, .int x2)]) (st' := [.int (am_i (-3)), .int x2]) rfl ?_
    refine am_icmp (tgt := 28) (am_fd ck_X5_runAt (pc := 9) rfl) rfl (fun hc5 => ?_) (fun hc5 => ?_)
    · replace hm := am_it hm hc5
      refine am_steps ck_X5_runAt 4 (pc' := 32) (lv' := [(3, .int (am_i 0)), (2, .int (am_i 0)), (0, .ref a1), (1, .int x2)]) (st' := []) rfl ?_
      refine am_subp [2, 3, 1, 0] rfl ?_
      refine x_X5_runAt_32 hL ha1 am_F _ _ hm (fun hm => ?_)
      refine am_steps ck_X5_runAt 1 (pc' := 66) (lv' := []) (st' := [.int (am_i (-1))]) rfl ?_
      cases hm
      exact am_end (am_fd ck_X5_runAt (pc := 66) rfl) am_rI rfl rfl
    · replace hm := am_if hm hc5
      refine am_steps ck_X5_runAt 3 (pc' := 16) (lv' := [(0, .ref a1), (1, .int x2)]) (st' := [.int (am_i (-2)), .int x2, .ref a1]) rfl ?_
      refine am_icmp (tgt := 23) (am_fd ck_X5_runAt (pc := 16) rfl) rfl (fun hc10 => ?_) (fun hc10 => ?_)
      · replace hm := am_it hm hc10
        refine am_steps ck_X5_runAt 1 (pc' := 24) (lv' := [(0, .ref a1), (1, .int x2)]) (st' := [.int (am_i 0), .ref a1]) rfl ?_
        obtain ⟨q11, hq11, hm⟩ := am_bE hm
        refine ms_callS (M2 := mt_X5_greatestRun) (d2 := 2) [.ref a1, .int (am_i 0)] (am_fd ck_X5_runAt (pc := 24) rfl) ok_X5_greatestRun tw_708 tw_709 (Nat.le_of_ble_eq_true rfl) (Nat.le_of_ble_eq_true rfl) (x_X5_greatestRun hL ha1 hq11) ?_
        cases hm
        exact am_end (am_fd ck_X5_runAt (pc := 27) rfl) am_rI rfl rfl
      · replace hm := am_if hm hc10
        refine am_steps ck_X5_runAt 2 (pc' := 24) (lv' := [(0, .ref a1), (1, .int x2)]) (st' := [.int (am_i 1), .ref a1]) rfl ?_
        obtain ⟨q12, hq12, hm⟩ := am_bE hm
        refine ms_callS (M2 := mt_X5_greatestRun) (d2 := 2) [.ref a1, .int (am_i 1)] (am_fd ck_X5_runAt (pc := 24) rfl) ok_X5_greatestRun tw_708 tw_709 (Nat.le_of_ble_eq_true rfl) (Nat.le_of_ble_eq_true rfl) (x_X5_greatestRun hL ha1 hq12) ?_
        cases hm
        exact am_end (am_fd ck_X5_runAt (pc := 27) rfl) am_rI rfl rfl
set_option maxRecDepth 100000 in
set_option maxHeartbeats 4000000 in
theorem x_J6_bitCount_0f7a4 {G : am_G} {m : am_m} {r : am_rr} {x1 : Int32} {res : Int32} (hL : am_Lay r) (hm : m_J6_bitCount_0f7a4 m x1 = some res) : am_Met G mt_J6_bitCount_0f7a4 1 [.int x1] (am_hh m r) (some (.int res)) (am_hh m r) := by
  refine am_of (by decide) (Nat.le_of_ble_eq_true rfl) ?_
  unfold m_J6_bitCount_0f7a4 at hm
  show am_W G mt_J6_bitCount_0f7a4 1 _ _ 0 [(0, .int x1)] [] (am_hh m r)
  refine am_steps ck_J6_bitCount_0f7a4 4 (pc' := 4) (lv' := [(0, .int x1)]) (st' := [.int ((x1.toUInt32 >>> ((am_i 1).toUInt32 &&& Int32.toUInt32 31)).toInt32), .int x1]) rfl ?_
  refine am_ldcw (am_fd ck_J6_bitCount_0f7a4 (pc := 4) rfl) tw_480 ?_
  refine am_steps ck_J6_bitCount_0f7a4 4 (pc' := 11) (lv' := [(0, .int (x1 - (((x1.toUInt32 >>> ((am_i 1).toUInt32 &&& Int32.toUInt32 31)).toInt32) &&& (am_i 1431655765))))]) (st' := [.int (x1 - (((x1.toUInt32 >>> ((am_i 1).toUInt32 &&& Int32.toUInt32 31)).toInt32) &&& (am_i 1431655765)))]) rfl ?_
  refine am_ldcw (am_fd ck_J6_bitCount_0f7a4 (pc := 11) rfl) tw_481 ?_
  refine am_steps ck_J6_bitCount_0f7a4 4 (pc' := 18) (lv' := [(0, .int (x1 - (((x1.toUInt32 >>> ((am_i 1).toUInt32 &&& Int32.toUInt32 31)).toInt32) &&& (am_i 1431655765))))]) (st' := [.int (((x1 - (((x1.toUInt32 >>> ((am_i 1).toUInt32 &&& Int32.toUInt32 31)).toInt32) &&& (am_i 1431655765))).toUInt32 >>> ((am_i 2).toUInt32 &&& Int32.toUInt32 31)).toInt32), .int ((x1 - (((x1.toUInt32 >>> ((am_i 1).toUInt32 &&& Int32.toUInt32 31)).toInt32) &&& (am_i 1431655765))) &&& (am_i 858993459))]) rfl ?_
  refine am_ldcw (am_fd ck_J6_bitCount_0f7a4 (pc := 18) rfl) tw_481 ?_
  refine am_steps ck_J6_bitCount_0f7a4 8 (pc' := 29) (lv' := [(0, .int (((x1 - (((x1.toUInt32 >>> ((am_i 1).toUInt32 &&& Int32.toUInt32 31)).toInt32) &&& (am_i 1431655765))) &&& (am_i 858993459)) + ((((x1 - (((x1.toUInt32 >>> ((am_i 1).toUInt32 &&& Int32.toUInt32 31)).toInt32) &&& (am_i 1431655765))).toUInt32 >>> ((am_i 2).toUInt32 &&& Int32.toUInt32 31)).toInt32) &&& (am_i 858993459))))]) (st' := [.int ((((x1 - (((x1.toUInt32 >>> ((am_i 1).toUInt32 &&& Int32.toUInt32 31)).toInt32) &&& (am_i 1431655765))) &&& (am_i 858993459)) + ((((x1 - (((x1.toUInt32 >>> ((am_i 1).toUInt32 &&& Int32.toUInt32 31)).toInt32) &&& (am_i 1431655765))).toUInt32 >>> ((am_i 2).toUInt32 &&& Int32.toUInt32 31)).toInt32) &&& (am_i 858993459))) + (((((x1 - (((x1.toUInt32 >>> ((am_i 1).toUInt32 &&& Int32.toUInt32 31)).toInt32) &&& (am_i 1431655765))) &&& (am_i 858993459)) + ((((x1 - (((x1.toUInt32 >>> ((am_i 1).toUInt32 &&& Int32.toUInt32 31)).toInt32) &&& (am_i 1431655765))).toUInt32 >>> ((am_i 2).toUInt32 &&& Int32.toUInt32 31)).toInt32) &&& (am_i 858993459))).toUInt32 >>> ((am_i 4).toUInt32 &&& Int32.toUInt32 31)).toInt32))]) rfl ?_
  refine am_ldcw (am_fd ck_J6_bitCount_0f7a4 (pc := 29) rfl) tw_482 ?_
  refine am_steps ck_J6_bitCount_0f7a4 17 (pc' := 52) (lv' := [(0, .int (((((((x1 - (((x1.toUInt32 >>> ((am_i 1).toUInt32 &&& Int32.toUInt32 31)).toInt32) &&& (am_i 1431655765))) &&& (am_i 858993459)) + ((((x1 - (((x1.toUInt32 >>> ((am_i 1).toUInt32 &&& Int32.toUInt32 31)).toInt32) &&& (am_i 1431655765))).toUInt32 >>> ((am_i 2).toUInt32 &&& Int32.toUInt32 31)).toInt32) &&& (am_i 858993459))) + (((((x1 - (((x1.toUInt32 >>> ((am_i 1).toUInt32 &&& Int32.toUInt32 31)).toInt32) &&& (am_i 1431655765))) &&& (am_i 858993459)) + ((((x1 - (((x1.toUInt32 >>> ((am_i 1).toUInt32 &&& Int32.toUInt32 31)).toInt32) &&& (am_i 1431655765))).toUInt32 >>> ((am_i 2).toUInt32 &&& Int32.toUInt32 31)).toInt32) &&& (am_i 858993459))).toUInt32 >>> ((am_i 4).toUInt32 &&& Int32.toUInt32 31)).toInt32)) &&& (am_i 252645135)) + (((((((x1 - (((x1.toUInt32 >>> ((am_i 1).toUInt32 &&& Int32.toUInt32 31)).toInt32) &&& (am_i 1431655765))) &&& (am_i 858993459)) + ((((x1 - (((x1.toUInt32 >>> ((am_i 1).toUInt32 &&& Int32.toUInt32 31)).toInt32) &&& (am_i 1431655765))).toUInt32 >>> ((am_i 2).toUInt32 &&& Int32.toUInt32 31)).toInt32) &&& (am_i 858993459))) + (((((x1 - (((x1.toUInt32 >>> ((am_i 1).toUInt32 &&& Int32.toUInt32 31)).toInt32) &&& (am_i 1431655765))) &&& (am_i 858993459)) + ((((x1 - (((x1.toUInt32 >>> ((am_i 1).toUInt32 &&& Int32.toUInt32 31)).toInt32) &&& (am_i 1431655765))).toUInt32 >>> ((am_i 2).toUInt32 &&& Int32.toUInt32 31)).toInt32) &&& (am_i 858993459))).toUInt32 >>> ((am_i 4).toUInt32 &&& Int32.toUInt32 31)).toInt32)) &&& (am_i 252645135)).toUInt32 >>> ((am_i 8).toUInt32 &&& Int32.toUInt32 31)).toInt32)) + ((((((((x1 - (((x1.toUInt32 >>> ((am_i 1).toUInt32 &&& Int32.toUInt32 31)).toInt32) &&& (am_i 1431655765))) &&& (am_i 858993459)) + ((((x1 - (((x1.toUInt32 >>> ((am_i 1).toUInt32 &&& Int32.toUInt32 31)).toInt32) &&& (am_i 1431655765))).toUInt32 >>> ((am_i 2).toUInt32 &&& Int32.toUInt32 31)).toInt32) &&& (am_i 858993459))) + (((((x1 - (((x1.toUInt32 >>> ((am_i 1).toUInt32 &&& Int32.toUInt32 31)).toInt32) &&& (am_i 1431655765))) &&& (am_i 858993459)) + ((((x1 - (((x1.toUInt32 >>> ((am_i 1).toUInt32 &&& Int32.toUInt32 31)).toInt32) &&& (am_i 1431655765))).toUInt32 >>> ((am_i 2).toUInt32 &&& Int32.toUInt32 31)).toInt32) &&& (am_i 858993459))).toUInt32 >>> ((am_i 4).toUInt32 &&& Int32.toUInt32 31)).toInt32)) &&& (am_i 252645135)) + (((((((x1 - (((x1.toUInt32 >>> ((am_i 1).toUInt32 &&& Int32.toUInt32 31)).toInt32) &&& (am_i 1431655765))) &&& (am_i 858993459)) + ((((x1 - (((x1.toUInt32 >>> ((am_i 1).toUInt32 &&& Int32.toUInt32 31)).toInt32) &&& (am_i 1431655765))).toUInt32 >>> ((am_i 2).toUInt32 &&& Int32.toUInt32 31)).toInt32) &&& (am_i 858993459))) + (((((x1 - (((x1.toUInt32 >>> ((am_i 1).toUInt32 &&& Int32.toUInt32 31)).toInt32) &&& (am_i 1431655765))) &&& (am_i 858993459)) + ((((x1 - (((x1.toUInt32 >>> ((am_i 1).toUInt32 &&& Int32.toUInt32 31)).toInt32) &&& (am_i 1431655765))).toUInt32 >>> ((am_i 2).toUInt32 &&& Int32.toUInt32 31)).toInt32) &&& (am_i 858993459))).toUInt32 >>> ((am_i 4).toUInt32 &&& Int32.toUInt32 31)).toInt32)) &&& (am_i 252645135)).toUInt32 >>> ((am_i 8).toUInt32 &&& Int32.toUInt32 31)).toInt32)).toUInt32 >>> ((am_i 16).toUInt32 &&& Int32.toUInt32 31)).toInt32)))]) (st' := [.int ((((((((x1 - (((x1.toUInt32 >>> ((am_i 1).toUInt32 &&& Int32.toUInt32 31)).toInt32) &&& (am_i 1431655765))) &&& (am_i 858993459)) + ((((x1 - (((x1.toUInt32 >>> ((am_i 1).toUInt32 &&& Int32.toUInt32 31)).toInt32) &&& (am_i 1431655765))).toUInt32 >>> ((am_i 2).toUInt32 &&& Int32.toUInt32 31)).toInt32) &&& (am_i 858993459))) + (((((x1 - (((x1.toUInt32 >>> ((am_i 1).toUInt32 &&& Int32.toUInt32 31)).toInt32) &&& (am_i 1431655765))) &&& (am_i 858993459)) + ((((x1 - (((x1.toUInt32 >>> ((am_i 1).toUInt32 &&& Int32.toUInt32 31)).toInt32) &&& (am_i 1431655765))).toUInt32 >>> ((am_i 2).toUInt32 &&& Int32.toUInt32 31)).toInt32) &&& (am_i 858993459))).toUInt32 >>> ((am_i 4).toUInt32 &&& Int32.toUInt32 31)).toInt32)) &&& (am_i 252645135)) + (((((((x1 - (((x1.toUInt32 >>> ((am_i 1).toUInt32 &&& Int32.toUInt32 31)).toInt32) &&& (am_i 1431655765))) &&& (am_i 858993459)) + ((((x1 - (((x1.toUInt32 >>> ((am_i 1).toUInt32 &&& Int32.toUInt32 31)).toInt32) &&& (am_i 1431655765))).toUInt32 >>> ((am_i 2).toUInt32 &&& Int32.toUInt32 31)).toInt32) &&& (am_i 858993459))) + (((((x1 - (((x1.toUInt32 >>> ((am_i 1).toUInt32 &&& Int32.toUInt32 31)).toInt32) &&& (am_i 1431655765))) &&& (am_i 858993459)) + ((((x1 - (((x1.toUInt32 >>> ((am_i 1).toUInt32 &&& Int32.toUInt32 31)).toInt32) &&& (am_i 1431655765))).toUInt32 >>> ((am_i 2).toUInt32 &&& Int32.toUInt32 31)).toInt32) &&& (am_i 858993459))).toUInt32 >>> ((am_i 4).toUInt32 &&& Int32.toUInt32 31)).toInt32)) &&& (am_i 252645135)).toUInt32 >>> ((am_i 8).toUInt32 &&& Int32.toUInt32 31)).toInt32)) + ((((((((x1 - (((x1.toUInt32 >>> ((am_i 1).toUInt32 &&& Int32.toUInt32 31)).toInt32) &&& (am_i 1431655765))) &&& (am_i 858993459)) + ((((x1 - (((x1.toUInt32 >>> ((am_i 1).toUInt32 &&& Int32.toUInt32 31)).toInt32) &&& (am_i 1431655765))).toUInt32 >>> ((am_i 2).toUInt32 &&& Int32.toUInt32 31)).toInt32) &&& (am_i 858993459))) + (((((x1 - (((x1.toUInt32 >>> ((am_i 1).toUInt32 &&& Int32.toUInt32 31)).toInt32) &&& (am_i 1431655765))) &&& (am_i 858993459)) + ((((x1 - (((x1.toUInt32 >>> ((am_i 1).toUInt32 &&& Int32.toUInt32 31)).toInt32) &&& (am_i 1431655765))).toUInt32 >>> ((am_i 2).toUInt32 &&& Int32.toUInt32 31)).toInt32) &&& (am_i 858993459))).toUInt32 >>> ((am_i 4).toUInt32 &&& Int32.toUInt32 31)).toInt32)) &&& (am_i 252645135)) + (((((((x1 - (((x1.toUInt32 >>> ((am_i 1).toUInt32 &&& Int32.toUInt32 31)).toInt32) &&& (am_i 1431655765))) &&& (am_i 858993459)) + ((((x1 - (((x1.toUInt32 >>> ((am_i 1).toUInt32 &&& Int32.toUInt32 31)).toInt32) &&& (am_i 1431655765))).toUInt32 >>> ((am_i 2).toUInt32 &&& Int32.toUInt32 31)).toInt32) &&& (am_i 858993459))) + (((((x1 - (((x1.toUInt32 >>> ((am_i 1).toUInt32 &&& Int32.toUInt32 31)).toInt32) &&& (am_i 1431655765))) &&& (am_i 858993459)) + ((((x1 - (((x1.toUInt32 >>> ((am_i 1).toUInt32 &&& Int32.toUInt32 31)).toInt32) &&& (am_i 1431655765))).toUInt32 >>> ((am_i 2).toUInt32 &&& Int32.toUInt32 31)).toInt32) &&& (am_i 858993459))).toUInt32 >>> ((am_i 4).toUInt32 &&& Int32.toUInt32 31)).toInt32)) &&& (am_i 252645135)).toUInt32 >>> ((am_i 8).toUInt32 &&& Int32.toUInt32 31)).toInt32)).toUInt32 >>> ((am_i 16).toUInt32 &&& Int32.toUInt32 31)).toInt32)) &&& (am_i 63))]) rfl ?_
  cases hm
  exact am_end (am_fd ck_J6_bitCount_0f7a4 (pc := 52) rfl) am_rI rfl rfl
set_option maxRecDepth 100000 in
set_option maxHeartbeats 4000000 in
theorem x_X5_halvingOf_30 {G : am_G} {a1 : Nat} {x2 : Int32} {m : am_m} {r : am_rr} {y2 : Int32} {res : Int32} {k : Int32 → Option (Int32)} (hL : am_Lay r) (ha1 : am_k a1 11 64) : ∀ (n : Nat) (z3 : Int32) (z4 : Int32) (z5 : Int32) (z6 : Int32), m_X5_halvingOf_30 a1 x2 m y2 k n z3 z4 z5 z6 = some res → (∀ (u3 : Int32), k u3 = some res → am_W G mt_X5_halvingOf 2 (some (.int res)) (am_hh m r) 98 [(3, .int u3)] [] (am_hh m r)) → am_W G mt_X5_halvingOf 2 (some (.int res)) (am_hh m r) 30 [(0, .ref a1), (2, .int y2), (3, .int z3), (4, .int z4), (5, .int z5), (6, .int z6)] [] (am_hh m r) := by
  intro n
  induction n with
  | zero => intro z3 z4 z5 z6 hm K; cases hm
  | succ n ih =>
    intro z3 z4 z5 z6 hm K
    unfold m_X5_halvingOf_30 at hm
    refine am_steps ck_X5_halvingOf 4 (pc' := 35) (lv' := [(0, .ref a1), (2, .int y2), (3, .int z3), (4, .int z4), (5, .int z5), (6, .int z6)]) (st' := [.int ((am_i 1) <<< (y2 &&& 31)), .int z6]) rfl ?_
    refine am_icmp (tgt := 98) (am_fd ck_X5_halvingOf (pc := 35) rfl) rfl (fun hc2 => ?_) (fun hc2 => ?_)
    · replace hm := am_it hm hc2
      refine am_subp [2] rfl ?_
      exact K _ hm
    · replace hm := am_if hm hc2
      refine am_steps ck_X5_halvingOf 6 (pc' := 46) (lv' := [(0, .ref a1), (2, .int y2), (3, .int z3), (4, .int z4), (5, .int z5), (6, .int z6)]) (st' := [.int ((z6 &&& (-z6)) - (am_i 1))]) rfl ?_
      obtain ⟨q3, hq3, hm⟩ := am_bE hm
      refine ms_callS (M2 := mt_J6_bitCount_0f7a4) (d2 := 1) [.int ((z6 &&& (-z6)) - (am_i 1))] (am_fd ck_X5_halvingOf (pc := 46) rfl) ok_J6_bitCount_0f7a4 tw_787 tw_478 (Nat.le_of_ble_eq_true rfl) (Nat.le_of_ble_eq_true rfl) (x_J6_bitCount_0f7a4 hL hq3) ?_
      refine am_steps ck_X5_halvingOf 5 (pc' := 57) (lv' := [(7, .int q3), (0, .ref a1), (2, .int y2), (3, .int z3), (4, .int z4), (5, .int z5), (6, .int z6)]) (st' := [.int q3, .ref a1, .int (am_i 2), .int z4]) rfl ?_
      obtain ⟨hb4, hm⟩ := am_gE hm
      refine ms_iald (n := 64) (am_fd ck_X5_halvingOf (pc := 57) rfl) ha1 hb4 ?_
      refine am_steps ck_X5_halvingOf 5 (pc' := 64) (lv' := [(7, .int q3), (0, .ref a1), (2, .int y2), (3, .int z3), (4, .int z4), (5, .int z5), (6, .int z6)]) (st' := [.int (q3 - (am_i 1)), .int (am_i 0), .ref a1, .int (m a1 (am_ix q3)), .int (am_i 2), .int z4]) rfl ?_
      obtain ⟨q5, hq5, hm⟩ := am_bE hm
      refine ms_callS (M2 := mt_X5_totalOf) (d2 := 1) [.ref a1, .int (am_i 0), .int (q3 - (am_i 1))] (am_fd ck_X5_halvingOf (pc := 64) rfl) ok_X5_totalOf tw_588 tw_522 (Nat.le_of_ble_eq_true rfl) (Nat.le_of_ble_eq_true rfl) (x_X5_totalOf hL ha1 hq5) ?_
      refine am_steps ck_X5_halvingOf 5 (pc' := 74) (lv' := [(4, .int (z4 + ((am_i 2) * ((m a1 (am_ix q3)) - q5)))), (7, .int q3), (0, .ref a1), (2, .int y2), (3, .int z3), (5, .int z5), (6, .int z6)]) (st' := [.int (z4 + ((am_i 2) * ((m a1 (am_ix q3)) - q5)))]) rfl ?_
      refine am_mabs (am_fd ck_X5_halvingOf (pc := 74) rfl) tw_582 mth_abs_s mth_ini mth_abs_c (Nat.le_of_ble_eq_true rfl) (Nat.le_of_ble_eq_true rfl) ?_
      refine am_steps ck_X5_halvingOf 1 (pc' := 79) (lv' := [(4, .int (z4 + ((am_i 2) * ((m a1 (am_ix q3)) - q5)))), (7, .int q3), (0, .ref a1), (2, .int y2), (3, .int z3), (5, .int z5), (6, .int z6)]) (st' := [.int z5, .int (am_ab (z4 + ((am_i 2) * ((m a1 (am_ix q3)) - q5))))]) rfl ?_
      refine am_icmp (tgt := 92) (am_fd ck_X5_halvingOf (pc := 79) rfl) rfl (fun hc6 => ?_) (fun hc6 => ?_)
      · replace hm := am_it hm hc6
        refine am_steps ck_X5_halvingOf 2 (pc' := 30) (lv' := [(6, .int (z6 + am_i 1)), (4, .int (z4 + ((am_i 2) * ((m a1 (am_ix q3)) - q5)))), (7, .int q3), (0, .ref a1), (2, .int y2), (3, .int z3), (5, .int z5)]) (st' := []) rfl ?_
        refine am_subp [3, 4, 5, 1, 6, 0] rfl ?_
        exact ih _ _ _ _ hm K
      · replace hm := am_if hm hc6
        refine am_steps ck_X5_halvingOf 3 (pc' := 87) (lv' := [(3, .int z6), (4, .int (z4 + ((am_i 2) * ((m a1 (am_ix q3)) - q5)))), (7, .int q3), (0, .ref a1), (2, .int y2), (5, .int z5), (6, .int z6)]) (st' := [.int (z4 + ((am_i 2) * ((m a1 (am_ix q3)) - q5)))]) rfl ?_
        refine am_mabs (am_fd ck_X5_halvingOf (pc := 87) rfl) tw_582 mth_abs_s mth_ini mth_abs_c (Nat.le_of_ble_eq_true rfl) (Nat.le_of_ble_eq_true rfl) ?_
        refine am_steps ck_X5_halvingOf 3 (pc' := 30) (lv' := [(6, .int (z6 + am_i 1)), (5, .int (am_ab (z4 + ((am_i 2) * ((m a1 (am_ix q3)) - q5))))), (3, .int z6), (4, .int (z4 + ((am_i 2) * ((m a1 (am_ix q3)) - q5)))), (7, .int q3), (0, .ref a1), (2, .int y2)]) (st' := []) rfl ?_
        refine am_subp [5, 6, 2, 3, 1, 0] rfl ?_
        exact ih _ _ _ _ hm K
set_option maxRecDepth 100000 in
set_option maxHeartbeats 4000000 in
theorem x_X5_halvingOf {G : am_G} {m : am_m} {r : am_rr} {a1 : Nat} {x2 : Int32} {res : Int32} (hL : am_Lay r) (ha1 : am_k a1 11 64) (hm : m_X5_halvingOf m a1 x2 = some res) : am_Met G mt_X5_halvingOf 2 [.ref a1, .int x2] (am_hh m r) (some (.int res)) (am_hh m r) := by
  refine am_of (by decide) (Nat.le_of_ble_eq_true rfl) ?_
  unfold m_X5_halvingOf at hm
  show am_W G mt_X5_halvingOf 2 _ _ 0 [(0, .ref a1), (1, .int x2)] [] (am_hh m r)
  refine am_steps ck_X5_halvingOf 2 (pc' := 3) (lv' := [(0, .ref a1), (1, .int x2)]) (st' := [.int (am_i 12), .int x2]) rfl ?_
  refine am_mmin (am_fd ck_X5_halvingOf (pc := 3) rfl) tw_786 mth_min_s mth_ini mth_min_c (Nat.le_of_ble_eq_true rfl) (Nat.le_of_ble_eq_true rfl) ?_
  refine am_steps ck_X5_halvingOf 8 (pc' := 14) (lv' := [(3, .int (am_i 0)), (2, .int (am_mn x2 (am_i 12))), (0, .ref a1), (1, .int x2)]) (st' := [.int ((am_mn x2 (am_i 12)) - (am_i 1)), .int (am_i 0), .ref a1]) rfl ?_
  obtain ⟨q1, hq1, hm⟩ := am_bE hm
  refine ms_callS (M2 := mt_X5_totalOf) (d2 := 1) [.ref a1, .int (am_i 0), .int ((am_mn x2 (am_i 12)) - (am_i 1))] (am_fd ck_X5_halvingOf (pc := 14) rfl) ok_X5_totalOf tw_588 tw_522 (Nat.le_of_ble_eq_true rfl) (Nat.le_of_ble_eq_true rfl) (x_X5_totalOf hL ha1 hq1) ?_
  refine am_steps ck_X5_halvingOf 3 (pc' := 22) (lv' := [(4, .int (-q1)), (3, .int (am_i 0)), (2, .int (am_mn x2 (am_i 12))), (0, .ref a1), (1, .int x2)]) (st' := [.int (-q1)]) rfl ?_
  refine am_mabs (am_fd ck_X5_halvingOf (pc := 22) rfl) tw_582 mth_abs_s mth_ini mth_abs_c (Nat.le_of_ble_eq_true rfl) (Nat.le_of_ble_eq_true rfl) ?_
  refine am_steps ck_X5_halvingOf 3 (pc' := 30) (lv' := [(6, .int (am_i 1)), (5, .int (am_ab (-q1))), (4, .int (-q1)), (3, .int (am_i 0)), (2, .int (am_mn x2 (am_i 12))), (0, .ref a1), (1, .int x2)]) (st' := []) rfl ?_
  refine am_subp [5, 4, 3, 2, 1, 0] rfl ?_
  refine x_X5_halvingOf_30 hL ha1 am_F _ _ _ _ hm (fun u7 hm => ?_)
  refine am_steps ck_X5_halvingOf 1 (pc' := 99) (lv' := [(3, .int u7)]) (st' := [.int u7]) rfl ?_
  cases hm
  exact am_end (am_fd ck_X5_halvingOf (pc := 99) rfl) am_rI rfl rfl
set_option maxRecDepth 100000 in
set_option maxHeartbeats 4000000 in
theorem x_X6_bitsOf {G : am_G} {m : am_m} {r : am_rr} {x1 : Int32} {x2 : Int32} {res : Int64} (hL : am_Lay r) (hm : m_X6_bitsOf m x1 x2 = some res) : am_Met G mt_X6_bitsOf 1 [.int x1, .int x2] (am_hh m r) (some (.long res)) (am_hh m r) := by
  refine am_of (by decide) (Nat.le_of_ble_eq_true rfl) ?_
  unfold m_X6_bitsOf at hm
  show am_W G mt_X6_bitsOf 1 _ _ 0 [(0, .int x1), (1, .int x2)] [] (am_hh m r)
  refine am_ldc2 (am_fd ck_X6_bitsOf (pc := 0) rfl) tw_357 ?_
  refine am_steps ck_X6_bitsOf 8 (pc' := 12) (lv' := [(0, .int x1), (1, .int x2)]) (st' := [.long ((((-1 : Int64).toUInt64 >>> (((am_i 63) - (x2 - x1)).toInt64.toUInt64 &&& Int64.toUInt64 63)).toInt64) <<< (x1.toInt64 &&& 63))]) rfl ?_
  cases hm
  exact am_end (am_fd ck_X6_bitsOf (pc := 12) rfl) am_rJ rfl rfl
set_option maxRecDepth 100000 in
set_option maxHeartbeats 4000000 in
theorem x_X7_hasRoom {G : am_G} {m : am_m} {r : am_rr} {x1 : Int32} {res : Int32} (hL : am_Lay r) (hm : m_X7_hasRoom m x1 = some res) : am_Met G mt_X7_hasRoom 1 [.ref 2984, .int x1] (am_hh m r) (some (.int res)) (am_hh m r) := by
  refine am_of (by decide) (Nat.le_of_ble_eq_true rfl) ?_
  unfold m_X7_hasRoom at hm
  show am_W G mt_X7_hasRoom 1 _ _ 0 [(0, .ref 2984), (1, .int x1)] [] (am_hh m r)
  refine am_steps ck_X7_hasRoom 1 (pc' := 1) (lv' := [(0, .ref 2984), (1, .int x1)]) (st' := [.ref 2984]) rfl ?_
  refine ms_geti (ci := 5) (k := 1) (am_fd ck_X7_hasRoom (pc := 1) rfl) tw_151 kc_2984 rfl ?_
  refine am_steps ck_X7_hasRoom 3 (pc' := 9) (lv' := [(0, .ref 2984), (1, .int x1)]) (st' := [.int (am_i 400), .int ((m 2984 1) + x1)]) rfl ?_
  refine am_icmp (tgt := 16) (am_fd ck_X7_hasRoom (pc := 9) rfl) rfl (fun hc1 => ?_) (fun hc1 => ?_)
  · replace hm := am_it hm hc1
    refine am_steps ck_X7_hasRoom 1 (pc' := 17) (lv' := [(0, .ref 2984), (1, .int x1)]) (st' := [.int (am_i 0)]) rfl ?_
    cases hm
    exact am_end (am_fd ck_X7_hasRoom (pc := 17) rfl) am_rZ0 rfl rfl
  · replace hm := am_if hm hc1
    refine am_steps ck_X7_hasRoom 2 (pc' := 17) (lv' := [(0, .ref 2984), (1, .int x1)]) (st' := [.int (am_i 1)]) rfl ?_
    cases hm
    exact am_end (am_fd ck_X7_hasRoom (pc := 17) rfl) am_rZ1 rfl rfl
set_option maxRecDepth 100000 in
set_option maxHeartbeats 4000000 in
theorem x_X7_putNumber_3 {G : am_G} {x1 : Int32} {r : am_rr} {y1 : Int32} {res : am_m} {k : am_m → Option (am_m)} (hL : am_Lay r) : ∀ (n : Nat) (z2 : Int32) (m : am_m), m_X7_putNumber_3 x1 y1 k n z2 m = some res → (∀ (m1 : am_m), k m1 = some res → am_W G mt_X7_putNumber 1 none (am_hh res r) 49 [] [] (am_hh m1 r)) → am_W G mt_X7_putNumber 1 none (am_hh res r) 3 [(0, .ref 2984), (1, .int y1), (2, .int z2)] [] (am_hh m r) := by
  intro n
  induction n with
  | zero => intro z2 m hm K; cases hm
  | succ n ih =>
    intro z2 m hm K
    unfold m_X7_putNumber_3 at hm
    refine am_steps ck_X7_putNumber 1 (pc' := 4) (lv' := [(0, .ref 2984), (1, .int y1), (2, .int z2)]) (st' := [.int z2]) rfl ?_
    refine am_ifc (tgt := 49) (am_fd ck_X7_putNumber (pc := 4) rfl) rfl (fun hc1 => ?_) (fun hc1 => ?_)
    · replace hm := am_it hm hc1
      refine am_subp [] rfl ?_
      exact K _ hm
    · replace hm := am_if hm hc1
      refine am_steps ck_X7_putNumber 1 (pc' := 8) (lv' := [(0, .ref 2984), (1, .int y1), (2, .int z2)]) (st' := [.ref 2984]) rfl ?_
      refine ms_geti (ci := 5) (k := 1) (am_fd ck_X7_putNumber (pc := 8) rfl) tw_151 kc_2984 rfl ?_
      refine am_steps ck_X7_putNumber 1 (pc' := 14) (lv' := [(0, .ref 2984), (1, .int y1), (2, .int z2)]) (st' := [.int (am_i 400), .int (m 2984 1)]) rfl ?_
      refine am_icmp (tgt := 49) (am_fd ck_X7_putNumber (pc := 14) rfl) rfl (fun hc2 => ?_) (fun hc2 => ?_)
      · replace hm := am_it hm hc2
        refine am_subp [] rfl ?_
        exact K _ hm
      · replace hm := am_if hm hc2
        refine am_steps ck_X7_putNumber 1 (pc' := 18) (lv' := [(0, .ref 2984), (1, .int y1), (2, .int z2)]) (st' := [.ref 2984]) rfl ?_
        refine ms_getr (ci := 5) (k := 0) (v := 2985) (am_fd ck_X7_putNumber (pc := 18) rfl) tw_150 kc_2984 rfl (ly_2984_0 hL) kc_2985 ?_
        refine am_steps ck_X7_putNumber 1 (pc' := 22) (lv' := [(0, .ref 2984), (1, .int y1), (2, .int z2)]) (st' := [.ref 2984, .ref 2985]) rfl ?_
        refine ms_geti (ci := 5) (k := 1) (am_fd ck_X7_putNumber (pc := 22) rfl) tw_151 kc_2984 rfl ?_
        refine am_steps ck_X7_putNumber 5 (pc' := 32) (lv' := [(0, .ref 2984), (1, .int y1), (2, .int z2)]) (st' := [.int (((y1.toUInt32 >>> (z2.toUInt32 &&& Int32.toUInt32 31)).toInt32) &&& (am_i 255)), .int (m 2984 1), .ref 2985]) rfl ?_
        obtain ⟨hb3, hm⟩ := am_gE hm
        refine ms_iast (n := 400) (am_fd ck_X7_putNumber (pc := 32) rfl) kc_2985 hb3 (fun m4 em4 => ?_)
        replace hm := am_letE em4 hm
        refine am_steps ck_X7_putNumber 2 (pc' := 35) (lv' := [(0, .ref 2984), (1, .int y1), (2, .int z2)]) (st' := [.ref 2984, .ref 2984]) rfl ?_
        refine ms_geti (ci := 5) (k := 1) (am_fd ck_X7_putNumber (pc := 35) rfl) tw_151 kc_2984 rfl ?_
        refine am_steps ck_X7_putNumber 2 (pc' := 40) (lv' := [(0, .ref 2984), (1, .int y1), (2, .int z2)]) (st' := [.int ((m4 2984 1) + (am_i 1)), .ref 2984]) rfl ?_
        refine ms_puti (ci := 5) (k := 1) (am_fd ck_X7_putNumber (pc := 40) rfl) tw_151 kc_2984 rfl rfl (fun m5 em5 => ?_)
        replace hm := am_letE em5 hm
        refine am_steps ck_X7_putNumber 2 (pc' := 3) (lv' := [(2, .int (z2 + am_i (-8))), (0, .ref 2984), (1, .int y1)]) (st' := []) rfl ?_
        refine am_subp [1, 2, 0] rfl ?_
        exact ih _ _ hm K
set_option maxRecDepth 100000 in
set_option maxHeartbeats 4000000 in
theorem x_X7_putNumber {G : am_G} {m : am_m} {r : am_rr} {x1 : Int32} {res : am_m} (hL : am_Lay r) (hm : m_X7_putNumber m x1 = some res) : am_Met G mt_X7_putNumber 1 [.ref 2984, .int x1] (am_hh m r) none (am_hh res r) := by
  refine am_of (by decide) (Nat.le_of_ble_eq_true rfl) ?_
  unfold m_X7_putNumber at hm
  show am_W G mt_X7_putNumber 1 _ _ 0 [(0, .ref 2984), (1, .int x1)] [] (am_hh m r)
  refine am_steps ck_X7_putNumber 2 (pc' := 3) (lv' := [(2, .int (am_i 24)), (0, .ref 2984), (1, .int x1)]) (st' := []) rfl ?_
  refine am_subp [1, 2, 0] rfl ?_
  refine x_X7_putNumber_3 hL am_F _ _ hm (fun m6 hm => ?_)
  cases hm
  exact am_end (am_fd ck_X7_putNumber (pc := 49) rfl) am_rV rfl rfl
set_option maxRecDepth 100000 in
set_option maxHeartbeats 4000000 in
theorem x_X7_cut {G : am_G} {m : am_m} {r : am_rr} {x1 : Int32} {res : Int32 × am_m} (hL : am_Lay r) (hm : m_X7_cut m x1 = some res) : am_Met G mt_X7_cut 1 [.ref 2984, .int x1] (am_hh m r) (some (.int res.1)) (am_hh res.2 r) := by
  refine am_of (by decide) (Nat.le_of_ble_eq_true rfl) ?_
  unfold m_X7_cut at hm
  show am_W G mt_X7_cut 1 _ _ 0 [(0, .ref 2984), (1, .int x1)] [] (am_hh m r)
  refine am_steps ck_X7_cut 1 (pc' := 1) (lv' := [(0, .ref 2984), (1, .int x1)]) (st' := [.int x1]) rfl ?_
  refine am_ifc (tgt := 12) (am_fd ck_X7_cut (pc := 1) rfl) rfl (fun hc1 => ?_) (fun hc1 => ?_)
  · replace hm := am_it hm hc1
    refine am_steps ck_X7_cut 1 (pc' := 13) (lv' := [(0, .ref 2984), (1, .int x1)]) (st' := [.int (am_i 0)]) rfl ?_
    cases hm
    exact am_end (am_fd ck_X7_cut (pc := 13) rfl) am_rZ0 rfl rfl
  · replace hm := am_if hm hc1
    refine am_steps ck_X7_cut 2 (pc' := 6) (lv' := [(0, .ref 2984), (1, .int x1)]) (st' := [.ref 2984, .int x1]) rfl ?_
    refine ms_geti (ci := 5) (k := 1) (am_fd ck_X7_cut (pc := 6) rfl) tw_151 kc_2984 rfl ?_
    refine am_icmp (tgt := 14) (am_fd ck_X7_cut (pc := 9) rfl) rfl (fun hc2 => ?_) (fun hc2 => ?_)
    · replace hm := am_it hm hc2
      refine am_steps ck_X7_cut 2 (pc' := 16) (lv' := [(0, .ref 2984), (1, .int x1)]) (st' := [.int x1, .ref 2984]) rfl ?_
      refine ms_puti (ci := 5) (k := 1) (am_fd ck_X7_cut (pc := 16) rfl) tw_151 kc_2984 rfl rfl (fun m3 em3 => ?_)
      replace hm := am_letE em3 hm
      refine am_steps ck_X7_cut 1 (pc' := 20) (lv' := [(0, .ref 2984), (1, .int x1)]) (st' := [.int (am_i 1)]) rfl ?_
      cases hm
      exact am_end (am_fd ck_X7_cut (pc := 20) rfl) am_rZ1 rfl rfl
    · replace hm := am_if hm hc2
      refine am_steps ck_X7_cut 1 (pc' := 13) (lv' := [(0, .ref 2984), (1, .int x1)]) (st' := [.int (am_i 0)]) rfl ?_
      cases hm
      exact am_end (am_fd ck_X7_cut (pc := 13) rfl) am_rZ0 rfl rfl
set_option maxRecDepth 100000 in
set_option maxHeartbeats 4000000 in
theorem x_X7_nextSign_0 {G : am_G} {r : am_rr} {res : Int32 × am_m} {k : am_m → Option (Int32 × am_m)} (hL : am_Lay r) : ∀ (n : Nat) (m : am_m), m_X7_nextSign_0 k n m = some res → (∀ (m1 : am_m), k m1 = some res → am_W G mt_X7_nextSign 1 (some (.int res.1)) (am_hh res.2 r) 48 [(0, .ref 2984)] [] (am_hh m1 r)) → am_W G mt_X7_nextSign 1 (some (.int res.1)) (am_hh res.2 r) 0 [(0, .ref 2984)] [] (am_hh m r) := by
  intro n
  induction n with
  | zero => intro m hm K; cases hm
  | succ n ih =>
    intro m hm K
    unfold m_X7_nextSign_0 at hm
    refine am_steps ck_X7_nextSign 1 (pc' := 1) (lv' := [(0, .ref 2984)]) (st' := [.ref 2984]) rfl ?_
    refine ms_geti (ci := 5) (k := 4) (am_fd ck_X7_nextSign (pc := 1) rfl) tw_157 kc_2984 rfl ?_
    refine am_steps ck_X7_nextSign 1 (pc' := 5) (lv' := [(0, .ref 2984)]) (st' := [.ref 2984, .int (m 2984 4)]) rfl ?_
    refine ms_geti (ci := 5) (k := 1) (am_fd ck_X7_nextSign (pc := 5) rfl) tw_151 kc_2984 rfl ?_
    refine am_icmp (tgt := 48) (am_fd ck_X7_nextSign (pc := 8) rfl) rfl (fun hc1 => ?_) (fun hc1 => ?_)
    · replace hm := am_it hm hc1
      exact K _ hm
    · replace hm := am_if hm hc1
      refine am_steps ck_X7_nextSign 1 (pc' := 12) (lv' := [(0, .ref 2984)]) (st' := [.ref 2984]) rfl ?_
      refine ms_geti (ci := 5) (k := 4) (am_fd ck_X7_nextSign (pc := 12) rfl) tw_157 kc_2984 rfl ?_
      refine am_steps ck_X7_nextSign 1 (pc' := 18) (lv' := [(0, .ref 2984)]) (st' := [.int (am_i 400), .int (m 2984 4)]) rfl ?_
      refine am_icmp (tgt := 48) (am_fd ck_X7_nextSign (pc := 18) rfl) rfl (fun hc2 => ?_) (fun hc2 => ?_)
      · replace hm := am_it hm hc2
        exact K _ hm
      · replace hm := am_if hm hc2
        refine am_steps ck_X7_nextSign 1 (pc' := 22) (lv' := [(0, .ref 2984)]) (st' := [.ref 2984]) rfl ?_
        refine ms_getr (ci := 5) (k := 0) (v := 2985) (am_fd ck_X7_nextSign (pc := 22) rfl) tw_150 kc_2984 rfl (ly_2984_0 hL) kc_2985 ?_
        refine am_steps ck_X7_nextSign 1 (pc' := 26) (lv' := [(0, .ref 2984)]) (st' := [.ref 2984, .ref 2985]) rfl ?_
        refine ms_geti (ci := 5) (k := 4) (am_fd ck_X7_nextSign (pc := 26) rfl) tw_157 kc_2984 rfl ?_
        obtain ⟨hb3, hm⟩ := am_gE hm
        refine ms_iald (n := 400) (am_fd ck_X7_nextSign (pc := 29) rfl) kc_2985 hb3 ?_
        refine am_steps ck_X7_nextSign 1 (pc' := 32) (lv' := [(0, .ref 2984)]) (st' := [.int (am_i 32), .int (m 2985 (am_ix (m 2984 4)))]) rfl ?_
        refine am_icmp (tgt := 48) (am_fd ck_X7_nextSign (pc := 32) rfl) rfl (fun hc4 => ?_) (fun hc4 => ?_)
        · replace hm := am_it hm hc4
          exact K _ hm
        · replace hm := am_if hm hc4
          refine am_steps ck_X7_nextSign 2 (pc' := 37) (lv' := [(0, .ref 2984)]) (st' := [.ref 2984, .ref 2984]) rfl ?_
          refine ms_geti (ci := 5) (k := 4) (am_fd ck_X7_nextSign (pc := 37) rfl) tw_157 kc_2984 rfl ?_
          refine am_steps ck_X7_nextSign 2 (pc' := 42) (lv' := [(0, .ref 2984)]) (st' := [.int ((m 2984 4) + (am_i 1)), .ref 2984]) rfl ?_
          refine ms_puti (ci := 5) (k := 4) (am_fd ck_X7_nextSign (pc := 42) rfl) tw_157 kc_2984 rfl rfl (fun m5 em5 => ?_)
          replace hm := am_letE em5 hm
          refine am_steps ck_X7_nextSign 1 (pc' := 0) (lv' := [(0, .ref 2984)]) (st' := []) rfl ?_
          exact ih _ hm K
set_option maxRecDepth 100000 in
set_option maxHeartbeats 4000000 in
theorem x_X7_nextSign {G : am_G} {m : am_m} {r : am_rr} {res : Int32 × am_m} (hL : am_Lay r) (hm : m_X7_nextSign m  = some res) : am_Met G mt_X7_nextSign 1 [.ref 2984] (am_hh m r) (some (.int res.1)) (am_hh res.2 r) := by
  refine am_of (by decide) (Nat.le_of_ble_eq_true rfl) ?_
  unfold m_X7_nextSign at hm
  show am_W G mt_X7_nextSign 1 _ _ 0 [(0, .ref 2984)] [] (am_hh m r)
  refine x_X7_nextSign_0 hL am_F _ hm (fun m6 hm => ?_)
  refine am_steps ck_X7_nextSign 1 (pc' := 49) (lv' := [(0, .ref 2984)]) (st' := [.ref 2984]) rfl ?_
  refine ms_geti (ci := 5) (k := 4) (am_fd ck_X7_nextSign (pc := 49) rfl) tw_157 kc_2984 rfl ?_
  refine am_steps ck_X7_nextSign 1 (pc' := 53) (lv' := [(0, .ref 2984)]) (st' := [.ref 2984, .int (m6 2984 4)]) rfl ?_
  refine ms_geti (ci := 5) (k := 1) (am_fd ck_X7_nextSign (pc := 53) rfl) tw_151 kc_2984 rfl ?_
  refine am_icmp (tgt := 81) (am_fd ck_X7_nextSign (pc := 56) rfl) rfl (fun hc7 => ?_) (fun hc7 => ?_)
  · replace hm := am_it hm hc7
    refine am_steps ck_X7_nextSign 1 (pc' := 82) (lv' := [(0, .ref 2984)]) (st' := [.int (am_i (-1))]) rfl ?_
    cases hm
    exact am_end (am_fd ck_X7_nextSign (pc := 82) rfl) am_rI rfl rfl
  · replace hm := am_if hm hc7
    refine am_steps ck_X7_nextSign 1 (pc' := 60) (lv' := [(0, .ref 2984)]) (st' := [.ref 2984]) rfl ?_
    refine ms_geti (ci := 5) (k := 4) (am_fd ck_X7_nextSign (pc := 60) rfl) tw_157 kc_2984 rfl ?_
    refine am_steps ck_X7_nextSign 1 (pc' := 66) (lv' := [(0, .ref 2984)]) (st' := [.int (am_i 400), .int (m6 2984 4)]) rfl ?_
    refine am_icmp (tgt := 81) (am_fd ck_X7_nextSign (pc := 66) rfl) rfl (fun hc8 => ?_) (fun hc8 => ?_)
    · replace hm := am_it hm hc8
      refine am_steps ck_X7_nextSign 1 (pc' := 82) (lv' := [(0, .ref 2984)]) (st' := [.int (am_i (-1))]) rfl ?_
      cases hm
      exact am_end (am_fd ck_X7_nextSign (pc := 82) rfl) am_rI rfl rfl
    · replace hm := am_if hm hc8
      refine am_steps ck_X7_nextSign 1 (pc' := 70) (lv' := [(0, .ref 2984)]) (st' := [.ref 2984]) rfl ?_
      refine ms_getr (ci := 5) (k := 0) (v := 2985) (am_fd ck_X7_nextSign (pc := 70) rfl) tw_150 kc_2984 rfl (ly_2984_0 hL) kc_2985 ?_
      refine am_steps ck_X7_nextSign 1 (pc' := 74) (lv' := [(0, .ref 2984)]) (st' := [.ref 2984, .ref 2985]) rfl ?_
      refine ms_geti (ci := 5) (k := 4) (am_fd ck_X7_nextSign (pc := 74) rfl) tw_157 kc_2984 rfl ?_
      obtain ⟨hb9, hm⟩ := am_gE hm
      refine ms_iald (n := 400) (am_fd ck_X7_nextSign (pc := 77) rfl) kc_2985 hb9 ?_
      refine am_steps ck_X7_nextSign 1 (pc' := 82) (lv' := [(0, .ref 2984)]) (st' := [.int (m6 2985 (am_ix (m6 2984 4)))]) rfl ?_
      cases hm
      exact am_end (am_fd ck_X7_nextSign (pc := 82) rfl) am_rI rfl rfl
set_option maxRecDepth 100000 in
set_option maxHeartbeats 4000000 in
theorem x_X7_isDigit {G : am_G} {m : am_m} {r : am_rr} {x1 : Int32} {res : Int32} (hL : am_Lay r) (hm : m_X7_isDigit m x1 = some res) : am_Met G mt_X7_isDigit 1 [.int x1] (am_hh m r) (some (.int res)) (am_hh m r) := by
  refine am_of (by decide) (Nat.le_of_ble_eq_true rfl) ?_
  unfold m_X7_isDigit at hm
  show am_W G mt_X7_isDigit 1 _ _ 0 [(0, .int x1)] [] (am_hh m r)
  refine am_steps ck_X7_isDigit 2 (pc' := 3) (lv' := [(0, .int x1)]) (st' := [.int (am_i 48), .int x1]) rfl ?_
  refine am_icmp (tgt := 16) (am_fd ck_X7_isDigit (pc := 3) rfl) rfl (fun hc1 => ?_) (fun hc1 => ?_)
  · replace hm := am_it hm hc1
    refine am_steps ck_X7_isDigit 1 (pc' := 17) (lv' := [(0, .int x1)]) (st' := [.int (am_i 0)]) rfl ?_
    cases hm
    exact am_end (am_fd ck_X7_isDigit (pc := 17) rfl) am_rZ0 rfl rfl
  · replace hm := am_if hm hc1
    refine am_steps ck_X7_isDigit 2 (pc' := 9) (lv' := [(0, .int x1)]) (st' := [.int (am_i 57), .int x1]) rfl ?_
    refine am_icmp (tgt := 16) (am_fd ck_X7_isDigit (pc := 9) rfl) rfl (fun hc2 => ?_) (fun hc2 => ?_)
    · replace hm := am_it hm hc2
      refine am_steps ck_X7_isDigit 1 (pc' := 17) (lv' := [(0, .int x1)]) (st' := [.int (am_i 0)]) rfl ?_
      cases hm
      exact am_end (am_fd ck_X7_isDigit (pc := 17) rfl) am_rZ0 rfl rfl
    · replace hm := am_if hm hc2
      refine am_steps ck_X7_isDigit 2 (pc' := 17) (lv' := [(0, .int x1)]) (st' := [.int (am_i 1)]) rfl ?_
      cases hm
      exact am_end (am_fd ck_X7_isDigit (pc := 17) rfl) am_rZ1 rfl rfl
set_option maxRecDepth 100000 in
set_option maxHeartbeats 4000000 in
theorem x_X7_refuse {G : am_G} {m : am_m} {r : am_rr} {x1 : Int32} {x2 : Int32} {res : Int32 × am_m} (hL : am_Lay r) (hm : m_X7_refuse m x1 x2 = some res) : am_Met G mt_X7_refuse 1 [.ref 2984, .int x1, .int x2] (am_hh m r) (some (.int res.1)) (am_hh res.2 r) := by
  refine am_of (by decide) (Nat.le_of_ble_eq_true rfl) ?_
  unfold m_X7_refuse at hm
  show am_W G mt_X7_refuse 1 _ _ 0 [(0, .ref 2984), (1, .int x1), (2, .int x2)] [] (am_hh m r)
  refine am_steps ck_X7_refuse 2 (pc' := 2) (lv' := [(0, .ref 2984), (1, .int x1), (2, .int x2)]) (st' := [.int x1, .ref 2984]) rfl ?_
  refine ms_puti (ci := 5) (k := 2) (am_fd ck_X7_refuse (pc := 2) rfl) tw_153 kc_2984 rfl rfl (fun m1 em1 => ?_)
  replace hm := am_letE em1 hm
  refine am_steps ck_X7_refuse 2 (pc' := 7) (lv' := [(0, .ref 2984), (1, .int x1), (2, .int x2)]) (st' := [.int x2, .ref 2984]) rfl ?_
  refine ms_puti (ci := 5) (k := 3) (am_fd ck_X7_refuse (pc := 7) rfl) tw_155 kc_2984 rfl rfl (fun m2 em2 => ?_)
  replace hm := am_letE em2 hm
  refine am_steps ck_X7_refuse 1 (pc' := 11) (lv' := [(0, .ref 2984), (1, .int x1), (2, .int x2)]) (st' := [.int (am_i 0)]) rfl ?_
  cases hm
  exact am_end (am_fd ck_X7_refuse (pc := 11) rfl) am_rZ0 rfl rfl
set_option maxRecDepth 100000 in
set_option maxHeartbeats 4000000 in
theorem x_X7_readNumber_33 {G : am_G} {r : am_rr} {res : Int32 × am_m} {k : am_m → Option (Int32 × am_m)} (hL : am_Lay r) : ∀ (n : Nat) (m : am_m), m_X7_readNumber_33 k n m = some res → (∀ (m1 : am_m), k m1 = some res → am_W G mt_X7_readNumber 2 (some (.int res.1)) (am_hh res.2 r) 111 [] [] (am_hh m1 r)) → am_W G mt_X7_readNumber 2 (some (.int res.1)) (am_hh res.2 r) 33 [(0, .ref 2984)] [] (am_hh m r) := by
  intro n
  induction n with
  | zero => intro m hm K; cases hm
  | succ n ih =>
    intro m hm K
    unfold m_X7_readNumber_33 at hm
    refine am_steps ck_X7_readNumber 1 (pc' := 34) (lv' := [(0, .ref 2984)]) (st' := [.ref 2984]) rfl ?_
    refine ms_geti (ci := 5) (k := 4) (am_fd ck_X7_readNumber (pc := 34) rfl) tw_157 kc_2984 rfl ?_
    refine am_steps ck_X7_readNumber 1 (pc' := 38) (lv' := [(0, .ref 2984)]) (st' := [.ref 2984, .int (m 2984 4)]) rfl ?_
    refine ms_geti (ci := 5) (k := 1) (am_fd ck_X7_readNumber (pc := 38) rfl) tw_151 kc_2984 rfl ?_
    refine am_icmp (tgt := 111) (am_fd ck_X7_readNumber (pc := 41) rfl) rfl (fun hc6 => ?_) (fun hc6 => ?_)
    · replace hm := am_it hm hc6
      refine am_subp [] rfl ?_
      exact K _ hm
    · replace hm := am_if hm hc6
      refine am_steps ck_X7_readNumber 1 (pc' := 45) (lv' := [(0, .ref 2984)]) (st' := [.ref 2984]) rfl ?_
      refine ms_geti (ci := 5) (k := 4) (am_fd ck_X7_readNumber (pc := 45) rfl) tw_157 kc_2984 rfl ?_
      refine am_steps ck_X7_readNumber 1 (pc' := 51) (lv' := [(0, .ref 2984)]) (st' := [.int (am_i 400), .int (m 2984 4)]) rfl ?_
      refine am_icmp (tgt := 111) (am_fd ck_X7_readNumber (pc := 51) rfl) rfl (fun hc7 => ?_) (fun hc7 => ?_)
      · replace hm := am_it hm hc7
        refine am_subp [] rfl ?_
        exact K _ hm
      · replace hm := am_if hm hc7
        refine am_steps ck_X7_readNumber 1 (pc' := 55) (lv' := [(0, .ref 2984)]) (st' := [.ref 2984]) rfl ?_
        refine ms_getr (ci := 5) (k := 0) (v := 2985) (am_fd ck_X7_readNumber (pc := 55) rfl) tw_150 kc_2984 rfl (ly_2984_0 hL) kc_2985 ?_
        refine am_steps ck_X7_readNumber 1 (pc' := 59) (lv' := [(0, .ref 2984)]) (st' := [.ref 2984, .ref 2985]) rfl ?_
        refine ms_geti (ci := 5) (k := 4) (am_fd ck_X7_readNumber (pc := 59) rfl) tw_157 kc_2984 rfl ?_
        obtain ⟨hb8, hm⟩ := am_gE hm
        refine ms_iald (n := 400) (am_fd ck_X7_readNumber (pc := 62) rfl) kc_2985 hb8 ?_
        obtain ⟨q9, hq9, hm⟩ := am_bE hm
        refine ms_callS (M2 := mt_X7_isDigit) (d2 := 1) [.int (m 2985 (am_ix (m 2984 4)))] (am_fd ck_X7_readNumber (pc := 63) rfl) ok_X7_isDigit tw_435 tw_436 (Nat.le_of_ble_eq_true rfl) (Nat.le_of_ble_eq_true rfl) (x_X7_isDigit hL hq9) ?_
        refine am_ifc (tgt := 111) (am_fd ck_X7_readNumber (pc := 66) rfl) rfl (fun hc10 => ?_) (fun hc10 => ?_)
        · replace hm := am_it hm hc10
          refine am_subp [] rfl ?_
          exact K _ hm
        · replace hm := am_if hm hc10
          refine am_steps ck_X7_readNumber 2 (pc' := 71) (lv' := [(0, .ref 2984)]) (st' := [.ref 2984, .ref 2984]) rfl ?_
          refine ms_geti (ci := 5) (k := 5) (am_fd ck_X7_readNumber (pc := 71) rfl) tw_158 kc_2984 rfl ?_
          refine am_steps ck_X7_readNumber 3 (pc' := 78) (lv' := [(0, .ref 2984)]) (st' := [.ref 2984, .int ((m 2984 5) * (am_i 10)), .ref 2984]) rfl ?_
          refine ms_getr (ci := 5) (k := 0) (v := 2985) (am_fd ck_X7_readNumber (pc := 78) rfl) tw_150 kc_2984 rfl (ly_2984_0 hL) kc_2985 ?_
          refine am_steps ck_X7_readNumber 1 (pc' := 82) (lv' := [(0, .ref 2984)]) (st' := [.ref 2984, .ref 2985, .int ((m 2984 5) * (am_i 10)), .ref 2984]) rfl ?_
          refine ms_geti (ci := 5) (k := 4) (am_fd ck_X7_readNumber (pc := 82) rfl) tw_157 kc_2984 rfl ?_
          obtain ⟨hb11, hm⟩ := am_gE hm
          refine ms_iald (n := 400) (am_fd ck_X7_readNumber (pc := 85) rfl) kc_2985 hb11 ?_
          refine am_steps ck_X7_readNumber 3 (pc' := 90) (lv' := [(0, .ref 2984)]) (st' := [.int ((((m 2984 5) * (am_i 10)) + (m 2985 (am_ix (m 2984 4)))) - (am_i 48)), .ref 2984]) rfl ?_
          refine am_ldc (am_fd ck_X7_readNumber (pc := 90) rfl) tw_442 ?_
          refine am_mmin (am_fd ck_X7_readNumber (pc := 92) rfl) tw_443 mth_min_s mth_ini mth_min_c (Nat.le_of_ble_eq_true rfl) (Nat.le_of_ble_eq_true rfl) ?_
          refine ms_puti (ci := 5) (k := 5) (am_fd ck_X7_readNumber (pc := 95) rfl) tw_158 kc_2984 rfl rfl (fun m12 em12 => ?_)
          replace hm := am_letE em12 hm
          refine am_steps ck_X7_readNumber 2 (pc' := 100) (lv' := [(0, .ref 2984)]) (st' := [.ref 2984, .ref 2984]) rfl ?_
          refine ms_geti (ci := 5) (k := 4) (am_fd ck_X7_readNumber (pc := 100) rfl) tw_157 kc_2984 rfl ?_
          refine am_steps ck_X7_readNumber 2 (pc' := 105) (lv' := [(0, .ref 2984)]) (st' := [.int ((m12 2984 4) + (am_i 1)), .ref 2984]) rfl ?_
          refine ms_puti (ci := 5) (k := 4) (am_fd ck_X7_readNumber (pc := 105) rfl) tw_157 kc_2984 rfl rfl (fun m13 em13 => ?_)
          replace hm := am_letE em13 hm
          refine am_steps ck_X7_readNumber 1 (pc' := 33) (lv' := [(0, .ref 2984)]) (st' := []) rfl ?_
          exact ih _ hm K
set_option maxRecDepth 100000 in
set_option maxHeartbeats 4000000 in
theorem x_X7_readNumber {G : am_G} {m : am_m} {r : am_rr} {res : Int32 × am_m} (hL : am_Lay r) (hm : m_X7_readNumber m  = some res) : am_Met G mt_X7_readNumber 2 [.ref 2984] (am_hh m r) (some (.int res.1)) (am_hh res.2 r) := by
  refine am_of (by decide) (Nat.le_of_ble_eq_true rfl) ?_
  unfold m_X7_readNumber at hm
  show am_W G mt_X7_readNumber 2 _ _ 0 [(0, .ref 2984)] [] (am_hh m r)
  refine am_steps ck_X7_readNumber 1 (pc' := 1) (lv' := [(0, .ref 2984)]) (st' := [.ref 2984]) rfl ?_
  obtain ⟨q1, hq1, hm⟩ := am_bE hm
  refine ms_callV (M2 := mt_X7_nextSign) (d2 := 1) (ci := 5) [] (am_fd ck_X7_readNumber (pc := 1) rfl) ok_X7_nextSign tw_431 tw_433 ts_6 (by decide) kc_2984 (Nat.le_of_ble_eq_true rfl) (Nat.le_of_ble_eq_true rfl) (x_X7_nextSign hL hq1) ?_
  obtain ⟨q2, hq2, hm⟩ := am_bE hm
  refine ms_callS (M2 := mt_X7_isDigit) (d2 := 1) [.int q1.1] (am_fd ck_X7_readNumber (pc := 4) rfl) ok_X7_isDigit tw_435 tw_436 (Nat.le_of_ble_eq_true rfl) (Nat.le_of_ble_eq_true rfl) (x_X7_isDigit hL hq2) ?_
  refine am_ifc (tgt := 20) (am_fd ck_X7_readNumber (pc := 7) rfl) rfl (fun hc3 => ?_) (fun hc3 => ?_)
  · replace hm := am_it hm hc3
    refine am_steps ck_X7_readNumber 2 (pc' := 22) (lv' := [(0, .ref 2984)]) (st' := [.ref 2984, .ref 2984]) rfl ?_
    refine ms_geti (ci := 5) (k := 4) (am_fd ck_X7_readNumber (pc := 22) rfl) tw_157 kc_2984 rfl ?_
    refine ms_puti (ci := 5) (k := 6) (am_fd ck_X7_readNumber (pc := 25) rfl) tw_159 kc_2984 rfl rfl (fun m4 em4 => ?_)
    replace hm := am_letE em4 hm
    refine am_steps ck_X7_readNumber 2 (pc' := 30) (lv' := [(0, .ref 2984)]) (st' := [.int (am_i 0), .ref 2984]) rfl ?_
    refine ms_puti (ci := 5) (k := 5) (am_fd ck_X7_readNumber (pc := 30) rfl) tw_158 kc_2984 rfl rfl (fun m5 em5 => ?_)
    replace hm := am_letE em5 hm
    refine x_X7_readNumber_33 hL am_F _ hm (fun m14 hm => ?_)
    refine am_steps ck_X7_readNumber 1 (pc' := 112) (lv' := []) (st' := [.int (am_i 1)]) rfl ?_
    cases hm
    exact am_end (am_fd ck_X7_readNumber (pc := 112) rfl) am_rZ1 rfl rfl
  · replace hm := am_if hm hc3
    refine am_steps ck_X7_readNumber 3 (pc' := 13) (lv' := [(0, .ref 2984)]) (st' := [.ref 2984, .int (am_i 1), .ref 2984]) rfl ?_
    refine ms_geti (ci := 5) (k := 4) (am_fd ck_X7_readNumber (pc := 13) rfl) tw_157 kc_2984 rfl ?_
    obtain ⟨q15, hq15, hm⟩ := am_bE hm
    refine ms_callV (M2 := mt_X7_refuse) (d2 := 1) (ci := 5) [.int (am_i 1), .int (q1.2 2984 4)] (am_fd ck_X7_readNumber (pc := 16) rfl) ok_X7_refuse tw_438 tw_440 ts_7 (by decide) kc_2984 (Nat.le_of_ble_eq_true rfl) (Nat.le_of_ble_eq_true rfl) (x_X7_refuse hL hq15) ?_
    obtain ⟨hb16, hm⟩ := am_gE hm
    cases hm
    exact am_end (am_fd ck_X7_readNumber (pc := 19) rfl) (am_rZ hb16) rfl rfl
set_option maxRecDepth 100000 in
set_option maxHeartbeats 4000000 in
theorem x_X7_takeSign {G : am_G} {m : am_m} {r : am_rr} {x1 : Int32} {res : Int32 × am_m} (hL : am_Lay r) (hm : m_X7_takeSign m x1 = some res) : am_Met G mt_X7_takeSign 2 [.ref 2984, .int x1] (am_hh m r) (some (.int res.1)) (am_hh res.2 r) := by
  refine am_of (by decide) (Nat.le_of_ble_eq_true rfl) ?_
  unfold m_X7_takeSign at hm
  show am_W G mt_X7_takeSign 2 _ _ 0 [(0, .ref 2984), (1, .int x1)] [] (am_hh m r)
  refine am_steps ck_X7_takeSign 1 (pc' := 1) (lv' := [(0, .ref 2984), (1, .int x1)]) (st' := [.ref 2984]) rfl ?_
  obtain ⟨q1, hq1, hm⟩ := am_bE hm
  refine ms_callV (M2 := mt_X7_nextSign) (d2 := 1) (ci := 5) [] (am_fd ck_X7_takeSign (pc := 1) rfl) ok_X7_nextSign tw_431 tw_433 ts_6 (by decide) kc_2984 (Nat.le_of_ble_eq_true rfl) (Nat.le_of_ble_eq_true rfl) (x_X7_nextSign hL hq1) ?_
  refine am_steps ck_X7_takeSign 1 (pc' := 5) (lv' := [(0, .ref 2984), (1, .int x1)]) (st' := [.int x1, .int q1.1]) rfl ?_
  refine am_icmp (tgt := 18) (am_fd ck_X7_takeSign (pc := 5) rfl) rfl (fun hc2 => ?_) (fun hc2 => ?_)
  · replace hm := am_it hm hc2
    refine am_steps ck_X7_takeSign 2 (pc' := 20) (lv' := [(0, .ref 2984), (1, .int x1)]) (st' := [.ref 2984, .ref 2984]) rfl ?_
    refine ms_geti (ci := 5) (k := 4) (am_fd ck_X7_takeSign (pc := 20) rfl) tw_157 kc_2984 rfl ?_
    refine am_steps ck_X7_takeSign 2 (pc' := 25) (lv' := [(0, .ref 2984), (1, .int x1)]) (st' := [.int ((q1.2 2984 4) + (am_i 1)), .ref 2984]) rfl ?_
    refine ms_puti (ci := 5) (k := 4) (am_fd ck_X7_takeSign (pc := 25) rfl) tw_157 kc_2984 rfl rfl (fun m3 em3 => ?_)
    replace hm := am_letE em3 hm
    refine am_steps ck_X7_takeSign 1 (pc' := 29) (lv' := [(0, .ref 2984), (1, .int x1)]) (st' := [.int (am_i 1)]) rfl ?_
    cases hm
    exact am_end (am_fd ck_X7_takeSign (pc := 29) rfl) am_rZ1 rfl rfl
  · replace hm := am_if hm hc2
    refine am_steps ck_X7_takeSign 3 (pc' := 11) (lv' := [(0, .ref 2984), (1, .int x1)]) (st' := [.ref 2984, .int (am_i 1), .ref 2984]) rfl ?_
    refine ms_geti (ci := 5) (k := 4) (am_fd ck_X7_takeSign (pc := 11) rfl) tw_157 kc_2984 rfl ?_
    obtain ⟨q4, hq4, hm⟩ := am_bE hm
    refine ms_callV (M2 := mt_X7_refuse) (d2 := 1) (ci := 5) [.int (am_i 1), .int (q1.2 2984 4)] (am_fd ck_X7_takeSign (pc := 14) rfl) ok_X7_refuse tw_438 tw_440 ts_7 (by decide) kc_2984 (Nat.le_of_ble_eq_true rfl) (Nat.le_of_ble_eq_true rfl) (x_X7_refuse hL hq4) ?_
    obtain ⟨hb5, hm⟩ := am_gE hm
    cases hm
    exact am_end (am_fd ck_X7_takeSign (pc := 17) rfl) (am_rZ hb5) rfl rfl
set_option maxRecDepth 100000 in
set_option maxHeartbeats 4000000 in
theorem x_X8_isCategory {G : am_G} {m : am_m} {r : am_rr} {x1 : Int32} {res : Int32} (hL : am_Lay r) (hm : m_X8_isCategory m x1 = some res) : am_Met G mt_X8_isCategory 1 [.int x1] (am_hh m r) (some (.int res)) (am_hh m r) := by
  refine am_of (by decide) (Nat.le_of_ble_eq_true rfl) ?_
  unfold m_X8_isCategory at hm
  show am_W G mt_X8_isCategory 1 _ _ 0 [(0, .int x1)] [] (am_hh m r)
  refine am_steps ck_X8_isCategory 1 (pc' := 1) (lv' := [(0, .int x1)]) (st' := [.int x1]) rfl ?_
  refine am_ifc (tgt := 14) (am_fd ck_X8_isCategory (pc := 1) rfl) rfl (fun hc1 => ?_) (fun hc1 => ?_)
  · replace hm := am_it hm hc1
    refine am_steps ck_X8_isCategory 1 (pc' := 15) (lv' := [(0, .int x1)]) (st' := [.int (am_i 0)]) rfl ?_
    cases hm
    exact am_end (am_fd ck_X8_isCategory (pc := 15) rfl) am_rZ0 rfl rfl
  · replace hm := am_if hm hc1
    refine am_steps ck_X8_isCategory 2 (pc' := 7) (lv' := [(0, .int x1)]) (st' := [.int (am_i 64), .int x1]) rfl ?_
    refine am_icmp (tgt := 14) (am_fd ck_X8_isCategory (pc := 7) rfl) rfl (fun hc2 => ?_) (fun hc2 => ?_)
    · replace hm := am_it hm hc2
      refine am_steps ck_X8_isCategory 1 (pc' := 15) (lv' := [(0, .int x1)]) (st' := [.int (am_i 0)]) rfl ?_
      cases hm
      exact am_end (am_fd ck_X8_isCategory (pc := 15) rfl) am_rZ0 rfl rfl
    · replace hm := am_if hm hc2
      refine am_steps ck_X8_isCategory 2 (pc' := 15) (lv' := [(0, .int x1)]) (st' := [.int (am_i 1)]) rfl ?_
      cases hm
      exact am_end (am_fd ck_X8_isCategory (pc := 15) rfl) am_rZ1 rfl rfl
set_option maxRecDepth 100000 in
set_option maxHeartbeats 4000000 in
theorem x_X7_readAmount {G : am_G} {m : am_m} {r : am_rr} {a1 : Nat} {res : Int32 × am_m} (hL : am_Lay r) (ha1 : am_k a1 11 64) (hm : m_X7_readAmount m a1 = some res) : am_Met G mt_X7_readAmount 3 [.ref 2984, .ref a1] (am_hh m r) (some (.int res.1)) (am_hh res.2 r) := by
  refine am_of (by decide) (Nat.le_of_ble_eq_true rfl) ?_
  unfold m_X7_readAmount at hm
  show am_W G mt_X7_readAmount 3 _ _ 0 [(0, .ref 2984), (1, .ref a1)] [] (am_hh m r)
  refine am_steps ck_X7_readAmount 1 (pc' := 1) (lv' := [(0, .ref 2984), (1, .ref a1)]) (st' := [.ref 2984]) rfl ?_
  obtain ⟨q1, hq1, hm⟩ := am_bE hm
  refine ms_callV (M2 := mt_X7_readNumber) (d2 := 2) (ci := 5) [] (am_fd ck_X7_readAmount (pc := 1) rfl) ok_X7_readNumber tw_427 tw_429 ts_5 (by decide) kc_2984 (Nat.le_of_ble_eq_true rfl) (Nat.le_of_ble_eq_true rfl) (x_X7_readNumber hL hq1) ?_
  refine am_ifc (tgt := 9) (am_fd ck_X7_readAmount (pc := 4) rfl) rfl (fun hc2 => ?_) (fun hc2 => ?_)
  · replace hm := am_it hm hc2
    refine am_steps ck_X7_readAmount 1 (pc' := 10) (lv' := [(0, .ref 2984), (1, .ref a1)]) (st' := [.ref 2984]) rfl ?_
    refine ms_geti (ci := 5) (k := 5) (am_fd ck_X7_readAmount (pc := 10) rfl) tw_158 kc_2984 rfl ?_
    refine am_steps ck_X7_readAmount 2 (pc' := 15) (lv' := [(2, .int (q1.2 2984 5)), (0, .ref 2984), (1, .ref a1)]) (st' := [.int (q1.2 2984 5)]) rfl ?_
    obtain ⟨q3, hq3, hm⟩ := am_bE hm
    refine ms_callSN (host := RX8) (M2 := mt_X8_isCategory) (d2 := 1) [.int (q1.2 2984 5)] (am_fd ck_X7_readAmount (pc := 15) rfl) ok_X8_isCategory nest4 tw_236 (Nat.le_of_ble_eq_true rfl) (Nat.le_of_ble_eq_true rfl) (x_X8_isCategory hL hq3) ?_
    refine am_ifc (tgt := 31) (am_fd ck_X7_readAmount (pc := 18) rfl) rfl (fun hc4 => ?_) (fun hc4 => ?_)
    · replace hm := am_it hm hc4
      refine am_steps ck_X7_readAmount 2 (pc' := 33) (lv' := [(2, .int (q1.2 2984 5)), (0, .ref 2984), (1, .ref a1)]) (st' := [.int (q1.2 2984 5), .ref a1]) rfl ?_
      obtain ⟨hb5, hm⟩ := am_gE hm
      refine ms_iald (n := 64) (am_fd ck_X7_readAmount (pc := 33) rfl) ha1 hb5 ?_
      refine am_ifc (tgt := 47) (am_fd ck_X7_readAmount (pc := 34) rfl) rfl (fun hc6 => ?_) (fun hc6 => ?_)
      · replace hm := am_it hm hc6
        refine am_steps ck_X7_readAmount 2 (pc' := 50) (lv' := [(2, .int (q1.2 2984 5)), (0, .ref 2984), (1, .ref a1)]) (st' := [.int (am_i 120), .ref 2984]) rfl ?_
        obtain ⟨q7, hq7, hm⟩ := am_bE hm
        refine ms_callV (M2 := mt_X7_takeSign) (d2 := 2) (ci := 5) [.int (am_i 120)] (am_fd ck_X7_readAmount (pc := 50) rfl) ok_X7_takeSign tw_460 tw_462 ts_11 (by decide) kc_2984 (Nat.le_of_ble_eq_true rfl) (Nat.le_of_ble_eq_true rfl) (x_X7_takeSign hL hq7) ?_
        refine am_ifc (tgt := 63) (am_fd ck_X7_readAmount (pc := 53) rfl) rfl (fun hc8 => ?_) (fun hc8 => ?_)
        · replace hm := am_it hm hc8
          refine am_steps ck_X7_readAmount 1 (pc' := 64) (lv' := [(2, .int (q1.2 2984 5)), (0, .ref 2984), (1, .ref a1)]) (st' := [.int (am_i 0)]) rfl ?_
          cases hm
          exact am_end (am_fd ck_X7_readAmount (pc := 64) rfl) am_rZ0 rfl rfl
        · replace hm := am_if hm hc8
          refine am_steps ck_X7_readAmount 1 (pc' := 57) (lv' := [(2, .int (q1.2 2984 5)), (0, .ref 2984), (1, .ref a1)]) (st' := [.ref 2984]) rfl ?_
          obtain ⟨q9, hq9, hm⟩ := am_bE hm
          refine ms_callV (M2 := mt_X7_readNumber) (d2 := 2) (ci := 5) [] (am_fd ck_X7_readAmount (pc := 57) rfl) ok_X7_readNumber tw_427 tw_429 ts_5 (by decide) kc_2984 (Nat.le_of_ble_eq_true rfl) (Nat.le_of_ble_eq_true rfl) (x_X7_readNumber hL hq9) ?_
          refine am_ifc (tgt := 65) (am_fd ck_X7_readAmount (pc := 60) rfl) rfl (fun hc10 => ?_) (fun hc10 => ?_)
          · replace hm := am_it hm hc10
            refine am_steps ck_X7_readAmount 1 (pc' := 66) (lv' := [(2, .int (q1.2 2984 5)), (0, .ref 2984), (1, .ref a1)]) (st' := [.ref 2984]) rfl ?_
            refine ms_geti (ci := 5) (k := 5) (am_fd ck_X7_readAmount (pc := 66) rfl) tw_158 kc_2984 rfl ?_
            refine am_steps ck_X7_readAmount 1 (pc' := 70) (lv' := [(2, .int (q1.2 2984 5)), (0, .ref 2984), (1, .ref a1)]) (st' := [.int (am_i 1), .int (q9.2 2984 5)]) rfl ?_
            refine am_icmp (tgt := 83) (am_fd ck_X7_readAmount (pc := 70) rfl) rfl (fun hc11 => ?_) (fun hc11 => ?_)
            · replace hm := am_it hm hc11
              refine am_steps ck_X7_readAmount 3 (pc' := 86) (lv' := [(2, .int (q1.2 2984 5)), (0, .ref 2984), (1, .ref a1)]) (st' := [.ref 2984, .int (am_i 2), .ref 2984]) rfl ?_
              refine ms_geti (ci := 5) (k := 6) (am_fd ck_X7_readAmount (pc := 86) rfl) tw_159 kc_2984 rfl ?_
              obtain ⟨q12, hq12, hm⟩ := am_bE hm
              refine ms_callV (M2 := mt_X7_refuse) (d2 := 1) (ci := 5) [.int (am_i 2), .int (q9.2 2984 6)] (am_fd ck_X7_readAmount (pc := 89) rfl) ok_X7_refuse tw_438 tw_440 ts_7 (by decide) kc_2984 (Nat.le_of_ble_eq_true rfl) (Nat.le_of_ble_eq_true rfl) (x_X7_refuse hL hq12) ?_
              obtain ⟨hb13, hm⟩ := am_gE hm
              cases hm
              exact am_end (am_fd ck_X7_readAmount (pc := 92) rfl) (am_rZ hb13) rfl rfl
            · replace hm := am_if hm hc11
              refine am_steps ck_X7_readAmount 1 (pc' := 74) (lv' := [(2, .int (q1.2 2984 5)), (0, .ref 2984), (1, .ref a1)]) (st' := [.ref 2984]) rfl ?_
              refine ms_geti (ci := 5) (k := 5) (am_fd ck_X7_readAmount (pc := 74) rfl) tw_158 kc_2984 rfl ?_
              refine am_steps ck_X7_readAmount 1 (pc' := 80) (lv' := [(2, .int (q1.2 2984 5)), (0, .ref 2984), (1, .ref a1)]) (st' := [.int (am_i 9999), .int (q9.2 2984 5)]) rfl ?_
              refine am_icmp (tgt := 93) (am_fd ck_X7_readAmount (pc := 80) rfl) rfl (fun hc14 => ?_) (fun hc14 => ?_)
              · replace hm := am_it hm hc14
                refine am_steps ck_X7_readAmount 3 (pc' := 96) (lv' := [(2, .int (q1.2 2984 5)), (0, .ref 2984), (1, .ref a1)]) (st' := [.ref 2984, .int (q1.2 2984 5), .ref a1]) rfl ?_
                refine ms_geti (ci := 5) (k := 5) (am_fd ck_X7_readAmount (pc := 96) rfl) tw_158 kc_2984 rfl ?_
                obtain ⟨hb15, hm⟩ := am_gE hm
                refine ms_iast (n := 64) (am_fd ck_X7_readAmount (pc := 99) rfl) ha1 hb15 (fun m16 em16 => ?_)
                replace hm := am_letE em16 hm
                refine am_steps ck_X7_readAmount 1 (pc' := 101) (lv' := [(2, .int (q1.2 2984 5)), (0, .ref 2984), (1, .ref a1)]) (st' := [.int (am_i 1)]) rfl ?_
                cases hm
                exact am_end (am_fd ck_X7_readAmount (pc := 101) rfl) am_rZ1 rfl rfl
              · replace hm := am_if hm hc14
                refine am_steps ck_X7_readAmount 3 (pc' := 86) (lv' := [(2, .int (q1.2 2984 5)), (0, .ref 2984), (1, .ref a1)]) (st' := [.ref 2984, .int (am_i 2), .ref 2984]) rfl ?_
                refine ms_geti (ci := 5) (k := 6) (am_fd ck_X7_readAmount (pc := 86) rfl) tw_159 kc_2984 rfl ?_
                obtain ⟨q17, hq17, hm⟩ := am_bE hm
                refine ms_callV (M2 := mt_X7_refuse) (d2 := 1) (ci := 5) [.int (am_i 2), .int (q9.2 2984 6)] (am_fd ck_X7_readAmount (pc := 89) rfl) ok_X7_refuse tw_438 tw_440 ts_7 (by decide) kc_2984 (Nat.le_of_ble_eq_true rfl) (Nat.le_of_ble_eq_true rfl) (x_X7_refuse hL hq17) ?_
                obtain ⟨hb18, hm⟩ := am_gE hm
                cases hm
                exact am_end (am_fd ck_X7_readAmount (pc := 92) rfl) (am_rZ hb18) rfl rfl
          · replace hm := am_if hm hc10
            refine am_steps ck_X7_readAmount 1 (pc' := 64) (lv' := [(2, .int (q1.2 2984 5)), (0, .ref 2984), (1, .ref a1)]) (st' := [.int (am_i 0)]) rfl ?_
            cases hm
            exact am_end (am_fd ck_X7_readAmount (pc := 64) rfl) am_rZ0 rfl rfl
      · replace hm := am_if hm hc6
        refine am_steps ck_X7_readAmount 3 (pc' := 40) (lv' := [(2, .int (q1.2 2984 5)), (0, .ref 2984), (1, .ref a1)]) (st' := [.ref 2984, .int (am_i 3), .ref 2984]) rfl ?_
        refine ms_geti (ci := 5) (k := 6) (am_fd ck_X7_readAmount (pc := 40) rfl) tw_159 kc_2984 rfl ?_
        obtain ⟨q19, hq19, hm⟩ := am_bE hm
        refine ms_callV (M2 := mt_X7_refuse) (d2 := 1) (ci := 5) [.int (am_i 3), .int (q1.2 2984 6)] (am_fd ck_X7_readAmount (pc := 43) rfl) ok_X7_refuse tw_438 tw_440 ts_7 (by decide) kc_2984 (Nat.le_of_ble_eq_true rfl) (Nat.le_of_ble_eq_true rfl) (x_X7_refuse hL hq19) ?_
        obtain ⟨hb20, hm⟩ := am_gE hm
        cases hm
        exact am_end (am_fd ck_X7_readAmount (pc := 46) rfl) (am_rZ hb20) rfl rfl
    · replace hm := am_if hm hc4
      refine am_steps ck_X7_readAmount 3 (pc' := 24) (lv' := [(2, .int (q1.2 2984 5)), (0, .ref 2984), (1, .ref a1)]) (st' := [.ref 2984, .int (am_i 2), .ref 2984]) rfl ?_
      refine ms_geti (ci := 5) (k := 6) (am_fd ck_X7_readAmount (pc := 24) rfl) tw_159 kc_2984 rfl ?_
      obtain ⟨q21, hq21, hm⟩ := am_bE hm
      refine ms_callV (M2 := mt_X7_refuse) (d2 := 1) (ci := 5) [.int (am_i 2), .int (q1.2 2984 6)] (am_fd ck_X7_readAmount (pc := 27) rfl) ok_X7_refuse tw_438 tw_440 ts_7 (by decide) kc_2984 (Nat.le_of_ble_eq_true rfl) (Nat.le_of_ble_eq_true rfl) (x_X7_refuse hL hq21) ?_
      obtain ⟨hb22, hm⟩ := am_gE hm
      cases hm
      exact am_end (am_fd ck_X7_readAmount (pc := 30) rfl) (am_rZ hb22) rfl rfl
  · replace hm := am_if hm hc2
    refine am_steps ck_X7_readAmount 1 (pc' := 8) (lv' := [(0, .ref 2984), (1, .ref a1)]) (st' := [.int (am_i 0)]) rfl ?_
    cases hm
    exact am_end (am_fd ck_X7_readAmount (pc := 8) rfl) am_rZ0 rfl rfl
set_option maxRecDepth 100000 in
set_option maxHeartbeats 4000000 in
theorem x_X7_readEntry_46 {G : am_G} {o1 : Nat} {r : am_rr} {w2 : Nat} {res : Int32 × am_m} {k : am_m → Option (Int32 × am_m)} (hL : am_Lay r) (hO1 : am_og o1) (hw2 : am_k w2 11 64) : ∀ (n : Nat) (z3 : Int32) (z4 : Int32) (m : am_m), m_X7_readEntry_46 o1 w2 k n z3 z4 m = some res → (∀ (m1 : am_m), k m1 = some res → am_W G mt_X7_readEntry 4 (some (.int res.1)) (am_hh res.2 r) 92 [] [] (am_hh m1 r)) → am_W G mt_X7_readEntry 4 (some (.int res.1)) (am_hh res.2 r) 46 [(0, .ref 2984), (2, .ref w2), (3, .int z3), (4, .int z4)] [] (am_hh m r) := by
  intro n
  induction n with
  | zero => intro z3 z4 m hm K; cases hm
  | succ n ih =>
    intro z3 z4 m hm K
    unfold m_X7_readEntry_46 at hm
    refine am_steps ck_X7_readEntry 2 (pc' := 51) (lv' := [(0, .ref 2984), (2, .ref w2), (3, .int z3), (4, .int z4)]) (st' := [.int (am_i 400), .int z4]) rfl ?_
    refine am_icmp (tgt := 92) (am_fd ck_X7_readEntry (pc := 51) rfl) rfl (fun hc6 => ?_) (fun hc6 => ?_)
    · replace hm := am_it hm hc6
      refine am_subp [] rfl ?_
      exact K _ hm
    · replace hm := am_if hm hc6
      refine am_steps ck_X7_readEntry 2 (pc' := 56) (lv' := [(0, .ref 2984), (2, .ref w2), (3, .int z3), (4, .int z4)]) (st' := [.int z3, .ref 2984]) rfl ?_
      obtain ⟨q7, hq7, hm⟩ := am_bE hm
      refine ms_callV (M2 := mt_X7_takeSign) (d2 := 2) (ci := 5) [.int z3] (am_fd ck_X7_readEntry (pc := 56) rfl) ok_X7_takeSign tw_460 tw_462 ts_11 (by decide) kc_2984 (Nat.le_of_ble_eq_true rfl) (Nat.le_of_ble_eq_true rfl) (x_X7_takeSign hL hq7) ?_
      refine am_ifc (tgt := 70) (am_fd ck_X7_readEntry (pc := 59) rfl) rfl (fun hc8 => ?_) (fun hc8 => ?_)
      · replace hm := am_it hm hc8
        refine am_steps ck_X7_readEntry 1 (pc' := 71) (lv' := [(0, .ref 2984), (2, .ref w2), (3, .int z3), (4, .int z4)]) (st' := [.int (am_i 0)]) rfl ?_
        cases hm
        exact am_end (am_fd ck_X7_readEntry (pc := 71) rfl) am_rZ0 rfl rfl
      · replace hm := am_if hm hc8
        refine am_steps ck_X7_readEntry 2 (pc' := 64) (lv' := [(0, .ref 2984), (2, .ref w2), (3, .int z3), (4, .int z4)]) (st' := [.ref w2, .ref 2984]) rfl ?_
        obtain ⟨q9, hq9, hm⟩ := am_bE hm
        refine ms_callV (M2 := mt_X7_readAmount) (d2 := 3) (ci := 5) [.ref w2] (am_fd ck_X7_readEntry (pc := 64) rfl) ok_X7_readAmount tw_468 tw_470 ts_13 (by decide) kc_2984 (Nat.le_of_ble_eq_true rfl) (Nat.le_of_ble_eq_true rfl) (x_X7_readAmount hL hw2 hq9) ?_
        refine am_ifc (tgt := 72) (am_fd ck_X7_readEntry (pc := 67) rfl) rfl (fun hc10 => ?_) (fun hc10 => ?_)
        · replace hm := am_it hm hc10
          refine am_steps ck_X7_readEntry 1 (pc' := 73) (lv' := [(0, .ref 2984), (2, .ref w2), (3, .int z3), (4, .int z4)]) (st' := [.ref 2984]) rfl ?_
          obtain ⟨q11, hq11, hm⟩ := am_bE hm
          refine ms_callV (M2 := mt_X7_nextSign) (d2 := 1) (ci := 5) [] (am_fd ck_X7_readEntry (pc := 73) rfl) ok_X7_nextSign tw_431 tw_433 ts_6 (by decide) kc_2984 (Nat.le_of_ble_eq_true rfl) (Nat.le_of_ble_eq_true rfl) (x_X7_nextSign hL hq11) ?_
          refine am_steps ck_X7_readEntry 1 (pc' := 78) (lv' := [(0, .ref 2984), (2, .ref w2), (3, .int z3), (4, .int z4)]) (st' := [.int (am_i 44), .int q11.1]) rfl ?_
          refine am_icmp (tgt := 83) (am_fd ck_X7_readEntry (pc := 78) rfl) rfl (fun hc12 => ?_) (fun hc12 => ?_)
          · replace hm := am_it hm hc12
            refine am_steps ck_X7_readEntry 4 (pc' := 46) (lv' := [(4, .int (z4 + am_i 1)), (3, .int (am_i 44)), (0, .ref 2984), (2, .ref w2)]) (st' := []) rfl ?_
            refine am_subp [2, 3, 1, 0] rfl ?_
            exact ih _ _ _ hm K
          · replace hm := am_if hm hc12
            refine am_steps ck_X7_readEntry 1 (pc' := 82) (lv' := [(0, .ref 2984), (2, .ref w2), (3, .int z3), (4, .int z4)]) (st' := [.int (am_i 1)]) rfl ?_
            cases hm
            exact am_end (am_fd ck_X7_readEntry (pc := 82) rfl) am_rZ1 rfl rfl
        · replace hm := am_if hm hc10
          refine am_steps ck_X7_readEntry 1 (pc' := 71) (lv' := [(0, .ref 2984), (2, .ref w2), (3, .int z3), (4, .int z4)]) (st' := [.int (am_i 0)]) rfl ?_
          cases hm
          exact am_end (am_fd ck_X7_readEntry (pc := 71) rfl) am_rZ0 rfl rfl
set_option maxRecDepth 100000 in
set_option maxHeartbeats 4000000 in
theorem x_X7_readEntry {G : am_G} {m : am_m} {r : am_rr} {o1 : Nat} {res : Int32 × am_m} (hL : am_Lay r) (hO1 : am_og o1) (hm : m_X7_readEntry m o1 = some res) : am_Met G mt_X7_readEntry 4 [.ref 2984, .ref o1] (am_hh m r) (some (.int res.1)) (am_hh res.2 r) := by
  refine am_of (by decide) (Nat.le_of_ble_eq_true rfl) ?_
  unfold m_X7_readEntry at hm
  show am_W G mt_X7_readEntry 4 _ _ 0 [(0, .ref 2984), (1, .ref o1)] [] (am_hh m r)
  refine am_steps ck_X7_readEntry 1 (pc' := 1) (lv' := [(0, .ref 2984), (1, .ref o1)]) (st' := [.ref 2984]) rfl ?_
  obtain ⟨q1, hq1, hm⟩ := am_bE hm
  refine ms_callV (M2 := mt_X7_readNumber) (d2 := 2) (ci := 5) [] (am_fd ck_X7_readEntry (pc := 1) rfl) ok_X7_readNumber tw_427 tw_429 ts_5 (by decide) kc_2984 (Nat.le_of_ble_eq_true rfl) (Nat.le_of_ble_eq_true rfl) (x_X7_readNumber hL hq1) ?_
  refine am_ifc (tgt := 9) (am_fd ck_X7_readEntry (pc := 4) rfl) rfl (fun hc2 => ?_) (fun hc2 => ?_)
  · replace hm := am_it hm hc2
    refine am_steps ck_X7_readEntry 2 (pc' := 11) (lv' := [(0, .ref 2984), (1, .ref o1)]) (st' := [.ref 2984, .ref o1]) rfl ?_
    refine ms_geti (ci := 5) (k := 5) (am_fd ck_X7_readEntry (pc := 11) rfl) tw_158 kc_2984 rfl ?_
    obtain ⟨q3, hq3, hm⟩ := am_bE hm
    refine ms_callV (M2 := mt_X1_isThere) (d2 := 1) (ci := 1) [.int (q1.2 2984 5)] (am_fd ck_X7_readEntry (pc := 14) rfl) ok_X1_isThere tw_452 tw_232 tw_233 (by decide) (kO hO1) (Nat.le_of_ble_eq_true rfl) (Nat.le_of_ble_eq_true rfl) (x_X1_isThere hL hO1 hq3) ?_
    refine am_ifc (tgt := 30) (am_fd ck_X7_readEntry (pc := 17) rfl) rfl (fun hc4 => ?_) (fun hc4 => ?_)
    · replace hm := am_it hm hc4
      refine am_steps ck_X7_readEntry 1 (pc' := 31) (lv' := [(0, .ref 2984), (1, .ref o1)]) (st' := [.ref o1]) rfl ?_
      refine ms_getr (ci := 1) (k := 2) (v := (o1 + 3)) (am_fd ck_X7_readEntry (pc := 31) rfl) tw_45 (kO hO1) rfl (lyO2 hL hO1) (kWo hO1) ?_
      refine am_steps ck_X7_readEntry 1 (pc' := 35) (lv' := [(0, .ref 2984), (1, .ref o1)]) (st' := [.ref 2984, .ref (o1 + 3)]) rfl ?_
      refine ms_geti (ci := 5) (k := 5) (am_fd ck_X7_readEntry (pc := 35) rfl) tw_158 kc_2984 rfl ?_
      obtain ⟨hb5, hm⟩ := am_gE hm
      refine ms_rald (n := 24) (v := (aW o1 (am_ix (q1.2 2984 5)))) (am_fd ck_X7_readEntry (pc := 38) rfl) (kWo hO1) hb5 (lyW hL hO1 (am_ixl hb5)) (kW hO1 (am_ixl hb5)) ?_
      refine am_steps ck_X7_readEntry 5 (pc' := 46) (lv' := [(4, .int (am_i 0)), (3, .int (am_i 58)), (2, .ref (aW o1 (am_ix (q1.2 2984 5)))), (0, .ref 2984), (1, .ref o1)]) (st' := []) rfl ?_
      refine am_subp [3, 2, 1, 0] rfl ?_
      refine x_X7_readEntry_46 hL hO1 (kW hO1 (am_ixl hb5)) am_F _ _ _ hm (fun m13 hm => ?_)
      refine am_steps ck_X7_readEntry 1 (pc' := 93) (lv' := []) (st' := [.int (am_i 0)]) rfl ?_
      cases hm
      exact am_end (am_fd ck_X7_readEntry (pc := 93) rfl) am_rZ0 rfl rfl
    · replace hm := am_if hm hc4
      refine am_steps ck_X7_readEntry 3 (pc' := 23) (lv' := [(0, .ref 2984), (1, .ref o1)]) (st' := [.ref 2984, .int (am_i 2), .ref 2984]) rfl ?_
      refine ms_geti (ci := 5) (k := 6) (am_fd ck_X7_readEntry (pc := 23) rfl) tw_159 kc_2984 rfl ?_
      obtain ⟨q14, hq14, hm⟩ := am_bE hm
      refine ms_callV (M2 := mt_X7_refuse) (d2 := 1) (ci := 5) [.int (am_i 2), .int (q1.2 2984 6)] (am_fd ck_X7_readEntry (pc := 26) rfl) ok_X7_refuse tw_438 tw_440 ts_7 (by decide) kc_2984 (Nat.le_of_ble_eq_true rfl) (Nat.le_of_ble_eq_true rfl) (x_X7_refuse hL hq14) ?_
      obtain ⟨hb15, hm⟩ := am_gE hm
      cases hm
      exact am_end (am_fd ck_X7_readEntry (pc := 29) rfl) (am_rZ hb15) rfl rfl
  · replace hm := am_if hm hc2
    refine am_steps ck_X7_readEntry 1 (pc' := 8) (lv' := [(0, .ref 2984), (1, .ref o1)]) (st' := [.int (am_i 0)]) rfl ?_
    cases hm
    exact am_end (am_fd ck_X7_readEntry (pc := 8) rfl) am_rZ0 rfl rfl
set_option maxRecDepth 100000 in
set_option maxHeartbeats 4000000 in
theorem x_X7_readEntries_2 {G : am_G} {o1 : Nat} {r : am_rr} {res : Int32 × am_m} {k : am_m → Option (Int32 × am_m)} (hL : am_Lay r) (hO1 : am_og o1) : ∀ (n : Nat) (z2 : Int32) (m : am_m), m_X7_readEntries_2 o1 k n z2 m = some res → (∀ (m1 : am_m), k m1 = some res → am_W G mt_X7_readEntries 5 (some (.int res.1)) (am_hh res.2 r) 56 [] [] (am_hh m1 r)) → am_W G mt_X7_readEntries 5 (some (.int res.1)) (am_hh res.2 r) 2 [(0, .ref 2984), (1, .ref o1), (2, .int z2)] [] (am_hh m r) := by
  intro n
  induction n with
  | zero => intro z2 m hm K; cases hm
  | succ n ih =>
    intro z2 m hm K
    unfold m_X7_readEntries_2 at hm
    refine am_steps ck_X7_readEntries 2 (pc' := 6) (lv' := [(0, .ref 2984), (1, .ref o1), (2, .int z2)]) (st' := [.int (am_i 400), .int z2]) rfl ?_
    refine am_icmp (tgt := 56) (am_fd ck_X7_readEntries (pc := 6) rfl) rfl (fun hc1 => ?_) (fun hc1 => ?_)
    · replace hm := am_it hm hc1
      refine am_subp [] rfl ?_
      exact K _ hm
    · replace hm := am_if hm hc1
      refine am_steps ck_X7_readEntries 1 (pc' := 10) (lv' := [(0, .ref 2984), (1, .ref o1), (2, .int z2)]) (st' := [.ref 2984]) rfl ?_
      obtain ⟨q2, hq2, hm⟩ := am_bE hm
      refine ms_callV (M2 := mt_X7_nextSign) (d2 := 1) (ci := 5) [] (am_fd ck_X7_readEntries (pc := 10) rfl) ok_X7_nextSign tw_431 tw_433 ts_6 (by decide) kc_2984 (Nat.le_of_ble_eq_true rfl) (Nat.le_of_ble_eq_true rfl) (x_X7_nextSign hL hq2) ?_
      refine am_steps ck_X7_readEntries 1 (pc' := 14) (lv' := [(0, .ref 2984), (1, .ref o1), (2, .int z2)]) (st' := [.int (am_i (-1)), .int q2.1]) rfl ?_
      refine am_icmp (tgt := 19) (am_fd ck_X7_readEntries (pc := 14) rfl) rfl (fun hc3 => ?_) (fun hc3 => ?_)
      · replace hm := am_it hm hc3
        refine am_steps ck_X7_readEntries 2 (pc' := 22) (lv' := [(0, .ref 2984), (1, .ref o1), (2, .int z2)]) (st' := [.int (am_i 59), .ref 2984]) rfl ?_
        obtain ⟨q4, hq4, hm⟩ := am_bE hm
        refine ms_callV (M2 := mt_X7_takeSign) (d2 := 2) (ci := 5) [.int (am_i 59)] (am_fd ck_X7_readEntries (pc := 22) rfl) ok_X7_takeSign tw_460 tw_462 ts_11 (by decide) kc_2984 (Nat.le_of_ble_eq_true rfl) (Nat.le_of_ble_eq_true rfl) (x_X7_takeSign hL hq4) ?_
        refine am_ifc (tgt := 30) (am_fd ck_X7_readEntries (pc := 25) rfl) rfl (fun hc5 => ?_) (fun hc5 => ?_)
        · replace hm := am_it hm hc5
          refine am_steps ck_X7_readEntries 1 (pc' := 31) (lv' := [(0, .ref 2984), (1, .ref o1), (2, .int z2)]) (st' := [.ref 2984]) rfl ?_
          obtain ⟨q6, hq6, hm⟩ := am_bE hm
          refine ms_callV (M2 := mt_X7_nextSign) (d2 := 1) (ci := 5) [] (am_fd ck_X7_readEntries (pc := 31) rfl) ok_X7_nextSign tw_431 tw_433 ts_6 (by decide) kc_2984 (Nat.le_of_ble_eq_true rfl) (Nat.le_of_ble_eq_true rfl) (x_X7_nextSign hL hq6) ?_
          refine am_steps ck_X7_readEntries 1 (pc' := 35) (lv' := [(0, .ref 2984), (1, .ref o1), (2, .int z2)]) (st' := [.int (am_i (-1)), .int q6.1]) rfl ?_
          refine am_icmp (tgt := 40) (am_fd ck_X7_readEntries (pc := 35) rfl) rfl (fun hc7 => ?_) (fun hc7 => ?_)
          · replace hm := am_it hm hc7
            refine am_steps ck_X7_readEntries 2 (pc' := 42) (lv' := [(0, .ref 2984), (1, .ref o1), (2, .int z2)]) (st' := [.ref o1, .ref 2984]) rfl ?_
            obtain ⟨q8, hq8, hm⟩ := am_bE hm
            refine ms_callV (M2 := mt_X7_readEntry) (d2 := 4) (ci := 5) [.ref o1] (am_fd ck_X7_readEntries (pc := 42) rfl) ok_X7_readEntry tw_464 tw_466 ts_12 (by decide) kc_2984 (Nat.le_of_ble_eq_true rfl) (Nat.le_of_ble_eq_true rfl) (x_X7_readEntry hL hO1 hq8) ?_
            refine am_ifc (tgt := 50) (am_fd ck_X7_readEntries (pc := 45) rfl) rfl (fun hc9 => ?_) (fun hc9 => ?_)
            · replace hm := am_it hm hc9
              refine am_steps ck_X7_readEntries 2 (pc' := 2) (lv' := [(2, .int (z2 + am_i 1)), (0, .ref 2984), (1, .ref o1)]) (st' := []) rfl ?_
              refine am_subp [1, 2, 0] rfl ?_
              exact ih _ _ hm K
            · replace hm := am_if hm hc9
              refine am_steps ck_X7_readEntries 1 (pc' := 49) (lv' := [(0, .ref 2984), (1, .ref o1), (2, .int z2)]) (st' := [.int (am_i 0)]) rfl ?_
              cases hm
              exact am_end (am_fd ck_X7_readEntries (pc := 49) rfl) am_rZ0 rfl rfl
          · replace hm := am_if hm hc7
            refine am_steps ck_X7_readEntries 1 (pc' := 39) (lv' := [(0, .ref 2984), (1, .ref o1), (2, .int z2)]) (st' := [.int (am_i 1)]) rfl ?_
            cases hm
            exact am_end (am_fd ck_X7_readEntries (pc := 39) rfl) am_rZ1 rfl rfl
        · replace hm := am_if hm hc5
          refine am_steps ck_X7_readEntries 1 (pc' := 29) (lv' := [(0, .ref 2984), (1, .ref o1), (2, .int z2)]) (st' := [.int (am_i 0)]) rfl ?_
          cases hm
          exact am_end (am_fd ck_X7_readEntries (pc := 29) rfl) am_rZ0 rfl rfl
      · replace hm := am_if hm hc3
        refine am_steps ck_X7_readEntries 1 (pc' := 18) (lv' := [(0, .ref 2984), (1, .ref o1), (2, .int z2)]) (st' := [.int (am_i 1)]) rfl ?_
        cases hm
        exact am_end (am_fd ck_X7_readEntries (pc := 18) rfl) am_rZ1 rfl rfl
set_option maxRecDepth 100000 in
set_option maxHeartbeats 4000000 in
theorem x_X7_readEntries {G : am_G} {m : am_m} {r : am_rr} {o1 : Nat} {res : Int32 × am_m} (hL : am_Lay r) (hO1 : am_og o1) (hm : m_X7_readEntries m o1 = some res) : am_Met G mt_X7_readEntries 5 [.ref 2984, .ref o1] (am_hh m r) (some (.int res.1)) (am_hh res.2 r) := by
  refine am_of (by decide) (Nat.le_of_ble_eq_true rfl) ?_
  unfold m_X7_readEntries at hm
  show am_W G mt_X7_readEntries 5 _ _ 0 [(0, .ref 2984), (1, .ref o1)] [] (am_hh m r)
  refine am_steps ck_X7_readEntries 2 (pc' := 2) (lv' := [(2, .int (am_i 0)), (0, .ref 2984), (1, .ref o1)]) (st' := []) rfl ?_
  refine am_subp [1, 2, 0] rfl ?_
  refine x_X7_readEntries_2 hL hO1 am_F _ _ hm (fun m10 hm => ?_)
  refine am_steps ck_X7_readEntries 1 (pc' := 57) (lv' := []) (st' := [.int (am_i 0)]) rfl ?_
  cases hm
  exact am_end (am_fd ck_X7_readEntries (pc := 57) rfl) am_rZ0 rfl rfl
set_option maxRecDepth 100000 in
set_option maxHeartbeats 4000000 in
theorem x_X7_readHead {G : am_G} {m : am_m} {r : am_rr} {res : Int32 × am_m} (hL : am_Lay r) (hm : m_X7_readHead m  = some res) : am_Met G mt_X7_readHead 3 [.ref 2984] (am_hh m r) (some (.int res.1)) (am_hh res.2 r) := by
  refine am_of (by decide) (Nat.le_of_ble_eq_true rfl) ?_
  unfold m_X7_readHead at hm
  show am_W G mt_X7_readHead 3 _ _ 0 [(0, .ref 2984)] [] (am_hh m r)
  refine am_steps ck_X7_readHead 1 (pc' := 1) (lv' := [(0, .ref 2984)]) (st' := [.ref 2984]) rfl ?_
  obtain ⟨q1, hq1, hm⟩ := am_bE hm
  refine ms_callV (M2 := mt_X7_readNumber) (d2 := 2) (ci := 5) [] (am_fd ck_X7_readHead (pc := 1) rfl) ok_X7_readNumber tw_427 tw_429 ts_5 (by decide) kc_2984 (Nat.le_of_ble_eq_true rfl) (Nat.le_of_ble_eq_true rfl) (x_X7_readNumber hL hq1) ?_
  refine am_ifc (tgt := 9) (am_fd ck_X7_readHead (pc := 4) rfl) rfl (fun hc2 => ?_) (fun hc2 => ?_)
  · replace hm := am_it hm hc2
    refine am_steps ck_X7_readHead 1 (pc' := 10) (lv' := [(0, .ref 2984)]) (st' := [.ref 2984]) rfl ?_
    refine ms_geti (ci := 5) (k := 5) (am_fd ck_X7_readHead (pc := 10) rfl) tw_158 kc_2984 rfl ?_
    refine am_ifc (tgt := 28) (am_fd ck_X7_readHead (pc := 13) rfl) rfl (fun hc3 => ?_) (fun hc3 => ?_)
    · replace hm := am_it hm hc3
      refine am_steps ck_X7_readHead 2 (pc' := 33) (lv' := [(0, .ref 2984)]) (st' := [.int (am_i 1)]) rfl ?_
      cases hm
      exact am_end (am_fd ck_X7_readHead (pc := 33) rfl) am_rZ1 rfl rfl
    · replace hm := am_if hm hc3
      refine am_steps ck_X7_readHead 3 (pc' := 19) (lv' := [(0, .ref 2984)]) (st' := [.ref 2984, .int (am_i 2), .ref 2984]) rfl ?_
      refine ms_geti (ci := 5) (k := 6) (am_fd ck_X7_readHead (pc := 19) rfl) tw_159 kc_2984 rfl ?_
      obtain ⟨q4, hq4, hm⟩ := am_bE hm
      refine ms_callV (M2 := mt_X7_refuse) (d2 := 1) (ci := 5) [.int (am_i 2), .int (q1.2 2984 6)] (am_fd ck_X7_readHead (pc := 22) rfl) ok_X7_refuse tw_438 tw_440 ts_7 (by decide) kc_2984 (Nat.le_of_ble_eq_true rfl) (Nat.le_of_ble_eq_true rfl) (x_X7_refuse hL hq4) ?_
      refine am_ifc (tgt := 32) (am_fd ck_X7_readHead (pc := 25) rfl) rfl (fun hc5 => ?_) (fun hc5 => ?_)
      · replace hm := am_it hm hc5
        refine am_steps ck_X7_readHead 1 (pc' := 33) (lv' := [(0, .ref 2984)]) (st' := [.int (am_i 0)]) rfl ?_
        cases hm
        exact am_end (am_fd ck_X7_readHead (pc := 33) rfl) am_rZ0 rfl rfl
      · replace hm := am_if hm hc5
        refine am_steps ck_X7_readHead 2 (pc' := 33) (lv' := [(0, .ref 2984)]) (st' := [.int (am_i 1)]) rfl ?_
        cases hm
        exact am_end (am_fd ck_X7_readHead (pc := 33) rfl) am_rZ1 rfl rfl
  · replace hm := am_if hm hc2
    refine am_steps ck_X7_readHead 1 (pc' := 8) (lv' := [(0, .ref 2984)]) (st' := [.int (am_i 0)]) rfl ?_
    cases hm
    exact am_end (am_fd ck_X7_readHead (pc := 8) rfl) am_rZ0 rfl rfl
set_option maxRecDepth 100000 in
set_option maxHeartbeats 4000000 in
theorem x_X7_readUnit {G : am_G} {m : am_m} {r : am_rr} {o1 : Nat} {x2 : Int32} {res : Int32 × am_m} (hL : am_Lay r) (hO1 : am_og o1) (hm : m_X7_readUnit m o1 x2 = some res) : am_Met G mt_X7_readUnit 4 [.ref 2984, .ref o1, .int x2] (am_hh m r) (some (.int res.1)) (am_hh res.2 r) := by
  refine am_of (by decide) (Nat.le_of_ble_eq_true rfl) ?_
  unfold m_X7_readUnit at hm
  show am_W G mt_X7_readUnit 4 _ _ 0 [(0, .ref 2984), (1, .ref o1), (2, .int x2)] [] (am_hh m r)
  refine am_steps ck_X7_readUnit 1 (pc' := 1) (lv' := [(0, .ref 2984), (1, .ref o1), (2, .int x2)]) (st' := [.ref 2984]) rfl ?_
  obtain ⟨q1, hq1, hm⟩ := am_bE hm
  refine ms_callV (M2 := mt_X7_readNumber) (d2 := 2) (ci := 5) [] (am_fd ck_X7_readUnit (pc := 1) rfl) ok_X7_readNumber tw_427 tw_429 ts_5 (by decide) kc_2984 (Nat.le_of_ble_eq_true rfl) (Nat.le_of_ble_eq_true rfl) (x_X7_readNumber hL hq1) ?_
  refine am_ifc (tgt := 9) (am_fd ck_X7_readUnit (pc := 4) rfl) rfl (fun hc2 => ?_) (fun hc2 => ?_)
  · replace hm := am_it hm hc2
    refine am_steps ck_X7_readUnit 3 (pc' := 12) (lv' := [(3, .int (am_i 0)), (0, .ref 2984), (1, .ref o1), (2, .int x2)]) (st' := [.ref 2984]) rfl ?_
    refine ms_geti (ci := 5) (k := 5) (am_fd ck_X7_readUnit (pc := 12) rfl) tw_158 kc_2984 rfl ?_
    refine am_steps ck_X7_readUnit 1 (pc' := 17) (lv' := [(3, .int (am_i 0)), (0, .ref 2984), (1, .ref o1), (2, .int x2)]) (st' := [.int (am_i 24), .int (q1.2 2984 5)]) rfl ?_
    refine am_icmp (tgt := 25) (am_fd ck_X7_readUnit (pc := 17) rfl) rfl (fun hc3 => ?_) (fun hc3 => ?_)
    · replace hm := am_it hm hc3
      refine am_steps ck_X7_readUnit 2 (pc' := 27) (lv' := [(3, .int (am_i 0)), (0, .ref 2984), (1, .ref o1), (2, .int x2)]) (st' := [.ref 2984, .ref o1]) rfl ?_
      refine ms_geti (ci := 5) (k := 5) (am_fd ck_X7_readUnit (pc := 27) rfl) tw_158 kc_2984 rfl ?_
      obtain ⟨q4, hq4, hm⟩ := am_bE hm
      refine ms_callV (M2 := mt_X1_isThere) (d2 := 1) (ci := 1) [.int (q1.2 2984 5)] (am_fd ck_X7_readUnit (pc := 30) rfl) ok_X1_isThere tw_452 tw_232 tw_233 (by decide) (kO hO1) (Nat.le_of_ble_eq_true rfl) (Nat.le_of_ble_eq_true rfl) (x_X1_isThere hL hO1 hq4) ?_
      refine am_ifc (tgt := 41) (am_fd ck_X7_readUnit (pc := 33) rfl) rfl (fun hc5 => ?_) (fun hc5 => ?_)
      · replace hm := am_it hm hc5
        refine am_steps ck_X7_readUnit 2 (pc' := 43) (lv' := [(3, .int (am_i 0)), (0, .ref 2984), (1, .ref o1), (2, .int x2)]) (st' := [.int x2, .ref o1]) rfl ?_
        obtain ⟨q6, hq6, hm⟩ := am_bE hm
        refine ms_callV (M2 := mt_X1_depthOf) (d2 := 3) (ci := 1) [.int x2] (am_fd ck_X7_readUnit (pc := 43) rfl) ok_X1_depthOf tw_453 tw_269 tw_270 (by decide) (kO hO1) (Nat.le_of_ble_eq_true rfl) (Nat.le_of_ble_eq_true rfl) (x_X1_depthOf hL hO1 hq6) ?_
        refine am_steps ck_X7_readUnit 1 (pc' := 48) (lv' := [(3, .int (am_i 0)), (0, .ref 2984), (1, .ref o1), (2, .int x2)]) (st' := [.int (am_i 12), .int q6]) rfl ?_
        refine am_icmp (tgt := 53) (am_fd ck_X7_readUnit (pc := 48) rfl) rfl (fun hc7 => ?_) (fun hc7 => ?_)
        · replace hm := am_it hm hc7
          refine am_steps ck_X7_readUnit 1 (pc' := 54) (lv' := [(3, .int (am_i 0)), (0, .ref 2984), (1, .ref o1), (2, .int x2)]) (st' := [.int (am_i 0)]) rfl ?_
          refine am_ifc (tgt := 69) (am_fd ck_X7_readUnit (pc := 54) rfl) rfl (fun hc8 => ?_) (fun hc8 => ?_)
          · replace hm := am_it hm hc8
            refine am_steps ck_X7_readUnit 2 (pc' := 71) (lv' := [(3, .int (am_i 0)), (0, .ref 2984), (1, .ref o1), (2, .int x2)]) (st' := [.ref 2984, .ref o1]) rfl ?_
            refine ms_geti (ci := 5) (k := 5) (am_fd ck_X7_readUnit (pc := 71) rfl) tw_158 kc_2984 rfl ?_
            refine am_steps ck_X7_readUnit 1 (pc' := 75) (lv' := [(3, .int (am_i 0)), (0, .ref 2984), (1, .ref o1), (2, .int x2)]) (st' := [.int x2, .int (q1.2 2984 5), .ref o1]) rfl ?_
            obtain ⟨q9, hq9, hm⟩ := am_bE hm
            refine ms_callVv (M2 := mt_X1_settle) (d2 := 1) (ci := 1) [.int (q1.2 2984 5), .int x2] (am_fd ck_X7_readUnit (pc := 75) rfl) ok_X1_settle tw_454 tw_273 tw_274 (by decide) (kO hO1) (Nat.le_of_ble_eq_true rfl) (Nat.le_of_ble_eq_true rfl) (x_X1_settle hL hO1 hq9) ?_
            refine am_steps ck_X7_readUnit 1 (pc' := 79) (lv' := [(3, .int (am_i 0)), (0, .ref 2984), (1, .ref o1), (2, .int x2)]) (st' := [.ref 2984]) rfl ?_
            refine ms_geti (ci := 5) (k := 5) (am_fd ck_X7_readUnit (pc := 79) rfl) tw_158 kc_2984 rfl ?_
            cases hm
            exact am_end (am_fd ck_X7_readUnit (pc := 82) rfl) am_rI rfl rfl
          · replace hm := am_if hm hc8
            refine am_steps ck_X7_readUnit 3 (pc' := 60) (lv' := [(3, .int (am_i 0)), (0, .ref 2984), (1, .ref o1), (2, .int x2)]) (st' := [.ref 2984, .int (am_i 0), .ref 2984]) rfl ?_
            refine ms_geti (ci := 5) (k := 6) (am_fd ck_X7_readUnit (pc := 60) rfl) tw_159 kc_2984 rfl ?_
            obtain ⟨q10, hq10, hm⟩ := am_bE hm
            refine ms_callV (M2 := mt_X7_refuse) (d2 := 1) (ci := 5) [.int (am_i 0), .int (q1.2 2984 6)] (am_fd ck_X7_readUnit (pc := 63) rfl) ok_X7_refuse tw_438 tw_440 ts_7 (by decide) kc_2984 (Nat.le_of_ble_eq_true rfl) (Nat.le_of_ble_eq_true rfl) (x_X7_refuse hL hq10) ?_
            refine am_steps ck_X7_readUnit 2 (pc' := 68) (lv' := [(3, .int (am_i 0)), (0, .ref 2984), (1, .ref o1), (2, .int x2)]) (st' := [.int (am_i (-1))]) rfl ?_
            cases hm
            exact am_end (am_fd ck_X7_readUnit (pc := 68) rfl) am_rI rfl rfl
        · replace hm := am_if hm hc7
          refine am_steps ck_X7_readUnit 3 (pc' := 54) (lv' := [(3, .int (am_i 4)), (0, .ref 2984), (1, .ref o1), (2, .int x2)]) (st' := [.int (am_i 4)]) rfl ?_
          refine am_ifc (tgt := 69) (am_fd ck_X7_readUnit (pc := 54) rfl) rfl (fun hc11 => ?_) (fun hc11 => ?_)
          · replace hm := am_it hm hc11
            refine am_steps ck_X7_readUnit 2 (pc' := 71) (lv' := [(3, .int (am_i 4)), (0, .ref 2984), (1, .ref o1), (2, .int x2)]) (st' := [.ref 2984, .ref o1]) rfl ?_
            refine ms_geti (ci := 5) (k := 5) (am_fd ck_X7_readUnit (pc := 71) rfl) tw_158 kc_2984 rfl ?_
            refine am_steps ck_X7_readUnit 1 (pc' := 75) (lv' := [(3, .int (am_i 4)), (0, .ref 2984), (1, .ref o1), (2, .int x2)]) (st' := [.int x2, .int (q1.2 2984 5), .ref o1]) rfl ?_
            obtain ⟨q12, hq12, hm⟩ := am_bE hm
            refine ms_callVv (M2 := mt_X1_settle) (d2 := 1) (ci := 1) [.int (q1.2 2984 5), .int x2] (am_fd ck_X7_readUnit (pc := 75) rfl) ok_X1_settle tw_454 tw_273 tw_274 (by decide) (kO hO1) (Nat.le_of_ble_eq_true rfl) (Nat.le_of_ble_eq_true rfl) (x_X1_settle hL hO1 hq12) ?_
            refine am_steps ck_X7_readUnit 1 (pc' := 79) (lv' := [(3, .int (am_i 4)), (0, .ref 2984), (1, .ref o1), (2, .int x2)]) (st' := [.ref 2984]) rfl ?_
            refine ms_geti (ci := 5) (k := 5) (am_fd ck_X7_readUnit (pc := 79) rfl) tw_158 kc_2984 rfl ?_
            cases hm
            exact am_end (am_fd ck_X7_readUnit (pc := 82) rfl) am_rI rfl rfl
          · replace hm := am_if hm hc11
            refine am_steps ck_X7_readUnit 3 (pc' := 60) (lv' := [(3, .int (am_i 4)), (0, .ref 2984), (1, .ref o1), (2, .int x2)]) (st' := [.ref 2984, .int (am_i 4), .ref 2984]) rfl ?_
            refine ms_geti (ci := 5) (k := 6) (am_fd ck_X7_readUnit (pc := 60) rfl) tw_159 kc_2984 rfl ?_
            obtain ⟨q13, hq13, hm⟩ := am_bE hm
            refine ms_callV (M2 := mt_X7_refuse) (d2 := 1) (ci := 5) [.int (am_i 4), .int (q1.2 2984 6)] (am_fd ck_X7_readUnit (pc := 63) rfl) ok_X7_refuse tw_438 tw_440 ts_7 (by decide) kc_2984 (Nat.le_of_ble_eq_true rfl) (Nat.le_of_ble_eq_true rfl) (x_X7_refuse hL hq13) ?_
            refine am_steps ck_X7_readUnit 2 (pc' := 68) (lv' := [(3, .int (am_i 4)), (0, .ref 2984), (1, .ref o1), (2, .int x2)]) (st' := [.int (am_i (-1))]) rfl ?_
            cases hm
            exact am_end (am_fd ck_X7_readUnit (pc := 68) rfl) am_rI rfl rfl
      · replace hm := am_if hm hc5
        refine am_steps ck_X7_readUnit 4 (pc' := 54) (lv' := [(3, .int (am_i 3)), (0, .ref 2984), (1, .ref o1), (2, .int x2)]) (st' := [.int (am_i 3)]) rfl ?_
        refine am_ifc (tgt := 69) (am_fd ck_X7_readUnit (pc := 54) rfl) rfl (fun hc14 => ?_) (fun hc14 => ?_)
        · replace hm := am_it hm hc14
          refine am_steps ck_X7_readUnit 2 (pc' := 71) (lv' := [(3, .int (am_i 3)), (0, .ref 2984), (1, .ref o1), (2, .int x2)]) (st' := [.ref 2984, .ref o1]) rfl ?_
          refine ms_geti (ci := 5) (k := 5) (am_fd ck_X7_readUnit (pc := 71) rfl) tw_158 kc_2984 rfl ?_
          refine am_steps ck_X7_readUnit 1 (pc' := 75) (lv' := [(3, .int (am_i 3)), (0, .ref 2984), (1, .ref o1), (2, .int x2)]) (st' := [.int x2, .int (q1.2 2984 5), .ref o1]) rfl ?_
          obtain ⟨q15, hq15, hm⟩ := am_bE hm
          refine ms_callVv (M2 := mt_X1_settle) (d2 := 1) (ci := 1) [.int (q1.2 2984 5), .int x2] (am_fd ck_X7_readUnit (pc := 75) rfl) ok_X1_settle tw_454 tw_273 tw_274 (by decide) (kO hO1) (Nat.le_of_ble_eq_true rfl) (Nat.le_of_ble_eq_true rfl) (x_X1_settle hL hO1 hq15) ?_
          refine am_steps ck_X7_readUnit 1 (pc' := 79) (lv' := [(3, .int (am_i 3)), (0, .ref 2984), (1, .ref o1), (2, .int x2)]) (st' := [.ref 2984]) rfl ?_
          refine ms_geti (ci := 5) (k := 5) (am_fd ck_X7_readUnit (pc := 79) rfl) tw_158 kc_2984 rfl ?_
          cases hm
          exact am_end (am_fd ck_X7_readUnit (pc := 82) rfl) am_rI rfl rfl
        · replace hm := am_if hm hc14
          refine am_steps ck_X7_readUnit 3 (pc' := 60) (lv' := [(3, .int (am_i 3)), (0, .ref 2984), (1, .ref o1), (2, .int x2)]) (st' := [.ref 2984, .int (am_i 3), .ref 2984]) rfl ?_
          refine ms_geti (ci := 5) (k := 6) (am_fd ck_X7_readUnit (pc := 60) rfl) tw_159 kc_2984 rfl ?_
          obtain ⟨q16, hq16, hm⟩ := am_bE hm
          refine ms_callV (M2 := mt_X7_refuse) (d2 := 1) (ci := 5) [.int (am_i 3), .int (q1.2 2984 6)] (am_fd ck_X7_readUnit (pc := 63) rfl) ok_X7_refuse tw_438 tw_440 ts_7 (by decide) kc_2984 (Nat.le_of_ble_eq_true rfl) (Nat.le_of_ble_eq_true rfl) (x_X7_refuse hL hq16) ?_
          refine am_steps ck_X7_readUnit 2 (pc' := 68) (lv' := [(3, .int (am_i 3)), (0, .ref 2984), (1, .ref o1), (2, .int x2)]) (st' := [.int (am_i (-1))]) rfl ?_
          cases hm
          exact am_end (am_fd ck_X7_readUnit (pc := 68) rfl) am_rI rfl rfl
    · replace hm := am_if hm hc3
      refine am_steps ck_X7_readUnit 4 (pc' := 54) (lv' := [(3, .int (am_i 2)), (0, .ref 2984), (1, .ref o1), (2, .int x2)]) (st' := [.int (am_i 2)]) rfl ?_
      refine am_ifc (tgt := 69) (am_fd ck_X7_readUnit (pc := 54) rfl) rfl (fun hc17 => ?_) (fun hc17 => ?_)
      · replace hm := am_it hm hc17
        refine am_steps ck_X7_readUnit 2 (pc' := 71) (lv' := [(3, .int (am_i 2)), (0, .ref 2984), (1, .ref o1), (2, .int x2)]) (st' := [.ref 2984, .ref o1]) rfl ?_
        refine ms_geti (ci := 5) (k := 5) (am_fd ck_X7_readUnit (pc := 71) rfl) tw_158 kc_2984 rfl ?_
        refine am_steps ck_X7_readUnit 1 (pc' := 75) (lv' := [(3, .int (am_i 2)), (0, .ref 2984), (1, .ref o1), (2, .int x2)]) (st' := [.int x2, .int (q1.2 2984 5), .ref o1]) rfl ?_
        obtain ⟨q18, hq18, hm⟩ := am_bE hm
        refine ms_callVv (M2 := mt_X1_settle) (d2 := 1) (ci := 1) [.int (q1.2 2984 5), .int x2] (am_fd ck_X7_readUnit (pc := 75) rfl) ok_X1_settle tw_454 tw_273 tw_274 (by decide) (kO hO1) (Nat.le_of_ble_eq_true rfl) (Nat.le_of_ble_eq_true rfl) (x_X1_settle hL hO1 hq18) ?_
        refine am_steps ck_X7_readUnit 1 (pc' := 79) (lv' := [(3, .int (am_i 2)), (0, .ref 2984), (1, .ref o1), (2, .int x2)]) (st' := [.ref 2984]) rfl ?_
        refine ms_geti (ci := 5) (k := 5) (am_fd ck_X7_readUnit (pc := 79) rfl) tw_158 kc_2984 rfl ?_
        cases hm
        exact am_end (am_fd ck_X7_readUnit (pc := 82) rfl) am_rI rfl rfl
      · replace hm := am_if hm hc17
        refine am_steps ck_X7_readUnit 3 (pc' := 60) (lv' := [(3, .int (am_i 2)), (0, .ref 2984), (1, .ref o1), (2, .int x2)]) (st' := [.ref 2984, .int (am_i 2), .ref 2984]) rfl ?_
        refine ms_geti (ci := 5) (k := 6) (am_fd ck_X7_readUnit (pc := 60) rfl) tw_159 kc_2984 rfl ?_
        obtain ⟨q19, hq19, hm⟩ := am_bE hm
        refine ms_callV (M2 := mt_X7_refuse) (d2 := 1) (ci := 5) [.int (am_i 2), .int (q1.2 2984 6)] (am_fd ck_X7_readUnit (pc := 63) rfl) ok_X7_refuse tw_438 tw_440 ts_7 (by decide) kc_2984 (Nat.le_of_ble_eq_true rfl) (Nat.le_of_ble_eq_true rfl) (x_X7_refuse hL hq19) ?_
        refine am_steps ck_X7_readUnit 2 (pc' := 68) (lv' := [(3, .int (am_i 2)), (0, .ref 2984), (1, .ref o1), (2, .int x2)]) (st' := [.int (am_i (-1))]) rfl ?_
        cases hm
        exact am_end (am_fd ck_X7_readUnit (pc := 68) rfl) am_rI rfl rfl
  · replace hm := am_if hm hc2
    refine am_steps ck_X7_readUnit 1 (pc' := 8) (lv' := [(0, .ref 2984), (1, .ref o1), (2, .int x2)]) (st' := [.int (am_i (-1))]) rfl ?_
    cases hm
    exact am_end (am_fd ck_X7_readUnit (pc := 8) rfl) am_rI rfl rfl
set_option maxRecDepth 100000 in
set_option maxHeartbeats 4000000 in
theorem x_X7_readUnits_7 {G : am_G} {o1 : Nat} {r : am_rr} {res : Int32 × am_m} {k : am_m → Option (Int32 × am_m)} (hL : am_Lay r) (hO1 : am_og o1) : ∀ (n : Nat) (z2 : Int32) (z3 : Int32) (z4 : Int32) (m : am_m), m_X7_readUnits_7 o1 k n z2 z3 z4 m = some res → (∀ (m1 : am_m), k m1 = some res → am_W G mt_X7_readUnits 5 (some (.int res.1)) (am_hh res.2 r) 148 [] [] (am_hh m1 r)) → am_W G mt_X7_readUnits 5 (some (.int res.1)) (am_hh res.2 r) 7 [(0, .ref 2984), (1, .ref o1), (2, .int z2), (3, .int z3), (4, .int z4)] [] (am_hh m r) := by
  intro n
  induction n with
  | zero => intro z2 z3 z4 m hm K; cases hm
  | succ n ih =>
    intro z2 z3 z4 m hm K
    unfold m_X7_readUnits_7 at hm
    refine am_steps ck_X7_readUnits 2 (pc' := 12) (lv' := [(0, .ref 2984), (1, .ref o1), (2, .int z2), (3, .int z3), (4, .int z4)]) (st' := [.int (am_i 400), .int z4]) rfl ?_
    refine am_icmp (tgt := 148) (am_fd ck_X7_readUnits (pc := 12) rfl) rfl (fun hc1 => ?_) (fun hc1 => ?_)
    · replace hm := am_it hm hc1
      refine am_subp [] rfl ?_
      exact K _ hm
    · replace hm := am_if hm hc1
      refine am_steps ck_X7_readUnits 1 (pc' := 16) (lv' := [(0, .ref 2984), (1, .ref o1), (2, .int z2), (3, .int z3), (4, .int z4)]) (st' := [.ref 2984]) rfl ?_
      obtain ⟨q2, hq2, hm⟩ := am_bE hm
      refine ms_callV (M2 := mt_X7_nextSign) (d2 := 1) (ci := 5) [] (am_fd ck_X7_readUnits (pc := 16) rfl) ok_X7_nextSign tw_431 tw_433 ts_6 (by decide) kc_2984 (Nat.le_of_ble_eq_true rfl) (Nat.le_of_ble_eq_true rfl) (x_X7_nextSign hL hq2) ?_
      refine am_steps ck_X7_readUnits 3 (pc' := 25) (lv' := [(5, .int q2.1), (0, .ref 2984), (1, .ref o1), (2, .int z2), (3, .int z3), (4, .int z4)]) (st' := [.int (am_i 40), .int q2.1]) rfl ?_
      refine am_icmp (tgt := 59) (am_fd ck_X7_readUnits (pc := 25) rfl) rfl (fun hc3 => ?_) (fun hc3 => ?_)
      · replace hm := am_it hm hc3
        refine am_steps ck_X7_readUnits 2 (pc' := 63) (lv' := [(5, .int q2.1), (0, .ref 2984), (1, .ref o1), (2, .int z2), (3, .int z3), (4, .int z4)]) (st' := [.int (am_i 41), .int q2.1]) rfl ?_
        refine am_icmp (tgt := 92) (am_fd ck_X7_readUnits (pc := 63) rfl) rfl (fun hc4 => ?_) (fun hc4 => ?_)
        · replace hm := am_it hm hc4
          refine am_steps ck_X7_readUnits 1 (pc' := 94) (lv' := [(5, .int q2.1), (0, .ref 2984), (1, .ref o1), (2, .int z2), (3, .int z3), (4, .int z4)]) (st' := [.int q2.1]) rfl ?_
          obtain ⟨q5, hq5, hm⟩ := am_bE hm
          refine ms_callS (M2 := mt_X7_isDigit) (d2 := 1) [.int q2.1] (am_fd ck_X7_readUnits (pc := 94) rfl) ok_X7_isDigit tw_435 tw_436 (Nat.le_of_ble_eq_true rfl) (Nat.le_of_ble_eq_true rfl) (x_X7_isDigit hL hq5) ?_
          refine am_ifc (tgt := 119) (am_fd ck_X7_readUnits (pc := 97) rfl) rfl (fun hc6 => ?_) (fun hc6 => ?_)
          · replace hm := am_it hm hc6
            refine am_steps ck_X7_readUnits 2 (pc' := 121) (lv' := [(5, .int q2.1), (0, .ref 2984), (1, .ref o1), (2, .int z2), (3, .int z3), (4, .int z4)]) (st' := [.int (am_i (-1)), .int z2]) rfl ?_
            refine am_icmp (tgt := 136) (am_fd ck_X7_readUnits (pc := 121) rfl) rfl (fun hc7 => ?_) (fun hc7 => ?_)
            · replace hm := am_it hm hc7
              refine am_steps ck_X7_readUnits 2 (pc' := 141) (lv' := [(5, .int q2.1), (0, .ref 2984), (1, .ref o1), (2, .int z2), (3, .int z3), (4, .int z4)]) (st' := [.int (am_i 1)]) rfl ?_
              cases hm
              exact am_end (am_fd ck_X7_readUnits (pc := 141) rfl) am_rZ1 rfl rfl
            · replace hm := am_if hm hc7
              refine am_steps ck_X7_readUnits 3 (pc' := 127) (lv' := [(5, .int q2.1), (0, .ref 2984), (1, .ref o1), (2, .int z2), (3, .int z3), (4, .int z4)]) (st' := [.ref 2984, .int (am_i 1), .ref 2984]) rfl ?_
              refine ms_geti (ci := 5) (k := 4) (am_fd ck_X7_readUnits (pc := 127) rfl) tw_157 kc_2984 rfl ?_
              obtain ⟨q8, hq8, hm⟩ := am_bE hm
              refine ms_callV (M2 := mt_X7_refuse) (d2 := 1) (ci := 5) [.int (am_i 1), .int (q2.2 2984 4)] (am_fd ck_X7_readUnits (pc := 130) rfl) ok_X7_refuse tw_438 tw_440 ts_7 (by decide) kc_2984 (Nat.le_of_ble_eq_true rfl) (Nat.le_of_ble_eq_true rfl) (x_X7_refuse hL hq8) ?_
              refine am_ifc (tgt := 140) (am_fd ck_X7_readUnits (pc := 133) rfl) rfl (fun hc9 => ?_) (fun hc9 => ?_)
              · replace hm := am_it hm hc9
                refine am_steps ck_X7_readUnits 1 (pc' := 141) (lv' := [(5, .int q2.1), (0, .ref 2984), (1, .ref o1), (2, .int z2), (3, .int z3), (4, .int z4)]) (st' := [.int (am_i 0)]) rfl ?_
                cases hm
                exact am_end (am_fd ck_X7_readUnits (pc := 141) rfl) am_rZ0 rfl rfl
              · replace hm := am_if hm hc9
                refine am_steps ck_X7_readUnits 2 (pc' := 141) (lv' := [(5, .int q2.1), (0, .ref 2984), (1, .ref o1), (2, .int z2), (3, .int z3), (4, .int z4)]) (st' := [.int (am_i 1)]) rfl ?_
                cases hm
                exact am_end (am_fd ck_X7_readUnits (pc := 141) rfl) am_rZ1 rfl rfl
          · replace hm := am_if hm hc6
            refine am_steps ck_X7_readUnits 2 (pc' := 102) (lv' := [(5, .int q2.1), (0, .ref 2984), (1, .ref o1), (2, .int z2), (3, .int z3), (4, .int z4)]) (st' := [.int (am_i (-1)), .int z2]) rfl ?_
            refine am_icmp (tgt := 119) (am_fd ck_X7_readUnits (pc := 102) rfl) rfl (fun hc10 => ?_) (fun hc10 => ?_)
            · replace hm := am_it hm hc10
              refine am_steps ck_X7_readUnits 2 (pc' := 121) (lv' := [(5, .int q2.1), (0, .ref 2984), (1, .ref o1), (2, .int z2), (3, .int z3), (4, .int z4)]) (st' := [.int (am_i (-1)), .int z2]) rfl ?_
              refine am_icmp (tgt := 136) (am_fd ck_X7_readUnits (pc := 121) rfl) rfl (fun hc11 => ?_) (fun hc11 => ?_)
              · replace hm := am_it hm hc11
                refine am_steps ck_X7_readUnits 2 (pc' := 141) (lv' := [(5, .int q2.1), (0, .ref 2984), (1, .ref o1), (2, .int z2), (3, .int z3), (4, .int z4)]) (st' := [.int (am_i 1)]) rfl ?_
                cases hm
                exact am_end (am_fd ck_X7_readUnits (pc := 141) rfl) am_rZ1 rfl rfl
              · replace hm := am_if hm hc11
                refine am_steps ck_X7_readUnits 3 (pc' := 127) (lv' := [(5, .int q2.1), (0, .ref 2984), (1, .ref o1), (2, .int z2), (3, .int z3), (4, .int z4)]) (st' := [.ref 2984, .int (am_i 1), .ref 2984]) rfl ?_
                refine ms_geti (ci := 5) (k := 4) (am_fd ck_X7_readUnits (pc := 127) rfl) tw_157 kc_2984 rfl ?_
                obtain ⟨q12, hq12, hm⟩ := am_bE hm
                refine ms_callV (M2 := mt_X7_refuse) (d2 := 1) (ci := 5) [.int (am_i 1), .int (q2.2 2984 4)] (am_fd ck_X7_readUnits (pc := 130) rfl) ok_X7_refuse tw_438 tw_440 ts_7 (by decide) kc_2984 (Nat.le_of_ble_eq_true rfl) (Nat.le_of_ble_eq_true rfl) (x_X7_refuse hL hq12) ?_
                refine am_ifc (tgt := 140) (am_fd ck_X7_readUnits (pc := 133) rfl) rfl (fun hc13 => ?_) (fun hc13 => ?_)
                · replace hm := am_it hm hc13
                  refine am_steps ck_X7_readUnits 1 (pc' := 141) (lv' := [(5, .int q2.1), (0, .ref 2984), (1, .ref o1), (2, .int z2), (3, .int z3), (4, .int z4)]) (st' := [.int (am_i 0)]) rfl ?_
                  cases hm
                  exact am_end (am_fd ck_X7_readUnits (pc := 141) rfl) am_rZ0 rfl rfl
                · replace hm := am_if hm hc13
                  refine am_steps ck_X7_readUnits 2 (pc' := 141) (lv' := [(5, .int q2.1), (0, .ref 2984), (1, .ref o1), (2, .int z2), (3, .int z3), (4, .int z4)]) (st' := [.int (am_i 1)]) rfl ?_
                  cases hm
                  exact am_end (am_fd ck_X7_readUnits (pc := 141) rfl) am_rZ1 rfl rfl
            · replace hm := am_if hm hc10
              refine am_steps ck_X7_readUnits 3 (pc' := 108) (lv' := [(5, .int q2.1), (0, .ref 2984), (1, .ref o1), (2, .int z2), (3, .int z3), (4, .int z4)]) (st' := [.int z2, .ref o1, .ref 2984]) rfl ?_
              obtain ⟨q14, hq14, hm⟩ := am_bE hm
              refine ms_callV (M2 := mt_X7_readUnit) (d2 := 4) (ci := 5) [.ref o1, .int z2] (am_fd ck_X7_readUnits (pc := 108) rfl) ok_X7_readUnit tw_448 tw_450 ts_9 (by decide) kc_2984 (Nat.le_of_ble_eq_true rfl) (Nat.le_of_ble_eq_true rfl) (x_X7_readUnit hL hO1 hq14) ?_
              refine am_steps ck_X7_readUnits 3 (pc' := 114) (lv' := [(3, .int q14.1), (5, .int q2.1), (0, .ref 2984), (1, .ref o1), (2, .int z2), (4, .int z4)]) (st' := [.int (am_i (-1)), .int q14.1]) rfl ?_
              refine am_icmp (tgt := 142) (am_fd ck_X7_readUnits (pc := 114) rfl) rfl (fun hc15 => ?_) (fun hc15 => ?_)
              · replace hm := am_it hm hc15
                refine am_steps ck_X7_readUnits 2 (pc' := 7) (lv' := [(4, .int (z4 + am_i 1)), (3, .int q14.1), (5, .int q2.1), (0, .ref 2984), (1, .ref o1), (2, .int z2)]) (st' := []) rfl ?_
                refine am_subp [3, 4, 5, 1, 0] rfl ?_
                exact ih _ _ _ _ hm K
              · replace hm := am_if hm hc15
                refine am_steps ck_X7_readUnits 1 (pc' := 118) (lv' := [(3, .int q14.1), (5, .int q2.1), (0, .ref 2984), (1, .ref o1), (2, .int z2), (4, .int z4)]) (st' := [.int (am_i 0)]) rfl ?_
                cases hm
                exact am_end (am_fd ck_X7_readUnits (pc := 118) rfl) am_rZ0 rfl rfl
        · replace hm := am_if hm hc4
          refine am_steps ck_X7_readUnits 2 (pc' := 68) (lv' := [(5, .int q2.1), (0, .ref 2984), (1, .ref o1), (2, .int z2), (3, .int z3), (4, .int z4)]) (st' := [.int (am_i (-1)), .int z2]) rfl ?_
          refine am_icmp (tgt := 92) (am_fd ck_X7_readUnits (pc := 68) rfl) rfl (fun hc16 => ?_) (fun hc16 => ?_)
          · replace hm := am_it hm hc16
            refine am_steps ck_X7_readUnits 1 (pc' := 94) (lv' := [(5, .int q2.1), (0, .ref 2984), (1, .ref o1), (2, .int z2), (3, .int z3), (4, .int z4)]) (st' := [.int q2.1]) rfl ?_
            obtain ⟨q17, hq17, hm⟩ := am_bE hm
            refine ms_callS (M2 := mt_X7_isDigit) (d2 := 1) [.int q2.1] (am_fd ck_X7_readUnits (pc := 94) rfl) ok_X7_isDigit tw_435 tw_436 (Nat.le_of_ble_eq_true rfl) (Nat.le_of_ble_eq_true rfl) (x_X7_isDigit hL hq17) ?_
            refine am_ifc (tgt := 119) (am_fd ck_X7_readUnits (pc := 97) rfl) rfl (fun hc18 => ?_) (fun hc18 => ?_)
            · replace hm := am_it hm hc18
              refine am_steps ck_X7_readUnits 2 (pc' := 121) (lv' := [(5, .int q2.1), (0, .ref 2984), (1, .ref o1), (2, .int z2), (3, .int z3), (4, .int z4)]) (st' := [.int (am_i (-1)), .int z2]) rfl ?_
              refine am_icmp (tgt := 136) (am_fd ck_X7_readUnits (pc := 121) rfl) rfl (fun hc19 => ?_) (fun hc19 => ?_)
              · replace hm := am_it hm hc19
                refine am_steps ck_X7_readUnits 2 (pc' := 141) (lv' := [(5, .int q2.1), (0, .ref 2984), (1, .ref o1), (2, .int z2), (3, .int z3), (4, .int z4)]) (st' := [.int (am_i 1)]) rfl ?_
                cases hm
                exact am_end (am_fd ck_X7_readUnits (pc := 141) rfl) am_rZ1 rfl rfl
              · replace hm := am_if hm hc19
                refine am_steps ck_X7_readUnits 3 (pc' := 127) (lv' := [(5, .int q2.1), (0, .ref 2984), (1, .ref o1), (2, .int z2), (3, .int z3), (4, .int z4)]) (st' := [.ref 2984, .int (am_i 1), .ref 2984]) rfl ?_
                refine ms_geti (ci := 5) (k := 4) (am_fd ck_X7_readUnits (pc := 127) rfl) tw_157 kc_2984 rfl ?_
                obtain ⟨q20, hq20, hm⟩ := am_bE hm
                refine ms_callV (M2 := mt_X7_refuse) (d2 := 1) (ci := 5) [.int (am_i 1), .int (q2.2 2984 4)] (am_fd ck_X7_readUnits (pc := 130) rfl) ok_X7_refuse tw_438 tw_440 ts_7 (by decide) kc_2984 (Nat.le_of_ble_eq_true rfl) (Nat.le_of_ble_eq_true rfl) (x_X7_refuse hL hq20) ?_
                refine am_ifc (tgt := 140) (am_fd ck_X7_readUnits (pc := 133) rfl) rfl (fun hc21 => ?_) (fun hc21 => ?_)
                · replace hm := am_it hm hc21
                  refine am_steps ck_X7_readUnits 1 (pc' := 141) (lv' := [(5, .int q2.1), (0, .ref 2984), (1, .ref o1), (2, .int z2), (3, .int z3), (4, .int z4)]) (st' := [.int (am_i 0)]) rfl ?_
                  cases hm
                  exact am_end (am_fd ck_X7_readUnits (pc := 141) rfl) am_rZ0 rfl rfl
                · replace hm := am_if hm hc21
                  refine am_steps ck_X7_readUnits 2 (pc' := 141) (lv' := [(5, .int q2.1), (0, .ref 2984), (1, .ref o1), (2, .int z2), (3, .int z3), (4, .int z4)]) (st' := [.int (am_i 1)]) rfl ?_
                  cases hm
                  exact am_end (am_fd ck_X7_readUnits (pc := 141) rfl) am_rZ1 rfl rfl
            · replace hm := am_if hm hc18
              refine am_steps ck_X7_readUnits 2 (pc' := 102) (lv' := [(5, .int q2.1), (0, .ref 2984), (1, .ref o1), (2, .int z2), (3, .int z3), (4, .int z4)]) (st' := [.int (am_i (-1)), .int z2]) rfl ?_
              refine am_icmp (tgt := 119) (am_fd ck_X7_readUnits (pc := 102) rfl) rfl (fun hc22 => ?_) (fun hc22 => ?_)
              · replace hm := am_it hm hc22
                refine am_steps ck_X7_readUnits 2 (pc' := 121) (lv' := [(5, .int q2.1), (0, .ref 2984), (1, .ref o1), (2, .int z2), (3, .int z3), (4, .int z4)]) (st' := [.int (am_i (-1)), .int z2]) rfl ?_
                refine am_icmp (tgt := 136) (am_fd ck_X7_readUnits (pc := 121) rfl) rfl (fun hc23 => ?_) (fun hc23 => ?_)
                · replace hm := am_it hm hc23
                  refine am_steps ck_X7_readUnits 2 (pc' := 141) (lv' := [(5, .int q2.1), (0, .ref 2984), (1, .ref o1), (2, .int z2), (3, .int z3), (4, .int z4)]) (st' := [.int (am_i 1)]) rfl ?_
                  cases hm
                  exact am_end (am_fd ck_X7_readUnits (pc := 141) rfl) am_rZ1 rfl rfl
                · replace hm := am_if hm hc23
                  refine am_steps ck_X7_readUnits 3 (pc' := 127) (lv' := [(5, .int q2.1), (0, .ref 2984), (1, .ref o1), (2, .int z2), (3, .int z3), (4, .int z4)]) (st' := [.ref 2984, .int (am_i 1), .ref 2984]) rfl ?_
                  refine ms_geti (ci := 5) (k := 4) (am_fd ck_X7_readUnits (pc := 127) rfl) tw_157 kc_2984 rfl ?_
                  obtain ⟨q24, hq24, hm⟩ := am_bE hm
                  refine ms_callV (M2 := mt_X7_refuse) (d2 := 1) (ci := 5) [.int (am_i 1), .int (q2.2 2984 4)] (am_fd ck_X7_readUnits (pc := 130) rfl) ok_X7_refuse tw_438 tw_440 ts_7 (by decide) kc_2984 (Nat.le_of_ble_eq_true rfl) (Nat.le_of_ble_eq_true rfl) (x_X7_refuse hL hq24) ?_
                  refine am_ifc (tgt := 140) (am_fd ck_X7_readUnits (pc := 133) rfl) rfl (fun hc25 => ?_) (fun hc25 => ?_)
                  · replace hm := am_it hm hc25
                    refine am_steps ck_X7_readUnits 1 (pc' := 141) (lv' := [(5, .int q2.1), (0, .ref 2984), (1, .ref o1), (2, .int z2), (3, .int z3), (4, .int z4)]) (st' := [.int (am_i 0)]) rfl ?_
                    cases hm
                    exact am_end (am_fd ck_X7_readUnits (pc := 141) rfl) am_rZ0 rfl rfl
                  · replace hm := am_if hm hc25
                    refine am_steps ck_X7_readUnits 2 (pc' := 141) (lv' := [(5, .int q2.1), (0, .ref 2984), (1, .ref o1), (2, .int z2), (3, .int z3), (4, .int z4)]) (st' := [.int (am_i 1)]) rfl ?_
                    cases hm
                    exact am_end (am_fd ck_X7_readUnits (pc := 141) rfl) am_rZ1 rfl rfl
              · replace hm := am_if hm hc22
                refine am_steps ck_X7_readUnits 3 (pc' := 108) (lv' := [(5, .int q2.1), (0, .ref 2984), (1, .ref o1), (2, .int z2), (3, .int z3), (4, .int z4)]) (st' := [.int z2, .ref o1, .ref 2984]) rfl ?_
                obtain ⟨q26, hq26, hm⟩ := am_bE hm
                refine ms_callV (M2 := mt_X7_readUnit) (d2 := 4) (ci := 5) [.ref o1, .int z2] (am_fd ck_X7_readUnits (pc := 108) rfl) ok_X7_readUnit tw_448 tw_450 ts_9 (by decide) kc_2984 (Nat.le_of_ble_eq_true rfl) (Nat.le_of_ble_eq_true rfl) (x_X7_readUnit hL hO1 hq26) ?_
                refine am_steps ck_X7_readUnits 3 (pc' := 114) (lv' := [(3, .int q26.1), (5, .int q2.1), (0, .ref 2984), (1, .ref o1), (2, .int z2), (4, .int z4)]) (st' := [.int (am_i (-1)), .int q26.1]) rfl ?_
                refine am_icmp (tgt := 142) (am_fd ck_X7_readUnits (pc := 114) rfl) rfl (fun hc27 => ?_) (fun hc27 => ?_)
                · replace hm := am_it hm hc27
                  refine am_steps ck_X7_readUnits 2 (pc' := 7) (lv' := [(4, .int (z4 + am_i 1)), (3, .int q26.1), (5, .int q2.1), (0, .ref 2984), (1, .ref o1), (2, .int z2)]) (st' := []) rfl ?_
                  refine am_subp [3, 4, 5, 1, 0] rfl ?_
                  exact ih _ _ _ _ hm K
                · replace hm := am_if hm hc27
                  refine am_steps ck_X7_readUnits 1 (pc' := 118) (lv' := [(3, .int q26.1), (5, .int q2.1), (0, .ref 2984), (1, .ref o1), (2, .int z2), (4, .int z4)]) (st' := [.int (am_i 0)]) rfl ?_
                  cases hm
                  exact am_end (am_fd ck_X7_readUnits (pc := 118) rfl) am_rZ0 rfl rfl
          · replace hm := am_if hm hc16
            refine am_steps ck_X7_readUnits 2 (pc' := 73) (lv' := [(5, .int q2.1), (0, .ref 2984), (1, .ref o1), (2, .int z2), (3, .int z3), (4, .int z4)]) (st' := [.ref 2984, .ref 2984]) rfl ?_
            refine ms_geti (ci := 5) (k := 4) (am_fd ck_X7_readUnits (pc := 73) rfl) tw_157 kc_2984 rfl ?_
            refine am_steps ck_X7_readUnits 2 (pc' := 78) (lv' := [(5, .int q2.1), (0, .ref 2984), (1, .ref o1), (2, .int z2), (3, .int z3), (4, .int z4)]) (st' := [.int ((q2.2 2984 4) + (am_i 1)), .ref 2984]) rfl ?_
            refine ms_puti (ci := 5) (k := 4) (am_fd ck_X7_readUnits (pc := 78) rfl) tw_157 kc_2984 rfl rfl (fun m28 em28 => ?_)
            replace hm := am_letE em28 hm
            refine am_steps ck_X7_readUnits 2 (pc' := 83) (lv' := [(5, .int q2.1), (0, .ref 2984), (1, .ref o1), (2, .int z2), (3, .int z3), (4, .int z4)]) (st' := [.int z2, .ref o1]) rfl ?_
            obtain ⟨q29, hq29, hm⟩ := am_bE hm
            refine ms_callV (M2 := mt_X1_upperOf) (d2 := 2) (ci := 1) [.int z2] (am_fd ck_X7_readUnits (pc := 83) rfl) ok_X1_upperOf tw_455 tw_258 tw_259 (by decide) (kO hO1) (Nat.le_of_ble_eq_true rfl) (Nat.le_of_ble_eq_true rfl) (x_X1_upperOf hL hO1 hq29) ?_
            refine am_steps ck_X7_readUnits 6 (pc' := 7) (lv' := [(4, .int (z4 + am_i 1)), (3, .int (am_i (-1))), (2, .int q29), (5, .int q2.1), (0, .ref 2984), (1, .ref o1)]) (st' := []) rfl ?_
            refine am_subp [4, 5, 2, 1, 0] rfl ?_
            exact ih _ _ _ _ hm K
      · replace hm := am_if hm hc3
        refine am_steps ck_X7_readUnits 2 (pc' := 30) (lv' := [(5, .int q2.1), (0, .ref 2984), (1, .ref o1), (2, .int z2), (3, .int z3), (4, .int z4)]) (st' := [.int (am_i (-1)), .int z3]) rfl ?_
        refine am_icmp (tgt := 59) (am_fd ck_X7_readUnits (pc := 30) rfl) rfl (fun hc30 => ?_) (fun hc30 => ?_)
        · replace hm := am_it hm hc30
          refine am_steps ck_X7_readUnits 2 (pc' := 63) (lv' := [(5, .int q2.1), (0, .ref 2984), (1, .ref o1), (2, .int z2), (3, .int z3), (4, .int z4)]) (st' := [.int (am_i 41), .int q2.1]) rfl ?_
          refine am_icmp (tgt := 92) (am_fd ck_X7_readUnits (pc := 63) rfl) rfl (fun hc31 => ?_) (fun hc31 => ?_)
          · replace hm := am_it hm hc31
            refine am_steps ck_X7_readUnits 1 (pc' := 94) (lv' := [(5, .int q2.1), (0, .ref 2984), (1, .ref o1), (2, .int z2), (3, .int z3), (4, .int z4)]) (st' := [.int q2.1]) rfl ?_
            obtain ⟨q32, hq32, hm⟩ := am_bE hm
            refine ms_callS (M2 := mt_X7_isDigit) (d2 := 1) [.int q2.1] (am_fd ck_X7_readUnits (pc := 94) rfl) ok_X7_isDigit tw_435 tw_436 (Nat.le_of_ble_eq_true rfl) (Nat.le_of_ble_eq_true rfl) (x_X7_isDigit hL hq32) ?_
            refine am_ifc (tgt := 119) (am_fd ck_X7_readUnits (pc := 97) rfl) rfl (fun hc33 => ?_) (fun hc33 => ?_)
            · replace hm := am_it hm hc33
              refine am_steps ck_X7_readUnits 2 (pc' := 121) (lv' := [(5, .int q2.1), (0, .ref 2984), (1, .ref o1), (2, .int z2), (3, .int z3), (4, .int z4)]) (st' := [.int (am_i (-1)), .int z2]) rfl ?_
              refine am_icmp (tgt := 136) (am_fd ck_X7_readUnits (pc := 121) rfl) rfl (fun hc34 => ?_) (fun hc34 => ?_)
              · replace hm := am_it hm hc34
                refine am_steps ck_X7_readUnits 2 (pc' := 141) (lv' := [(5, .int q2.1), (0, .ref 2984), (1, .ref o1), (2, .int z2), (3, .int z3), (4, .int z4)]) (st' := [.int (am_i 1)]) rfl ?_
                cases hm
                exact am_end (am_fd ck_X7_readUnits (pc := 141) rfl) am_rZ1 rfl rfl
              · replace hm := am_if hm hc34
                refine am_steps ck_X7_readUnits 3 (pc' := 127) (lv' := [(5, .int q2.1), (0, .ref 2984), (1, .ref o1), (2, .int z2), (3, .int z3), (4, .int z4)]) (st' := [.ref 2984, .int (am_i 1), .ref 2984]) rfl ?_
                refine ms_geti (ci := 5) (k := 4) (am_fd ck_X7_readUnits (pc := 127) rfl) tw_157 kc_2984 rfl ?_
                obtain ⟨q35, hq35, hm⟩ := am_bE hm
                refine ms_callV (M2 := mt_X7_refuse) (d2 := 1) (ci := 5) [.int (am_i 1), .int (q2.2 2984 4)] (am_fd ck_X7_readUnits (pc := 130) rfl) ok_X7_refuse tw_438 tw_440 ts_7 (by decide) kc_2984 (Nat.le_of_ble_eq_true rfl) (Nat.le_of_ble_eq_true rfl) (x_X7_refuse hL hq35) ?_
                refine am_ifc (tgt := 140) (am_fd ck_X7_readUnits (pc := 133) rfl) rfl (fun hc36 => ?_) (fun hc36 => ?_)
                · replace hm := am_it hm hc36
                  refine am_steps ck_X7_readUnits 1 (pc' := 141) (lv' := [(5, .int q2.1), (0, .ref 2984), (1, .ref o1), (2, .int z2), (3, .int z3), (4, .int z4)]) (st' := [.int (am_i 0)]) rfl ?_
                  cases hm
                  exact am_end (am_fd ck_X7_readUnits (pc := 141) rfl) am_rZ0 rfl rfl
                · replace hm := am_if hm hc36
                  refine am_steps ck_X7_readUnits 2 (pc' := 141) (lv' := [(5, .int q2.1), (0, .ref 2984), (1, .ref o1), (2, .int z2), (3, .int z3), (4, .int z4)]) (st' := [.int (am_i 1)]) rfl ?_
                  cases hm
                  exact am_end (am_fd ck_X7_readUnits (pc := 141) rfl) am_rZ1 rfl rfl
            · replace hm := am_if hm hc33
              refine am_steps ck_X7_readUnits 2 (pc' := 102) (lv' := [(5, .int q2.1), (0, .ref 2984), (1, .ref o1), (2, .int z2), (3, .int z3), (4, .int z4)]) (st' := [.int (am_i (-1)), .int z2]) rfl ?_
              refine am_icmp (tgt := 119) (am_fd ck_X7_readUnits (pc := 102) rfl) rfl (fun hc37 => ?_) (fun hc37 => ?_)
              · replace hm := am_it hm hc37
                refine am_steps ck_X7_readUnits 2 (pc' := 121) (lv' := [(5, .int q2.1), (0, .ref 2984), (1, .ref o1), (2, .int z2), (3, .int z3), (4, .int z4)]) (st' := [.int (am_i (-1)), .int z2]) rfl ?_
                refine am_icmp (tgt := 136) (am_fd ck_X7_readUnits (pc := 121) rfl) rfl (fun hc38 => ?_) (fun hc38 => ?_)
                · replace hm := am_it hm hc38
                  refine am_steps ck_X7_readUnits 2 (pc' := 141) (lv' := [(5, .int q2.1), (0, .ref 2984), (1, .ref o1), (2, .int z2), (3, .int z3), (4, .int z4)]) (st' := [.int (am_i 1)]) rfl ?_
                  cases hm
                  exact am_end (am_fd ck_X7_readUnits (pc := 141) rfl) am_rZ1 rfl rfl
                · replace hm := am_if hm hc38
                  refine am_steps ck_X7_readUnits 3 (pc' := 127) (lv' := [(5, .int q2.1), (0, .ref 2984), (1, .ref o1), (2, .int z2), (3, .int z3), (4, .int z4)]) (st' := [.ref 2984, .int (am_i 1), .ref 2984]) rfl ?_
                  refine ms_geti (ci := 5) (k := 4) (am_fd ck_X7_readUnits (pc := 127) rfl) tw_157 kc_2984 rfl ?_
                  obtain ⟨q39, hq39, hm⟩ := am_bE hm
                  refine ms_callV (M2 := mt_X7_refuse) (d2 := 1) (ci := 5) [.int (am_i 1), .int (q2.2 2984 4)] (am_fd ck_X7_readUnits (pc := 130) rfl) ok_X7_refuse tw_438 tw_440 ts_7 (by decide) kc_2984 (Nat.le_of_ble_eq_true rfl) (Nat.le_of_ble_eq_true rfl) (x_X7_refuse hL hq39) ?_
                  refine am_ifc (tgt := 140) (am_fd ck_X7_readUnits (pc := 133) rfl) rfl (fun hc40 => ?_) (fun hc40 => ?_)
                  · replace hm := am_it hm hc40
                    refine am_steps ck_X7_readUnits 1 (pc' := 141) (lv' := [(5, .int q2.1), (0, .ref 2984), (1, .ref o1), (2, .int z2), (3, .int z3), (4, .int z4)]) (st' := [.int (am_i 0)]) rfl ?_
                    cases hm
                    exact am_end (am_fd ck_X7_readUnits (pc := 141) rfl) am_rZ0 rfl rfl
                  · replace hm := am_if hm hc40
                    refine am_steps ck_X7_readUnits 2 (pc' := 141) (lv' := [(5, .int q2.1), (0, .ref 2984), (1, .ref o1), (2, .int z2), (3, .int z3), (4, .int z4)]) (st' := [.int (am_i 1)]) rfl ?_
                    cases hm
                    exact am_end (am_fd ck_X7_readUnits (pc := 141) rfl) am_rZ1 rfl rfl
              · replace hm := am_if hm hc37
                refine am_steps ck_X7_readUnits 3 (pc' := 108) (lv' := [(5, .int q2.1), (0, .ref 2984), (1, .ref o1), (2, .int z2), (3, .int z3), (4, .int z4)]) (st' := [.int z2, .ref o1, .ref 2984]) rfl ?_
                obtain ⟨q41, hq41, hm⟩ := am_bE hm
                refine ms_callV (M2 := mt_X7_readUnit) (d2 := 4) (ci := 5) [.ref o1, .int z2] (am_fd ck_X7_readUnits (pc := 108) rfl) ok_X7_readUnit tw_448 tw_450 ts_9 (by decide) kc_2984 (Nat.le_of_ble_eq_true rfl) (Nat.le_of_ble_eq_true rfl) (x_X7_readUnit hL hO1 hq41) ?_
                refine am_steps ck_X7_readUnits 3 (pc' := 114) (lv' := [(3, .int q41.1), (5, .int q2.1), (0, .ref 2984), (1, .ref o1), (2, .int z2), (4, .int z4)]) (st' := [.int (am_i (-1)), .int q41.1]) rfl ?_
                refine am_icmp (tgt := 142) (am_fd ck_X7_readUnits (pc := 114) rfl) rfl (fun hc42 => ?_) (fun hc42 => ?_)
                · replace hm := am_it hm hc42
                  refine am_steps ck_X7_readUnits 2 (pc' := 7) (lv' := [(4, .int (z4 + am_i 1)), (3, .int q41.1), (5, .int q2.1), (0, .ref 2984), (1, .ref o1), (2, .int z2)]) (st' := []) rfl ?_
                  refine am_subp [3, 4, 5, 1, 0] rfl ?_
                  exact ih _ _ _ _ hm K
                · replace hm := am_if hm hc42
                  refine am_steps ck_X7_readUnits 1 (pc' := 118) (lv' := [(3, .int q41.1), (5, .int q2.1), (0, .ref 2984), (1, .ref o1), (2, .int z2), (4, .int z4)]) (st' := [.int (am_i 0)]) rfl ?_
                  cases hm
                  exact am_end (am_fd ck_X7_readUnits (pc := 118) rfl) am_rZ0 rfl rfl
          · replace hm := am_if hm hc31
            refine am_steps ck_X7_readUnits 2 (pc' := 68) (lv' := [(5, .int q2.1), (0, .ref 2984), (1, .ref o1), (2, .int z2), (3, .int z3), (4, .int z4)]) (st' := [.int (am_i (-1)), .int z2]) rfl ?_
            refine am_icmp (tgt := 92) (am_fd ck_X7_readUnits (pc := 68) rfl) rfl (fun hc43 => ?_) (fun hc43 => ?_)
            · replace hm := am_it hm hc43
              refine am_steps ck_X7_readUnits 1 (pc' := 94) (lv' := [(5, .int q2.1), (0, .ref 2984), (1, .ref o1), (2, .int z2), (3, .int z3), (4, .int z4)]) (st' := [.int q2.1]) rfl ?_
              obtain ⟨q44, hq44, hm⟩ := am_bE hm
              refine ms_callS (M2 := mt_X7_isDigit) (d2 := 1) [.int q2.1] (am_fd ck_X7_readUnits (pc := 94) rfl) ok_X7_isDigit tw_435 tw_436 (Nat.le_of_ble_eq_true rfl) (Nat.le_of_ble_eq_true rfl) (x_X7_isDigit hL hq44) ?_
              refine am_ifc (tgt := 119) (am_fd ck_X7_readUnits (pc := 97) rfl) rfl (fun hc45 => ?_) (fun hc45 => ?_)
              · replace hm := am_it hm hc45
                refine am_steps ck_X7_readUnits 2 (pc' := 121) (lv' := [(5, .int q2.1), (0, .ref 2984), (1, .ref o1), (2, .int z2), (3, .int z3), (4, .int z4)]) (st' := [.int (am_i (-1)), .int z2]) rfl ?_
                refine am_icmp (tgt := 136) (am_fd ck_X7_readUnits (pc := 121) rfl) rfl (fun hc46 => ?_) (fun hc46 => ?_)
                · replace hm := am_it hm hc46
                  refine am_steps ck_X7_readUnits 2 (pc' := 141) (lv' := [(5, .int q2.1), (0, .ref 2984), (1, .ref o1), (2, .int z2), (3, .int z3), (4, .int z4)]) (st' := [.int (am_i 1)]) rfl ?_
                  cases hm
                  exact am_end (am_fd ck_X7_readUnits (pc := 141) rfl) am_rZ1 rfl rfl
                · replace hm := am_if hm hc46
                  refine am_steps ck_X7_readUnits 3 (pc' := 127) (lv' := [(5, .int q2.1), (0, .ref 2984), (1, .ref o1), (2, .int z2), (3, .int z3), (4, .int z4)]) (st' := [.ref 2984, .int (am_i 1), .ref 2984]) rfl ?_
                  refine ms_geti (ci := 5) (k := 4) (am_fd ck_X7_readUnits (pc := 127) rfl) tw_157 kc_2984 rfl ?_
                  obtain ⟨q47, hq47, hm⟩ := am_bE hm
                  refine ms_callV (M2 := mt_X7_refuse) (d2 := 1) (ci := 5) [.int (am_i 1), .int (q2.2 2984 4)] (am_fd ck_X7_readUnits (pc := 130) rfl) ok_X7_refuse tw_438 tw_440 ts_7 (by decide) kc_2984 (Nat.le_of_ble_eq_true rfl) (Nat.le_of_ble_eq_true rfl) (x_X7_refuse hL hq47) ?_
                  refine am_ifc (tgt := 140) (am_fd ck_X7_readUnits (pc := 133) rfl) rfl (fun hc48 => ?_) (fun hc48 => ?_)
                  · replace hm := am_it hm hc48
                    refine am_steps ck_X7_readUnits 1 (pc' := 141) (lv' := [(5, .int q2.1), (0, .ref 2984), (1, .ref o1), (2, .int z2), (3, .int z3), (4, .int z4)]) (st' := [.int (am_i 0)]) rfl ?_
                    cases hm
                    exact am_end (am_fd ck_X7_readUnits (pc := 141) rfl) am_rZ0 rfl rfl
                  · replace hm := am_if hm hc48
                    refine am_steps ck_X7_readUnits 2 (pc' := 141) (lv' := [(5, .int q2.1), (0, .ref 2984), (1, .ref o1), (2, .int z2), (3, .int z3), (4, .int z4)]) (st' := [.int (am_i 1)]) rfl ?_
                    cases hm
                    exact am_end (am_fd ck_X7_readUnits (pc := 141) rfl) am_rZ1 rfl rfl
              · replace hm := am_if hm hc45
                refine am_steps ck_X7_readUnits 2 (pc' := 102) (lv' := [(5, .int q2.1), (0, .ref 2984), (1, .ref o1), (2, .int z2), (3, .int z3), (4, .int z4)]) (st' := [.int (am_i (-1)), .int z2]) rfl ?_
                refine am_icmp (tgt := 119) (am_fd ck_X7_readUnits (pc := 102) rfl) rfl (fun hc49 => ?_) (fun hc49 => ?_)
                · replace hm := am_it hm hc49
                  refine am_steps ck_X7_readUnits 2 (pc' := 121) (lv' := [(5, .int q2.1), (0, .ref 2984), (1, .ref o1), (2, .int z2), (3, .int z3), (4, .int z4)]) (st' := [.int (am_i (-1)), .int z2]) rfl ?_
                  refine am_icmp (tgt := 136) (am_fd ck_X7_readUnits (pc := 121) rfl) rfl (fun hc50 => ?_) (fun hc50 => ?_)
                  · replace hm := am_it hm hc50
                    refine am_steps ck_X7_readUnits 2 (pc' := 141) (lv' := [(5, .int q2.1), (0, .ref 2984), (1, .ref o1), (2, .int z2), (3, .int z3), (4, .int z4)]) (st' := [.int (am_i 1)]) rfl ?_
                    cases hm
                    exact am_end (am_fd ck_X7_readUnits (pc := 141) rfl) am_rZ1 rfl rfl
                  · replace hm := am_if hm hc50
                    refine am_steps ck_X7_readUnits 3 (pc' := 127) (lv' := [(5, .int q2.1), (0, .ref 2984), (1, .ref o1), (2, .int z2), (3, .int z3), (4, .int z4)]) (st' := [.ref 2984, .int (am_i 1), .ref 2984]) rfl ?_
                    refine ms_geti (ci := 5) (k := 4) (am_fd ck_X7_readUnits (pc := 127) rfl) tw_157 kc_2984 rfl ?_
                    obtain ⟨q51, hq51, hm⟩ := am_bE hm
                    refine ms_callV (M2 := mt_X7_refuse) (d2 := 1) (ci := 5) [.int (am_i 1), .int (q2.2 2984 4)] (am_fd ck_X7_readUnits (pc := 130) rfl) ok_X7_refuse tw_438 tw_440 ts_7 (by decide) kc_2984 (Nat.le_of_ble_eq_true rfl) (Nat.le_of_ble_eq_true rfl) (x_X7_refuse hL hq51) ?_
                    refine am_ifc (tgt := 140) (am_fd ck_X7_readUnits (pc := 133) rfl) rfl (fun hc52 => ?_) (fun hc52 => ?_)
                    · replace hm := am_it hm hc52
                      refine am_steps ck_X7_readUnits 1 (pc' := 141) (lv' := [(5, .int q2.1), (0, .ref 2984), (1, .ref o1), (2, .int z2), (3, .int z3), (4, .int z4)]) (st' := [.int (am_i 0)]) rfl ?_
                      cases hm
                      exact am_end (am_fd ck_X7_readUnits (pc := 141) rfl) am_rZ0 rfl rfl
                    · replace hm := am_if hm hc52
                      refine am_steps ck_X7_readUnits 2 (pc' := 141) (lv' := [(5, .int q2.1), (0, .ref 2984), (1, .ref o1), (2, .int z2), (3, .int z3), (4, .int z4)]) (st' := [.int (am_i 1)]) rfl ?_
                      cases hm
                      exact am_end (am_fd ck_X7_readUnits (pc := 141) rfl) am_rZ1 rfl rfl
                · replace hm := am_if hm hc49
                  refine am_steps ck_X7_readUnits 3 (pc' := 108) (lv' := [(5, .int q2.1), (0, .ref 2984), (1, .ref o1), (2, .int z2), (3, .int z3), (4, .int z4)]) (st' := [.int z2, .ref o1, .ref 2984]) rfl ?_
                  obtain ⟨q53, hq53, hm⟩ := am_bE hm
                  refine ms_callV (M2 := mt_X7_readUnit) (d2 := 4) (ci := 5) [.ref o1, .int z2] (am_fd ck_X7_readUnits (pc := 108) rfl) ok_X7_readUnit tw_448 tw_450 ts_9 (by decide) kc_2984 (Nat.le_of_ble_eq_true rfl) (Nat.le_of_ble_eq_true rfl) (x_X7_readUnit hL hO1 hq53) ?_
                  refine am_steps ck_X7_readUnits 3 (pc' := 114) (lv' := [(3, .int q53.1), (5, .int q2.1), (0, .ref 2984), (1, .ref o1), (2, .int z2), (4, .int z4)]) (st' := [.int (am_i (-1)), .int q53.1]) rfl ?_
                  refine am_icmp (tgt := 142) (am_fd ck_X7_readUnits (pc := 114) rfl) rfl (fun hc54 => ?_) (fun hc54 => ?_)
                  · replace hm := am_it hm hc54
                    refine am_steps ck_X7_readUnits 2 (pc' := 7) (lv' := [(4, .int (z4 + am_i 1)), (3, .int q53.1), (5, .int q2.1), (0, .ref 2984), (1, .ref o1), (2, .int z2)]) (st' := []) rfl ?_
                    refine am_subp [3, 4, 5, 1, 0] rfl ?_
                    exact ih _ _ _ _ hm K
                  · replace hm := am_if hm hc54
                    refine am_steps ck_X7_readUnits 1 (pc' := 118) (lv' := [(3, .int q53.1), (5, .int q2.1), (0, .ref 2984), (1, .ref o1), (2, .int z2), (4, .int z4)]) (st' := [.int (am_i 0)]) rfl ?_
                    cases hm
                    exact am_end (am_fd ck_X7_readUnits (pc := 118) rfl) am_rZ0 rfl rfl
            · replace hm := am_if hm hc43
              refine am_steps ck_X7_readUnits 2 (pc' := 73) (lv' := [(5, .int q2.1), (0, .ref 2984), (1, .ref o1), (2, .int z2), (3, .int z3), (4, .int z4)]) (st' := [.ref 2984, .ref 2984]) rfl ?_
              refine ms_geti (ci := 5) (k := 4) (am_fd ck_X7_readUnits (pc := 73) rfl) tw_157 kc_2984 rfl ?_
              refine am_steps ck_X7_readUnits 2 (pc' := 78) (lv' := [(5, .int q2.1), (0, .ref 2984), (1, .ref o1), (2, .int z2), (3, .int z3), (4, .int z4)]) (st' := [.int ((q2.2 2984 4) + (am_i 1)), .ref 2984]) rfl ?_
              refine ms_puti (ci := 5) (k := 4) (am_fd ck_X7_readUnits (pc := 78) rfl) tw_157 kc_2984 rfl rfl (fun m55 em55 => ?_)
              replace hm := am_letE em55 hm
              refine am_steps ck_X7_readUnits 2 (pc' := 83) (lv' := [(5, .int q2.1), (0, .ref 2984), (1, .ref o1), (2, .int z2), (3, .int z3), (4, .int z4)]) (st' := [.int z2, .ref o1]) rfl ?_
              obtain ⟨q56, hq56, hm⟩ := am_bE hm
              refine ms_callV (M2 := mt_X1_upperOf) (d2 := 2) (ci := 1) [.int z2] (am_fd ck_X7_readUnits (pc := 83) rfl) ok_X1_upperOf tw_455 tw_258 tw_259 (by decide) (kO hO1) (Nat.le_of_ble_eq_true rfl) (Nat.le_of_ble_eq_true rfl) (x_X1_upperOf hL hO1 hq56) ?_
              refine am_steps ck_X7_readUnits 6 (pc' := 7) (lv' := [(4, .int (z4 + am_i 1)), (3, .int (am_i (-1))), (2, .int q56), (5, .int q2.1), (0, .ref 2984), (1, .ref o1)]) (st' := []) rfl ?_
              refine am_subp [4, 5, 2, 1, 0] rfl ?_
              exact ih _ _ _ _ hm K
        · replace hm := am_if hm hc30
          refine am_steps ck_X7_readUnits 2 (pc' := 35) (lv' := [(5, .int q2.1), (0, .ref 2984), (1, .ref o1), (2, .int z2), (3, .int z3), (4, .int z4)]) (st' := [.ref 2984, .ref 2984]) rfl ?_
          refine ms_geti (ci := 5) (k := 4) (am_fd ck_X7_readUnits (pc := 35) rfl) tw_157 kc_2984 rfl ?_
          refine am_steps ck_X7_readUnits 2 (pc' := 40) (lv' := [(5, .int q2.1), (0, .ref 2984), (1, .ref o1), (2, .int z2), (3, .int z3), (4, .int z4)]) (st' := [.int ((q2.2 2984 4) + (am_i 1)), .ref 2984]) rfl ?_
          refine ms_puti (ci := 5) (k := 4) (am_fd ck_X7_readUnits (pc := 40) rfl) tw_157 kc_2984 rfl rfl (fun m57 em57 => ?_)
          replace hm := am_letE em57 hm
          refine am_steps ck_X7_readUnits 5 (pc' := 48) (lv' := [(2, .int z3), (5, .int q2.1), (0, .ref 2984), (1, .ref o1), (3, .int z3), (4, .int z4)]) (st' := [.int z3, .ref o1, .ref 2984]) rfl ?_
          obtain ⟨q58, hq58, hm⟩ := am_bE hm
          refine ms_callV (M2 := mt_X7_readUnit) (d2 := 4) (ci := 5) [.ref o1, .int z3] (am_fd ck_X7_readUnits (pc := 48) rfl) ok_X7_readUnit tw_448 tw_450 ts_9 (by decide) kc_2984 (Nat.le_of_ble_eq_true rfl) (Nat.le_of_ble_eq_true rfl) (x_X7_readUnit hL hO1 hq58) ?_
          refine am_steps ck_X7_readUnits 3 (pc' := 54) (lv' := [(3, .int q58.1), (2, .int z3), (5, .int q2.1), (0, .ref 2984), (1, .ref o1), (4, .int z4)]) (st' := [.int (am_i (-1)), .int q58.1]) rfl ?_
          refine am_icmp (tgt := 142) (am_fd ck_X7_readUnits (pc := 54) rfl) rfl (fun hc59 => ?_) (fun hc59 => ?_)
          · replace hm := am_it hm hc59
            refine am_steps ck_X7_readUnits 2 (pc' := 7) (lv' := [(4, .int (z4 + am_i 1)), (3, .int q58.1), (2, .int z3), (5, .int q2.1), (0, .ref 2984), (1, .ref o1)]) (st' := []) rfl ?_
            refine am_subp [4, 5, 2, 1, 0] rfl ?_
            exact ih _ _ _ _ hm K
          · replace hm := am_if hm hc59
            refine am_steps ck_X7_readUnits 1 (pc' := 58) (lv' := [(3, .int q58.1), (2, .int z3), (5, .int q2.1), (0, .ref 2984), (1, .ref o1), (4, .int z4)]) (st' := [.int (am_i 0)]) rfl ?_
            cases hm
            exact am_end (am_fd ck_X7_readUnits (pc := 58) rfl) am_rZ0 rfl rfl
set_option maxRecDepth 100000 in
set_option maxHeartbeats 4000000 in
theorem x_X7_readUnits {G : am_G} {m : am_m} {r : am_rr} {o1 : Nat} {res : Int32 × am_m} (hL : am_Lay r) (hO1 : am_og o1) (hm : m_X7_readUnits m o1 = some res) : am_Met G mt_X7_readUnits 5 [.ref 2984, .ref o1] (am_hh m r) (some (.int res.1)) (am_hh res.2 r) := by
  refine am_of (by decide) (Nat.le_of_ble_eq_true rfl) ?_
  unfold m_X7_readUnits at hm
  show am_W G mt_X7_readUnits 5 _ _ 0 [(0, .ref 2984), (1, .ref o1)] [] (am_hh m r)
  refine am_steps ck_X7_readUnits 6 (pc' := 7) (lv' := [(4, .int (am_i 0)), (3, .int (am_i 0)), (2, .int (am_i (-1))), (0, .ref 2984), (1, .ref o1)]) (st' := []) rfl ?_
  refine am_subp [3, 4, 2, 1, 0] rfl ?_
  refine x_X7_readUnits_7 hL hO1 am_F _ _ _ _ hm (fun m60 hm => ?_)
  refine am_steps ck_X7_readUnits 1 (pc' := 149) (lv' := []) (st' := [.int (am_i 0)]) rfl ?_
  cases hm
  exact am_end (am_fd ck_X7_readUnits (pc := 149) rfl) am_rZ0 rfl rfl
set_option maxRecDepth 100000 in
set_option maxHeartbeats 4000000 in
theorem x_X7_readInto_61 {G : am_G} {o1 : Nat} {r : am_rr} {res : Int32 × am_m} {k : am_m → Option (Int32 × am_m)} (hL : am_Lay r) (hO1 : am_og o1) : ∀ (n : Nat) (z3 : Int32) (m : am_m), m_X7_readInto_61 o1 k n z3 m = some res → (∀ (m1 : am_m), k m1 = some res → am_W G mt_X7_readInto 6 (some (.int res.1)) (am_hh res.2 r) 84 [(1, .ref o1)] [] (am_hh m1 r)) → am_W G mt_X7_readInto 6 (some (.int res.1)) (am_hh res.2 r) 61 [(1, .ref o1), (3, .int z3)] [] (am_hh m r) := by
  intro n
  induction n with
  | zero => intro z3 m hm K; cases hm
  | succ n ih =>
    intro z3 m hm K
    unfold m_X7_readInto_61 at hm
    refine am_steps ck_X7_readInto 2 (pc' := 64) (lv' := [(1, .ref o1), (3, .int z3)]) (st' := [.int (am_i 24), .int z3]) rfl ?_
    refine am_icmp (tgt := 84) (am_fd ck_X7_readInto (pc := 64) rfl) rfl (fun hc9 => ?_) (fun hc9 => ?_)
    · replace hm := am_it hm hc9
      refine am_subp [0] rfl ?_
      exact K _ hm
    · replace hm := am_if hm hc9
      refine am_steps ck_X7_readInto 1 (pc' := 68) (lv' := [(1, .ref o1), (3, .int z3)]) (st' := [.ref o1]) rfl ?_
      refine ms_getr (ci := 1) (k := 1) (v := (aS o1)) (am_fd ck_X7_readInto (pc := 68) rfl) tw_40 (kO hO1) rfl (lyO1 hL hO1) (kS hO1) ?_
      refine am_steps ck_X7_readInto 3 (pc' := 74) (lv' := [(1, .ref o1), (3, .int z3)]) (st' := [.int z3, .ref o1, .int z3, .ref (aS o1)]) rfl ?_
      obtain ⟨q10, hq10, hm⟩ := am_bE hm
      refine ms_callV (M2 := mt_X1_isThere) (d2 := 1) (ci := 1) [.int z3] (am_fd ck_X7_readInto (pc := 74) rfl) ok_X1_isThere tw_452 tw_232 tw_233 (by decide) (kO hO1) (Nat.le_of_ble_eq_true rfl) (Nat.le_of_ble_eq_true rfl) (x_X1_isThere hL hO1 hq10) ?_
      obtain ⟨hb11, hm⟩ := am_gE hm
      obtain ⟨hb13, hm⟩ := am_gE hm
      refine ms_zast (n := 24) (am_fd ck_X7_readInto (pc := 77) rfl) (kS hO1) hb11 (am_b01E hb13) (fun m12 em12 => ?_)
      replace hm := am_letE em12 hm
      refine am_steps ck_X7_readInto 2 (pc' := 61) (lv' := [(3, .int (z3 + am_i 1)), (1, .ref o1)]) (st' := []) rfl ?_
      refine am_subp [1, 0] rfl ?_
      exact ih _ _ hm K
set_option maxRecDepth 100000 in
set_option maxHeartbeats 4000000 in
theorem x_X7_readInto {G : am_G} {m : am_m} {r : am_rr} {o1 : Nat} {res : Int32 × am_m} (hL : am_Lay r) (hO1 : am_og o1) (hm : m_X7_readInto m o1 = some res) : am_Met G mt_X7_readInto 6 [.ref 2984, .ref o1] (am_hh m r) (some (.int res.1)) (am_hh res.2 r) := by
  refine am_of (by decide) (Nat.le_of_ble_eq_true rfl) ?_
  unfold m_X7_readInto at hm
  show am_W G mt_X7_readInto 6 _ _ 0 [(0, .ref 2984), (1, .ref o1)] [] (am_hh m r)
  refine am_steps ck_X7_readInto 2 (pc' := 2) (lv' := [(0, .ref 2984), (1, .ref o1)]) (st' := [.int (am_i 0), .ref 2984]) rfl ?_
  refine ms_puti (ci := 5) (k := 2) (am_fd ck_X7_readInto (pc := 2) rfl) tw_153 kc_2984 rfl rfl (fun m1 em1 => ?_)
  replace hm := am_letE em1 hm
  refine am_steps ck_X7_readInto 2 (pc' := 7) (lv' := [(0, .ref 2984), (1, .ref o1)]) (st' := [.int (am_i (-1)), .ref 2984]) rfl ?_
  refine ms_puti (ci := 5) (k := 3) (am_fd ck_X7_readInto (pc := 7) rfl) tw_155 kc_2984 rfl rfl (fun m2 em2 => ?_)
  replace hm := am_letE em2 hm
  refine am_steps ck_X7_readInto 2 (pc' := 12) (lv' := [(0, .ref 2984), (1, .ref o1)]) (st' := [.int (am_i 0), .ref 2984]) rfl ?_
  refine ms_puti (ci := 5) (k := 4) (am_fd ck_X7_readInto (pc := 12) rfl) tw_157 kc_2984 rfl rfl (fun m3 em3 => ?_)
  replace hm := am_letE em3 hm
  refine am_steps ck_X7_readInto 1 (pc' := 16) (lv' := [(0, .ref 2984), (1, .ref o1)]) (st' := [.ref o1]) rfl ?_
  obtain ⟨q4, hq4, hm⟩ := am_bE hm
  refine ms_callVv (M2 := mt_X1_startAnew) (d2 := 3) (ci := 1) [] (am_fd ck_X7_readInto (pc := 16) rfl) ok_X1_startAnew tw_418 tw_419 tw_420 (by decide) (kO hO1) (Nat.le_of_ble_eq_true rfl) (Nat.le_of_ble_eq_true rfl) (x_X1_startAnew hL hO1 hq4) ?_
  refine am_steps ck_X7_readInto 1 (pc' := 20) (lv' := [(0, .ref 2984), (1, .ref o1)]) (st' := [.ref 2984]) rfl ?_
  obtain ⟨q5, hq5, hm⟩ := am_bE hm
  refine ms_callV (M2 := mt_X7_readHead) (d2 := 3) (ci := 5) [] (am_fd ck_X7_readInto (pc := 20) rfl) ok_X7_readHead tw_423 tw_425 ts_4 (by decide) kc_2984 (Nat.le_of_ble_eq_true rfl) (Nat.le_of_ble_eq_true rfl) (x_X7_readHead hL hq5) ?_
  refine am_ifc (tgt := 46) (am_fd ck_X7_readInto (pc := 23) rfl) rfl (fun hc6 => ?_) (fun hc6 => ?_)
  · replace hm := am_it hm hc6
    refine am_steps ck_X7_readInto 4 (pc' := 50) (lv' := [(2, .int (am_i 0)), (0, .ref 2984), (1, .ref o1)]) (st' := [.int (am_i 0), .ref 2984]) rfl ?_
    refine ms_puti (ci := 5) (k := 1) (am_fd ck_X7_readInto (pc := 50) rfl) tw_151 kc_2984 rfl rfl (fun m7 em7 => ?_)
    replace hm := am_letE em7 hm
    refine am_steps ck_X7_readInto 1 (pc' := 54) (lv' := [(2, .int (am_i 0)), (0, .ref 2984), (1, .ref o1)]) (st' := [.int (am_i 0)]) rfl ?_
    refine am_ifc (tgt := 59) (am_fd ck_X7_readInto (pc := 54) rfl) rfl (fun hc8 => ?_) (fun hc8 => ?_)
    · replace hm := am_it hm hc8
      refine am_steps ck_X7_readInto 2 (pc' := 61) (lv' := [(3, .int (am_i 0)), (2, .int (am_i 0)), (0, .ref 2984), (1, .ref o1)]) (st' := []) rfl ?_
      refine am_subp [3, 0] rfl ?_
      refine x_X7_readInto_61 hL hO1 am_F _ _ hm (fun m14 hm => ?_)
      refine am_steps ck_X7_readInto 1 (pc' := 85) (lv' := [(1, .ref o1)]) (st' := [.ref o1]) rfl ?_
      obtain ⟨q15, hq15, hm⟩ := am_bE hm
      refine ms_callV (M2 := mt_X1_thereSet) (d2 := 2) (ci := 1) [] (am_fd ck_X7_readInto (pc := 85) rfl) ok_X1_thereSet tw_473 tw_474 tw_475 (by decide) (kO hO1) (Nat.le_of_ble_eq_true rfl) (Nat.le_of_ble_eq_true rfl) (x_X1_thereSet hL hO1 hq15) ?_
      obtain ⟨q16, hq16, hm⟩ := am_bE hm
      refine ms_callS (M2 := mt_J6_bitCount_0f7a4) (d2 := 1) [.int q15] (am_fd ck_X7_readInto (pc := 88) rfl) ok_J6_bitCount_0f7a4 tw_477 tw_478 (Nat.le_of_ble_eq_true rfl) (Nat.le_of_ble_eq_true rfl) (x_J6_bitCount_0f7a4 hL hq16) ?_
      cases hm
      exact am_end (am_fd ck_X7_readInto (pc := 91) rfl) am_rI rfl rfl
    · replace hm := am_if hm hc8
      refine am_steps ck_X7_readInto 1 (pc' := 58) (lv' := [(2, .int (am_i 0)), (0, .ref 2984), (1, .ref o1)]) (st' := [.int (am_i (-1))]) rfl ?_
      cases hm
      exact am_end (am_fd ck_X7_readInto (pc := 58) rfl) am_rI rfl rfl
  · replace hm := am_if hm hc6
    refine am_steps ck_X7_readInto 2 (pc' := 28) (lv' := [(0, .ref 2984), (1, .ref o1)]) (st' := [.ref o1, .ref 2984]) rfl ?_
    obtain ⟨q17, hq17, hm⟩ := am_bE hm
    refine ms_callV (M2 := mt_X7_readUnits) (d2 := 5) (ci := 5) [.ref o1] (am_fd ck_X7_readInto (pc := 28) rfl) ok_X7_readUnits tw_444 tw_446 ts_8 (by decide) kc_2984 (Nat.le_of_ble_eq_true rfl) (Nat.le_of_ble_eq_true rfl) (x_X7_readUnits hL hO1 hq17) ?_
    refine am_ifc (tgt := 46) (am_fd ck_X7_readInto (pc := 31) rfl) rfl (fun hc18 => ?_) (fun hc18 => ?_)
    · replace hm := am_it hm hc18
      refine am_steps ck_X7_readInto 4 (pc' := 50) (lv' := [(2, .int (am_i 0)), (0, .ref 2984), (1, .ref o1)]) (st' := [.int (am_i 0), .ref 2984]) rfl ?_
      refine ms_puti (ci := 5) (k := 1) (am_fd ck_X7_readInto (pc := 50) rfl) tw_151 kc_2984 rfl rfl (fun m19 em19 => ?_)
      replace hm := am_letE em19 hm
      refine am_steps ck_X7_readInto 1 (pc' := 54) (lv' := [(2, .int (am_i 0)), (0, .ref 2984), (1, .ref o1)]) (st' := [.int (am_i 0)]) rfl ?_
      refine am_ifc (tgt := 59) (am_fd ck_X7_readInto (pc := 54) rfl) rfl (fun hc20 => ?_) (fun hc20 => ?_)
      · replace hm := am_it hm hc20
        refine am_steps ck_X7_readInto 2 (pc' := 61) (lv' := [(3, .int (am_i 0)), (2, .int (am_i 0)), (0, .ref 2984), (1, .ref o1)]) (st' := []) rfl ?_
        refine am_subp [3, 0] rfl ?_
        refine x_X7_readInto_61 hL hO1 am_F _ _ hm (fun m21 hm => ?_)
        refine am_steps ck_X7_readInto 1 (pc' := 85) (lv' := [(1, .ref o1)]) (st' := [.ref o1]) rfl ?_
        obtain ⟨q22, hq22, hm⟩ := am_bE hm
        refine ms_callV (M2 := mt_X1_thereSet) (d2 := 2) (ci := 1) [] (am_fd ck_X7_readInto (pc := 85) rfl) ok_X1_thereSet tw_473 tw_474 tw_475 (by decide) (kO hO1) (Nat.le_of_ble_eq_true rfl) (Nat.le_of_ble_eq_true rfl) (x_X1_thereSet hL hO1 hq22) ?_
        obtain ⟨q23, hq23, hm⟩ := am_bE hm
        refine ms_callS (M2 := mt_J6_bitCount_0f7a4) (d2 := 1) [.int q22] (am_fd ck_X7_readInto (pc := 88) rfl) ok_J6_bitCount_0f7a4 tw_477 tw_478 (Nat.le_of_ble_eq_true rfl) (Nat.le_of_ble_eq_true rfl) (x_J6_bitCount_0f7a4 hL hq23) ?_
        cases hm
        exact am_end (am_fd ck_X7_readInto (pc := 91) rfl) am_rI rfl rfl
      · replace hm := am_if hm hc20
        refine am_steps ck_X7_readInto 1 (pc' := 58) (lv' := [(2, .int (am_i 0)), (0, .ref 2984), (1, .ref o1)]) (st' := [.int (am_i (-1))]) rfl ?_
        cases hm
        exact am_end (am_fd ck_X7_readInto (pc := 58) rfl) am_rI rfl rfl
    · replace hm := am_if hm hc18
      refine am_steps ck_X7_readInto 2 (pc' := 36) (lv' := [(0, .ref 2984), (1, .ref o1)]) (st' := [.ref o1, .ref 2984]) rfl ?_
      obtain ⟨q24, hq24, hm⟩ := am_bE hm
      refine ms_callV (M2 := mt_X7_readEntries) (d2 := 5) (ci := 5) [.ref o1] (am_fd ck_X7_readInto (pc := 36) rfl) ok_X7_readEntries tw_456 tw_458 ts_10 (by decide) kc_2984 (Nat.le_of_ble_eq_true rfl) (Nat.le_of_ble_eq_true rfl) (x_X7_readEntries hL hO1 hq24) ?_
      refine am_ifc (tgt := 46) (am_fd ck_X7_readInto (pc := 39) rfl) rfl (fun hc25 => ?_) (fun hc25 => ?_)
      · replace hm := am_it hm hc25
        refine am_steps ck_X7_readInto 4 (pc' := 50) (lv' := [(2, .int (am_i 0)), (0, .ref 2984), (1, .ref o1)]) (st' := [.int (am_i 0), .ref 2984]) rfl ?_
        refine ms_puti (ci := 5) (k := 1) (am_fd ck_X7_readInto (pc := 50) rfl) tw_151 kc_2984 rfl rfl (fun m26 em26 => ?_)
        replace hm := am_letE em26 hm
        refine am_steps ck_X7_readInto 1 (pc' := 54) (lv' := [(2, .int (am_i 0)), (0, .ref 2984), (1, .ref o1)]) (st' := [.int (am_i 0)]) rfl ?_
        refine am_ifc (tgt := 59) (am_fd ck_X7_readInto (pc := 54) rfl) rfl (fun hc27 => ?_) (fun hc27 => ?_)
        · replace hm := am_it hm hc27
          refine am_steps ck_X7_readInto 2 (pc' := 61) (lv' := [(3, .int (am_i 0)), (2, .int (am_i 0)), (0, .ref 2984), (1, .ref o1)]) (st' := []) rfl ?_
          refine am_subp [3, 0] rfl ?_
          refine x_X7_readInto_61 hL hO1 am_F _ _ hm (fun m28 hm => ?_)
          refine am_steps ck_X7_readInto 1 (pc' := 85) (lv' := [(1, .ref o1)]) (st' := [.ref o1]) rfl ?_
          obtain ⟨q29, hq29, hm⟩ := am_bE hm
          refine ms_callV (M2 := mt_X1_thereSet) (d2 := 2) (ci := 1) [] (am_fd ck_X7_readInto (pc := 85) rfl) ok_X1_thereSet tw_473 tw_474 tw_475 (by decide) (kO hO1) (Nat.le_of_ble_eq_true rfl) (Nat.le_of_ble_eq_true rfl) (x_X1_thereSet hL hO1 hq29) ?_
          obtain ⟨q30, hq30, hm⟩ := am_bE hm
          refine ms_callS (M2 := mt_J6_bitCount_0f7a4) (d2 := 1) [.int q29] (am_fd ck_X7_readInto (pc := 88) rfl) ok_J6_bitCount_0f7a4 tw_477 tw_478 (Nat.le_of_ble_eq_true rfl) (Nat.le_of_ble_eq_true rfl) (x_J6_bitCount_0f7a4 hL hq30) ?_
          cases hm
          exact am_end (am_fd ck_X7_readInto (pc := 91) rfl) am_rI rfl rfl
        · replace hm := am_if hm hc27
          refine am_steps ck_X7_readInto 1 (pc' := 58) (lv' := [(2, .int (am_i 0)), (0, .ref 2984), (1, .ref o1)]) (st' := [.int (am_i (-1))]) rfl ?_
          cases hm
          exact am_end (am_fd ck_X7_readInto (pc := 58) rfl) am_rI rfl rfl
      · replace hm := am_if hm hc25
        refine am_steps ck_X7_readInto 5 (pc' := 50) (lv' := [(2, .int (am_i 1)), (0, .ref 2984), (1, .ref o1)]) (st' := [.int (am_i 0), .ref 2984]) rfl ?_
        refine ms_puti (ci := 5) (k := 1) (am_fd ck_X7_readInto (pc := 50) rfl) tw_151 kc_2984 rfl rfl (fun m31 em31 => ?_)
        replace hm := am_letE em31 hm
        refine am_steps ck_X7_readInto 1 (pc' := 54) (lv' := [(2, .int (am_i 1)), (0, .ref 2984), (1, .ref o1)]) (st' := [.int (am_i 1)]) rfl ?_
        refine am_ifc (tgt := 59) (am_fd ck_X7_readInto (pc := 54) rfl) rfl (fun hc32 => ?_) (fun hc32 => ?_)
        · replace hm := am_it hm hc32
          refine am_steps ck_X7_readInto 2 (pc' := 61) (lv' := [(3, .int (am_i 0)), (2, .int (am_i 1)), (0, .ref 2984), (1, .ref o1)]) (st' := []) rfl ?_
          refine am_subp [3, 0] rfl ?_
          refine x_X7_readInto_61 hL hO1 am_F _ _ hm (fun m33 hm => ?_)
          refine am_steps ck_X7_readInto 1 (pc' := 85) (lv' := [(1, .ref o1)]) (st' := [.ref o1]) rfl ?_
          obtain ⟨q34, hq34, hm⟩ := am_bE hm
          refine ms_callV (M2 := mt_X1_thereSet) (d2 := 2) (ci := 1) [] (am_fd ck_X7_readInto (pc := 85) rfl) ok_X1_thereSet tw_473 tw_474 tw_475 (by decide) (kO hO1) (Nat.le_of_ble_eq_true rfl) (Nat.le_of_ble_eq_true rfl) (x_X1_thereSet hL hO1 hq34) ?_
          obtain ⟨q35, hq35, hm⟩ := am_bE hm
          refine ms_callS (M2 := mt_J6_bitCount_0f7a4) (d2 := 1) [.int q34] (am_fd ck_X7_readInto (pc := 88) rfl) ok_J6_bitCount_0f7a4 tw_477 tw_478 (Nat.le_of_ble_eq_true rfl) (Nat.le_of_ble_eq_true rfl) (x_J6_bitCount_0f7a4 hL hq35) ?_
          cases hm
          exact am_end (am_fd ck_X7_readInto (pc := 91) rfl) am_rI rfl rfl
        · replace hm := am_if hm hc32
          refine am_steps ck_X7_readInto 1 (pc' := 58) (lv' := [(2, .int (am_i 1)), (0, .ref 2984), (1, .ref o1)]) (st' := [.int (am_i (-1))]) rfl ?_
          cases hm
          exact am_end (am_fd ck_X7_readInto (pc := 58) rfl) am_rI rfl rfl
set_option maxRecDepth 100000 in
set_option maxHeartbeats 4000000 in
theorem x_X8_add {G : am_G} {m : am_m} {r : am_rr} {x1 : Int32} {x2 : Int32} {x3 : Int32} {res : Int32 × am_m} (hL : am_Lay r) (hm : m_X8_add m r x1 x2 x3 = some res) : am_Met G mt_X8_add 4 [.ref 3, .int x1, .int x2, .int x3] (am_hh m r) (some (.int res.1)) (am_hh res.2 r) := by
  refine am_of (by decide) (Nat.le_of_ble_eq_true rfl) ?_
  unfold m_X8_add at hm
  show am_W G mt_X8_add 4 _ _ 0 [(0, .ref 3), (1, .int x1), (2, .int x2), (3, .int x3)] [] (am_hh m r)
  refine am_steps ck_X8_add 1 (pc' := 1) (lv' := [(0, .ref 3), (1, .int x1), (2, .int x2), (3, .int x3)]) (st' := [.ref 3]) rfl ?_
  refine ms_getr (ci := 6) (k := 0) (v := 4) (am_fd ck_X8_add (pc := 1) rfl) tw_190 kc_3 rfl (ly_3_0 hL) (kO og4) ?_
  refine am_steps ck_X8_add 1 (pc' := 5) (lv' := [(0, .ref 3), (1, .int x1), (2, .int x2), (3, .int x3)]) (st' := [.int x1, .ref 4]) rfl ?_
  obtain ⟨q1, hq1, hm⟩ := am_bE hm
  refine ms_callV (M2 := mt_X1_isThere) (d2 := 1) (ci := 1) [.int x1] (am_fd ck_X8_add (pc := 5) rfl) ok_X1_isThere tw_231 tw_232 tw_233 (by decide) (kO og4) (Nat.le_of_ble_eq_true rfl) (Nat.le_of_ble_eq_true rfl) (x_X1_isThere hL og4 hq1) ?_
  refine am_ifc (tgt := 18) (am_fd ck_X8_add (pc := 8) rfl) rfl (fun hc2 => ?_) (fun hc2 => ?_)
  · replace hm := am_it hm hc2
    refine am_steps ck_X8_add 1 (pc' := 19) (lv' := [(0, .ref 3), (1, .int x1), (2, .int x2), (3, .int x3)]) (st' := [.int (am_i (-1))]) rfl ?_
    cases hm
    exact am_end (am_fd ck_X8_add (pc := 19) rfl) am_rI rfl rfl
  · replace hm := am_if hm hc2
    refine am_steps ck_X8_add 1 (pc' := 12) (lv' := [(0, .ref 3), (1, .int x1), (2, .int x2), (3, .int x3)]) (st' := [.int x2]) rfl ?_
    obtain ⟨q3, hq3, hm⟩ := am_bE hm
    refine ms_callS (M2 := mt_X8_isCategory) (d2 := 1) [.int x2] (am_fd ck_X8_add (pc := 12) rfl) ok_X8_isCategory tw_235 tw_236 (Nat.le_of_ble_eq_true rfl) (Nat.le_of_ble_eq_true rfl) (x_X8_isCategory hL hq3) ?_
    refine am_ifc (tgt := 20) (am_fd ck_X8_add (pc := 15) rfl) rfl (fun hc4 => ?_) (fun hc4 => ?_)
    · replace hm := am_it hm hc4
      refine am_steps ck_X8_add 1 (pc' := 21) (lv' := [(0, .ref 3), (1, .int x1), (2, .int x2), (3, .int x3)]) (st' := [.int x3]) rfl ?_
      refine am_ifc (tgt := 38) (am_fd ck_X8_add (pc := 21) rfl) rfl (fun hc5 => ?_) (fun hc5 => ?_)
      · replace hm := am_it hm hc5
        refine am_steps ck_X8_add 1 (pc' := 39) (lv' := [(0, .ref 3), (1, .int x1), (2, .int x2), (3, .int x3)]) (st' := [.int (am_i (-1))]) rfl ?_
        cases hm
        exact am_end (am_fd ck_X8_add (pc := 39) rfl) am_rI rfl rfl
      · replace hm := am_if hm hc5
        refine am_steps ck_X8_add 2 (pc' := 28) (lv' := [(0, .ref 3), (1, .int x1), (2, .int x2), (3, .int x3)]) (st' := [.int (am_i (-9999)), .int x3]) rfl ?_
        refine am_icmp (tgt := 38) (am_fd ck_X8_add (pc := 28) rfl) rfl (fun hc6 => ?_) (fun hc6 => ?_)
        · replace hm := am_it hm hc6
          refine am_steps ck_X8_add 1 (pc' := 39) (lv' := [(0, .ref 3), (1, .int x1), (2, .int x2), (3, .int x3)]) (st' := [.int (am_i (-1))]) rfl ?_
          cases hm
          exact am_end (am_fd ck_X8_add (pc := 39) rfl) am_rI rfl rfl
        · replace hm := am_if hm hc6
          refine am_steps ck_X8_add 2 (pc' := 35) (lv' := [(0, .ref 3), (1, .int x1), (2, .int x2), (3, .int x3)]) (st' := [.int (am_i 9999), .int x3]) rfl ?_
          refine am_icmp (tgt := 40) (am_fd ck_X8_add (pc := 35) rfl) rfl (fun hc7 => ?_) (fun hc7 => ?_)
          · replace hm := am_it hm hc7
            refine am_steps ck_X8_add 1 (pc' := 41) (lv' := [(0, .ref 3), (1, .int x1), (2, .int x2), (3, .int x3)]) (st' := [.ref 3]) rfl ?_
            refine ms_getr (ci := 6) (k := 0) (v := 4) (am_fd ck_X8_add (pc := 41) rfl) tw_190 kc_3 rfl (ly_3_0 hL) (kO og4) ?_
            refine ms_getr (ci := 1) (k := 2) (v := (4 + 3)) (am_fd ck_X8_add (pc := 44) rfl) tw_43 (kO og4) rfl (lyO2 hL og4) (kWo og4) ?_
            refine am_steps ck_X8_add 1 (pc' := 48) (lv' := [(0, .ref 3), (1, .int x1), (2, .int x2), (3, .int x3)]) (st' := [.int x1, .ref (4 + 3)]) rfl ?_
            obtain ⟨hb8, hm⟩ := am_gE hm
            refine ms_rald (n := 24) (v := (aW 4 (am_ix x1))) (am_fd ck_X8_add (pc := 48) rfl) (kWo og4) hb8 (lyW hL og4 (am_ixl hb8)) (kW og4 (am_ixl hb8)) ?_
            refine am_steps ck_X8_add 1 (pc' := 50) (lv' := [(0, .ref 3), (1, .int x1), (2, .int x2), (3, .int x3)]) (st' := [.int x2, .ref (aW 4 (am_ix x1))]) rfl ?_
            obtain ⟨hb9, hm⟩ := am_gE hm
            refine ms_iald (n := 64) (am_fd ck_X8_add (pc := 50) rfl) (kW og4 (am_ixl hb8)) hb9 ?_
            refine am_steps ck_X8_add 4 (pc' := 57) (lv' := [(4, .int ((m (aW 4 (am_ix x1)) (am_ix x2)) + x3)), (0, .ref 3), (1, .int x1), (2, .int x2), (3, .int x3)]) (st' := [.int ((m (aW 4 (am_ix x1)) (am_ix x2)) + x3)]) rfl ?_
            refine am_ifc (tgt := 68) (am_fd ck_X8_add (pc := 57) rfl) rfl (fun hc10 => ?_) (fun hc10 => ?_)
            · replace hm := am_it hm hc10
              refine am_steps ck_X8_add 1 (pc' := 69) (lv' := [(4, .int ((m (aW 4 (am_ix x1)) (am_ix x2)) + x3)), (0, .ref 3), (1, .int x1), (2, .int x2), (3, .int x3)]) (st' := [.int (am_i (-1))]) rfl ?_
              cases hm
              exact am_end (am_fd ck_X8_add (pc := 69) rfl) am_rI rfl rfl
            · replace hm := am_if hm hc10
              refine am_steps ck_X8_add 2 (pc' := 65) (lv' := [(4, .int ((m (aW 4 (am_ix x1)) (am_ix x2)) + x3)), (0, .ref 3), (1, .int x1), (2, .int x2), (3, .int x3)]) (st' := [.int (am_i 9999), .int ((m (aW 4 (am_ix x1)) (am_ix x2)) + x3)]) rfl ?_
              refine am_icmp (tgt := 70) (am_fd ck_X8_add (pc := 65) rfl) rfl (fun hc11 => ?_) (fun hc11 => ?_)
              · replace hm := am_it hm hc11
                refine am_steps ck_X8_add 1 (pc' := 71) (lv' := [(4, .int ((m (aW 4 (am_ix x1)) (am_ix x2)) + x3)), (0, .ref 3), (1, .int x1), (2, .int x2), (3, .int x3)]) (st' := [.ref 3]) rfl ?_
                refine ms_getr (ci := 6) (k := 2) (v := 498) (am_fd ck_X8_add (pc := 71) rfl) tw_192 kc_3 rfl (ly_3_2 hL) kc_498 ?_
                refine am_steps ck_X8_add 1 (pc' := 75) (lv' := [(4, .int ((m (aW 4 (am_ix x1)) (am_ix x2)) + x3)), (0, .ref 3), (1, .int x1), (2, .int x2), (3, .int x3)]) (st' := [.ref 3, .ref 498]) rfl ?_
                refine ms_getr (ci := 6) (k := 0) (v := 4) (am_fd ck_X8_add (pc := 75) rfl) tw_190 kc_3 rfl (ly_3_0 hL) (kO og4) ?_
                obtain ⟨q12, hq12, hm⟩ := am_bE hm
                refine ms_callVv (M2 := mt_X2_keep) (d2 := 3) (ci := 2) [.ref 4] (am_fd ck_X8_add (pc := 78) rfl) ok_X2_keep tw_238 tw_239 tw_240 (by decide) kc_498 (Nat.le_of_ble_eq_true rfl) (Nat.le_of_ble_eq_true rfl) (x_X2_keep hL og4 hq12) ?_
                refine am_steps ck_X8_add 1 (pc' := 82) (lv' := [(4, .int ((m (aW 4 (am_ix x1)) (am_ix x2)) + x3)), (0, .ref 3), (1, .int x1), (2, .int x2), (3, .int x3)]) (st' := [.ref 3]) rfl ?_
                refine ms_getr (ci := 6) (k := 0) (v := 4) (am_fd ck_X8_add (pc := 82) rfl) tw_190 kc_3 rfl (ly_3_0 hL) (kO og4) ?_
                refine ms_getr (ci := 1) (k := 2) (v := (4 + 3)) (am_fd ck_X8_add (pc := 85) rfl) tw_43 (kO og4) rfl (lyO2 hL og4) (kWo og4) ?_
                refine am_steps ck_X8_add 1 (pc' := 89) (lv' := [(4, .int ((m (aW 4 (am_ix x1)) (am_ix x2)) + x3)), (0, .ref 3), (1, .int x1), (2, .int x2), (3, .int x3)]) (st' := [.int x1, .ref (4 + 3)]) rfl ?_
                obtain ⟨hb13, hm⟩ := am_gE hm
                refine ms_rald (n := 24) (v := (aW 4 (am_ix x1))) (am_fd ck_X8_add (pc := 89) rfl) (kWo og4) hb13 (lyW hL og4 (am_ixl hb13)) (kW og4 (am_ixl hb13)) ?_
                refine am_steps ck_X8_add 2 (pc' := 93) (lv' := [(4, .int ((m (aW 4 (am_ix x1)) (am_ix x2)) + x3)), (0, .ref 3), (1, .int x1), (2, .int x2), (3, .int x3)]) (st' := [.int ((m (aW 4 (am_ix x1)) (am_ix x2)) + x3), .int x2, .ref (aW 4 (am_ix x1))]) rfl ?_
                obtain ⟨hb14, hm⟩ := am_gE hm
                refine ms_iast (n := 64) (am_fd ck_X8_add (pc := 93) rfl) (kW og4 (am_ixl hb13)) hb14 (fun m15 em15 => ?_)
                replace hm := am_letE em15 hm
                refine am_steps ck_X8_add 1 (pc' := 95) (lv' := [(4, .int ((m (aW 4 (am_ix x1)) (am_ix x2)) + x3)), (0, .ref 3), (1, .int x1), (2, .int x2), (3, .int x3)]) (st' := [.ref 3]) rfl ?_
                refine ms_getr (ci := 6) (k := 0) (v := 4) (am_fd ck_X8_add (pc := 95) rfl) tw_190 kc_3 rfl (ly_3_0 hL) (kO og4) ?_
                refine am_steps ck_X8_add 1 (pc' := 99) (lv' := [(4, .int ((m (aW 4 (am_ix x1)) (am_ix x2)) + x3)), (0, .ref 3), (1, .int x1), (2, .int x2), (3, .int x3)]) (st' := [.int x1, .ref 4]) rfl ?_
                obtain ⟨q16, hq16, hm⟩ := am_bE hm
                refine ms_callVv (M2 := mt_X1_makeStale) (d2 := 3) (ci := 1) [.int x1] (am_fd ck_X8_add (pc := 99) rfl) ok_X1_makeStale tw_252 tw_253 tw_254 (by decide) (kO og4) (Nat.le_of_ble_eq_true rfl) (Nat.le_of_ble_eq_true rfl) (x_X1_makeStale hL og4 hq16) ?_
                refine am_steps ck_X8_add 1 (pc' := 104) (lv' := [(4, .int ((m (aW 4 (am_ix x1)) (am_ix x2)) + x3)), (0, .ref 3), (1, .int x1), (2, .int x2), (3, .int x3)]) (st' := [.int ((m (aW 4 (am_ix x1)) (am_ix x2)) + x3)]) rfl ?_
                cases hm
                exact am_end (am_fd ck_X8_add (pc := 104) rfl) am_rI rfl rfl
              · replace hm := am_if hm hc11
                refine am_steps ck_X8_add 1 (pc' := 69) (lv' := [(4, .int ((m (aW 4 (am_ix x1)) (am_ix x2)) + x3)), (0, .ref 3), (1, .int x1), (2, .int x2), (3, .int x3)]) (st' := [.int (am_i (-1))]) rfl ?_
                cases hm
                exact am_end (am_fd ck_X8_add (pc := 69) rfl) am_rI rfl rfl
          · replace hm := am_if hm hc7
            refine am_steps ck_X8_add 1 (pc' := 39) (lv' := [(0, .ref 3), (1, .int x1), (2, .int x2), (3, .int x3)]) (st' := [.int (am_i (-1))]) rfl ?_
            cases hm
            exact am_end (am_fd ck_X8_add (pc := 39) rfl) am_rI rfl rfl
    · replace hm := am_if hm hc4
      refine am_steps ck_X8_add 1 (pc' := 19) (lv' := [(0, .ref 3), (1, .int x1), (2, .int x2), (3, .int x3)]) (st' := [.int (am_i (-1))]) rfl ?_
      cases hm
      exact am_end (am_fd ck_X8_add (pc := 19) rfl) am_rI rfl rfl
set_option maxRecDepth 100000 in
set_option maxHeartbeats 4000000 in
theorem x_X8_isUnit {G : am_G} {m : am_m} {r : am_rr} {x1 : Int32} {res : Int32} (hL : am_Lay r) (hm : m_X8_isUnit m x1 = some res) : am_Met G mt_X8_isUnit 1 [.int x1] (am_hh m r) (some (.int res)) (am_hh m r) := by
  refine am_of (by decide) (Nat.le_of_ble_eq_true rfl) ?_
  unfold m_X8_isUnit at hm
  show am_W G mt_X8_isUnit 1 _ _ 0 [(0, .int x1)] [] (am_hh m r)
  refine am_steps ck_X8_isUnit 1 (pc' := 1) (lv' := [(0, .int x1)]) (st' := [.int x1]) rfl ?_
  refine am_ifc (tgt := 14) (am_fd ck_X8_isUnit (pc := 1) rfl) rfl (fun hc1 => ?_) (fun hc1 => ?_)
  · replace hm := am_it hm hc1
    refine am_steps ck_X8_isUnit 1 (pc' := 15) (lv' := [(0, .int x1)]) (st' := [.int (am_i 0)]) rfl ?_
    cases hm
    exact am_end (am_fd ck_X8_isUnit (pc := 15) rfl) am_rZ0 rfl rfl
  · replace hm := am_if hm hc1
    refine am_steps ck_X8_isUnit 2 (pc' := 7) (lv' := [(0, .int x1)]) (st' := [.int (am_i 24), .int x1]) rfl ?_
    refine am_icmp (tgt := 14) (am_fd ck_X8_isUnit (pc := 7) rfl) rfl (fun hc2 => ?_) (fun hc2 => ?_)
    · replace hm := am_it hm hc2
      refine am_steps ck_X8_isUnit 1 (pc' := 15) (lv' := [(0, .int x1)]) (st' := [.int (am_i 0)]) rfl ?_
      cases hm
      exact am_end (am_fd ck_X8_isUnit (pc := 15) rfl) am_rZ0 rfl rfl
    · replace hm := am_if hm hc2
      refine am_steps ck_X8_isUnit 2 (pc' := 15) (lv' := [(0, .int x1)]) (st' := [.int (am_i 1)]) rfl ?_
      cases hm
      exact am_end (am_fd ck_X8_isUnit (pc := 15) rfl) am_rZ1 rfl rfl
set_option maxRecDepth 100000 in
set_option maxHeartbeats 4000000 in
theorem x_X8_comes {G : am_G} {m : am_m} {r : am_rr} {x1 : Int32} {x2 : Int32} {res : Int32 × am_m} (hL : am_Lay r) (hm : m_X8_comes m r x1 x2 = some res) : am_Met G mt_X8_comes 4 [.ref 3, .int x1, .int x2] (am_hh m r) (some (.int res.1)) (am_hh res.2 r) := by
  refine am_of (by decide) (Nat.le_of_ble_eq_true rfl) ?_
  unfold m_X8_comes at hm
  show am_W G mt_X8_comes 4 _ _ 0 [(0, .ref 3), (1, .int x1), (2, .int x2)] [] (am_hh m r)
  refine am_steps ck_X8_comes 1 (pc' := 1) (lv' := [(0, .ref 3), (1, .int x1), (2, .int x2)]) (st' := [.int x1]) rfl ?_
  obtain ⟨q1, hq1, hm⟩ := am_bE hm
  refine ms_callS (M2 := mt_X8_isUnit) (d2 := 1) [.int x1] (am_fd ck_X8_comes (pc := 1) rfl) ok_X8_isUnit tw_265 tw_266 (Nat.le_of_ble_eq_true rfl) (Nat.le_of_ble_eq_true rfl) (x_X8_isUnit hL hq1) ?_
  refine am_ifc (tgt := 29) (am_fd ck_X8_comes (pc := 4) rfl) rfl (fun hc2 => ?_) (fun hc2 => ?_)
  · replace hm := am_it hm hc2
    refine am_steps ck_X8_comes 1 (pc' := 30) (lv' := [(0, .ref 3), (1, .int x1), (2, .int x2)]) (st' := [.int (am_i 0)]) rfl ?_
    cases hm
    exact am_end (am_fd ck_X8_comes (pc := 30) rfl) am_rZ0 rfl rfl
  · replace hm := am_if hm hc2
    refine am_steps ck_X8_comes 1 (pc' := 8) (lv' := [(0, .ref 3), (1, .int x1), (2, .int x2)]) (st' := [.ref 3]) rfl ?_
    refine ms_getr (ci := 6) (k := 0) (v := 4) (am_fd ck_X8_comes (pc := 8) rfl) tw_190 kc_3 rfl (ly_3_0 hL) (kO og4) ?_
    refine am_steps ck_X8_comes 1 (pc' := 12) (lv' := [(0, .ref 3), (1, .int x1), (2, .int x2)]) (st' := [.int x1, .ref 4]) rfl ?_
    obtain ⟨q3, hq3, hm⟩ := am_bE hm
    refine ms_callV (M2 := mt_X1_isThere) (d2 := 1) (ci := 1) [.int x1] (am_fd ck_X8_comes (pc := 12) rfl) ok_X1_isThere tw_231 tw_232 tw_233 (by decide) (kO og4) (Nat.le_of_ble_eq_true rfl) (Nat.le_of_ble_eq_true rfl) (x_X1_isThere hL og4 hq3) ?_
    refine am_ifc (tgt := 29) (am_fd ck_X8_comes (pc := 15) rfl) rfl (fun hc4 => ?_) (fun hc4 => ?_)
    · replace hm := am_it hm hc4
      refine am_steps ck_X8_comes 1 (pc' := 30) (lv' := [(0, .ref 3), (1, .int x1), (2, .int x2)]) (st' := [.int (am_i 0)]) rfl ?_
      cases hm
      exact am_end (am_fd ck_X8_comes (pc := 30) rfl) am_rZ0 rfl rfl
    · replace hm := am_if hm hc4
      refine am_steps ck_X8_comes 1 (pc' := 19) (lv' := [(0, .ref 3), (1, .int x1), (2, .int x2)]) (st' := [.ref 3]) rfl ?_
      refine ms_getr (ci := 6) (k := 0) (v := 4) (am_fd ck_X8_comes (pc := 19) rfl) tw_190 kc_3 rfl (ly_3_0 hL) (kO og4) ?_
      refine am_steps ck_X8_comes 1 (pc' := 23) (lv' := [(0, .ref 3), (1, .int x1), (2, .int x2)]) (st' := [.int x2, .ref 4]) rfl ?_
      obtain ⟨q5, hq5, hm⟩ := am_bE hm
      refine ms_callV (M2 := mt_X1_isThere) (d2 := 1) (ci := 1) [.int x2] (am_fd ck_X8_comes (pc := 23) rfl) ok_X1_isThere tw_231 tw_232 tw_233 (by decide) (kO og4) (Nat.le_of_ble_eq_true rfl) (Nat.le_of_ble_eq_true rfl) (x_X1_isThere hL og4 hq5) ?_
      refine am_ifc (tgt := 31) (am_fd ck_X8_comes (pc := 26) rfl) rfl (fun hc6 => ?_) (fun hc6 => ?_)
      · replace hm := am_it hm hc6
        refine am_steps ck_X8_comes 1 (pc' := 32) (lv' := [(0, .ref 3), (1, .int x1), (2, .int x2)]) (st' := [.ref 3]) rfl ?_
        refine ms_getr (ci := 6) (k := 0) (v := 4) (am_fd ck_X8_comes (pc := 32) rfl) tw_190 kc_3 rfl (ly_3_0 hL) (kO og4) ?_
        refine am_steps ck_X8_comes 1 (pc' := 36) (lv' := [(0, .ref 3), (1, .int x1), (2, .int x2)]) (st' := [.int x2, .ref 4]) rfl ?_
        obtain ⟨q7, hq7, hm⟩ := am_bE hm
        refine ms_callV (M2 := mt_X1_depthOf) (d2 := 3) (ci := 1) [.int x2] (am_fd ck_X8_comes (pc := 36) rfl) ok_X1_depthOf tw_268 tw_269 tw_270 (by decide) (kO og4) (Nat.le_of_ble_eq_true rfl) (Nat.le_of_ble_eq_true rfl) (x_X1_depthOf hL og4 hq7) ?_
        refine am_steps ck_X8_comes 1 (pc' := 41) (lv' := [(0, .ref 3), (1, .int x1), (2, .int x2)]) (st' := [.int (am_i 12), .int q7]) rfl ?_
        refine am_icmp (tgt := 46) (am_fd ck_X8_comes (pc := 41) rfl) rfl (fun hc8 => ?_) (fun hc8 => ?_)
        · replace hm := am_it hm hc8
          refine am_steps ck_X8_comes 1 (pc' := 47) (lv' := [(0, .ref 3), (1, .int x1), (2, .int x2)]) (st' := [.ref 3]) rfl ?_
          refine ms_getr (ci := 6) (k := 2) (v := 498) (am_fd ck_X8_comes (pc := 47) rfl) tw_192 kc_3 rfl (ly_3_2 hL) kc_498 ?_
          refine am_steps ck_X8_comes 1 (pc' := 51) (lv' := [(0, .ref 3), (1, .int x1), (2, .int x2)]) (st' := [.ref 3, .ref 498]) rfl ?_
          refine ms_getr (ci := 6) (k := 0) (v := 4) (am_fd ck_X8_comes (pc := 51) rfl) tw_190 kc_3 rfl (ly_3_0 hL) (kO og4) ?_
          obtain ⟨q9, hq9, hm⟩ := am_bE hm
          refine ms_callVv (M2 := mt_X2_keep) (d2 := 3) (ci := 2) [.ref 4] (am_fd ck_X8_comes (pc := 54) rfl) ok_X2_keep tw_238 tw_239 tw_240 (by decide) kc_498 (Nat.le_of_ble_eq_true rfl) (Nat.le_of_ble_eq_true rfl) (x_X2_keep hL og4 hq9) ?_
          refine am_steps ck_X8_comes 1 (pc' := 58) (lv' := [(0, .ref 3), (1, .int x1), (2, .int x2)]) (st' := [.ref 3]) rfl ?_
          refine ms_getr (ci := 6) (k := 0) (v := 4) (am_fd ck_X8_comes (pc := 58) rfl) tw_190 kc_3 rfl (ly_3_0 hL) (kO og4) ?_
          refine am_steps ck_X8_comes 2 (pc' := 63) (lv' := [(0, .ref 3), (1, .int x1), (2, .int x2)]) (st' := [.int x2, .int x1, .ref 4]) rfl ?_
          obtain ⟨q10, hq10, hm⟩ := am_bE hm
          refine ms_callVv (M2 := mt_X1_settle) (d2 := 1) (ci := 1) [.int x1, .int x2] (am_fd ck_X8_comes (pc := 63) rfl) ok_X1_settle tw_272 tw_273 tw_274 (by decide) (kO og4) (Nat.le_of_ble_eq_true rfl) (Nat.le_of_ble_eq_true rfl) (x_X1_settle hL og4 hq10) ?_
          refine am_steps ck_X8_comes 1 (pc' := 67) (lv' := [(0, .ref 3), (1, .int x1), (2, .int x2)]) (st' := [.ref 3]) rfl ?_
          refine ms_getr (ci := 6) (k := 3) (v := 2970) (am_fd ck_X8_comes (pc := 67) rfl) tw_193 kc_3 rfl (ly_3_3 hL) (kB bk2970).1 ?_
          refine am_steps ck_X8_comes 2 (pc' := 73) (lv' := [(0, .ref 3), (1, .int x1), (2, .int x2)]) (st' := [.int (am_i 1), .int (am_i 6), .ref 2970]) rfl ?_
          obtain ⟨q11, hq11, hm⟩ := am_bE hm
          refine ms_callVv (M2 := mt_X0_tally) (d2 := 1) (ci := 0) [.int (am_i 6), .int (am_i 1)] (am_fd ck_X8_comes (pc := 73) rfl) ok_X0_tally tw_276 tw_277 tw_278 (by decide) (kB bk2970).1 (Nat.le_of_ble_eq_true rfl) (Nat.le_of_ble_eq_true rfl) (x_X0_tally hL bk2970 hq11) ?_
          refine am_steps ck_X8_comes 1 (pc' := 77) (lv' := [(0, .ref 3), (1, .int x1), (2, .int x2)]) (st' := [.int (am_i 1)]) rfl ?_
          cases hm
          exact am_end (am_fd ck_X8_comes (pc := 77) rfl) am_rZ1 rfl rfl
        · replace hm := am_if hm hc8
          refine am_steps ck_X8_comes 1 (pc' := 45) (lv' := [(0, .ref 3), (1, .int x1), (2, .int x2)]) (st' := [.int (am_i 0)]) rfl ?_
          cases hm
          exact am_end (am_fd ck_X8_comes (pc := 45) rfl) am_rZ0 rfl rfl
      · replace hm := am_if hm hc6
        refine am_steps ck_X8_comes 1 (pc' := 30) (lv' := [(0, .ref 3), (1, .int x1), (2, .int x2)]) (st' := [.int (am_i 0)]) rfl ?_
        cases hm
        exact am_end (am_fd ck_X8_comes (pc := 30) rfl) am_rZ0 rfl rfl
