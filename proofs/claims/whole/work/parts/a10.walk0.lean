/-! ===== the walks, 0 ===== -/
set_option maxRecDepth 100000 in
set_option maxHeartbeats 4000000 in
theorem x_X0_takeOver {G : am_G} {m : am_m} {r : am_rr} {b : Nat} {b1 : Nat} {res : am_m} (hL : am_Lay r) (hB : am_bk b) (hB1 : am_bk b1) (hm : m_X0_takeOver m b b1 = some res) : am_Met G mt_X0_takeOver 2 [.ref b, .ref b1] (am_hh m r) none (am_hh res r) := by
  refine am_of (by decide) (Nat.le_of_ble_eq_true rfl) ?_
  unfold m_X0_takeOver at hm
  show am_W G mt_X0_takeOver 2 _ _ 0 [(0, .ref b), (1, .ref b1)] [] (am_hh m r)
  refine am_steps ck_X0_takeOver 1 (pc' := 1) (lv' := [(0, .ref b), (1, .ref b1)]) (st' := [.ref b1]) rfl ?_
  refine ms_getr (ci := 0) (k := 0) (v := (aB b1 0)) (am_fd ck_X0_takeOver (pc := 1) rfl) tw_94 (kB hB1).1 rfl (hL.2.2.2.1 _ hB1 0 (by decide)) (kB hB1).2.1 ?_
  refine am_steps ck_X0_takeOver 2 (pc' := 6) (lv' := [(0, .ref b), (1, .ref b1)]) (st' := [.ref b, .int (am_i 0), .ref (aB b1 0)]) rfl ?_
  refine ms_getr (ci := 0) (k := 0) (v := (aB b 0)) (am_fd ck_X0_takeOver (pc := 6) rfl) tw_94 (kB hB).1 rfl (hL.2.2.2.1 _ hB 0 (by decide)) (kB hB).2.1 ?_
  refine am_steps ck_X0_takeOver 2 (pc' := 12) (lv' := [(0, .ref b), (1, .ref b1)]) (st' := [.int (am_i 11), .int (am_i 0), .ref (aB b 0), .int (am_i 0), .ref (aB b1 0)]) rfl ?_
  obtain ⟨hb1, hm⟩ := am_gE hm
  refine ms_copy (n1 := 11) (n2 := 11) (Or.inl rfl) (am_fd ck_X0_takeOver (pc := 12) rfl) tw_561 tw_248 tw_247 tw_10 (kB hB1).2.1 (kB hB).2.1 hb1 am_i11 (Nat.le_of_ble_eq_true rfl) (Nat.le_of_ble_eq_true rfl) (fun m2 em2 => ?_)
  replace hm := am_letE em2 hm
  refine am_steps ck_X0_takeOver 1 (pc' := 16) (lv' := [(0, .ref b), (1, .ref b1)]) (st' := [.ref b1]) rfl ?_
  refine ms_getr (ci := 0) (k := 1) (v := (aB b1 1)) (am_fd ck_X0_takeOver (pc := 16) rfl) tw_96 (kB hB1).1 rfl (hL.2.2.2.1 _ hB1 1 (by decide)) ((kB hB1).2.2 1 (by decide) (by decide)) ?_
  refine am_steps ck_X0_takeOver 2 (pc' := 21) (lv' := [(0, .ref b), (1, .ref b1)]) (st' := [.ref b, .int (am_i 0), .ref (aB b1 1)]) rfl ?_
  refine ms_getr (ci := 0) (k := 1) (v := (aB b 1)) (am_fd ck_X0_takeOver (pc := 21) rfl) tw_96 (kB hB).1 rfl (hL.2.2.2.1 _ hB 1 (by decide)) ((kB hB).2.2 1 (by decide) (by decide)) ?_
  refine am_steps ck_X0_takeOver 2 (pc' := 27) (lv' := [(0, .ref b), (1, .ref b1)]) (st' := [.int (am_i 12), .int (am_i 0), .ref (aB b 1), .int (am_i 0), .ref (aB b1 1)]) rfl ?_
  obtain ⟨hb3, hm⟩ := am_gE hm
  refine ms_copy (n1 := 12) (n2 := 12) (Or.inl rfl) (am_fd ck_X0_takeOver (pc := 27) rfl) tw_561 tw_248 tw_247 tw_10 ((kB hB1).2.2 1 (by decide) (by decide)) ((kB hB).2.2 1 (by decide) (by decide)) hb3 am_i11 (Nat.le_of_ble_eq_true rfl) (Nat.le_of_ble_eq_true rfl) (fun m4 em4 => ?_)
  replace hm := am_letE em4 hm
  refine am_steps ck_X0_takeOver 1 (pc' := 31) (lv' := [(0, .ref b), (1, .ref b1)]) (st' := [.ref b1]) rfl ?_
  refine ms_getr (ci := 0) (k := 2) (v := (aB b1 2)) (am_fd ck_X0_takeOver (pc := 31) rfl) tw_98 (kB hB1).1 rfl (hL.2.2.2.1 _ hB1 2 (by decide)) ((kB hB1).2.2 2 (by decide) (by decide)) ?_
  refine am_steps ck_X0_takeOver 2 (pc' := 36) (lv' := [(0, .ref b), (1, .ref b1)]) (st' := [.ref b, .int (am_i 0), .ref (aB b1 2)]) rfl ?_
  refine ms_getr (ci := 0) (k := 2) (v := (aB b 2)) (am_fd ck_X0_takeOver (pc := 36) rfl) tw_98 (kB hB).1 rfl (hL.2.2.2.1 _ hB 2 (by decide)) ((kB hB).2.2 2 (by decide) (by decide)) ?_
  refine am_steps ck_X0_takeOver 2 (pc' := 42) (lv' := [(0, .ref b), (1, .ref b1)]) (st' := [.int (am_i 12), .int (am_i 0), .ref (aB b 2), .int (am_i 0), .ref (aB b1 2)]) rfl ?_
  obtain ⟨hb5, hm⟩ := am_gE hm
  refine ms_copy (n1 := 12) (n2 := 12) (Or.inl rfl) (am_fd ck_X0_takeOver (pc := 42) rfl) tw_561 tw_248 tw_247 tw_10 ((kB hB1).2.2 2 (by decide) (by decide)) ((kB hB).2.2 2 (by decide) (by decide)) hb5 am_i11 (Nat.le_of_ble_eq_true rfl) (Nat.le_of_ble_eq_true rfl) (fun m6 em6 => ?_)
  replace hm := am_letE em6 hm
  refine am_steps ck_X0_takeOver 1 (pc' := 46) (lv' := [(0, .ref b), (1, .ref b1)]) (st' := [.ref b1]) rfl ?_
  refine ms_getr (ci := 0) (k := 3) (v := (aB b1 3)) (am_fd ck_X0_takeOver (pc := 46) rfl) tw_100 (kB hB1).1 rfl (hL.2.2.2.1 _ hB1 3 (by decide)) ((kB hB1).2.2 3 (by decide) (by decide)) ?_
  refine am_steps ck_X0_takeOver 2 (pc' := 51) (lv' := [(0, .ref b), (1, .ref b1)]) (st' := [.ref b, .int (am_i 0), .ref (aB b1 3)]) rfl ?_
  refine ms_getr (ci := 0) (k := 3) (v := (aB b 3)) (am_fd ck_X0_takeOver (pc := 51) rfl) tw_100 (kB hB).1 rfl (hL.2.2.2.1 _ hB 3 (by decide)) ((kB hB).2.2 3 (by decide) (by decide)) ?_
  refine am_steps ck_X0_takeOver 2 (pc' := 57) (lv' := [(0, .ref b), (1, .ref b1)]) (st' := [.int (am_i 12), .int (am_i 0), .ref (aB b 3), .int (am_i 0), .ref (aB b1 3)]) rfl ?_
  obtain ⟨hb7, hm⟩ := am_gE hm
  refine ms_copy (n1 := 12) (n2 := 12) (Or.inl rfl) (am_fd ck_X0_takeOver (pc := 57) rfl) tw_561 tw_248 tw_247 tw_10 ((kB hB1).2.2 3 (by decide) (by decide)) ((kB hB).2.2 3 (by decide) (by decide)) hb7 am_i11 (Nat.le_of_ble_eq_true rfl) (Nat.le_of_ble_eq_true rfl) (fun m8 em8 => ?_)
  replace hm := am_letE em8 hm
  refine am_steps ck_X0_takeOver 1 (pc' := 61) (lv' := [(0, .ref b), (1, .ref b1)]) (st' := [.ref b1]) rfl ?_
  refine ms_getr (ci := 0) (k := 4) (v := (aB b1 4)) (am_fd ck_X0_takeOver (pc := 61) rfl) tw_102 (kB hB1).1 rfl (hL.2.2.2.1 _ hB1 4 (by decide)) ((kB hB1).2.2 4 (by decide) (by decide)) ?_
  refine am_steps ck_X0_takeOver 2 (pc' := 66) (lv' := [(0, .ref b), (1, .ref b1)]) (st' := [.ref b, .int (am_i 0), .ref (aB b1 4)]) rfl ?_
  refine ms_getr (ci := 0) (k := 4) (v := (aB b 4)) (am_fd ck_X0_takeOver (pc := 66) rfl) tw_102 (kB hB).1 rfl (hL.2.2.2.1 _ hB 4 (by decide)) ((kB hB).2.2 4 (by decide) (by decide)) ?_
  refine am_steps ck_X0_takeOver 2 (pc' := 72) (lv' := [(0, .ref b), (1, .ref b1)]) (st' := [.int (am_i 12), .int (am_i 0), .ref (aB b 4), .int (am_i 0), .ref (aB b1 4)]) rfl ?_
  obtain ⟨hb9, hm⟩ := am_gE hm
  refine ms_copy (n1 := 12) (n2 := 12) (Or.inl rfl) (am_fd ck_X0_takeOver (pc := 72) rfl) tw_561 tw_248 tw_247 tw_10 ((kB hB1).2.2 4 (by decide) (by decide)) ((kB hB).2.2 4 (by decide) (by decide)) hb9 am_i11 (Nat.le_of_ble_eq_true rfl) (Nat.le_of_ble_eq_true rfl) (fun m10 em10 => ?_)
  replace hm := am_letE em10 hm
  refine am_steps ck_X0_takeOver 2 (pc' := 77) (lv' := [(0, .ref b), (1, .ref b1)]) (st' := [.ref b1, .ref b]) rfl ?_
  refine ms_geti (ci := 0) (k := 5) (am_fd ck_X0_takeOver (pc := 77) rfl) tw_104 (kB hB1).1 rfl ?_
  refine ms_puti (ci := 0) (k := 5) (am_fd ck_X0_takeOver (pc := 80) rfl) tw_104 (kB hB).1 rfl rfl (fun m11 em11 => ?_)
  replace hm := am_letE em11 hm
  refine am_steps ck_X0_takeOver 2 (pc' := 85) (lv' := [(0, .ref b), (1, .ref b1)]) (st' := [.ref b1, .ref b]) rfl ?_
  refine ms_geti (ci := 0) (k := 6) (am_fd ck_X0_takeOver (pc := 85) rfl) tw_106 (kB hB1).1 rfl ?_
  refine ms_puti (ci := 0) (k := 6) (am_fd ck_X0_takeOver (pc := 88) rfl) tw_106 (kB hB).1 rfl rfl (fun m12 em12 => ?_)
  replace hm := am_letE em12 hm
  cases hm
  exact am_end (am_fd ck_X0_takeOver (pc := 91) rfl) am_rV rfl rfl
set_option maxRecDepth 100000 in
set_option maxHeartbeats 4000000 in
theorem x_X0_tally {G : am_G} {m : am_m} {r : am_rr} {b : Nat} {x1 : Int32} {x2 : Int32} {res : am_m} (hL : am_Lay r) (hB : am_bk b) (hm : m_X0_tally m b x1 x2 = some res) : am_Met G mt_X0_tally 1 [.ref b, .int x1, .int x2] (am_hh m r) none (am_hh res r) := by
  refine am_of (by decide) (Nat.le_of_ble_eq_true rfl) ?_
  unfold m_X0_tally at hm
  show am_W G mt_X0_tally 1 _ _ 0 [(0, .ref b), (1, .int x1), (2, .int x2)] [] (am_hh m r)
  refine am_steps ck_X0_tally 1 (pc' := 1) (lv' := [(0, .ref b), (1, .int x1), (2, .int x2)]) (st' := [.int x1]) rfl ?_
  refine am_ifc (tgt := 20) (am_fd ck_X0_tally (pc := 1) rfl) rfl (fun hc1 => ?_) (fun hc1 => ?_)
  · replace hm := am_it hm hc1
    cases hm
    exact am_end (am_fd ck_X0_tally (pc := 20) rfl) am_rV rfl rfl
  · replace hm := am_if hm hc1
    refine am_steps ck_X0_tally 2 (pc' := 7) (lv' := [(0, .ref b), (1, .int x1), (2, .int x2)]) (st' := [.int (am_i 11), .int x1]) rfl ?_
    refine am_icmp (tgt := 20) (am_fd ck_X0_tally (pc := 7) rfl) rfl (fun hc2 => ?_) (fun hc2 => ?_)
    · replace hm := am_it hm hc2
      cases hm
      exact am_end (am_fd ck_X0_tally (pc := 20) rfl) am_rV rfl rfl
    · replace hm := am_if hm hc2
      refine am_steps ck_X0_tally 1 (pc' := 11) (lv' := [(0, .ref b), (1, .int x1), (2, .int x2)]) (st' := [.ref b]) rfl ?_
      refine ms_getr (ci := 0) (k := 0) (v := (aB b 0)) (am_fd ck_X0_tally (pc := 11) rfl) tw_94 (kB hB).1 rfl (hL.2.2.2.1 _ hB 0 (by decide)) (kB hB).2.1 ?_
      refine am_steps ck_X0_tally 2 (pc' := 16) (lv' := [(0, .ref b), (1, .int x1), (2, .int x2)]) (st' := [.int x1, .ref (aB b 0), .int x1, .ref (aB b 0)]) rfl ?_
      obtain ⟨hb3, hm⟩ := am_gE hm
      refine ms_iald (n := 11) (am_fd ck_X0_tally (pc := 16) rfl) (kB hB).2.1 hb3 ?_
      refine am_steps ck_X0_tally 2 (pc' := 19) (lv' := [(0, .ref b), (1, .int x1), (2, .int x2)]) (st' := [.int ((m (aB b 0) (am_ix x1)) + x2), .int x1, .ref (aB b 0)]) rfl ?_
      obtain ⟨hb4, hm⟩ := am_gE hm
      refine ms_iast (n := 11) (am_fd ck_X0_tally (pc := 19) rfl) (kB hB).2.1 hb4 (fun m5 em5 => ?_)
      replace hm := am_letE em5 hm
      cases hm
      exact am_end (am_fd ck_X0_tally (pc := 20) rfl) am_rV rfl rfl
set_option maxRecDepth 100000 in
set_option maxHeartbeats 4000000 in
theorem x_X0_merged {G : am_G} {m : am_m} {r : am_rr} {b : Nat} {x1 : Int32} {res : am_m} (hL : am_Lay r) (hB : am_bk b) (hm : m_X0_merged m b x1 = some res) : am_Met G mt_X0_merged 2 [.ref b, .int x1] (am_hh m r) none (am_hh res r) := by
  refine am_of (by decide) (Nat.le_of_ble_eq_true rfl) ?_
  unfold m_X0_merged at hm
  show am_W G mt_X0_merged 2 _ _ 0 [(0, .ref b), (1, .int x1)] [] (am_hh m r)
  refine am_steps ck_X0_merged 3 (pc' := 3) (lv' := [(0, .ref b), (1, .int x1)]) (st' := [.int x1, .int (am_i 0), .ref b]) rfl ?_
  obtain ⟨q1, hq1, hm⟩ := am_bE hm
  refine ms_callVv (M2 := mt_X0_tally) (d2 := 1) (ci := 0) [.int (am_i 0), .int x1] (am_fd ck_X0_merged (pc := 3) rfl) ok_X0_tally tw_317 tw_277 tw_278 (by decide) (kB hB).1 (Nat.le_of_ble_eq_true rfl) (Nat.le_of_ble_eq_true rfl) (x_X0_tally hL hB hq1) ?_
  refine am_steps ck_X0_merged 3 (pc' := 9) (lv' := [(0, .ref b), (1, .int x1)]) (st' := [.int (am_i 1), .int (am_i 2), .ref b]) rfl ?_
  obtain ⟨q2, hq2, hm⟩ := am_bE hm
  refine ms_callVv (M2 := mt_X0_tally) (d2 := 1) (ci := 0) [.int (am_i 2), .int (am_i 1)] (am_fd ck_X0_merged (pc := 9) rfl) ok_X0_tally tw_317 tw_277 tw_278 (by decide) (kB hB).1 (Nat.le_of_ble_eq_true rfl) (Nat.le_of_ble_eq_true rfl) (x_X0_tally hL hB hq2) ?_
  cases hm
  exact am_end (am_fd ck_X0_merged (pc := 12) rfl) am_rV rfl rfl
set_option maxRecDepth 100000 in
set_option maxHeartbeats 4000000 in
theorem x_X0_parted {G : am_G} {m : am_m} {r : am_rr} {b : Nat} {x1 : Int32} {res : am_m} (hL : am_Lay r) (hB : am_bk b) (hm : m_X0_parted m b x1 = some res) : am_Met G mt_X0_parted 2 [.ref b, .int x1] (am_hh m r) none (am_hh res r) := by
  refine am_of (by decide) (Nat.le_of_ble_eq_true rfl) ?_
  unfold m_X0_parted at hm
  show am_W G mt_X0_parted 2 _ _ 0 [(0, .ref b), (1, .int x1)] [] (am_hh m r)
  refine am_steps ck_X0_parted 3 (pc' := 3) (lv' := [(0, .ref b), (1, .int x1)]) (st' := [.int x1, .int (am_i 1), .ref b]) rfl ?_
  obtain ⟨q1, hq1, hm⟩ := am_bE hm
  refine ms_callVv (M2 := mt_X0_tally) (d2 := 1) (ci := 0) [.int (am_i 1), .int x1] (am_fd ck_X0_parted (pc := 3) rfl) ok_X0_tally tw_317 tw_277 tw_278 (by decide) (kB hB).1 (Nat.le_of_ble_eq_true rfl) (Nat.le_of_ble_eq_true rfl) (x_X0_tally hL hB hq1) ?_
  refine am_steps ck_X0_parted 3 (pc' := 9) (lv' := [(0, .ref b), (1, .int x1)]) (st' := [.int (am_i 1), .int (am_i 3), .ref b]) rfl ?_
  obtain ⟨q2, hq2, hm⟩ := am_bE hm
  refine ms_callVv (M2 := mt_X0_tally) (d2 := 1) (ci := 0) [.int (am_i 3), .int (am_i 1)] (am_fd ck_X0_parted (pc := 9) rfl) ok_X0_tally tw_317 tw_277 tw_278 (by decide) (kB hB).1 (Nat.le_of_ble_eq_true rfl) (Nat.le_of_ble_eq_true rfl) (x_X0_tally hL hB hq2) ?_
  cases hm
  exact am_end (am_fd ck_X0_parted (pc := 12) rfl) am_rV rfl rfl
set_option maxRecDepth 100000 in
set_option maxHeartbeats 4000000 in
theorem x_X0_limitAt_3 {G : am_G} {b : Nat} {x1 : Int32} {x2 : Int32} {x3 : Int32} {m : am_m} {r : am_rr} {y1 : Int32} {y2 : Int32} {y3 : Int32} {res : Int32} {k : Option (Int32)} (hL : am_Lay r) (hB : am_bk b) : ∀ (n : Nat) (z4 : Int32), m_X0_limitAt_3 b x1 x2 x3 m y1 y2 y3 k n z4 = some res → (k = some res → am_W G mt_X0_limitAt 1 (some (.int res)) (am_hh m r) 61 [] [] (am_hh m r)) → am_W G mt_X0_limitAt 1 (some (.int res)) (am_hh m r) 3 [(0, .ref b), (1, .int y1), (2, .int y2), (3, .int y3), (4, .int z4)] [] (am_hh m r) := by
  intro n
  induction n with
  | zero => intro z4 hm K; cases hm
  | succ n ih =>
    intro z4 hm K
    unfold m_X0_limitAt_3 at hm
    refine am_steps ck_X0_limitAt 2 (pc' := 6) (lv' := [(0, .ref b), (1, .int y1), (2, .int y2), (3, .int y3), (4, .int z4)]) (st' := [.ref b, .int z4]) rfl ?_
    refine ms_geti (ci := 0) (k := 5) (am_fd ck_X0_limitAt (pc := 6) rfl) tw_104 (kB hB).1 rfl ?_
    refine am_icmp (tgt := 61) (am_fd ck_X0_limitAt (pc := 9) rfl) rfl (fun hc1 => ?_) (fun hc1 => ?_)
    · replace hm := am_it hm hc1
      refine am_subp [] rfl ?_
      exact K hm
    · replace hm := am_if hm hc1
      refine am_steps ck_X0_limitAt 2 (pc' := 16) (lv' := [(0, .ref b), (1, .int y1), (2, .int y2), (3, .int y3), (4, .int z4)]) (st' := [.int (am_i 12), .int z4]) rfl ?_
      refine am_icmp (tgt := 61) (am_fd ck_X0_limitAt (pc := 16) rfl) rfl (fun hc2 => ?_) (fun hc2 => ?_)
      · replace hm := am_it hm hc2
        refine am_subp [] rfl ?_
        exact K hm
      · replace hm := am_if hm hc2
        refine am_steps ck_X0_limitAt 1 (pc' := 20) (lv' := [(0, .ref b), (1, .int y1), (2, .int y2), (3, .int y3), (4, .int z4)]) (st' := [.ref b]) rfl ?_
        refine ms_getr (ci := 0) (k := 1) (v := (aB b 1)) (am_fd ck_X0_limitAt (pc := 20) rfl) tw_96 (kB hB).1 rfl (hL.2.2.2.1 _ hB 1 (by decide)) ((kB hB).2.2 1 (by decide) (by decide)) ?_
        refine am_steps ck_X0_limitAt 1 (pc' := 25) (lv' := [(0, .ref b), (1, .int y1), (2, .int y2), (3, .int y3), (4, .int z4)]) (st' := [.int z4, .ref (aB b 1)]) rfl ?_
        obtain ⟨hb3, hm⟩ := am_gE hm
        refine ms_iald (n := 12) (am_fd ck_X0_limitAt (pc := 25) rfl) ((kB hB).2.2 1 (by decide) (by decide)) hb3 ?_
        refine am_steps ck_X0_limitAt 1 (pc' := 27) (lv' := [(0, .ref b), (1, .int y1), (2, .int y2), (3, .int y3), (4, .int z4)]) (st' := [.int y1, .int (m (aB b 1) (am_ix z4))]) rfl ?_
        refine am_icmp (tgt := 55) (am_fd ck_X0_limitAt (pc := 27) rfl) rfl (fun hc4 => ?_) (fun hc4 => ?_)
        · replace hm := am_it hm hc4
          refine am_steps ck_X0_limitAt 2 (pc' := 3) (lv' := [(4, .int (z4 + am_i 1)), (0, .ref b), (1, .int y1), (2, .int y2), (3, .int y3)]) (st' := []) rfl ?_
          refine am_subp [1, 2, 3, 4, 0] rfl ?_
          exact ih _ hm K
        · replace hm := am_if hm hc4
          refine am_steps ck_X0_limitAt 1 (pc' := 31) (lv' := [(0, .ref b), (1, .int y1), (2, .int y2), (3, .int y3), (4, .int z4)]) (st' := [.ref b]) rfl ?_
          refine ms_getr (ci := 0) (k := 2) (v := (aB b 2)) (am_fd ck_X0_limitAt (pc := 31) rfl) tw_98 (kB hB).1 rfl (hL.2.2.2.1 _ hB 2 (by decide)) ((kB hB).2.2 2 (by decide) (by decide)) ?_
          refine am_steps ck_X0_limitAt 1 (pc' := 36) (lv' := [(0, .ref b), (1, .int y1), (2, .int y2), (3, .int y3), (4, .int z4)]) (st' := [.int z4, .ref (aB b 2)]) rfl ?_
          obtain ⟨hb5, hm⟩ := am_gE hm
          refine ms_iald (n := 12) (am_fd ck_X0_limitAt (pc := 36) rfl) ((kB hB).2.2 2 (by decide) (by decide)) hb5 ?_
          refine am_steps ck_X0_limitAt 1 (pc' := 38) (lv' := [(0, .ref b), (1, .int y1), (2, .int y2), (3, .int y3), (4, .int z4)]) (st' := [.int y2, .int (m (aB b 2) (am_ix z4))]) rfl ?_
          refine am_icmp (tgt := 55) (am_fd ck_X0_limitAt (pc := 38) rfl) rfl (fun hc6 => ?_) (fun hc6 => ?_)
          · replace hm := am_it hm hc6
            refine am_steps ck_X0_limitAt 2 (pc' := 3) (lv' := [(4, .int (z4 + am_i 1)), (0, .ref b), (1, .int y1), (2, .int y2), (3, .int y3)]) (st' := []) rfl ?_
            refine am_subp [1, 2, 3, 4, 0] rfl ?_
            exact ih _ hm K
          · replace hm := am_if hm hc6
            refine am_steps ck_X0_limitAt 1 (pc' := 42) (lv' := [(0, .ref b), (1, .int y1), (2, .int y2), (3, .int y3), (4, .int z4)]) (st' := [.ref b]) rfl ?_
            refine ms_getr (ci := 0) (k := 3) (v := (aB b 3)) (am_fd ck_X0_limitAt (pc := 42) rfl) tw_100 (kB hB).1 rfl (hL.2.2.2.1 _ hB 3 (by decide)) ((kB hB).2.2 3 (by decide) (by decide)) ?_
            refine am_steps ck_X0_limitAt 1 (pc' := 47) (lv' := [(0, .ref b), (1, .int y1), (2, .int y2), (3, .int y3), (4, .int z4)]) (st' := [.int z4, .ref (aB b 3)]) rfl ?_
            obtain ⟨hb7, hm⟩ := am_gE hm
            refine ms_iald (n := 12) (am_fd ck_X0_limitAt (pc := 47) rfl) ((kB hB).2.2 3 (by decide) (by decide)) hb7 ?_
            refine am_steps ck_X0_limitAt 1 (pc' := 49) (lv' := [(0, .ref b), (1, .int y1), (2, .int y2), (3, .int y3), (4, .int z4)]) (st' := [.int y3, .int (m (aB b 3) (am_ix z4))]) rfl ?_
            refine am_icmp (tgt := 55) (am_fd ck_X0_limitAt (pc := 49) rfl) rfl (fun hc8 => ?_) (fun hc8 => ?_)
            · replace hm := am_it hm hc8
              refine am_steps ck_X0_limitAt 2 (pc' := 3) (lv' := [(4, .int (z4 + am_i 1)), (0, .ref b), (1, .int y1), (2, .int y2), (3, .int y3)]) (st' := []) rfl ?_
              refine am_subp [1, 2, 3, 4, 0] rfl ?_
              exact ih _ hm K
            · replace hm := am_if hm hc8
              refine am_steps ck_X0_limitAt 1 (pc' := 54) (lv' := [(0, .ref b), (1, .int y1), (2, .int y2), (3, .int y3), (4, .int z4)]) (st' := [.int z4]) rfl ?_
              cases hm
              exact am_end (am_fd ck_X0_limitAt (pc := 54) rfl) am_rI rfl rfl
set_option maxRecDepth 100000 in
set_option maxHeartbeats 4000000 in
theorem x_X0_limitAt {G : am_G} {m : am_m} {r : am_rr} {b : Nat} {x1 : Int32} {x2 : Int32} {x3 : Int32} {res : Int32} (hL : am_Lay r) (hB : am_bk b) (hm : m_X0_limitAt m b x1 x2 x3 = some res) : am_Met G mt_X0_limitAt 1 [.ref b, .int x1, .int x2, .int x3] (am_hh m r) (some (.int res)) (am_hh m r) := by
  refine am_of (by decide) (Nat.le_of_ble_eq_true rfl) ?_
  unfold m_X0_limitAt at hm
  show am_W G mt_X0_limitAt 1 _ _ 0 [(0, .ref b), (1, .int x1), (2, .int x2), (3, .int x3)] [] (am_hh m r)
  refine am_steps ck_X0_limitAt 2 (pc' := 3) (lv' := [(4, .int (am_i 0)), (0, .ref b), (1, .int x1), (2, .int x2), (3, .int x3)]) (st' := []) rfl ?_
  refine am_subp [1, 2, 3, 4, 0] rfl ?_
  refine x_X0_limitAt_3 hL hB am_F _ hm (fun hm => ?_)
  refine am_steps ck_X0_limitAt 1 (pc' := 62) (lv' := []) (st' := [.int (am_i (-1))]) rfl ?_
  cases hm
  exact am_end (am_fd ck_X0_limitAt (pc := 62) rfl) am_rI rfl rfl
set_option maxRecDepth 100000 in
set_option maxHeartbeats 4000000 in
theorem x_X0_tellLimit {G : am_G} {m : am_m} {r : am_rr} {b : Nat} {x1 : Int32} {x2 : Int32} {x3 : Int32} {x4 : Int32} {res : Int32 × am_m} (hL : am_Lay r) (hB : am_bk b) (hm : m_X0_tellLimit m b x1 x2 x3 x4 = some res) : am_Met G mt_X0_tellLimit 2 [.ref b, .int x1, .int x2, .int x3, .int x4] (am_hh m r) (some (.int res.1)) (am_hh res.2 r) := by
  refine am_of (by decide) (Nat.le_of_ble_eq_true rfl) ?_
  unfold m_X0_tellLimit at hm
  show am_W G mt_X0_tellLimit 2 _ _ 0 [(0, .ref b), (1, .int x1), (2, .int x2), (3, .int x3), (4, .int x4)] [] (am_hh m r)
  refine am_steps ck_X0_tellLimit 4 (pc' := 4) (lv' := [(0, .ref b), (1, .int x1), (2, .int x2), (3, .int x3), (4, .int x4)]) (st' := [.int x3, .int x2, .int x1, .ref b]) rfl ?_
  obtain ⟨q1, hq1, hm⟩ := am_bE hm
  refine ms_callV (M2 := mt_X0_limitAt) (d2 := 1) (ci := 0) [.int x1, .int x2, .int x3] (am_fd ck_X0_tellLimit (pc := 4) rfl) ok_X0_limitAt tw_501 tw_503 ts_14 (by decide) (kB hB).1 (Nat.le_of_ble_eq_true rfl) (Nat.le_of_ble_eq_true rfl) (x_X0_limitAt hL hB hq1) ?_
  refine am_steps ck_X0_tellLimit 3 (pc' := 12) (lv' := [(5, .int q1), (0, .ref b), (1, .int x1), (2, .int x2), (3, .int x3), (4, .int x4)]) (st' := [.int (am_i (-1)), .int q1]) rfl ?_
  refine am_icmp (tgt := 42) (am_fd ck_X0_tellLimit (pc := 12) rfl) rfl (fun hc2 => ?_) (fun hc2 => ?_)
  · replace hm := am_it hm hc2
    refine am_steps ck_X0_tellLimit 1 (pc' := 43) (lv' := [(5, .int q1), (0, .ref b), (1, .int x1), (2, .int x2), (3, .int x3), (4, .int x4)]) (st' := [.ref b]) rfl ?_
    refine ms_getr (ci := 0) (k := 1) (v := (aB b 1)) (am_fd ck_X0_tellLimit (pc := 43) rfl) tw_96 (kB hB).1 rfl (hL.2.2.2.1 _ hB 1 (by decide)) ((kB hB).2.2 1 (by decide) (by decide)) ?_
    refine am_steps ck_X0_tellLimit 2 (pc' := 49) (lv' := [(5, .int q1), (0, .ref b), (1, .int x1), (2, .int x2), (3, .int x3), (4, .int x4)]) (st' := [.int x1, .int q1, .ref (aB b 1)]) rfl ?_
    obtain ⟨hb3, hm⟩ := am_gE hm
    refine ms_iast (n := 12) (am_fd ck_X0_tellLimit (pc := 49) rfl) ((kB hB).2.2 1 (by decide) (by decide)) hb3 (fun m4 em4 => ?_)
    replace hm := am_letE em4 hm
    refine am_steps ck_X0_tellLimit 1 (pc' := 51) (lv' := [(5, .int q1), (0, .ref b), (1, .int x1), (2, .int x2), (3, .int x3), (4, .int x4)]) (st' := [.ref b]) rfl ?_
    refine ms_getr (ci := 0) (k := 2) (v := (aB b 2)) (am_fd ck_X0_tellLimit (pc := 51) rfl) tw_98 (kB hB).1 rfl (hL.2.2.2.1 _ hB 2 (by decide)) ((kB hB).2.2 2 (by decide) (by decide)) ?_
    refine am_steps ck_X0_tellLimit 2 (pc' := 57) (lv' := [(5, .int q1), (0, .ref b), (1, .int x1), (2, .int x2), (3, .int x3), (4, .int x4)]) (st' := [.int x2, .int q1, .ref (aB b 2)]) rfl ?_
    obtain ⟨hb5, hm⟩ := am_gE hm
    refine ms_iast (n := 12) (am_fd ck_X0_tellLimit (pc := 57) rfl) ((kB hB).2.2 2 (by decide) (by decide)) hb5 (fun m6 em6 => ?_)
    replace hm := am_letE em6 hm
    refine am_steps ck_X0_tellLimit 1 (pc' := 59) (lv' := [(5, .int q1), (0, .ref b), (1, .int x1), (2, .int x2), (3, .int x3), (4, .int x4)]) (st' := [.ref b]) rfl ?_
    refine ms_getr (ci := 0) (k := 3) (v := (aB b 3)) (am_fd ck_X0_tellLimit (pc := 59) rfl) tw_100 (kB hB).1 rfl (hL.2.2.2.1 _ hB 3 (by decide)) ((kB hB).2.2 3 (by decide) (by decide)) ?_
    refine am_steps ck_X0_tellLimit 2 (pc' := 65) (lv' := [(5, .int q1), (0, .ref b), (1, .int x1), (2, .int x2), (3, .int x3), (4, .int x4)]) (st' := [.int x3, .int q1, .ref (aB b 3)]) rfl ?_
    obtain ⟨hb7, hm⟩ := am_gE hm
    refine ms_iast (n := 12) (am_fd ck_X0_tellLimit (pc := 65) rfl) ((kB hB).2.2 3 (by decide) (by decide)) hb7 (fun m8 em8 => ?_)
    replace hm := am_letE em8 hm
    refine am_steps ck_X0_tellLimit 1 (pc' := 67) (lv' := [(5, .int q1), (0, .ref b), (1, .int x1), (2, .int x2), (3, .int x3), (4, .int x4)]) (st' := [.ref b]) rfl ?_
    refine ms_getr (ci := 0) (k := 4) (v := (aB b 4)) (am_fd ck_X0_tellLimit (pc := 67) rfl) tw_102 (kB hB).1 rfl (hL.2.2.2.1 _ hB 4 (by decide)) ((kB hB).2.2 4 (by decide) (by decide)) ?_
    refine am_steps ck_X0_tellLimit 2 (pc' := 74) (lv' := [(5, .int q1), (0, .ref b), (1, .int x1), (2, .int x2), (3, .int x3), (4, .int x4)]) (st' := [.int x4, .int q1, .ref (aB b 4)]) rfl ?_
    obtain ⟨hb9, hm⟩ := am_gE hm
    refine ms_iast (n := 12) (am_fd ck_X0_tellLimit (pc := 74) rfl) ((kB hB).2.2 4 (by decide) (by decide)) hb9 (fun m10 em10 => ?_)
    replace hm := am_letE em10 hm
    refine am_steps ck_X0_tellLimit 1 (pc' := 76) (lv' := [(5, .int q1), (0, .ref b), (1, .int x1), (2, .int x2), (3, .int x3), (4, .int x4)]) (st' := [.int (am_i 1)]) rfl ?_
    cases hm
    exact am_end (am_fd ck_X0_tellLimit (pc := 76) rfl) am_rZ1 rfl rfl
  · replace hm := am_if hm hc2
    refine am_steps ck_X0_tellLimit 1 (pc' := 16) (lv' := [(5, .int q1), (0, .ref b), (1, .int x1), (2, .int x2), (3, .int x3), (4, .int x4)]) (st' := [.ref b]) rfl ?_
    refine ms_geti (ci := 0) (k := 5) (am_fd ck_X0_tellLimit (pc := 16) rfl) tw_104 (kB hB).1 rfl ?_
    refine am_steps ck_X0_tellLimit 1 (pc' := 21) (lv' := [(5, .int q1), (0, .ref b), (1, .int x1), (2, .int x2), (3, .int x3), (4, .int x4)]) (st' := [.int (am_i 12), .int (m b 5)]) rfl ?_
    refine am_icmp (tgt := 26) (am_fd ck_X0_tellLimit (pc := 21) rfl) rfl (fun hc11 => ?_) (fun hc11 => ?_)
    · replace hm := am_it hm hc11
      refine am_steps ck_X0_tellLimit 1 (pc' := 27) (lv' := [(5, .int q1), (0, .ref b), (1, .int x1), (2, .int x2), (3, .int x3), (4, .int x4)]) (st' := [.ref b]) rfl ?_
      refine ms_geti (ci := 0) (k := 5) (am_fd ck_X0_tellLimit (pc := 27) rfl) tw_104 (kB hB).1 rfl ?_
      refine am_steps ck_X0_tellLimit 3 (pc' := 34) (lv' := [(5, .int (m b 5)), (0, .ref b), (1, .int x1), (2, .int x2), (3, .int x3), (4, .int x4)]) (st' := [.ref b, .ref b]) rfl ?_
      refine ms_geti (ci := 0) (k := 5) (am_fd ck_X0_tellLimit (pc := 34) rfl) tw_104 (kB hB).1 rfl ?_
      refine am_steps ck_X0_tellLimit 2 (pc' := 39) (lv' := [(5, .int (m b 5)), (0, .ref b), (1, .int x1), (2, .int x2), (3, .int x3), (4, .int x4)]) (st' := [.int ((m b 5) + (am_i 1)), .ref b]) rfl ?_
      refine ms_puti (ci := 0) (k := 5) (am_fd ck_X0_tellLimit (pc := 39) rfl) tw_104 (kB hB).1 rfl rfl (fun m12 em12 => ?_)
      replace hm := am_letE em12 hm
      refine am_steps ck_X0_tellLimit 1 (pc' := 43) (lv' := [(5, .int (m b 5)), (0, .ref b), (1, .int x1), (2, .int x2), (3, .int x3), (4, .int x4)]) (st' := [.ref b]) rfl ?_
      refine ms_getr (ci := 0) (k := 1) (v := (aB b 1)) (am_fd ck_X0_tellLimit (pc := 43) rfl) tw_96 (kB hB).1 rfl (hL.2.2.2.1 _ hB 1 (by decide)) ((kB hB).2.2 1 (by decide) (by decide)) ?_
      refine am_steps ck_X0_tellLimit 2 (pc' := 49) (lv' := [(5, .int (m b 5)), (0, .ref b), (1, .int x1), (2, .int x2), (3, .int x3), (4, .int x4)]) (st' := [.int x1, .int (m b 5), .ref (aB b 1)]) rfl ?_
      obtain ⟨hb13, hm⟩ := am_gE hm
      refine ms_iast (n := 12) (am_fd ck_X0_tellLimit (pc := 49) rfl) ((kB hB).2.2 1 (by decide) (by decide)) hb13 (fun m14 em14 => ?_)
      replace hm := am_letE em14 hm
      refine am_steps ck_X0_tellLimit 1 (pc' := 51) (lv' := [(5, .int (m b 5)), (0, .ref b), (1, .int x1), (2, .int x2), (3, .int x3), (4, .int x4)]) (st' := [.ref b]) rfl ?_
      refine ms_getr (ci := 0) (k := 2) (v := (aB b 2)) (am_fd ck_X0_tellLimit (pc := 51) rfl) tw_98 (kB hB).1 rfl (hL.2.2.2.1 _ hB 2 (by decide)) ((kB hB).2.2 2 (by decide) (by decide)) ?_
      refine am_steps ck_X0_tellLimit 2 (pc' := 57) (lv' := [(5, .int (m b 5)), (0, .ref b), (1, .int x1), (2, .int x2), (3, .int x3), (4, .int x4)]) (st' := [.int x2, .int (m b 5), .ref (aB b 2)]) rfl ?_
      obtain ⟨hb15, hm⟩ := am_gE hm
      refine ms_iast (n := 12) (am_fd ck_X0_tellLimit (pc := 57) rfl) ((kB hB).2.2 2 (by decide) (by decide)) hb15 (fun m16 em16 => ?_)
      replace hm := am_letE em16 hm
      refine am_steps ck_X0_tellLimit 1 (pc' := 59) (lv' := [(5, .int (m b 5)), (0, .ref b), (1, .int x1), (2, .int x2), (3, .int x3), (4, .int x4)]) (st' := [.ref b]) rfl ?_
      refine ms_getr (ci := 0) (k := 3) (v := (aB b 3)) (am_fd ck_X0_tellLimit (pc := 59) rfl) tw_100 (kB hB).1 rfl (hL.2.2.2.1 _ hB 3 (by decide)) ((kB hB).2.2 3 (by decide) (by decide)) ?_
      refine am_steps ck_X0_tellLimit 2 (pc' := 65) (lv' := [(5, .int (m b 5)), (0, .ref b), (1, .int x1), (2, .int x2), (3, .int x3), (4, .int x4)]) (st' := [.int x3, .int (m b 5), .ref (aB b 3)]) rfl ?_
      obtain ⟨hb17, hm⟩ := am_gE hm
      refine ms_iast (n := 12) (am_fd ck_X0_tellLimit (pc := 65) rfl) ((kB hB).2.2 3 (by decide) (by decide)) hb17 (fun m18 em18 => ?_)
      replace hm := am_letE em18 hm
      refine am_steps ck_X0_tellLimit 1 (pc' := 67) (lv' := [(5, .int (m b 5)), (0, .ref b), (1, .int x1), (2, .int x2), (3, .int x3), (4, .int x4)]) (st' := [.ref b]) rfl ?_
      refine ms_getr (ci := 0) (k := 4) (v := (aB b 4)) (am_fd ck_X0_tellLimit (pc := 67) rfl) tw_102 (kB hB).1 rfl (hL.2.2.2.1 _ hB 4 (by decide)) ((kB hB).2.2 4 (by decide) (by decide)) ?_
      refine am_steps ck_X0_tellLimit 2 (pc' := 74) (lv' := [(5, .int (m b 5)), (0, .ref b), (1, .int x1), (2, .int x2), (3, .int x3), (4, .int x4)]) (st' := [.int x4, .int (m b 5), .ref (aB b 4)]) rfl ?_
      obtain ⟨hb19, hm⟩ := am_gE hm
      refine ms_iast (n := 12) (am_fd ck_X0_tellLimit (pc := 74) rfl) ((kB hB).2.2 4 (by decide) (by decide)) hb19 (fun m20 em20 => ?_)
      replace hm := am_letE em20 hm
      refine am_steps ck_X0_tellLimit 1 (pc' := 76) (lv' := [(5, .int (m b 5)), (0, .ref b), (1, .int x1), (2, .int x2), (3, .int x3), (4, .int x4)]) (st' := [.int (am_i 1)]) rfl ?_
      cases hm
      exact am_end (am_fd ck_X0_tellLimit (pc := 76) rfl) am_rZ1 rfl rfl
    · replace hm := am_if hm hc11
      refine am_steps ck_X0_tellLimit 1 (pc' := 25) (lv' := [(5, .int q1), (0, .ref b), (1, .int x1), (2, .int x2), (3, .int x3), (4, .int x4)]) (st' := [.int (am_i 0)]) rfl ?_
      cases hm
      exact am_end (am_fd ck_X0_tellLimit (pc := 25) rfl) am_rZ0 rfl rfl
set_option maxRecDepth 100000 in
set_option maxHeartbeats 4000000 in
theorem x_X0_dropLimit_31 {G : am_G} {b : Nat} {x1 : Int32} {x2 : Int32} {x3 : Int32} {r : am_rr} {res : Int32 × am_m} {k : am_m → Option (Int32 × am_m)} (hL : am_Lay r) (hB : am_bk b) : ∀ (n : Nat) (z5 : Int32) (m : am_m), m_X0_dropLimit_31 b x1 x2 x3 k n z5 m = some res → (∀ (m1 : am_m), k m1 = some res → am_W G mt_X0_dropLimit 2 (some (.int res.1)) (am_hh res.2 r) 119 [] [] (am_hh m1 r)) → am_W G mt_X0_dropLimit 2 (some (.int res.1)) (am_hh res.2 r) 31 [(0, .ref b), (5, .int z5)] [] (am_hh m r) := by
  intro n
  induction n with
  | zero => intro z5 m hm K; cases hm
  | succ n ih =>
    intro z5 m hm K
    unfold m_X0_dropLimit_31 at hm
    refine am_steps ck_X0_dropLimit 2 (pc' := 34) (lv' := [(0, .ref b), (5, .int z5)]) (st' := [.ref b, .int z5]) rfl ?_
    refine ms_geti (ci := 0) (k := 5) (am_fd ck_X0_dropLimit (pc := 34) rfl) tw_104 (kB hB).1 rfl ?_
    refine am_icmp (tgt := 119) (am_fd ck_X0_dropLimit (pc := 37) rfl) rfl (fun hc4 => ?_) (fun hc4 => ?_)
    · replace hm := am_it hm hc4
      refine am_subp [] rfl ?_
      exact K _ hm
    · replace hm := am_if hm hc4
      refine am_steps ck_X0_dropLimit 4 (pc' := 46) (lv' := [(0, .ref b), (5, .int z5)]) (st' := [.int (am_i 12), .int (z5 + (am_i 1))]) rfl ?_
      refine am_icmp (tgt := 119) (am_fd ck_X0_dropLimit (pc := 46) rfl) rfl (fun hc5 => ?_) (fun hc5 => ?_)
      · replace hm := am_it hm hc5
        refine am_subp [] rfl ?_
        exact K _ hm
      · replace hm := am_if hm hc5
        refine am_steps ck_X0_dropLimit 1 (pc' := 50) (lv' := [(0, .ref b), (5, .int z5)]) (st' := [.ref b]) rfl ?_
        refine ms_getr (ci := 0) (k := 1) (v := (aB b 1)) (am_fd ck_X0_dropLimit (pc := 50) rfl) tw_96 (kB hB).1 rfl (hL.2.2.2.1 _ hB 1 (by decide)) ((kB hB).2.2 1 (by decide) (by decide)) ?_
        refine am_steps ck_X0_dropLimit 2 (pc' := 56) (lv' := [(0, .ref b), (5, .int z5)]) (st' := [.ref b, .int z5, .ref (aB b 1)]) rfl ?_
        refine ms_getr (ci := 0) (k := 1) (v := (aB b 1)) (am_fd ck_X0_dropLimit (pc := 56) rfl) tw_96 (kB hB).1 rfl (hL.2.2.2.1 _ hB 1 (by decide)) ((kB hB).2.2 1 (by decide) (by decide)) ?_
        refine am_steps ck_X0_dropLimit 3 (pc' := 63) (lv' := [(0, .ref b), (5, .int z5)]) (st' := [.int (z5 + (am_i 1)), .ref (aB b 1), .int z5, .ref (aB b 1)]) rfl ?_
        obtain ⟨hb6, hm⟩ := am_gE hm
        refine ms_iald (n := 12) (am_fd ck_X0_dropLimit (pc := 63) rfl) ((kB hB).2.2 1 (by decide) (by decide)) hb6 ?_
        obtain ⟨hb7, hm⟩ := am_gE hm
        refine ms_iast (n := 12) (am_fd ck_X0_dropLimit (pc := 64) rfl) ((kB hB).2.2 1 (by decide) (by decide)) hb7 (fun m8 em8 => ?_)
        replace hm := am_letE em8 hm
        refine am_steps ck_X0_dropLimit 1 (pc' := 66) (lv' := [(0, .ref b), (5, .int z5)]) (st' := [.ref b]) rfl ?_
        refine ms_getr (ci := 0) (k := 2) (v := (aB b 2)) (am_fd ck_X0_dropLimit (pc := 66) rfl) tw_98 (kB hB).1 rfl (hL.2.2.2.1 _ hB 2 (by decide)) ((kB hB).2.2 2 (by decide) (by decide)) ?_
        refine am_steps ck_X0_dropLimit 2 (pc' := 72) (lv' := [(0, .ref b), (5, .int z5)]) (st' := [.ref b, .int z5, .ref (aB b 2)]) rfl ?_
        refine ms_getr (ci := 0) (k := 2) (v := (aB b 2)) (am_fd ck_X0_dropLimit (pc := 72) rfl) tw_98 (kB hB).1 rfl (hL.2.2.2.1 _ hB 2 (by decide)) ((kB hB).2.2 2 (by decide) (by decide)) ?_
        refine am_steps ck_X0_dropLimit 3 (pc' := 79) (lv' := [(0, .ref b), (5, .int z5)]) (st' := [.int (z5 + (am_i 1)), .ref (aB b 2), .int z5, .ref (aB b 2)]) rfl ?_
        obtain ⟨hb9, hm⟩ := am_gE hm
        refine ms_iald (n := 12) (am_fd ck_X0_dropLimit (pc := 79) rfl) ((kB hB).2.2 2 (by decide) (by decide)) hb9 ?_
        obtain ⟨hb10, hm⟩ := am_gE hm
        refine ms_iast (n := 12) (am_fd ck_X0_dropLimit (pc := 80) rfl) ((kB hB).2.2 2 (by decide) (by decide)) hb10 (fun m11 em11 => ?_)
        replace hm := am_letE em11 hm
        refine am_steps ck_X0_dropLimit 1 (pc' := 82) (lv' := [(0, .ref b), (5, .int z5)]) (st' := [.ref b]) rfl ?_
        refine ms_getr (ci := 0) (k := 3) (v := (aB b 3)) (am_fd ck_X0_dropLimit (pc := 82) rfl) tw_100 (kB hB).1 rfl (hL.2.2.2.1 _ hB 3 (by decide)) ((kB hB).2.2 3 (by decide) (by decide)) ?_
        refine am_steps ck_X0_dropLimit 2 (pc' := 88) (lv' := [(0, .ref b), (5, .int z5)]) (st' := [.ref b, .int z5, .ref (aB b 3)]) rfl ?_
        refine ms_getr (ci := 0) (k := 3) (v := (aB b 3)) (am_fd ck_X0_dropLimit (pc := 88) rfl) tw_100 (kB hB).1 rfl (hL.2.2.2.1 _ hB 3 (by decide)) ((kB hB).2.2 3 (by decide) (by decide)) ?_
        refine am_steps ck_X0_dropLimit 3 (pc' := 95) (lv' := [(0, .ref b), (5, .int z5)]) (st' := [.int (z5 + (am_i 1)), .ref (aB b 3), .int z5, .ref (aB b 3)]) rfl ?_
        obtain ⟨hb12, hm⟩ := am_gE hm
        refine ms_iald (n := 12) (am_fd ck_X0_dropLimit (pc := 95) rfl) ((kB hB).2.2 3 (by decide) (by decide)) hb12 ?_
        obtain ⟨hb13, hm⟩ := am_gE hm
        refine ms_iast (n := 12) (am_fd ck_X0_dropLimit (pc := 96) rfl) ((kB hB).2.2 3 (by decide) (by decide)) hb13 (fun m14 em14 => ?_)
        replace hm := am_letE em14 hm
        refine am_steps ck_X0_dropLimit 1 (pc' := 98) (lv' := [(0, .ref b), (5, .int z5)]) (st' := [.ref b]) rfl ?_
        refine ms_getr (ci := 0) (k := 4) (v := (aB b 4)) (am_fd ck_X0_dropLimit (pc := 98) rfl) tw_102 (kB hB).1 rfl (hL.2.2.2.1 _ hB 4 (by decide)) ((kB hB).2.2 4 (by decide) (by decide)) ?_
        refine am_steps ck_X0_dropLimit 2 (pc' := 104) (lv' := [(0, .ref b), (5, .int z5)]) (st' := [.ref b, .int z5, .ref (aB b 4)]) rfl ?_
        refine ms_getr (ci := 0) (k := 4) (v := (aB b 4)) (am_fd ck_X0_dropLimit (pc := 104) rfl) tw_102 (kB hB).1 rfl (hL.2.2.2.1 _ hB 4 (by decide)) ((kB hB).2.2 4 (by decide) (by decide)) ?_
        refine am_steps ck_X0_dropLimit 3 (pc' := 111) (lv' := [(0, .ref b), (5, .int z5)]) (st' := [.int (z5 + (am_i 1)), .ref (aB b 4), .int z5, .ref (aB b 4)]) rfl ?_
        obtain ⟨hb15, hm⟩ := am_gE hm
        refine ms_iald (n := 12) (am_fd ck_X0_dropLimit (pc := 111) rfl) ((kB hB).2.2 4 (by decide) (by decide)) hb15 ?_
        obtain ⟨hb16, hm⟩ := am_gE hm
        refine ms_iast (n := 12) (am_fd ck_X0_dropLimit (pc := 112) rfl) ((kB hB).2.2 4 (by decide) (by decide)) hb16 (fun m17 em17 => ?_)
        replace hm := am_letE em17 hm
        refine am_steps ck_X0_dropLimit 2 (pc' := 31) (lv' := [(5, .int (z5 + am_i 1)), (0, .ref b)]) (st' := []) rfl ?_
        refine am_subp [1, 0] rfl ?_
        exact ih _ _ hm K
set_option maxRecDepth 100000 in
set_option maxHeartbeats 4000000 in
theorem x_X0_dropLimit {G : am_G} {m : am_m} {r : am_rr} {b : Nat} {x1 : Int32} {x2 : Int32} {x3 : Int32} {res : Int32 × am_m} (hL : am_Lay r) (hB : am_bk b) (hm : m_X0_dropLimit m b x1 x2 x3 = some res) : am_Met G mt_X0_dropLimit 2 [.ref b, .int x1, .int x2, .int x3] (am_hh m r) (some (.int res.1)) (am_hh res.2 r) := by
  refine am_of (by decide) (Nat.le_of_ble_eq_true rfl) ?_
  unfold m_X0_dropLimit at hm
  show am_W G mt_X0_dropLimit 2 _ _ 0 [(0, .ref b), (1, .int x1), (2, .int x2), (3, .int x3)] [] (am_hh m r)
  refine am_steps ck_X0_dropLimit 4 (pc' := 4) (lv' := [(0, .ref b), (1, .int x1), (2, .int x2), (3, .int x3)]) (st' := [.int x3, .int x2, .int x1, .ref b]) rfl ?_
  obtain ⟨q1, hq1, hm⟩ := am_bE hm
  refine ms_callV (M2 := mt_X0_limitAt) (d2 := 1) (ci := 0) [.int x1, .int x2, .int x3] (am_fd ck_X0_dropLimit (pc := 4) rfl) ok_X0_limitAt tw_501 tw_503 ts_14 (by decide) (kB hB).1 (Nat.le_of_ble_eq_true rfl) (Nat.le_of_ble_eq_true rfl) (x_X0_limitAt hL hB hq1) ?_
  refine am_steps ck_X0_dropLimit 3 (pc' := 12) (lv' := [(4, .int q1), (0, .ref b), (1, .int x1), (2, .int x2), (3, .int x3)]) (st' := [.int (am_i (-1)), .int q1]) rfl ?_
  refine am_icmp (tgt := 17) (am_fd ck_X0_dropLimit (pc := 12) rfl) rfl (fun hc2 => ?_) (fun hc2 => ?_)
  · replace hm := am_it hm hc2
    refine am_steps ck_X0_dropLimit 2 (pc' := 19) (lv' := [(4, .int q1), (0, .ref b), (1, .int x1), (2, .int x2), (3, .int x3)]) (st' := [.ref b, .ref b]) rfl ?_
    refine ms_geti (ci := 0) (k := 5) (am_fd ck_X0_dropLimit (pc := 19) rfl) tw_104 (kB hB).1 rfl ?_
    refine am_steps ck_X0_dropLimit 2 (pc' := 24) (lv' := [(4, .int q1), (0, .ref b), (1, .int x1), (2, .int x2), (3, .int x3)]) (st' := [.int ((m b 5) - (am_i 1)), .ref b]) rfl ?_
    refine ms_puti (ci := 0) (k := 5) (am_fd ck_X0_dropLimit (pc := 24) rfl) tw_104 (kB hB).1 rfl rfl (fun m3 em3 => ?_)
    replace hm := am_letE em3 hm
    refine am_steps ck_X0_dropLimit 2 (pc' := 31) (lv' := [(5, .int q1), (4, .int q1), (0, .ref b), (1, .int x1), (2, .int x2), (3, .int x3)]) (st' := []) rfl ?_
    refine am_subp [2, 0] rfl ?_
    refine x_X0_dropLimit_31 hL hB am_F _ _ hm (fun m18 hm => ?_)
    refine am_steps ck_X0_dropLimit 1 (pc' := 120) (lv' := []) (st' := [.int (am_i 1)]) rfl ?_
    cases hm
    exact am_end (am_fd ck_X0_dropLimit (pc := 120) rfl) am_rZ1 rfl rfl
  · replace hm := am_if hm hc2
    refine am_steps ck_X0_dropLimit 1 (pc' := 16) (lv' := [(4, .int q1), (0, .ref b), (1, .int x1), (2, .int x2), (3, .int x3)]) (st' := [.int (am_i 0)]) rfl ?_
    cases hm
    exact am_end (am_fd ck_X0_dropLimit (pc := 16) rfl) am_rZ0 rfl rfl
set_option maxRecDepth 100000 in
set_option maxHeartbeats 4000000 in
theorem x_X0_drawOf {G : am_G} {m : am_m} {r : am_rr} {b : Nat} {x1 : Int32} {res : Int32 × am_m} (hL : am_Lay r) (hB : am_bk b) (hm : m_X0_drawOf m b x1 = some res) : am_Met G mt_X0_drawOf 1 [.ref b, .int x1] (am_hh m r) (some (.int res.1)) (am_hh res.2 r) := by
  refine am_of (by decide) (Nat.le_of_ble_eq_true rfl) ?_
  unfold m_X0_drawOf at hm
  show am_W G mt_X0_drawOf 1 _ _ 0 [(0, .ref b), (1, .int x1)] [] (am_hh m r)
  refine am_steps ck_X0_drawOf 1 (pc' := 1) (lv' := [(0, .ref b), (1, .int x1)]) (st' := [.ref b]) rfl ?_
  refine am_ldc (am_fd ck_X0_drawOf (pc := 1) rfl) tw_756 ?_
  refine am_steps ck_X0_drawOf 1 (pc' := 4) (lv' := [(0, .ref b), (1, .int x1)]) (st' := [.ref b, .int (am_i 1664525), .ref b]) rfl ?_
  refine ms_geti (ci := 0) (k := 6) (am_fd ck_X0_drawOf (pc := 4) rfl) tw_106 (kB hB).1 rfl ?_
  refine am_steps ck_X0_drawOf 1 (pc' := 8) (lv' := [(0, .ref b), (1, .int x1)]) (st' := [.int ((am_i 1664525) * (m b 6)), .ref b]) rfl ?_
  refine am_ldc (am_fd ck_X0_drawOf (pc := 8) rfl) tw_757 ?_
  refine am_steps ck_X0_drawOf 1 (pc' := 11) (lv' := [(0, .ref b), (1, .int x1)]) (st' := [.int (((am_i 1664525) * (m b 6)) + (am_i 1013904223)), .ref b]) rfl ?_
  refine ms_puti (ci := 0) (k := 6) (am_fd ck_X0_drawOf (pc := 11) rfl) tw_106 (kB hB).1 rfl rfl (fun m1 em1 => ?_)
  replace hm := am_letE em1 hm
  refine am_steps ck_X0_drawOf 1 (pc' := 15) (lv' := [(0, .ref b), (1, .int x1)]) (st' := [.int x1]) rfl ?_
  refine am_ifc (tgt := 30) (am_fd ck_X0_drawOf (pc := 15) rfl) rfl (fun hc2 => ?_) (fun hc2 => ?_)
  · replace hm := am_it hm hc2
    refine am_steps ck_X0_drawOf 1 (pc' := 31) (lv' := [(0, .ref b), (1, .int x1)]) (st' := [.int (am_i 0)]) rfl ?_
    cases hm
    exact am_end (am_fd ck_X0_drawOf (pc := 31) rfl) am_rI rfl rfl
  · replace hm := am_if hm hc2
    refine am_steps ck_X0_drawOf 1 (pc' := 19) (lv' := [(0, .ref b), (1, .int x1)]) (st' := [.ref b]) rfl ?_
    refine ms_geti (ci := 0) (k := 6) (am_fd ck_X0_drawOf (pc := 19) rfl) tw_106 (kB hB).1 rfl ?_
    refine am_steps ck_X0_drawOf 3 (pc' := 26) (lv' := [(0, .ref b), (1, .int x1)]) (st' := [.int x1, .int (((m1 b 6).toUInt32 >>> ((am_i 8).toUInt32 &&& Int32.toUInt32 31)).toInt32)]) rfl ?_
    obtain ⟨hb3, hm⟩ := am_gE hm
    refine am_irem (am_fd ck_X0_drawOf (pc := 26) rfl) (am_nzE hb3) ?_
    refine am_steps ck_X0_drawOf 1 (pc' := 31) (lv' := [(0, .ref b), (1, .int x1)]) (st' := [.int ((((m1 b 6).toUInt32 >>> ((am_i 8).toUInt32 &&& Int32.toUInt32 31)).toInt32) - (((m1 b 6).toUInt32 >>> ((am_i 8).toUInt32 &&& Int32.toUInt32 31)).toInt32) / x1 * x1)]) rfl ?_
    cases hm
    exact am_end (am_fd ck_X0_drawOf (pc := 31) rfl) am_rI rfl rfl
set_option maxRecDepth 100000 in
set_option maxHeartbeats 4000000 in
theorem x_J7_fill_53178_5 {G : am_G} {a1 : Nat} {l1 : Nat} {x2 : Int32} {r : am_rr} {y1 : Int32} {y3 : Int32} {res : am_m} {k : am_m → Option (am_m)} (hL : am_Lay r) (ha1 : am_k a1 11 l1) : ∀ (n : Nat) (z2 : Int32) (m : am_m), m_J7_fill_53178_5 a1 l1 x2 y1 y3 k n z2 m = some res → (∀ (m1 : am_m), k m1 = some res → am_W G mt_J7_fill_53178 1 none (am_hh res r) 20 [] [] (am_hh m1 r)) → am_W G mt_J7_fill_53178 1 none (am_hh res r) 5 [(0, .ref a1), (1, .int y1), (2, .int z2), (3, .int y3)] [] (am_hh m r) := by
  intro n
  induction n with
  | zero => intro z2 m hm K; cases hm
  | succ n ih =>
    intro z2 m hm K
    unfold m_J7_fill_53178_5 at hm
    refine am_steps ck_J7_fill_53178 2 (pc' := 7) (lv' := [(0, .ref a1), (1, .int y1), (2, .int z2), (3, .int y3)]) (st' := [.int y3, .int z2]) rfl ?_
    refine am_icmp (tgt := 20) (am_fd ck_J7_fill_53178 (pc := 7) rfl) rfl (fun hc1 => ?_) (fun hc1 => ?_)
    · replace hm := am_it hm hc1
      refine am_subp [] rfl ?_
      exact K _ hm
    · replace hm := am_if hm hc1
      refine am_steps ck_J7_fill_53178 3 (pc' := 13) (lv' := [(0, .ref a1), (1, .int y1), (2, .int z2), (3, .int y3)]) (st' := [.int y1, .int z2, .ref a1]) rfl ?_
      obtain ⟨hb2, hm⟩ := am_gE hm
      refine ms_iast (n := l1) (am_fd ck_J7_fill_53178 (pc := 13) rfl) ha1 hb2 (fun m3 em3 => ?_)
      replace hm := am_letE em3 hm
      refine am_steps ck_J7_fill_53178 2 (pc' := 5) (lv' := [(2, .int (z2 + am_i 1)), (0, .ref a1), (1, .int y1), (3, .int y3)]) (st' := []) rfl ?_
      refine am_subp [1, 2, 0, 3] rfl ?_
      exact ih _ _ hm K
set_option maxRecDepth 100000 in
set_option maxHeartbeats 4000000 in
theorem x_J7_fill_53178 {G : am_G} {m : am_m} {r : am_rr} {a1 : Nat} {l1 : Nat} {x2 : Int32} {res : am_m} (hL : am_Lay r) (ha1 : am_k a1 11 l1) (hm : m_J7_fill_53178 m a1 l1 x2 = some res) : am_Met G mt_J7_fill_53178 1 [.ref a1, .int x2] (am_hh m r) none (am_hh res r) := by
  refine am_of (by decide) (Nat.le_of_ble_eq_true rfl) ?_
  unfold m_J7_fill_53178 at hm
  show am_W G mt_J7_fill_53178 1 _ _ 0 [(0, .ref a1), (1, .int x2)] [] (am_hh m r)
  refine am_steps ck_J7_fill_53178 3 (pc' := 3) (lv' := [(2, .int (am_i 0)), (0, .ref a1), (1, .int x2)]) (st' := [.ref a1]) rfl ?_
  refine ms_alen (n := l1) (x := Int32.ofNat l1) (am_fd ck_J7_fill_53178 (pc := 3) rfl) ha1 rfl ?_
  refine am_steps ck_J7_fill_53178 1 (pc' := 5) (lv' := [(3, .int (Int32.ofNat l1)), (2, .int (am_i 0)), (0, .ref a1), (1, .int x2)]) (st' := []) rfl ?_
  refine am_subp [2, 3, 1, 0] rfl ?_
  refine x_J7_fill_53178_5 hL ha1 am_F _ _ hm (fun m4 hm => ?_)
  cases hm
  exact am_end (am_fd ck_J7_fill_53178 (pc := 20) rfl) am_rV rfl rfl
set_option maxRecDepth 100000 in
set_option maxHeartbeats 4000000 in
theorem x_X1_takeOver_93 {G : am_G} {o : Nat} {o1 : Nat} {r : am_rr} {y2 : Int32} {res : am_m} {k : am_m → Option (am_m)} (hL : am_Lay r) (hO : am_og o) (hO1 : am_og o1) : ∀ (n : Nat) (z3 : Int32) (m : am_m), m_X1_takeOver_93 o o1 r y2 k n z3 m = some res → (∀ (m1 : am_m), k m1 = some res → am_W G mt_X1_takeOver 2 none (am_hh res r) 144 [(0, .ref o), (1, .ref o1), (2, .int y2)] [] (am_hh m1 r)) → am_W G mt_X1_takeOver 2 none (am_hh res r) 93 [(0, .ref o), (1, .ref o1), (2, .int y2), (3, .int z3)] [] (am_hh m r) := by
  intro n
  induction n with
  | zero => intro z3 m hm K; cases hm
  | succ n ih =>
    intro z3 m hm K
    unfold m_X1_takeOver_93 at hm
    refine am_steps ck_X1_takeOver 2 (pc' := 95) (lv' := [(0, .ref o), (1, .ref o1), (2, .int y2), (3, .int z3)]) (st' := [.ref o, .int z3]) rfl ?_
    refine ms_getr (ci := 1) (k := 4) (v := (aC o)) (am_fd ck_X1_takeOver (pc := 95) rfl) tw_49 (kO hO) rfl (lyO4 hL hO) (kC hO) ?_
    refine am_steps ck_X1_takeOver 1 (pc' := 99) (lv' := [(0, .ref o), (1, .ref o1), (2, .int y2), (3, .int z3)]) (st' := [.int y2, .ref (aC o), .int z3]) rfl ?_
    obtain ⟨hb17, hm⟩ := am_gE hm
    refine ms_iald (n := 24) (am_fd ck_X1_takeOver (pc := 99) rfl) (kC hO) hb17 ?_
    refine am_icmp (tgt := 144) (am_fd ck_X1_takeOver (pc := 100) rfl) rfl (fun hc18 => ?_) (fun hc18 => ?_)
    · replace hm := am_it hm hc18
      refine am_subp [0, 1, 2] rfl ?_
      exact K _ hm
    · replace hm := am_if hm hc18
      refine am_steps ck_X1_takeOver 2 (pc' := 106) (lv' := [(0, .ref o), (1, .ref o1), (2, .int y2), (3, .int z3)]) (st' := [.int (am_i 8), .int z3]) rfl ?_
      refine am_icmp (tgt := 144) (am_fd ck_X1_takeOver (pc := 106) rfl) rfl (fun hc19 => ?_) (fun hc19 => ?_)
      · replace hm := am_it hm hc19
        refine am_subp [0, 1, 2] rfl ?_
        exact K _ hm
      · replace hm := am_if hm hc19
        refine am_steps ck_X1_takeOver 7 (pc' := 118) (lv' := [(4, .int ((y2 * (am_i 8)) + z3)), (0, .ref o), (1, .ref o1), (2, .int y2), (3, .int z3)]) (st' := [.ref o1]) rfl ?_
        refine ms_getr (ci := 1) (k := 5) (v := (o1 + 54)) (am_fd ck_X1_takeOver (pc := 118) rfl) tw_51 (kO hO1) rfl (lyO5 hL hO1) (kVo hO1) ?_
        refine am_steps ck_X1_takeOver 1 (pc' := 123) (lv' := [(4, .int ((y2 * (am_i 8)) + z3)), (0, .ref o), (1, .ref o1), (2, .int y2), (3, .int z3)]) (st' := [.int ((y2 * (am_i 8)) + z3), .ref (o1 + 54)]) rfl ?_
        obtain ⟨hb20, hm⟩ := am_gE hm
        obtain ⟨hx21, hx21k⟩ : (∃ w, w < 192 ∧ (r (o1 + 54) (am_ix ((y2 * (am_i 8)) + z3))) = o1 + 55 + w) ∧ am_k (r (o1 + 54) (am_ix ((y2 * (am_i 8)) + z3))) 11 64 := ⟨hL.vx hO1 (am_ixl hb20), hL.v hO1 (am_ixl hb20)⟩
        refine ms_rald (n := 192) (v := (r (o1 + 54) (am_ix ((y2 * (am_i 8)) + z3)))) (am_fd ck_X1_takeOver (pc := 123) rfl) (kVo hO1) hb20 rfl hx21k ?_
        refine am_steps ck_X1_takeOver 2 (pc' := 126) (lv' := [(4, .int ((y2 * (am_i 8)) + z3)), (0, .ref o), (1, .ref o1), (2, .int y2), (3, .int z3)]) (st' := [.ref o, .int (am_i 0), .ref (r (o1 + 54) (am_ix ((y2 * (am_i 8)) + z3)))]) rfl ?_
        refine ms_getr (ci := 1) (k := 5) (v := (o + 54)) (am_fd ck_X1_takeOver (pc := 126) rfl) tw_51 (kO hO) rfl (lyO5 hL hO) (kVo hO) ?_
        refine am_steps ck_X1_takeOver 1 (pc' := 131) (lv' := [(4, .int ((y2 * (am_i 8)) + z3)), (0, .ref o), (1, .ref o1), (2, .int y2), (3, .int z3)]) (st' := [.int ((y2 * (am_i 8)) + z3), .ref (o + 54), .int (am_i 0), .ref (r (o1 + 54) (am_ix ((y2 * (am_i 8)) + z3)))]) rfl ?_
        obtain ⟨hb22, hm⟩ := am_gE hm
        obtain ⟨hx23, hx23k⟩ : (∃ w, w < 192 ∧ (r (o + 54) (am_ix ((y2 * (am_i 8)) + z3))) = o + 55 + w) ∧ am_k (r (o + 54) (am_ix ((y2 * (am_i 8)) + z3))) 11 64 := ⟨hL.vx hO (am_ixl hb22), hL.v hO (am_ixl hb22)⟩
        refine ms_rald (n := 192) (v := (r (o + 54) (am_ix ((y2 * (am_i 8)) + z3)))) (am_fd ck_X1_takeOver (pc := 131) rfl) (kVo hO) hb22 rfl hx23k ?_
        refine am_steps ck_X1_takeOver 2 (pc' := 135) (lv' := [(4, .int ((y2 * (am_i 8)) + z3)), (0, .ref o), (1, .ref o1), (2, .int y2), (3, .int z3)]) (st' := [.int (am_i 64), .int (am_i 0), .ref (r (o + 54) (am_ix ((y2 * (am_i 8)) + z3))), .int (am_i 0), .ref (r (o1 + 54) (am_ix ((y2 * (am_i 8)) + z3)))]) rfl ?_
        obtain ⟨hb24, hm⟩ := am_gE hm
        refine ms_copy (n1 := 64) (n2 := 64) (Or.inl rfl) (am_fd ck_X1_takeOver (pc := 135) rfl) tw_246 tw_248 tw_247 tw_10 hx21k hx23k hb24 am_i11 (Nat.le_of_ble_eq_true rfl) (Nat.le_of_ble_eq_true rfl) (fun m25 em25 => ?_)
        replace hm := am_letE em25 hm
        refine am_steps ck_X1_takeOver 2 (pc' := 93) (lv' := [(3, .int (z3 + am_i 1)), (4, .int ((y2 * (am_i 8)) + z3)), (0, .ref o), (1, .ref o1), (2, .int y2)]) (st' := []) rfl ?_
        refine am_subp [2, 3, 4, 0] rfl ?_
        exact ih _ _ hm K
set_option maxRecDepth 100000 in
set_option maxHeartbeats 4000000 in
theorem x_X1_takeOver_47 {G : am_G} {o : Nat} {o1 : Nat} {r : am_rr} {res : am_m} {k : am_m → Option (am_m)} (hL : am_Lay r) (hO : am_og o) (hO1 : am_og o1) : ∀ (n : Nat) (z2 : Int32) (m : am_m), m_X1_takeOver_47 o o1 r k n z2 m = some res → (∀ (m1 : am_m), k m1 = some res → am_W G mt_X1_takeOver 2 none (am_hh res r) 150 [] [] (am_hh m1 r)) → am_W G mt_X1_takeOver 2 none (am_hh res r) 47 [(0, .ref o), (1, .ref o1), (2, .int z2)] [] (am_hh m r) := by
  intro n
  induction n with
  | zero => intro z2 m hm K; cases hm
  | succ n ih =>
    intro z2 m hm K
    unfold m_X1_takeOver_47 at hm
    refine am_steps ck_X1_takeOver 2 (pc' := 50) (lv' := [(0, .ref o), (1, .ref o1), (2, .int z2)]) (st' := [.int (am_i 24), .int z2]) rfl ?_
    refine am_icmp (tgt := 150) (am_fd ck_X1_takeOver (pc := 50) rfl) rfl (fun hc8 => ?_) (fun hc8 => ?_)
    · replace hm := am_it hm hc8
      refine am_subp [] rfl ?_
      exact K _ hm
    · replace hm := am_if hm hc8
      refine am_steps ck_X1_takeOver 1 (pc' := 54) (lv' := [(0, .ref o), (1, .ref o1), (2, .int z2)]) (st' := [.ref o1]) rfl ?_
      refine ms_getr (ci := 1) (k := 2) (v := (o1 + 3)) (am_fd ck_X1_takeOver (pc := 54) rfl) tw_42 (kO hO1) rfl (lyO2 hL hO1) (kWo hO1) ?_
      refine am_steps ck_X1_takeOver 1 (pc' := 58) (lv' := [(0, .ref o), (1, .ref o1), (2, .int z2)]) (st' := [.int z2, .ref (o1 + 3)]) rfl ?_
      obtain ⟨hb9, hm⟩ := am_gE hm
      refine ms_rald (n := 24) (v := (aW o1 (am_ix z2))) (am_fd ck_X1_takeOver (pc := 58) rfl) (kWo hO1) hb9 (lyW hL hO1 (am_ixl hb9)) (kW hO1 (am_ixl hb9)) ?_
      refine am_steps ck_X1_takeOver 2 (pc' := 61) (lv' := [(0, .ref o), (1, .ref o1), (2, .int z2)]) (st' := [.ref o, .int (am_i 0), .ref (aW o1 (am_ix z2))]) rfl ?_
      refine ms_getr (ci := 1) (k := 2) (v := (o + 3)) (am_fd ck_X1_takeOver (pc := 61) rfl) tw_42 (kO hO) rfl (lyO2 hL hO) (kWo hO) ?_
      refine am_steps ck_X1_takeOver 1 (pc' := 65) (lv' := [(0, .ref o), (1, .ref o1), (2, .int z2)]) (st' := [.int z2, .ref (o + 3), .int (am_i 0), .ref (aW o1 (am_ix z2))]) rfl ?_
      obtain ⟨hb10, hm⟩ := am_gE hm
      refine ms_rald (n := 24) (v := (aW o (am_ix z2))) (am_fd ck_X1_takeOver (pc := 65) rfl) (kWo hO) hb10 (lyW hL hO (am_ixl hb10)) (kW hO (am_ixl hb10)) ?_
      refine am_steps ck_X1_takeOver 2 (pc' := 69) (lv' := [(0, .ref o), (1, .ref o1), (2, .int z2)]) (st' := [.int (am_i 64), .int (am_i 0), .ref (aW o (am_ix z2)), .int (am_i 0), .ref (aW o1 (am_ix z2))]) rfl ?_
      obtain ⟨hb11, hm⟩ := am_gE hm
      refine ms_copy (n1 := 64) (n2 := 64) (Or.inl rfl) (am_fd ck_X1_takeOver (pc := 69) rfl) tw_246 tw_248 tw_247 tw_10 (kW hO1 (am_ixl hb9)) (kW hO (am_ixl hb10)) hb11 am_i11 (Nat.le_of_ble_eq_true rfl) (Nat.le_of_ble_eq_true rfl) (fun m12 em12 => ?_)
      replace hm := am_letE em12 hm
      refine am_steps ck_X1_takeOver 1 (pc' := 73) (lv' := [(0, .ref o), (1, .ref o1), (2, .int z2)]) (st' := [.ref o1]) rfl ?_
      refine ms_getr (ci := 1) (k := 3) (v := (o1 + 28)) (am_fd ck_X1_takeOver (pc := 73) rfl) tw_46 (kO hO1) rfl (lyO3 hL hO1) (kXo hO1) ?_
      refine am_steps ck_X1_takeOver 1 (pc' := 77) (lv' := [(0, .ref o), (1, .ref o1), (2, .int z2)]) (st' := [.int z2, .ref (o1 + 28)]) rfl ?_
      obtain ⟨hb13, hm⟩ := am_gE hm
      refine ms_rald (n := 24) (v := (aX o1 (am_ix z2))) (am_fd ck_X1_takeOver (pc := 77) rfl) (kXo hO1) hb13 (lyX hL hO1 (am_ixl hb13)) (kX hO1 (am_ixl hb13)) ?_
      refine am_steps ck_X1_takeOver 2 (pc' := 80) (lv' := [(0, .ref o), (1, .ref o1), (2, .int z2)]) (st' := [.ref o, .int (am_i 0), .ref (aX o1 (am_ix z2))]) rfl ?_
      refine ms_getr (ci := 1) (k := 3) (v := (o + 28)) (am_fd ck_X1_takeOver (pc := 80) rfl) tw_46 (kO hO) rfl (lyO3 hL hO) (kXo hO) ?_
      refine am_steps ck_X1_takeOver 1 (pc' := 84) (lv' := [(0, .ref o), (1, .ref o1), (2, .int z2)]) (st' := [.int z2, .ref (o + 28), .int (am_i 0), .ref (aX o1 (am_ix z2))]) rfl ?_
      obtain ⟨hb14, hm⟩ := am_gE hm
      refine ms_rald (n := 24) (v := (aX o (am_ix z2))) (am_fd ck_X1_takeOver (pc := 84) rfl) (kXo hO) hb14 (lyX hL hO (am_ixl hb14)) (kX hO (am_ixl hb14)) ?_
      refine am_steps ck_X1_takeOver 2 (pc' := 88) (lv' := [(0, .ref o), (1, .ref o1), (2, .int z2)]) (st' := [.int (am_i 64), .int (am_i 0), .ref (aX o (am_ix z2)), .int (am_i 0), .ref (aX o1 (am_ix z2))]) rfl ?_
      obtain ⟨hb15, hm⟩ := am_gE hm
      refine ms_copy (n1 := 64) (n2 := 64) (Or.inl rfl) (am_fd ck_X1_takeOver (pc := 88) rfl) tw_246 tw_248 tw_247 tw_10 (kX hO1 (am_ixl hb13)) (kX hO (am_ixl hb14)) hb15 am_i11 (Nat.le_of_ble_eq_true rfl) (Nat.le_of_ble_eq_true rfl) (fun m16 em16 => ?_)
      replace hm := am_letE em16 hm
      refine am_steps ck_X1_takeOver 2 (pc' := 93) (lv' := [(3, .int (am_i 0)), (0, .ref o), (1, .ref o1), (2, .int z2)]) (st' := []) rfl ?_
      refine am_subp [1, 2, 3, 0] rfl ?_
      refine x_X1_takeOver_93 hL hO hO1 am_F _ _ hm (fun m26 hm => ?_)
      refine am_steps ck_X1_takeOver 2 (pc' := 47) (lv' := [(2, .int (z2 + am_i 1)), (0, .ref o), (1, .ref o1)]) (st' := []) rfl ?_
      refine am_subp [1, 2, 0] rfl ?_
      exact ih _ _ hm K
set_option maxRecDepth 100000 in
set_option maxHeartbeats 4000000 in
theorem x_X1_takeOver {G : am_G} {m : am_m} {r : am_rr} {o : Nat} {o1 : Nat} {res : am_m} (hL : am_Lay r) (hO : am_og o) (hO1 : am_og o1) (hm : m_X1_takeOver m r o o1 = some res) : am_Met G mt_X1_takeOver 2 [.ref o, .ref o1] (am_hh m r) none (am_hh res r) := by
  refine am_of (by decide) (Nat.le_of_ble_eq_true rfl) ?_
  unfold m_X1_takeOver at hm
  show am_W G mt_X1_takeOver 2 _ _ 0 [(0, .ref o), (1, .ref o1)] [] (am_hh m r)
  refine am_steps ck_X1_takeOver 1 (pc' := 1) (lv' := [(0, .ref o), (1, .ref o1)]) (st' := [.ref o1]) rfl ?_
  refine ms_getr (ci := 1) (k := 0) (v := (aU o1)) (am_fd ck_X1_takeOver (pc := 1) rfl) tw_35 (kO hO1) rfl (lyO0 hL hO1) (kU hO1) ?_
  refine am_steps ck_X1_takeOver 2 (pc' := 6) (lv' := [(0, .ref o), (1, .ref o1)]) (st' := [.ref o, .int (am_i 0), .ref (aU o1)]) rfl ?_
  refine ms_getr (ci := 1) (k := 0) (v := (aU o)) (am_fd ck_X1_takeOver (pc := 6) rfl) tw_35 (kO hO) rfl (lyO0 hL hO) (kU hO) ?_
  refine am_steps ck_X1_takeOver 2 (pc' := 12) (lv' := [(0, .ref o), (1, .ref o1)]) (st' := [.int (am_i 24), .int (am_i 0), .ref (aU o), .int (am_i 0), .ref (aU o1)]) rfl ?_
  obtain ⟨hb1, hm⟩ := am_gE hm
  refine ms_copy (n1 := 24) (n2 := 24) (Or.inl rfl) (am_fd ck_X1_takeOver (pc := 12) rfl) tw_246 tw_248 tw_247 tw_10 (kU hO1) (kU hO) hb1 am_i11 (Nat.le_of_ble_eq_true rfl) (Nat.le_of_ble_eq_true rfl) (fun m2 em2 => ?_)
  replace hm := am_letE em2 hm
  refine am_steps ck_X1_takeOver 1 (pc' := 16) (lv' := [(0, .ref o), (1, .ref o1)]) (st' := [.ref o1]) rfl ?_
  refine ms_getr (ci := 1) (k := 1) (v := (aS o1)) (am_fd ck_X1_takeOver (pc := 16) rfl) tw_38 (kO hO1) rfl (lyO1 hL hO1) (kS hO1) ?_
  refine am_steps ck_X1_takeOver 2 (pc' := 21) (lv' := [(0, .ref o), (1, .ref o1)]) (st' := [.ref o, .int (am_i 0), .ref (aS o1)]) rfl ?_
  refine ms_getr (ci := 1) (k := 1) (v := (aS o)) (am_fd ck_X1_takeOver (pc := 21) rfl) tw_38 (kO hO) rfl (lyO1 hL hO) (kS hO) ?_
  refine am_steps ck_X1_takeOver 2 (pc' := 27) (lv' := [(0, .ref o), (1, .ref o1)]) (st' := [.int (am_i 24), .int (am_i 0), .ref (aS o), .int (am_i 0), .ref (aS o1)]) rfl ?_
  obtain ⟨hb3, hm⟩ := am_gE hm
  obtain ⟨hb5, hm⟩ := am_gE hm
  refine ms_copy (n1 := 24) (n2 := 24) (Or.inr rfl) (am_fd ck_X1_takeOver (pc := 27) rfl) tw_246 tw_248 tw_247 tw_10 (kS hO1) (kS hO) hb3 (fun _ => am_bitsE hb5) (Nat.le_of_ble_eq_true rfl) (Nat.le_of_ble_eq_true rfl) (fun m4 em4 => ?_)
  replace hm := am_letE em4 hm
  refine am_steps ck_X1_takeOver 1 (pc' := 31) (lv' := [(0, .ref o), (1, .ref o1)]) (st' := [.ref o1]) rfl ?_
  refine ms_getr (ci := 1) (k := 4) (v := (aC o1)) (am_fd ck_X1_takeOver (pc := 31) rfl) tw_49 (kO hO1) rfl (lyO4 hL hO1) (kC hO1) ?_
  refine am_steps ck_X1_takeOver 2 (pc' := 36) (lv' := [(0, .ref o), (1, .ref o1)]) (st' := [.ref o, .int (am_i 0), .ref (aC o1)]) rfl ?_
  refine ms_getr (ci := 1) (k := 4) (v := (aC o)) (am_fd ck_X1_takeOver (pc := 36) rfl) tw_49 (kO hO) rfl (lyO4 hL hO) (kC hO) ?_
  refine am_steps ck_X1_takeOver 2 (pc' := 42) (lv' := [(0, .ref o), (1, .ref o1)]) (st' := [.int (am_i 24), .int (am_i 0), .ref (aC o), .int (am_i 0), .ref (aC o1)]) rfl ?_
  obtain ⟨hb6, hm⟩ := am_gE hm
  refine ms_copy (n1 := 24) (n2 := 24) (Or.inl rfl) (am_fd ck_X1_takeOver (pc := 42) rfl) tw_246 tw_248 tw_247 tw_10 (kC hO1) (kC hO) hb6 am_i11 (Nat.le_of_ble_eq_true rfl) (Nat.le_of_ble_eq_true rfl) (fun m7 em7 => ?_)
  replace hm := am_letE em7 hm
  refine am_steps ck_X1_takeOver 2 (pc' := 47) (lv' := [(2, .int (am_i 0)), (0, .ref o), (1, .ref o1)]) (st' := []) rfl ?_
  refine am_subp [1, 2, 0] rfl ?_
  refine x_X1_takeOver_47 hL hO hO1 am_F _ _ hm (fun m27 hm => ?_)
  cases hm
  exact am_end (am_fd ck_X1_takeOver (pc := 150) rfl) am_rV rfl rfl
set_option maxRecDepth 100000 in
set_option maxHeartbeats 4000000 in
theorem x_X1_leave {G : am_G} {m : am_m} {r : am_rr} {o : Nat} {x1 : Int32} {res : am_m} (hL : am_Lay r) (hO : am_og o) (hm : m_X1_leave m o x1 = some res) : am_Met G mt_X1_leave 2 [.ref o, .int x1] (am_hh m r) none (am_hh res r) := by
  refine am_of (by decide) (Nat.le_of_ble_eq_true rfl) ?_
  unfold m_X1_leave at hm
  show am_W G mt_X1_leave 2 _ _ 0 [(0, .ref o), (1, .int x1)] [] (am_hh m r)
  refine am_steps ck_X1_leave 1 (pc' := 1) (lv' := [(0, .ref o), (1, .int x1)]) (st' := [.ref o]) rfl ?_
  refine ms_getr (ci := 1) (k := 0) (v := (aU o)) (am_fd ck_X1_leave (pc := 1) rfl) tw_35 (kO hO) rfl (lyO0 hL hO) (kU hO) ?_
  refine am_steps ck_X1_leave 2 (pc' := 7) (lv' := [(0, .ref o), (1, .int x1)]) (st' := [.int (am_i (-2)), .int x1, .ref (aU o)]) rfl ?_
  obtain ⟨hb1, hm⟩ := am_gE hm
  refine ms_iast (n := 24) (am_fd ck_X1_leave (pc := 7) rfl) (kU hO) hb1 (fun m2 em2 => ?_)
  replace hm := am_letE em2 hm
  refine am_steps ck_X1_leave 1 (pc' := 9) (lv' := [(0, .ref o), (1, .int x1)]) (st' := [.ref o]) rfl ?_
  refine ms_getr (ci := 1) (k := 1) (v := (aS o)) (am_fd ck_X1_leave (pc := 9) rfl) tw_38 (kO hO) rfl (lyO1 hL hO) (kS hO) ?_
  refine am_steps ck_X1_leave 2 (pc' := 14) (lv' := [(0, .ref o), (1, .int x1)]) (st' := [.int (am_i 0), .int x1, .ref (aS o)]) rfl ?_
  obtain ⟨hb3, hm⟩ := am_gE hm
  refine ms_zast (n := 24) (am_fd ck_X1_leave (pc := 14) rfl) (kS hO) hb3 (Or.inl am_i0) (fun m4 em4 => ?_)
  replace hm := am_letE em4 hm
  refine am_steps ck_X1_leave 1 (pc' := 16) (lv' := [(0, .ref o), (1, .int x1)]) (st' := [.ref o]) rfl ?_
  refine ms_getr (ci := 1) (k := 4) (v := (aC o)) (am_fd ck_X1_leave (pc := 16) rfl) tw_49 (kO hO) rfl (lyO4 hL hO) (kC hO) ?_
  refine am_steps ck_X1_leave 2 (pc' := 21) (lv' := [(0, .ref o), (1, .int x1)]) (st' := [.int (am_i 0), .int x1, .ref (aC o)]) rfl ?_
  obtain ⟨hb5, hm⟩ := am_gE hm
  refine ms_iast (n := 24) (am_fd ck_X1_leave (pc := 21) rfl) (kC hO) hb5 (fun m6 em6 => ?_)
  replace hm := am_letE em6 hm
  refine am_steps ck_X1_leave 1 (pc' := 23) (lv' := [(0, .ref o), (1, .int x1)]) (st' := [.ref o]) rfl ?_
  refine ms_getr (ci := 1) (k := 2) (v := (o + 3)) (am_fd ck_X1_leave (pc := 23) rfl) tw_42 (kO hO) rfl (lyO2 hL hO) (kWo hO) ?_
  refine am_steps ck_X1_leave 1 (pc' := 27) (lv' := [(0, .ref o), (1, .int x1)]) (st' := [.int x1, .ref (o + 3)]) rfl ?_
  obtain ⟨hb7, hm⟩ := am_gE hm
  refine ms_rald (n := 24) (v := (aW o (am_ix x1))) (am_fd ck_X1_leave (pc := 27) rfl) (kWo hO) hb7 (lyW hL hO (am_ixl hb7)) (kW hO (am_ixl hb7)) ?_
  refine am_steps ck_X1_leave 1 (pc' := 29) (lv' := [(0, .ref o), (1, .int x1)]) (st' := [.int (am_i 0), .ref (aW o (am_ix x1))]) rfl ?_
  obtain ⟨q8, hq8, hm⟩ := am_bE hm
  refine ms_callSv (M2 := mt_J7_fill_53178) (d2 := 1) [.ref (aW o (am_ix x1)), .int (am_i 0)] (am_fd ck_X1_leave (pc := 29) rfl) ok_J7_fill_53178 tw_32 tw_33 (Nat.le_of_ble_eq_true rfl) (Nat.le_of_ble_eq_true rfl) (x_J7_fill_53178 hL (kW hO (am_ixl hb7)) hq8) ?_
  refine am_steps ck_X1_leave 1 (pc' := 33) (lv' := [(0, .ref o), (1, .int x1)]) (st' := [.ref o]) rfl ?_
  refine ms_getr (ci := 1) (k := 3) (v := (o + 28)) (am_fd ck_X1_leave (pc := 33) rfl) tw_46 (kO hO) rfl (lyO3 hL hO) (kXo hO) ?_
  refine am_steps ck_X1_leave 1 (pc' := 37) (lv' := [(0, .ref o), (1, .int x1)]) (st' := [.int x1, .ref (o + 28)]) rfl ?_
  obtain ⟨hb9, hm⟩ := am_gE hm
  refine ms_rald (n := 24) (v := (aX o (am_ix x1))) (am_fd ck_X1_leave (pc := 37) rfl) (kXo hO) hb9 (lyX hL hO (am_ixl hb9)) (kX hO (am_ixl hb9)) ?_
  refine am_steps ck_X1_leave 1 (pc' := 39) (lv' := [(0, .ref o), (1, .int x1)]) (st' := [.int (am_i 0), .ref (aX o (am_ix x1))]) rfl ?_
  obtain ⟨q10, hq10, hm⟩ := am_bE hm
  refine ms_callSv (M2 := mt_J7_fill_53178) (d2 := 1) [.ref (aX o (am_ix x1)), .int (am_i 0)] (am_fd ck_X1_leave (pc := 39) rfl) ok_J7_fill_53178 tw_32 tw_33 (Nat.le_of_ble_eq_true rfl) (Nat.le_of_ble_eq_true rfl) (x_J7_fill_53178 hL (kX hO (am_ixl hb9)) hq10) ?_
  cases hm
  exact am_end (am_fd ck_X1_leave (pc := 42) rfl) am_rV rfl rfl
set_option maxRecDepth 100000 in
set_option maxHeartbeats 4000000 in
theorem x_X1_startAnew_2 {G : am_G} {o : Nat} {r : am_rr} {res : am_m} {k : am_m → Option (am_m)} (hL : am_Lay r) (hO : am_og o) : ∀ (n : Nat) (z1 : Int32) (m : am_m), m_X1_startAnew_2 o k n z1 m = some res → (∀ (m1 : am_m), k m1 = some res → am_W G mt_X1_startAnew 3 none (am_hh res r) 19 [(0, .ref o)] [] (am_hh m1 r)) → am_W G mt_X1_startAnew 3 none (am_hh res r) 2 [(0, .ref o), (1, .int z1)] [] (am_hh m r) := by
  intro n
  induction n with
  | zero => intro z1 m hm K; cases hm
  | succ n ih =>
    intro z1 m hm K
    unfold m_X1_startAnew_2 at hm
    refine am_steps ck_X1_startAnew 2 (pc' := 5) (lv' := [(0, .ref o), (1, .int z1)]) (st' := [.int (am_i 24), .int z1]) rfl ?_
    refine am_icmp (tgt := 19) (am_fd ck_X1_startAnew (pc := 5) rfl) rfl (fun hc1 => ?_) (fun hc1 => ?_)
    · replace hm := am_it hm hc1
      refine am_subp [0] rfl ?_
      exact K _ hm
    · replace hm := am_if hm hc1
      refine am_steps ck_X1_startAnew 2 (pc' := 10) (lv' := [(0, .ref o), (1, .int z1)]) (st' := [.int z1, .ref o]) rfl ?_
      obtain ⟨q2, hq2, hm⟩ := am_bE hm
      refine ms_callVv (M2 := mt_X1_leave) (d2 := 2) (ci := 1) [.int z1] (am_fd ck_X1_startAnew (pc := 10) rfl) ok_X1_leave tw_422 tw_310 tw_311 (by decide) (kO hO) (Nat.le_of_ble_eq_true rfl) (Nat.le_of_ble_eq_true rfl) (x_X1_leave hL hO hq2) ?_
      refine am_steps ck_X1_startAnew 2 (pc' := 2) (lv' := [(1, .int (z1 + am_i 1)), (0, .ref o)]) (st' := []) rfl ?_
      refine am_subp [1, 0] rfl ?_
      exact ih _ _ hm K
set_option maxRecDepth 100000 in
set_option maxHeartbeats 4000000 in
theorem x_X1_startAnew {G : am_G} {m : am_m} {r : am_rr} {o : Nat} {res : am_m} (hL : am_Lay r) (hO : am_og o) (hm : m_X1_startAnew m o = some res) : am_Met G mt_X1_startAnew 3 [.ref o] (am_hh m r) none (am_hh res r) := by
  refine am_of (by decide) (Nat.le_of_ble_eq_true rfl) ?_
  unfold m_X1_startAnew at hm
  show am_W G mt_X1_startAnew 3 _ _ 0 [(0, .ref o)] [] (am_hh m r)
  refine am_steps ck_X1_startAnew 2 (pc' := 2) (lv' := [(1, .int (am_i 0)), (0, .ref o)]) (st' := []) rfl ?_
  refine am_subp [1, 0] rfl ?_
  refine x_X1_startAnew_2 hL hO am_F _ _ hm (fun m3 hm => ?_)
  refine am_steps ck_X1_startAnew 1 (pc' := 20) (lv' := [(0, .ref o)]) (st' := [.ref o]) rfl ?_
  refine ms_getr (ci := 1) (k := 0) (v := (aU o)) (am_fd ck_X1_startAnew (pc := 20) rfl) tw_35 (kO hO) rfl (lyO0 hL hO) (kU hO) ?_
  refine am_steps ck_X1_startAnew 2 (pc' := 25) (lv' := [(0, .ref o)]) (st' := [.int (am_i (-1)), .int (am_i 0), .ref (aU o)]) rfl ?_
  obtain ⟨hb4, hm⟩ := am_gE hm
  refine ms_iast (n := 24) (am_fd ck_X1_startAnew (pc := 25) rfl) (kU hO) hb4 (fun m5 em5 => ?_)
  replace hm := am_letE em5 hm
  cases hm
  exact am_end (am_fd ck_X1_startAnew (pc := 26) rfl) am_rV rfl rfl
set_option maxRecDepth 100000 in
set_option maxHeartbeats 4000000 in
theorem x_X1_settle {G : am_G} {m : am_m} {r : am_rr} {o : Nat} {x1 : Int32} {x2 : Int32} {res : am_m} (hL : am_Lay r) (hO : am_og o) (hm : m_X1_settle m o x1 x2 = some res) : am_Met G mt_X1_settle 1 [.ref o, .int x1, .int x2] (am_hh m r) none (am_hh res r) := by
  refine am_of (by decide) (Nat.le_of_ble_eq_true rfl) ?_
  unfold m_X1_settle at hm
  show am_W G mt_X1_settle 1 _ _ 0 [(0, .ref o), (1, .int x1), (2, .int x2)] [] (am_hh m r)
  refine am_steps ck_X1_settle 1 (pc' := 1) (lv' := [(0, .ref o), (1, .int x1), (2, .int x2)]) (st' := [.ref o]) rfl ?_
  refine ms_getr (ci := 1) (k := 0) (v := (aU o)) (am_fd ck_X1_settle (pc := 1) rfl) tw_35 (kO hO) rfl (lyO0 hL hO) (kU hO) ?_
  refine am_steps ck_X1_settle 2 (pc' := 6) (lv' := [(0, .ref o), (1, .int x1), (2, .int x2)]) (st' := [.int x2, .int x1, .ref (aU o)]) rfl ?_
  obtain ⟨hb1, hm⟩ := am_gE hm
  refine ms_iast (n := 24) (am_fd ck_X1_settle (pc := 6) rfl) (kU hO) hb1 (fun m2 em2 => ?_)
  replace hm := am_letE em2 hm
  cases hm
  exact am_end (am_fd ck_X1_settle (pc := 7) rfl) am_rV rfl rfl
set_option maxRecDepth 100000 in
set_option maxHeartbeats 4000000 in
theorem x_X1_isThere {G : am_G} {m : am_m} {r : am_rr} {o : Nat} {x1 : Int32} {res : Int32} (hL : am_Lay r) (hO : am_og o) (hm : m_X1_isThere m o x1 = some res) : am_Met G mt_X1_isThere 1 [.ref o, .int x1] (am_hh m r) (some (.int res)) (am_hh m r) := by
  refine am_of (by decide) (Nat.le_of_ble_eq_true rfl) ?_
  unfold m_X1_isThere at hm
  show am_W G mt_X1_isThere 1 _ _ 0 [(0, .ref o), (1, .int x1)] [] (am_hh m r)
  refine am_steps ck_X1_isThere 1 (pc' := 1) (lv' := [(0, .ref o), (1, .int x1)]) (st' := [.int x1]) rfl ?_
  refine am_ifc (tgt := 25) (am_fd ck_X1_isThere (pc := 1) rfl) rfl (fun hc1 => ?_) (fun hc1 => ?_)
  · replace hm := am_it hm hc1
    refine am_steps ck_X1_isThere 1 (pc' := 26) (lv' := [(0, .ref o), (1, .int x1)]) (st' := [.int (am_i 0)]) rfl ?_
    cases hm
    exact am_end (am_fd ck_X1_isThere (pc := 26) rfl) am_rZ0 rfl rfl
  · replace hm := am_if hm hc1
    refine am_steps ck_X1_isThere 2 (pc' := 7) (lv' := [(0, .ref o), (1, .int x1)]) (st' := [.int (am_i 24), .int x1]) rfl ?_
    refine am_icmp (tgt := 25) (am_fd ck_X1_isThere (pc := 7) rfl) rfl (fun hc2 => ?_) (fun hc2 => ?_)
    · replace hm := am_it hm hc2
      refine am_steps ck_X1_isThere 1 (pc' := 26) (lv' := [(0, .ref o), (1, .int x1)]) (st' := [.int (am_i 0)]) rfl ?_
      cases hm
      exact am_end (am_fd ck_X1_isThere (pc := 26) rfl) am_rZ0 rfl rfl
    · replace hm := am_if hm hc2
      refine am_steps ck_X1_isThere 1 (pc' := 11) (lv' := [(0, .ref o), (1, .int x1)]) (st' := [.ref o]) rfl ?_
      refine ms_getr (ci := 1) (k := 0) (v := (aU o)) (am_fd ck_X1_isThere (pc := 11) rfl) tw_35 (kO hO) rfl (lyO0 hL hO) (kU hO) ?_
      refine am_steps ck_X1_isThere 1 (pc' := 15) (lv' := [(0, .ref o), (1, .int x1)]) (st' := [.int x1, .ref (aU o)]) rfl ?_
      obtain ⟨hb3, hm⟩ := am_gE hm
      refine ms_iald (n := 24) (am_fd ck_X1_isThere (pc := 15) rfl) (kU hO) hb3 ?_
      refine am_steps ck_X1_isThere 1 (pc' := 18) (lv' := [(0, .ref o), (1, .int x1)]) (st' := [.int (am_i (-2)), .int (m (aU o) (am_ix x1))]) rfl ?_
      refine am_icmp (tgt := 25) (am_fd ck_X1_isThere (pc := 18) rfl) rfl (fun hc4 => ?_) (fun hc4 => ?_)
      · replace hm := am_it hm hc4
        refine am_steps ck_X1_isThere 1 (pc' := 26) (lv' := [(0, .ref o), (1, .int x1)]) (st' := [.int (am_i 0)]) rfl ?_
        cases hm
        exact am_end (am_fd ck_X1_isThere (pc := 26) rfl) am_rZ0 rfl rfl
      · replace hm := am_if hm hc4
        refine am_steps ck_X1_isThere 2 (pc' := 26) (lv' := [(0, .ref o), (1, .int x1)]) (st' := [.int (am_i 1)]) rfl ?_
        cases hm
        exact am_end (am_fd ck_X1_isThere (pc := 26) rfl) am_rZ1 rfl rfl
set_option maxRecDepth 100000 in
set_option maxHeartbeats 4000000 in
theorem x_X1_upperOf {G : am_G} {m : am_m} {r : am_rr} {o : Nat} {x1 : Int32} {res : Int32} (hL : am_Lay r) (hO : am_og o) (hm : m_X1_upperOf m o x1 = some res) : am_Met G mt_X1_upperOf 2 [.ref o, .int x1] (am_hh m r) (some (.int res)) (am_hh m r) := by
  refine am_of (by decide) (Nat.le_of_ble_eq_true rfl) ?_
  unfold m_X1_upperOf at hm
  show am_W G mt_X1_upperOf 2 _ _ 0 [(0, .ref o), (1, .int x1)] [] (am_hh m r)
  refine am_steps ck_X1_upperOf 2 (pc' := 2) (lv' := [(0, .ref o), (1, .int x1)]) (st' := [.int x1, .ref o]) rfl ?_
  obtain ⟨q1, hq1, hm⟩ := am_bE hm
  refine ms_callV (M2 := mt_X1_isThere) (d2 := 1) (ci := 1) [.int x1] (am_fd ck_X1_upperOf (pc := 2) rfl) ok_X1_isThere tw_256 tw_232 tw_233 (by decide) (kO hO) (Nat.le_of_ble_eq_true rfl) (Nat.le_of_ble_eq_true rfl) (x_X1_isThere hL hO hq1) ?_
  refine am_ifc (tgt := 17) (am_fd ck_X1_upperOf (pc := 5) rfl) rfl (fun hc2 => ?_) (fun hc2 => ?_)
  · replace hm := am_it hm hc2
    refine am_steps ck_X1_upperOf 1 (pc' := 18) (lv' := [(0, .ref o), (1, .int x1)]) (st' := [.int (am_i (-1))]) rfl ?_
    cases hm
    exact am_end (am_fd ck_X1_upperOf (pc := 18) rfl) am_rI rfl rfl
  · replace hm := am_if hm hc2
    refine am_steps ck_X1_upperOf 1 (pc' := 9) (lv' := [(0, .ref o), (1, .int x1)]) (st' := [.ref o]) rfl ?_
    refine ms_getr (ci := 1) (k := 0) (v := (aU o)) (am_fd ck_X1_upperOf (pc := 9) rfl) tw_35 (kO hO) rfl (lyO0 hL hO) (kU hO) ?_
    refine am_steps ck_X1_upperOf 1 (pc' := 13) (lv' := [(0, .ref o), (1, .int x1)]) (st' := [.int x1, .ref (aU o)]) rfl ?_
    obtain ⟨hb3, hm⟩ := am_gE hm
    refine ms_iald (n := 24) (am_fd ck_X1_upperOf (pc := 13) rfl) (kU hO) hb3 ?_
    refine am_steps ck_X1_upperOf 1 (pc' := 18) (lv' := [(0, .ref o), (1, .int x1)]) (st' := [.int (m (aU o) (am_ix x1))]) rfl ?_
    cases hm
    exact am_end (am_fd ck_X1_upperOf (pc := 18) rfl) am_rI rfl rfl
set_option maxRecDepth 100000 in
set_option maxHeartbeats 4000000 in
theorem x_X1_depthOf_8 {G : am_G} {o : Nat} {x1 : Int32} {m : am_m} {r : am_rr} {res : Int32} {k : Int32 → Option (Int32)} (hL : am_Lay r) (hO : am_og o) : ∀ (n : Nat) (z2 : Int32) (z3 : Int32), m_X1_depthOf_8 o x1 m k n z2 z3 = some res → (∀ (u2 : Int32), k u2 = some res → am_W G mt_X1_depthOf 3 (some (.int res)) (am_hh m r) 31 [(2, .int u2)] [] (am_hh m r)) → am_W G mt_X1_depthOf 3 (some (.int res)) (am_hh m r) 8 [(0, .ref o), (2, .int z2), (3, .int z3)] [] (am_hh m r) := by
  intro n
  induction n with
  | zero => intro z2 z3 hm K; cases hm
  | succ n ih =>
    intro z2 z3 hm K
    unfold m_X1_depthOf_8 at hm
    refine am_steps ck_X1_depthOf 2 (pc' := 10) (lv' := [(0, .ref o), (2, .int z2), (3, .int z3)]) (st' := [.int (am_i (-1)), .int z3]) rfl ?_
    refine am_icmp (tgt := 31) (am_fd ck_X1_depthOf (pc := 10) rfl) rfl (fun hc2 => ?_) (fun hc2 => ?_)
    · replace hm := am_it hm hc2
      refine am_subp [1] rfl ?_
      exact K _ hm
    · replace hm := am_if hm hc2
      refine am_steps ck_X1_depthOf 2 (pc' := 16) (lv' := [(0, .ref o), (2, .int z2), (3, .int z3)]) (st' := [.int (am_i 12), .int z2]) rfl ?_
      refine am_icmp (tgt := 31) (am_fd ck_X1_depthOf (pc := 16) rfl) rfl (fun hc3 => ?_) (fun hc3 => ?_)
      · replace hm := am_it hm hc3
        refine am_subp [1] rfl ?_
        exact K _ hm
      · replace hm := am_if hm hc3
        refine am_steps ck_X1_depthOf 3 (pc' := 24) (lv' := [(2, .int (z2 + am_i 1)), (0, .ref o), (3, .int z3)]) (st' := [.int z3, .ref o]) rfl ?_
        obtain ⟨q4, hq4, hm⟩ := am_bE hm
        refine ms_callV (M2 := mt_X1_upperOf) (d2 := 2) (ci := 1) [.int z3] (am_fd ck_X1_depthOf (pc := 24) rfl) ok_X1_upperOf tw_257 tw_258 tw_259 (by decide) (kO hO) (Nat.le_of_ble_eq_true rfl) (Nat.le_of_ble_eq_true rfl) (x_X1_upperOf hL hO hq4) ?_
        refine am_steps ck_X1_depthOf 2 (pc' := 8) (lv' := [(3, .int q4), (2, .int (z2 + am_i 1)), (0, .ref o)]) (st' := []) rfl ?_
        refine am_subp [2, 1, 0] rfl ?_
        exact ih _ _ hm K
set_option maxRecDepth 100000 in
set_option maxHeartbeats 4000000 in
theorem x_X1_depthOf {G : am_G} {m : am_m} {r : am_rr} {o : Nat} {x1 : Int32} {res : Int32} (hL : am_Lay r) (hO : am_og o) (hm : m_X1_depthOf m o x1 = some res) : am_Met G mt_X1_depthOf 3 [.ref o, .int x1] (am_hh m r) (some (.int res)) (am_hh m r) := by
  refine am_of (by decide) (Nat.le_of_ble_eq_true rfl) ?_
  unfold m_X1_depthOf at hm
  show am_W G mt_X1_depthOf 3 _ _ 0 [(0, .ref o), (1, .int x1)] [] (am_hh m r)
  refine am_steps ck_X1_depthOf 4 (pc' := 4) (lv' := [(2, .int (am_i 0)), (0, .ref o), (1, .int x1)]) (st' := [.int x1, .ref o]) rfl ?_
  obtain ⟨q1, hq1, hm⟩ := am_bE hm
  refine ms_callV (M2 := mt_X1_upperOf) (d2 := 2) (ci := 1) [.int x1] (am_fd ck_X1_depthOf (pc := 4) rfl) ok_X1_upperOf tw_257 tw_258 tw_259 (by decide) (kO hO) (Nat.le_of_ble_eq_true rfl) (Nat.le_of_ble_eq_true rfl) (x_X1_upperOf hL hO hq1) ?_
  refine am_steps ck_X1_depthOf 1 (pc' := 8) (lv' := [(3, .int q1), (2, .int (am_i 0)), (0, .ref o), (1, .int x1)]) (st' := []) rfl ?_
  refine am_subp [2, 1, 0] rfl ?_
  refine x_X1_depthOf_8 hL hO am_F _ _ hm (fun u5 hm => ?_)
  refine am_steps ck_X1_depthOf 1 (pc' := 32) (lv' := [(2, .int u5)]) (st' := [.int u5]) rfl ?_
  cases hm
  exact am_end (am_fd ck_X1_depthOf (pc := 32) rfl) am_rI rfl rfl
set_option maxRecDepth 100000 in
set_option maxHeartbeats 4000000 in
theorem x_X1_isInBranch_5 {G : am_G} {o : Nat} {x1 : Int32} {x2 : Int32} {m : am_m} {r : am_rr} {y2 : Int32} {res : Int32} {k : Option (Int32)} (hL : am_Lay r) (hO : am_og o) : ∀ (n : Nat) (z3 : Int32) (z4 : Int32), m_X1_isInBranch_5 o x1 x2 m y2 k n z3 z4 = some res → (k = some res → am_W G mt_X1_isInBranch 3 (some (.int res)) (am_hh m r) 36 [] [] (am_hh m r)) → am_W G mt_X1_isInBranch 3 (some (.int res)) (am_hh m r) 5 [(0, .ref o), (2, .int y2), (3, .int z3), (4, .int z4)] [] (am_hh m r) := by
  intro n
  induction n with
  | zero => intro z3 z4 hm K; cases hm
  | succ n ih =>
    intro z3 z4 hm K
    unfold m_X1_isInBranch_5 at hm
    refine am_steps ck_X1_isInBranch 2 (pc' := 9) (lv' := [(0, .ref o), (2, .int y2), (3, .int z3), (4, .int z4)]) (st' := [.int (am_i 12), .int z4]) rfl ?_
    refine am_icmp (tgt := 36) (am_fd ck_X1_isInBranch (pc := 9) rfl) rfl (fun hc1 => ?_) (fun hc1 => ?_)
    · replace hm := am_it hm hc1
      refine am_subp [] rfl ?_
      exact K hm
    · replace hm := am_if hm hc1
      refine am_steps ck_X1_isInBranch 2 (pc' := 14) (lv' := [(0, .ref o), (2, .int y2), (3, .int z3), (4, .int z4)]) (st' := [.int (am_i (-1)), .int z3]) rfl ?_
      refine am_icmp (tgt := 36) (am_fd ck_X1_isInBranch (pc := 14) rfl) rfl (fun hc2 => ?_) (fun hc2 => ?_)
      · replace hm := am_it hm hc2
        refine am_subp [] rfl ?_
        exact K hm
      · replace hm := am_if hm hc2
        refine am_steps ck_X1_isInBranch 2 (pc' := 19) (lv' := [(0, .ref o), (2, .int y2), (3, .int z3), (4, .int z4)]) (st' := [.int y2, .int z3]) rfl ?_
        refine am_icmp (tgt := 24) (am_fd ck_X1_isInBranch (pc := 19) rfl) rfl (fun hc3 => ?_) (fun hc3 => ?_)
        · replace hm := am_it hm hc3
          refine am_steps ck_X1_isInBranch 2 (pc' := 26) (lv' := [(0, .ref o), (2, .int y2), (3, .int z3), (4, .int z4)]) (st' := [.int z3, .ref o]) rfl ?_
          obtain ⟨q4, hq4, hm⟩ := am_bE hm
          refine ms_callV (M2 := mt_X1_upperOf) (d2 := 2) (ci := 1) [.int z3] (am_fd ck_X1_isInBranch (pc := 26) rfl) ok_X1_upperOf tw_257 tw_258 tw_259 (by decide) (kO hO) (Nat.le_of_ble_eq_true rfl) (Nat.le_of_ble_eq_true rfl) (x_X1_upperOf hL hO hq4) ?_
          refine am_steps ck_X1_isInBranch 3 (pc' := 5) (lv' := [(4, .int (z4 + am_i 1)), (3, .int q4), (0, .ref o), (2, .int y2)]) (st' := []) rfl ?_
          refine am_subp [2, 3, 1, 0] rfl ?_
          exact ih _ _ hm K
        · replace hm := am_if hm hc3
          refine am_steps ck_X1_isInBranch 1 (pc' := 23) (lv' := [(0, .ref o), (2, .int y2), (3, .int z3), (4, .int z4)]) (st' := [.int (am_i 1)]) rfl ?_
          cases hm
          exact am_end (am_fd ck_X1_isInBranch (pc := 23) rfl) am_rZ1 rfl rfl
set_option maxRecDepth 100000 in
set_option maxHeartbeats 4000000 in
theorem x_X1_isInBranch {G : am_G} {m : am_m} {r : am_rr} {o : Nat} {x1 : Int32} {x2 : Int32} {res : Int32} (hL : am_Lay r) (hO : am_og o) (hm : m_X1_isInBranch m o x1 x2 = some res) : am_Met G mt_X1_isInBranch 3 [.ref o, .int x1, .int x2] (am_hh m r) (some (.int res)) (am_hh m r) := by
  refine am_of (by decide) (Nat.le_of_ble_eq_true rfl) ?_
  unfold m_X1_isInBranch at hm
  show am_W G mt_X1_isInBranch 3 _ _ 0 [(0, .ref o), (1, .int x1), (2, .int x2)] [] (am_hh m r)
  refine am_steps ck_X1_isInBranch 4 (pc' := 5) (lv' := [(4, .int (am_i 0)), (3, .int x1), (0, .ref o), (1, .int x1), (2, .int x2)]) (st' := []) rfl ?_
  refine am_subp [2, 4, 1, 0] rfl ?_
  refine x_X1_isInBranch_5 hL hO am_F _ _ hm (fun hm => ?_)
  refine am_steps ck_X1_isInBranch 1 (pc' := 37) (lv' := []) (st' := [.int (am_i 0)]) rfl ?_
  cases hm
  exact am_end (am_fd ck_X1_isInBranch (pc := 37) rfl) am_rZ0 rfl rfl
set_option maxRecDepth 100000 in
set_option maxHeartbeats 4000000 in
theorem x_X1_branchSize_4 {G : am_G} {o : Nat} {x1 : Int32} {m : am_m} {r : am_rr} {y1 : Int32} {res : Int32} {k : Int32 → Option (Int32)} (hL : am_Lay r) (hO : am_og o) : ∀ (n : Nat) (z2 : Int32) (z3 : Int32), m_X1_branchSize_4 o x1 m y1 k n z2 z3 = some res → (∀ (u2 : Int32), k u2 = some res → am_W G mt_X1_branchSize 4 (some (.int res)) (am_hh m r) 36 [(2, .int u2)] [] (am_hh m r)) → am_W G mt_X1_branchSize 4 (some (.int res)) (am_hh m r) 4 [(0, .ref o), (1, .int y1), (2, .int z2), (3, .int z3)] [] (am_hh m r) := by
  intro n
  induction n with
  | zero => intro z2 z3 hm K; cases hm
  | succ n ih =>
    intro z2 z3 hm K
    unfold m_X1_branchSize_4 at hm
    refine am_steps ck_X1_branchSize 2 (pc' := 7) (lv' := [(0, .ref o), (1, .int y1), (2, .int z2), (3, .int z3)]) (st' := [.int (am_i 24), .int z3]) rfl ?_
    refine am_icmp (tgt := 36) (am_fd ck_X1_branchSize (pc := 7) rfl) rfl (fun hc1 => ?_) (fun hc1 => ?_)
    · replace hm := am_it hm hc1
      refine am_subp [2] rfl ?_
      exact K _ hm
    · replace hm := am_if hm hc1
      refine am_steps ck_X1_branchSize 2 (pc' := 12) (lv' := [(0, .ref o), (1, .int y1), (2, .int z2), (3, .int z3)]) (st' := [.int z3, .ref o]) rfl ?_
      obtain ⟨q2, hq2, hm⟩ := am_bE hm
      refine ms_callV (M2 := mt_X1_isThere) (d2 := 1) (ci := 1) [.int z3] (am_fd ck_X1_branchSize (pc := 12) rfl) ok_X1_isThere tw_256 tw_232 tw_233 (by decide) (kO hO) (Nat.le_of_ble_eq_true rfl) (Nat.le_of_ble_eq_true rfl) (x_X1_isThere hL hO hq2) ?_
      refine am_ifc (tgt := 30) (am_fd ck_X1_branchSize (pc := 15) rfl) rfl (fun hc3 => ?_) (fun hc3 => ?_)
      · replace hm := am_it hm hc3
        refine am_steps ck_X1_branchSize 2 (pc' := 4) (lv' := [(3, .int (z3 + am_i 1)), (0, .ref o), (1, .int y1), (2, .int z2)]) (st' := []) rfl ?_
        refine am_subp [1, 2, 3, 0] rfl ?_
        exact ih _ _ hm K
      · replace hm := am_if hm hc3
        refine am_steps ck_X1_branchSize 3 (pc' := 21) (lv' := [(0, .ref o), (1, .int y1), (2, .int z2), (3, .int z3)]) (st' := [.int y1, .int z3, .ref o]) rfl ?_
        obtain ⟨q4, hq4, hm⟩ := am_bE hm
        refine ms_callV (M2 := mt_X1_isInBranch) (d2 := 3) (ci := 1) [.int z3, .int y1] (am_fd ck_X1_branchSize (pc := 21) rfl) ok_X1_isInBranch tw_326 tw_327 tw_328 (by decide) (kO hO) (Nat.le_of_ble_eq_true rfl) (Nat.le_of_ble_eq_true rfl) (x_X1_isInBranch hL hO hq4) ?_
        refine am_ifc (tgt := 30) (am_fd ck_X1_branchSize (pc := 24) rfl) rfl (fun hc5 => ?_) (fun hc5 => ?_)
        · replace hm := am_it hm hc5
          refine am_steps ck_X1_branchSize 2 (pc' := 4) (lv' := [(3, .int (z3 + am_i 1)), (0, .ref o), (1, .int y1), (2, .int z2)]) (st' := []) rfl ?_
          refine am_subp [1, 2, 3, 0] rfl ?_
          exact ih _ _ hm K
        · replace hm := am_if hm hc5
          refine am_steps ck_X1_branchSize 3 (pc' := 4) (lv' := [(3, .int (z3 + am_i 1)), (2, .int (z2 + am_i 1)), (0, .ref o), (1, .int y1)]) (st' := []) rfl ?_
          refine am_subp [2, 3, 1, 0] rfl ?_
          exact ih _ _ hm K
set_option maxRecDepth 100000 in
set_option maxHeartbeats 4000000 in
theorem x_X1_branchSize {G : am_G} {m : am_m} {r : am_rr} {o : Nat} {x1 : Int32} {res : Int32} (hL : am_Lay r) (hO : am_og o) (hm : m_X1_branchSize m o x1 = some res) : am_Met G mt_X1_branchSize 4 [.ref o, .int x1] (am_hh m r) (some (.int res)) (am_hh m r) := by
  refine am_of (by decide) (Nat.le_of_ble_eq_true rfl) ?_
  unfold m_X1_branchSize at hm
  show am_W G mt_X1_branchSize 4 _ _ 0 [(0, .ref o), (1, .int x1)] [] (am_hh m r)
  refine am_steps ck_X1_branchSize 4 (pc' := 4) (lv' := [(3, .int (am_i 0)), (2, .int (am_i 0)), (0, .ref o), (1, .int x1)]) (st' := []) rfl ?_
  refine am_subp [2, 3, 1, 0] rfl ?_
  refine x_X1_branchSize_4 hL hO am_F _ _ hm (fun u6 hm => ?_)
  refine am_steps ck_X1_branchSize 1 (pc' := 37) (lv' := [(2, .int u6)]) (st' := [.int u6]) rfl ?_
  cases hm
  exact am_end (am_fd ck_X1_branchSize (pc := 37) rfl) am_rI rfl rfl
set_option maxRecDepth 100000 in
set_option maxHeartbeats 4000000 in
theorem x_X1_heightOf_8 {G : am_G} {o : Nat} {x1 : Int32} {m : am_m} {r : am_rr} {y1 : Int32} {res : Int32} {k : Int32 → Option (Int32)} (hL : am_Lay r) (hO : am_og o) : ∀ (n : Nat) (z2 : Int32) (z3 : Int32), m_X1_heightOf_8 o x1 m y1 k n z2 z3 = some res → (∀ (u2 : Int32), k u2 = some res → am_W G mt_X1_heightOf 4 (some (.int res)) (am_hh m r) 47 [(0, .ref o), (1, .int y1), (2, .int u2)] [] (am_hh m r)) → am_W G mt_X1_heightOf 4 (some (.int res)) (am_hh m r) 8 [(0, .ref o), (1, .int y1), (2, .int z2), (3, .int z3)] [] (am_hh m r) := by
  intro n
  induction n with
  | zero => intro z2 z3 hm K; cases hm
  | succ n ih =>
    intro z2 z3 hm K
    unfold m_X1_heightOf_8 at hm
    refine am_steps ck_X1_heightOf 2 (pc' := 11) (lv' := [(0, .ref o), (1, .int y1), (2, .int z2), (3, .int z3)]) (st' := [.int (am_i 24), .int z3]) rfl ?_
    refine am_icmp (tgt := 47) (am_fd ck_X1_heightOf (pc := 11) rfl) rfl (fun hc2 => ?_) (fun hc2 => ?_)
    · replace hm := am_it hm hc2
      refine am_subp [0, 1, 2] rfl ?_
      exact K _ hm
    · replace hm := am_if hm hc2
      refine am_steps ck_X1_heightOf 2 (pc' := 16) (lv' := [(0, .ref o), (1, .int y1), (2, .int z2), (3, .int z3)]) (st' := [.int z3, .ref o]) rfl ?_
      obtain ⟨q3, hq3, hm⟩ := am_bE hm
      refine ms_callV (M2 := mt_X1_isThere) (d2 := 1) (ci := 1) [.int z3] (am_fd ck_X1_heightOf (pc := 16) rfl) ok_X1_isThere tw_256 tw_232 tw_233 (by decide) (kO hO) (Nat.le_of_ble_eq_true rfl) (Nat.le_of_ble_eq_true rfl) (x_X1_isThere hL hO hq3) ?_
      refine am_ifc (tgt := 41) (am_fd ck_X1_heightOf (pc := 19) rfl) rfl (fun hc4 => ?_) (fun hc4 => ?_)
      · replace hm := am_it hm hc4
        refine am_steps ck_X1_heightOf 2 (pc' := 8) (lv' := [(3, .int (z3 + am_i 1)), (0, .ref o), (1, .int y1), (2, .int z2)]) (st' := []) rfl ?_
        refine am_subp [1, 2, 3, 0] rfl ?_
        exact ih _ _ hm K
      · replace hm := am_if hm hc4
        refine am_steps ck_X1_heightOf 3 (pc' := 25) (lv' := [(0, .ref o), (1, .int y1), (2, .int z2), (3, .int z3)]) (st' := [.int y1, .int z3, .ref o]) rfl ?_
        obtain ⟨q5, hq5, hm⟩ := am_bE hm
        refine ms_callV (M2 := mt_X1_isInBranch) (d2 := 3) (ci := 1) [.int z3, .int y1] (am_fd ck_X1_heightOf (pc := 25) rfl) ok_X1_isInBranch tw_326 tw_327 tw_328 (by decide) (kO hO) (Nat.le_of_ble_eq_true rfl) (Nat.le_of_ble_eq_true rfl) (x_X1_isInBranch hL hO hq5) ?_
        refine am_ifc (tgt := 41) (am_fd ck_X1_heightOf (pc := 28) rfl) rfl (fun hc6 => ?_) (fun hc6 => ?_)
        · replace hm := am_it hm hc6
          refine am_steps ck_X1_heightOf 2 (pc' := 8) (lv' := [(3, .int (z3 + am_i 1)), (0, .ref o), (1, .int y1), (2, .int z2)]) (st' := []) rfl ?_
          refine am_subp [1, 2, 3, 0] rfl ?_
          exact ih _ _ hm K
        · replace hm := am_if hm hc6
          refine am_steps ck_X1_heightOf 3 (pc' := 34) (lv' := [(0, .ref o), (1, .int y1), (2, .int z2), (3, .int z3)]) (st' := [.int z3, .ref o, .int z2]) rfl ?_
          obtain ⟨q7, hq7, hm⟩ := am_bE hm
          refine ms_callV (M2 := mt_X1_depthOf) (d2 := 3) (ci := 1) [.int z3] (am_fd ck_X1_heightOf (pc := 34) rfl) ok_X1_depthOf tw_330 tw_269 tw_270 (by decide) (kO hO) (Nat.le_of_ble_eq_true rfl) (Nat.le_of_ble_eq_true rfl) (x_X1_depthOf hL hO hq7) ?_
          refine am_mmax (am_fd ck_X1_heightOf (pc := 37) rfl) tw_335 mth_max_s mth_ini mth_max_c (Nat.le_of_ble_eq_true rfl) (Nat.le_of_ble_eq_true rfl) ?_
          refine am_steps ck_X1_heightOf 3 (pc' := 8) (lv' := [(3, .int (z3 + am_i 1)), (2, .int (am_mx z2 q7)), (0, .ref o), (1, .int y1)]) (st' := []) rfl ?_
          refine am_subp [2, 3, 1, 0] rfl ?_
          exact ih _ _ hm K
set_option maxRecDepth 100000 in
set_option maxHeartbeats 4000000 in
theorem x_X1_heightOf {G : am_G} {m : am_m} {r : am_rr} {o : Nat} {x1 : Int32} {res : Int32} (hL : am_Lay r) (hO : am_og o) (hm : m_X1_heightOf m o x1 = some res) : am_Met G mt_X1_heightOf 4 [.ref o, .int x1] (am_hh m r) (some (.int res)) (am_hh m r) := by
  refine am_of (by decide) (Nat.le_of_ble_eq_true rfl) ?_
  unfold m_X1_heightOf at hm
  show am_W G mt_X1_heightOf 4 _ _ 0 [(0, .ref o), (1, .int x1)] [] (am_hh m r)
  refine am_steps ck_X1_heightOf 2 (pc' := 2) (lv' := [(0, .ref o), (1, .int x1)]) (st' := [.int x1, .ref o]) rfl ?_
  obtain ⟨q1, hq1, hm⟩ := am_bE hm
  refine ms_callV (M2 := mt_X1_depthOf) (d2 := 3) (ci := 1) [.int x1] (am_fd ck_X1_heightOf (pc := 2) rfl) ok_X1_depthOf tw_330 tw_269 tw_270 (by decide) (kO hO) (Nat.le_of_ble_eq_true rfl) (Nat.le_of_ble_eq_true rfl) (x_X1_depthOf hL hO hq1) ?_
  refine am_steps ck_X1_heightOf 3 (pc' := 8) (lv' := [(3, .int (am_i 0)), (2, .int q1), (0, .ref o), (1, .int x1)]) (st' := []) rfl ?_
  refine am_subp [2, 3, 1, 0] rfl ?_
  refine x_X1_heightOf_8 hL hO am_F _ _ hm (fun u8 hm => ?_)
  refine am_steps ck_X1_heightOf 3 (pc' := 50) (lv' := [(0, .ref o), (1, .int x1), (2, .int u8)]) (st' := [.int x1, .ref o, .int u8]) rfl ?_
  obtain ⟨q9, hq9, hm⟩ := am_bE hm
  refine ms_callV (M2 := mt_X1_depthOf) (d2 := 3) (ci := 1) [.int x1] (am_fd ck_X1_heightOf (pc := 50) rfl) ok_X1_depthOf tw_330 tw_269 tw_270 (by decide) (kO hO) (Nat.le_of_ble_eq_true rfl) (Nat.le_of_ble_eq_true rfl) (x_X1_depthOf hL hO hq9) ?_
  refine am_steps ck_X1_heightOf 1 (pc' := 54) (lv' := [(0, .ref o), (1, .int x1), (2, .int u8)]) (st' := [.int (u8 - q9)]) rfl ?_
  cases hm
  exact am_end (am_fd ck_X1_heightOf (pc := 54) rfl) am_rI rfl rfl
set_option maxRecDepth 100000 in
set_option maxHeartbeats 4000000 in
theorem x_X1_lowerCount_4 {G : am_G} {o : Nat} {x1 : Int32} {m : am_m} {r : am_rr} {y1 : Int32} {res : Int32} {k : Int32 → Option (Int32)} (hL : am_Lay r) (hO : am_og o) : ∀ (n : Nat) (z2 : Int32) (z3 : Int32), m_X1_lowerCount_4 o x1 m y1 k n z2 z3 = some res → (∀ (u2 : Int32), k u2 = some res → am_W G mt_X1_lowerCount 2 (some (.int res)) (am_hh m r) 37 [(2, .int u2)] [] (am_hh m r)) → am_W G mt_X1_lowerCount 2 (some (.int res)) (am_hh m r) 4 [(0, .ref o), (1, .int y1), (2, .int z2), (3, .int z3)] [] (am_hh m r) := by
  intro n
  induction n with
  | zero => intro z2 z3 hm K; cases hm
  | succ n ih =>
    intro z2 z3 hm K
    unfold m_X1_lowerCount_4 at hm
    refine am_steps ck_X1_lowerCount 2 (pc' := 7) (lv' := [(0, .ref o), (1, .int y1), (2, .int z2), (3, .int z3)]) (st' := [.int (am_i 24), .int z3]) rfl ?_
    refine am_icmp (tgt := 37) (am_fd ck_X1_lowerCount (pc := 7) rfl) rfl (fun hc1 => ?_) (fun hc1 => ?_)
    · replace hm := am_it hm hc1
      refine am_subp [2] rfl ?_
      exact K _ hm
    · replace hm := am_if hm hc1
      refine am_steps ck_X1_lowerCount 2 (pc' := 12) (lv' := [(0, .ref o), (1, .int y1), (2, .int z2), (3, .int z3)]) (st' := [.int y1, .ref o]) rfl ?_
      obtain ⟨q2, hq2, hm⟩ := am_bE hm
      refine ms_callV (M2 := mt_X1_isThere) (d2 := 1) (ci := 1) [.int y1] (am_fd ck_X1_lowerCount (pc := 12) rfl) ok_X1_isThere tw_256 tw_232 tw_233 (by decide) (kO hO) (Nat.le_of_ble_eq_true rfl) (Nat.le_of_ble_eq_true rfl) (x_X1_isThere hL hO hq2) ?_
      refine am_ifc (tgt := 31) (am_fd ck_X1_lowerCount (pc := 15) rfl) rfl (fun hc3 => ?_) (fun hc3 => ?_)
      · replace hm := am_it hm hc3
        refine am_steps ck_X1_lowerCount 2 (pc' := 4) (lv' := [(3, .int (z3 + am_i 1)), (0, .ref o), (1, .int y1), (2, .int z2)]) (st' := []) rfl ?_
        refine am_subp [1, 2, 3, 0] rfl ?_
        exact ih _ _ hm K
      · replace hm := am_if hm hc3
        refine am_steps ck_X1_lowerCount 1 (pc' := 19) (lv' := [(0, .ref o), (1, .int y1), (2, .int z2), (3, .int z3)]) (st' := [.ref o]) rfl ?_
        refine ms_getr (ci := 1) (k := 0) (v := (aU o)) (am_fd ck_X1_lowerCount (pc := 19) rfl) tw_35 (kO hO) rfl (lyO0 hL hO) (kU hO) ?_
        refine am_steps ck_X1_lowerCount 1 (pc' := 23) (lv' := [(0, .ref o), (1, .int y1), (2, .int z2), (3, .int z3)]) (st' := [.int z3, .ref (aU o)]) rfl ?_
        obtain ⟨hb4, hm⟩ := am_gE hm
        refine ms_iald (n := 24) (am_fd ck_X1_lowerCount (pc := 23) rfl) (kU hO) hb4 ?_
        refine am_steps ck_X1_lowerCount 1 (pc' := 25) (lv' := [(0, .ref o), (1, .int y1), (2, .int z2), (3, .int z3)]) (st' := [.int y1, .int (m (aU o) (am_ix z3))]) rfl ?_
        refine am_icmp (tgt := 31) (am_fd ck_X1_lowerCount (pc := 25) rfl) rfl (fun hc5 => ?_) (fun hc5 => ?_)
        · replace hm := am_it hm hc5
          refine am_steps ck_X1_lowerCount 2 (pc' := 4) (lv' := [(3, .int (z3 + am_i 1)), (0, .ref o), (1, .int y1), (2, .int z2)]) (st' := []) rfl ?_
          refine am_subp [1, 2, 3, 0] rfl ?_
          exact ih _ _ hm K
        · replace hm := am_if hm hc5
          refine am_steps ck_X1_lowerCount 3 (pc' := 4) (lv' := [(3, .int (z3 + am_i 1)), (2, .int (z2 + am_i 1)), (0, .ref o), (1, .int y1)]) (st' := []) rfl ?_
          refine am_subp [2, 3, 1, 0] rfl ?_
          exact ih _ _ hm K
set_option maxRecDepth 100000 in
set_option maxHeartbeats 4000000 in
theorem x_X1_lowerCount {G : am_G} {m : am_m} {r : am_rr} {o : Nat} {x1 : Int32} {res : Int32} (hL : am_Lay r) (hO : am_og o) (hm : m_X1_lowerCount m o x1 = some res) : am_Met G mt_X1_lowerCount 2 [.ref o, .int x1] (am_hh m r) (some (.int res)) (am_hh m r) := by
  refine am_of (by decide) (Nat.le_of_ble_eq_true rfl) ?_
  unfold m_X1_lowerCount at hm
  show am_W G mt_X1_lowerCount 2 _ _ 0 [(0, .ref o), (1, .int x1)] [] (am_hh m r)
  refine am_steps ck_X1_lowerCount 4 (pc' := 4) (lv' := [(3, .int (am_i 0)), (2, .int (am_i 0)), (0, .ref o), (1, .int x1)]) (st' := []) rfl ?_
  refine am_subp [2, 3, 1, 0] rfl ?_
  refine x_X1_lowerCount_4 hL hO am_F _ _ hm (fun u6 hm => ?_)
  refine am_steps ck_X1_lowerCount 1 (pc' := 38) (lv' := [(2, .int u6)]) (st' := [.int u6]) rfl ?_
  cases hm
  exact am_end (am_fd ck_X1_lowerCount (pc := 38) rfl) am_rI rfl rfl
set_option maxRecDepth 100000 in
set_option maxHeartbeats 4000000 in
theorem x_X1_lowerAt_19 {G : am_G} {o : Nat} {x1 : Int32} {x2 : Int32} {m : am_m} {r : am_rr} {y1 : Int32} {y2 : Int32} {res : Int32} {k : Option (Int32)} (hL : am_Lay r) (hO : am_og o) : ∀ (n : Nat) (z3 : Int32) (z4 : Int32), m_X1_lowerAt_19 o x1 x2 m y1 y2 k n z3 z4 = some res → (k = some res → am_W G mt_X1_lowerAt 2 (some (.int res)) (am_hh m r) 57 [] [] (am_hh m r)) → am_W G mt_X1_lowerAt 2 (some (.int res)) (am_hh m r) 19 [(0, .ref o), (1, .int y1), (2, .int y2), (3, .int z3), (4, .int z4)] [] (am_hh m r) := by
  intro n
  induction n with
  | zero => intro z3 z4 hm K; cases hm
  | succ n ih =>
    intro z3 z4 hm K
    unfold m_X1_lowerAt_19 at hm
    refine am_steps ck_X1_lowerAt 2 (pc' := 23) (lv' := [(0, .ref o), (1, .int y1), (2, .int y2), (3, .int z3), (4, .int z4)]) (st' := [.int (am_i 24), .int z4]) rfl ?_
    refine am_icmp (tgt := 57) (am_fd ck_X1_lowerAt (pc := 23) rfl) rfl (fun hc4 => ?_) (fun hc4 => ?_)
    · replace hm := am_it hm hc4
      refine am_subp [] rfl ?_
      exact K hm
    · replace hm := am_if hm hc4
      refine am_steps ck_X1_lowerAt 1 (pc' := 27) (lv' := [(0, .ref o), (1, .int y1), (2, .int y2), (3, .int z3), (4, .int z4)]) (st' := [.ref o]) rfl ?_
      refine ms_getr (ci := 1) (k := 0) (v := (aU o)) (am_fd ck_X1_lowerAt (pc := 27) rfl) tw_35 (kO hO) rfl (lyO0 hL hO) (kU hO) ?_
      refine am_steps ck_X1_lowerAt 1 (pc' := 32) (lv' := [(0, .ref o), (1, .int y1), (2, .int y2), (3, .int z3), (4, .int z4)]) (st' := [.int z4, .ref (aU o)]) rfl ?_
      obtain ⟨hb5, hm⟩ := am_gE hm
      refine ms_iald (n := 24) (am_fd ck_X1_lowerAt (pc := 32) rfl) (kU hO) hb5 ?_
      refine am_steps ck_X1_lowerAt 1 (pc' := 34) (lv' := [(0, .ref o), (1, .int y1), (2, .int y2), (3, .int z3), (4, .int z4)]) (st' := [.int y1, .int (m (aU o) (am_ix z4))]) rfl ?_
      refine am_icmp (tgt := 40) (am_fd ck_X1_lowerAt (pc := 34) rfl) rfl (fun hc6 => ?_) (fun hc6 => ?_)
      · replace hm := am_it hm hc6
        refine am_steps ck_X1_lowerAt 2 (pc' := 42) (lv' := [(0, .ref o), (1, .int y1), (2, .int y2), (3, .int z3), (4, .int z4)]) (st' := [.int y2, .int z3]) rfl ?_
        refine am_icmp (tgt := 48) (am_fd ck_X1_lowerAt (pc := 42) rfl) rfl (fun hc7 => ?_) (fun hc7 => ?_)
        · replace hm := am_it hm hc7
          refine am_steps ck_X1_lowerAt 3 (pc' := 19) (lv' := [(4, .int (z4 + am_i 1)), (3, .int (z3 + am_i 1)), (0, .ref o), (1, .int y1), (2, .int y2)]) (st' := []) rfl ?_
          refine am_subp [2, 3, 4, 1, 0] rfl ?_
          exact ih _ _ hm K
        · replace hm := am_if hm hc7
          refine am_steps ck_X1_lowerAt 1 (pc' := 47) (lv' := [(0, .ref o), (1, .int y1), (2, .int y2), (3, .int z3), (4, .int z4)]) (st' := [.int z4]) rfl ?_
          cases hm
          exact am_end (am_fd ck_X1_lowerAt (pc := 47) rfl) am_rI rfl rfl
      · replace hm := am_if hm hc6
        refine am_steps ck_X1_lowerAt 3 (pc' := 19) (lv' := [(4, .int (z4 + am_i 1)), (0, .ref o), (1, .int y1), (2, .int y2), (3, .int z3)]) (st' := []) rfl ?_
        refine am_subp [1, 2, 3, 4, 0] rfl ?_
        exact ih _ _ hm K
set_option maxRecDepth 100000 in
set_option maxHeartbeats 4000000 in
theorem x_X1_lowerAt {G : am_G} {m : am_m} {r : am_rr} {o : Nat} {x1 : Int32} {x2 : Int32} {res : Int32} (hL : am_Lay r) (hO : am_og o) (hm : m_X1_lowerAt m o x1 x2 = some res) : am_Met G mt_X1_lowerAt 2 [.ref o, .int x1, .int x2] (am_hh m r) (some (.int res)) (am_hh m r) := by
  refine am_of (by decide) (Nat.le_of_ble_eq_true rfl) ?_
  unfold m_X1_lowerAt at hm
  show am_W G mt_X1_lowerAt 2 _ _ 0 [(0, .ref o), (1, .int x1), (2, .int x2)] [] (am_hh m r)
  refine am_steps ck_X1_lowerAt 2 (pc' := 2) (lv' := [(0, .ref o), (1, .int x1), (2, .int x2)]) (st' := [.int x1, .ref o]) rfl ?_
  obtain ⟨q1, hq1, hm⟩ := am_bE hm
  refine ms_callV (M2 := mt_X1_isThere) (d2 := 1) (ci := 1) [.int x1] (am_fd ck_X1_lowerAt (pc := 2) rfl) ok_X1_isThere tw_256 tw_232 tw_233 (by decide) (kO hO) (Nat.le_of_ble_eq_true rfl) (Nat.le_of_ble_eq_true rfl) (x_X1_isThere hL hO hq1) ?_
  refine am_ifc (tgt := 12) (am_fd ck_X1_lowerAt (pc := 5) rfl) rfl (fun hc2 => ?_) (fun hc2 => ?_)
  · replace hm := am_it hm hc2
    refine am_steps ck_X1_lowerAt 1 (pc' := 13) (lv' := [(0, .ref o), (1, .int x1), (2, .int x2)]) (st' := [.int (am_i (-1))]) rfl ?_
    cases hm
    exact am_end (am_fd ck_X1_lowerAt (pc := 13) rfl) am_rI rfl rfl
  · replace hm := am_if hm hc2
    refine am_steps ck_X1_lowerAt 1 (pc' := 9) (lv' := [(0, .ref o), (1, .int x1), (2, .int x2)]) (st' := [.int x2]) rfl ?_
    refine am_ifc (tgt := 14) (am_fd ck_X1_lowerAt (pc := 9) rfl) rfl (fun hc3 => ?_) (fun hc3 => ?_)
    · replace hm := am_it hm hc3
      refine am_steps ck_X1_lowerAt 4 (pc' := 19) (lv' := [(4, .int (am_i 0)), (3, .int (am_i 0)), (0, .ref o), (1, .int x1), (2, .int x2)]) (st' := []) rfl ?_
      refine am_subp [2, 3, 4, 1, 0] rfl ?_
      refine x_X1_lowerAt_19 hL hO am_F _ _ hm (fun hm => ?_)
      refine am_steps ck_X1_lowerAt 1 (pc' := 58) (lv' := []) (st' := [.int (am_i (-1))]) rfl ?_
      cases hm
      exact am_end (am_fd ck_X1_lowerAt (pc := 58) rfl) am_rI rfl rfl
    · replace hm := am_if hm hc3
      refine am_steps ck_X1_lowerAt 1 (pc' := 13) (lv' := [(0, .ref o), (1, .int x1), (2, .int x2)]) (st' := [.int (am_i (-1))]) rfl ?_
      cases hm
      exact am_end (am_fd ck_X1_lowerAt (pc := 13) rfl) am_rI rfl rfl
set_option maxRecDepth 100000 in
set_option maxHeartbeats 4000000 in
theorem x_X1_meetingOf_23 {G : am_G} {o : Nat} {x1 : Int32} {x2 : Int32} {m : am_m} {r : am_rr} {y2 : Int32} {res : Int32} {k : Option (Int32)} (hL : am_Lay r) (hO : am_og o) : ∀ (n : Nat) (z3 : Int32) (z4 : Int32), m_X1_meetingOf_23 o x1 x2 m y2 k n z3 z4 = some res → (k = some res → am_W G mt_X1_meetingOf 4 (some (.int res)) (am_hh m r) 58 [] [] (am_hh m r)) → am_W G mt_X1_meetingOf 4 (some (.int res)) (am_hh m r) 23 [(0, .ref o), (2, .int y2), (3, .int z3), (4, .int z4)] [] (am_hh m r) := by
  intro n
  induction n with
  | zero => intro z3 z4 hm K; cases hm
  | succ n ih =>
    intro z3 z4 hm K
    unfold m_X1_meetingOf_23 at hm
    refine am_steps ck_X1_meetingOf 2 (pc' := 27) (lv' := [(0, .ref o), (2, .int y2), (3, .int z3), (4, .int z4)]) (st' := [.int (am_i 12), .int z4]) rfl ?_
    refine am_icmp (tgt := 58) (am_fd ck_X1_meetingOf (pc := 27) rfl) rfl (fun hc5 => ?_) (fun hc5 => ?_)
    · replace hm := am_it hm hc5
      refine am_subp [] rfl ?_
      exact K hm
    · replace hm := am_if hm hc5
      refine am_steps ck_X1_meetingOf 2 (pc' := 32) (lv' := [(0, .ref o), (2, .int y2), (3, .int z3), (4, .int z4)]) (st' := [.int (am_i (-1)), .int z3]) rfl ?_
      refine am_icmp (tgt := 58) (am_fd ck_X1_meetingOf (pc := 32) rfl) rfl (fun hc6 => ?_) (fun hc6 => ?_)
      · replace hm := am_it hm hc6
        refine am_subp [] rfl ?_
        exact K hm
      · replace hm := am_if hm hc6
        refine am_steps ck_X1_meetingOf 3 (pc' := 38) (lv' := [(0, .ref o), (2, .int y2), (3, .int z3), (4, .int z4)]) (st' := [.int z3, .int y2, .ref o]) rfl ?_
        obtain ⟨q7, hq7, hm⟩ := am_bE hm
        refine ms_callV (M2 := mt_X1_isInBranch) (d2 := 3) (ci := 1) [.int y2, .int z3] (am_fd ck_X1_meetingOf (pc := 38) rfl) ok_X1_isInBranch tw_326 tw_327 tw_328 (by decide) (kO hO) (Nat.le_of_ble_eq_true rfl) (Nat.le_of_ble_eq_true rfl) (x_X1_isInBranch hL hO hq7) ?_
        refine am_ifc (tgt := 46) (am_fd ck_X1_meetingOf (pc := 41) rfl) rfl (fun hc8 => ?_) (fun hc8 => ?_)
        · replace hm := am_it hm hc8
          refine am_steps ck_X1_meetingOf 2 (pc' := 48) (lv' := [(0, .ref o), (2, .int y2), (3, .int z3), (4, .int z4)]) (st' := [.int z3, .ref o]) rfl ?_
          obtain ⟨q9, hq9, hm⟩ := am_bE hm
          refine ms_callV (M2 := mt_X1_upperOf) (d2 := 2) (ci := 1) [.int z3] (am_fd ck_X1_meetingOf (pc := 48) rfl) ok_X1_upperOf tw_257 tw_258 tw_259 (by decide) (kO hO) (Nat.le_of_ble_eq_true rfl) (Nat.le_of_ble_eq_true rfl) (x_X1_upperOf hL hO hq9) ?_
          refine am_steps ck_X1_meetingOf 3 (pc' := 23) (lv' := [(4, .int (z4 + am_i 1)), (3, .int q9), (0, .ref o), (2, .int y2)]) (st' := []) rfl ?_
          refine am_subp [2, 3, 1, 0] rfl ?_
          exact ih _ _ hm K
        · replace hm := am_if hm hc8
          refine am_steps ck_X1_meetingOf 1 (pc' := 45) (lv' := [(0, .ref o), (2, .int y2), (3, .int z3), (4, .int z4)]) (st' := [.int z3]) rfl ?_
          cases hm
          exact am_end (am_fd ck_X1_meetingOf (pc := 45) rfl) am_rI rfl rfl
set_option maxRecDepth 100000 in
set_option maxHeartbeats 4000000 in
theorem x_X1_meetingOf {G : am_G} {m : am_m} {r : am_rr} {o : Nat} {x1 : Int32} {x2 : Int32} {res : Int32} (hL : am_Lay r) (hO : am_og o) (hm : m_X1_meetingOf m o x1 x2 = some res) : am_Met G mt_X1_meetingOf 4 [.ref o, .int x1, .int x2] (am_hh m r) (some (.int res)) (am_hh m r) := by
  refine am_of (by decide) (Nat.le_of_ble_eq_true rfl) ?_
  unfold m_X1_meetingOf at hm
  show am_W G mt_X1_meetingOf 4 _ _ 0 [(0, .ref o), (1, .int x1), (2, .int x2)] [] (am_hh m r)
  refine am_steps ck_X1_meetingOf 2 (pc' := 2) (lv' := [(0, .ref o), (1, .int x1), (2, .int x2)]) (st' := [.int x1, .ref o]) rfl ?_
  obtain ⟨q1, hq1, hm⟩ := am_bE hm
  refine ms_callV (M2 := mt_X1_isThere) (d2 := 1) (ci := 1) [.int x1] (am_fd ck_X1_meetingOf (pc := 2) rfl) ok_X1_isThere tw_256 tw_232 tw_233 (by decide) (kO hO) (Nat.le_of_ble_eq_true rfl) (Nat.le_of_ble_eq_true rfl) (x_X1_isThere hL hO hq1) ?_
  refine am_ifc (tgt := 16) (am_fd ck_X1_meetingOf (pc := 5) rfl) rfl (fun hc2 => ?_) (fun hc2 => ?_)
  · replace hm := am_it hm hc2
    refine am_steps ck_X1_meetingOf 1 (pc' := 17) (lv' := [(0, .ref o), (1, .int x1), (2, .int x2)]) (st' := [.int (am_i (-1))]) rfl ?_
    cases hm
    exact am_end (am_fd ck_X1_meetingOf (pc := 17) rfl) am_rI rfl rfl
  · replace hm := am_if hm hc2
    refine am_steps ck_X1_meetingOf 2 (pc' := 10) (lv' := [(0, .ref o), (1, .int x1), (2, .int x2)]) (st' := [.int x2, .ref o]) rfl ?_
    obtain ⟨q3, hq3, hm⟩ := am_bE hm
    refine ms_callV (M2 := mt_X1_isThere) (d2 := 1) (ci := 1) [.int x2] (am_fd ck_X1_meetingOf (pc := 10) rfl) ok_X1_isThere tw_256 tw_232 tw_233 (by decide) (kO hO) (Nat.le_of_ble_eq_true rfl) (Nat.le_of_ble_eq_true rfl) (x_X1_isThere hL hO hq3) ?_
    refine am_ifc (tgt := 18) (am_fd ck_X1_meetingOf (pc := 13) rfl) rfl (fun hc4 => ?_) (fun hc4 => ?_)
    · replace hm := am_it hm hc4
      refine am_steps ck_X1_meetingOf 4 (pc' := 23) (lv' := [(4, .int (am_i 0)), (3, .int x1), (0, .ref o), (1, .int x1), (2, .int x2)]) (st' := []) rfl ?_
      refine am_subp [2, 4, 1, 0] rfl ?_
      refine x_X1_meetingOf_23 hL hO am_F _ _ hm (fun hm => ?_)
      refine am_steps ck_X1_meetingOf 1 (pc' := 59) (lv' := []) (st' := [.int (am_i (-1))]) rfl ?_
      cases hm
      exact am_end (am_fd ck_X1_meetingOf (pc := 59) rfl) am_rI rfl rfl
    · replace hm := am_if hm hc4
      refine am_steps ck_X1_meetingOf 1 (pc' := 17) (lv' := [(0, .ref o), (1, .int x1), (2, .int x2)]) (st' := [.int (am_i (-1))]) rfl ?_
      cases hm
      exact am_end (am_fd ck_X1_meetingOf (pc := 17) rfl) am_rI rfl rfl
set_option maxRecDepth 100000 in
set_option maxHeartbeats 4000000 in
theorem x_X1_isOnChain {G : am_G} {m : am_m} {r : am_rr} {o : Nat} {x1 : Int32} {x2 : Int32} {x3 : Int32} {x4 : Int32} {res : Int32} (hL : am_Lay r) (hO : am_og o) (hm : m_X1_isOnChain m o x1 x2 x3 x4 = some res) : am_Met G mt_X1_isOnChain 4 [.ref o, .int x1, .int x2, .int x3, .int x4] (am_hh m r) (some (.int res)) (am_hh m r) := by
  refine am_of (by decide) (Nat.le_of_ble_eq_true rfl) ?_
  unfold m_X1_isOnChain at hm
  show am_W G mt_X1_isOnChain 4 _ _ 0 [(0, .ref o), (1, .int x1), (2, .int x2), (3, .int x3), (4, .int x4)] [] (am_hh m r)
  refine am_steps ck_X1_isOnChain 2 (pc' := 2) (lv' := [(0, .ref o), (1, .int x1), (2, .int x2), (3, .int x3), (4, .int x4)]) (st' := [.int x1, .ref o]) rfl ?_
  obtain ⟨q1, hq1, hm⟩ := am_bE hm
  refine ms_callV (M2 := mt_X1_isThere) (d2 := 1) (ci := 1) [.int x1] (am_fd ck_X1_isOnChain (pc := 2) rfl) ok_X1_isThere tw_256 tw_232 tw_233 (by decide) (kO hO) (Nat.le_of_ble_eq_true rfl) (Nat.le_of_ble_eq_true rfl) (x_X1_isThere hL hO hq1) ?_
  refine am_ifc (tgt := 40) (am_fd ck_X1_isOnChain (pc := 5) rfl) rfl (fun hc2 => ?_) (fun hc2 => ?_)
  · replace hm := am_it hm hc2
    refine am_steps ck_X1_isOnChain 1 (pc' := 41) (lv' := [(0, .ref o), (1, .int x1), (2, .int x2), (3, .int x3), (4, .int x4)]) (st' := [.int (am_i 0)]) rfl ?_
    cases hm
    exact am_end (am_fd ck_X1_isOnChain (pc := 41) rfl) am_rZ0 rfl rfl
  · replace hm := am_if hm hc2
    refine am_steps ck_X1_isOnChain 3 (pc' := 12) (lv' := [(0, .ref o), (1, .int x1), (2, .int x2), (3, .int x3), (4, .int x4)]) (st' := [.int x4, .int x1, .ref o]) rfl ?_
    obtain ⟨q3, hq3, hm⟩ := am_bE hm
    refine ms_callV (M2 := mt_X1_isInBranch) (d2 := 3) (ci := 1) [.int x1, .int x4] (am_fd ck_X1_isOnChain (pc := 12) rfl) ok_X1_isInBranch tw_326 tw_327 tw_328 (by decide) (kO hO) (Nat.le_of_ble_eq_true rfl) (Nat.le_of_ble_eq_true rfl) (x_X1_isInBranch hL hO hq3) ?_
    refine am_ifc (tgt := 40) (am_fd ck_X1_isOnChain (pc := 15) rfl) rfl (fun hc4 => ?_) (fun hc4 => ?_)
    · replace hm := am_it hm hc4
      refine am_steps ck_X1_isOnChain 1 (pc' := 41) (lv' := [(0, .ref o), (1, .int x1), (2, .int x2), (3, .int x3), (4, .int x4)]) (st' := [.int (am_i 0)]) rfl ?_
      cases hm
      exact am_end (am_fd ck_X1_isOnChain (pc := 41) rfl) am_rZ0 rfl rfl
    · replace hm := am_if hm hc4
      refine am_steps ck_X1_isOnChain 3 (pc' := 21) (lv' := [(0, .ref o), (1, .int x1), (2, .int x2), (3, .int x3), (4, .int x4)]) (st' := [.int x1, .int x2, .ref o]) rfl ?_
      obtain ⟨q5, hq5, hm⟩ := am_bE hm
      refine ms_callV (M2 := mt_X1_isInBranch) (d2 := 3) (ci := 1) [.int x2, .int x1] (am_fd ck_X1_isOnChain (pc := 21) rfl) ok_X1_isInBranch tw_326 tw_327 tw_328 (by decide) (kO hO) (Nat.le_of_ble_eq_true rfl) (Nat.le_of_ble_eq_true rfl) (x_X1_isInBranch hL hO hq5) ?_
      refine am_ifc (tgt := 36) (am_fd ck_X1_isOnChain (pc := 24) rfl) rfl (fun hc6 => ?_) (fun hc6 => ?_)
      · replace hm := am_it hm hc6
        refine am_steps ck_X1_isOnChain 2 (pc' := 41) (lv' := [(0, .ref o), (1, .int x1), (2, .int x2), (3, .int x3), (4, .int x4)]) (st' := [.int (am_i 1)]) rfl ?_
        cases hm
        exact am_end (am_fd ck_X1_isOnChain (pc := 41) rfl) am_rZ1 rfl rfl
      · replace hm := am_if hm hc6
        refine am_steps ck_X1_isOnChain 3 (pc' := 30) (lv' := [(0, .ref o), (1, .int x1), (2, .int x2), (3, .int x3), (4, .int x4)]) (st' := [.int x1, .int x3, .ref o]) rfl ?_
        obtain ⟨q7, hq7, hm⟩ := am_bE hm
        refine ms_callV (M2 := mt_X1_isInBranch) (d2 := 3) (ci := 1) [.int x3, .int x1] (am_fd ck_X1_isOnChain (pc := 30) rfl) ok_X1_isInBranch tw_326 tw_327 tw_328 (by decide) (kO hO) (Nat.le_of_ble_eq_true rfl) (Nat.le_of_ble_eq_true rfl) (x_X1_isInBranch hL hO hq7) ?_
        refine am_ifc (tgt := 40) (am_fd ck_X1_isOnChain (pc := 33) rfl) rfl (fun hc8 => ?_) (fun hc8 => ?_)
        · replace hm := am_it hm hc8
          refine am_steps ck_X1_isOnChain 1 (pc' := 41) (lv' := [(0, .ref o), (1, .int x1), (2, .int x2), (3, .int x3), (4, .int x4)]) (st' := [.int (am_i 0)]) rfl ?_
          cases hm
          exact am_end (am_fd ck_X1_isOnChain (pc := 41) rfl) am_rZ0 rfl rfl
        · replace hm := am_if hm hc8
          refine am_steps ck_X1_isOnChain 2 (pc' := 41) (lv' := [(0, .ref o), (1, .int x1), (2, .int x2), (3, .int x3), (4, .int x4)]) (st' := [.int (am_i 1)]) rfl ?_
          cases hm
          exact am_end (am_fd ck_X1_isOnChain (pc := 41) rfl) am_rZ1 rfl rfl
set_option maxRecDepth 100000 in
set_option maxHeartbeats 4000000 in
theorem x_X1_canMove {G : am_G} {m : am_m} {r : am_rr} {o : Nat} {x1 : Int32} {x2 : Int32} {res : Int32} (hL : am_Lay r) (hO : am_og o) (hm : m_X1_canMove m o x1 x2 = some res) : am_Met G mt_X1_canMove 5 [.ref o, .int x1, .int x2] (am_hh m r) (some (.int res)) (am_hh m r) := by
  refine am_of (by decide) (Nat.le_of_ble_eq_true rfl) ?_
  unfold m_X1_canMove at hm
  show am_W G mt_X1_canMove 5 _ _ 0 [(0, .ref o), (1, .int x1), (2, .int x2)] [] (am_hh m r)
  refine am_steps ck_X1_canMove 2 (pc' := 2) (lv' := [(0, .ref o), (1, .int x1), (2, .int x2)]) (st' := [.int x1, .ref o]) rfl ?_
  obtain ⟨q1, hq1, hm⟩ := am_bE hm
  refine ms_callV (M2 := mt_X1_isThere) (d2 := 1) (ci := 1) [.int x1] (am_fd ck_X1_canMove (pc := 2) rfl) ok_X1_isThere tw_256 tw_232 tw_233 (by decide) (kO hO) (Nat.le_of_ble_eq_true rfl) (Nat.le_of_ble_eq_true rfl) (x_X1_isThere hL hO hq1) ?_
  refine am_ifc (tgt := 25) (am_fd ck_X1_canMove (pc := 5) rfl) rfl (fun hc2 => ?_) (fun hc2 => ?_)
  · replace hm := am_it hm hc2
    refine am_steps ck_X1_canMove 1 (pc' := 26) (lv' := [(0, .ref o), (1, .int x1), (2, .int x2)]) (st' := [.int (am_i 0)]) rfl ?_
    cases hm
    exact am_end (am_fd ck_X1_canMove (pc := 26) rfl) am_rZ0 rfl rfl
  · replace hm := am_if hm hc2
    refine am_steps ck_X1_canMove 2 (pc' := 10) (lv' := [(0, .ref o), (1, .int x1), (2, .int x2)]) (st' := [.int x2, .ref o]) rfl ?_
    obtain ⟨q3, hq3, hm⟩ := am_bE hm
    refine ms_callV (M2 := mt_X1_isThere) (d2 := 1) (ci := 1) [.int x2] (am_fd ck_X1_canMove (pc := 10) rfl) ok_X1_isThere tw_256 tw_232 tw_233 (by decide) (kO hO) (Nat.le_of_ble_eq_true rfl) (Nat.le_of_ble_eq_true rfl) (x_X1_isThere hL hO hq3) ?_
    refine am_ifc (tgt := 25) (am_fd ck_X1_canMove (pc := 13) rfl) rfl (fun hc4 => ?_) (fun hc4 => ?_)
    · replace hm := am_it hm hc4
      refine am_steps ck_X1_canMove 1 (pc' := 26) (lv' := [(0, .ref o), (1, .int x1), (2, .int x2)]) (st' := [.int (am_i 0)]) rfl ?_
      cases hm
      exact am_end (am_fd ck_X1_canMove (pc := 26) rfl) am_rZ0 rfl rfl
    · replace hm := am_if hm hc4
      refine am_steps ck_X1_canMove 3 (pc' := 19) (lv' := [(0, .ref o), (1, .int x1), (2, .int x2)]) (st' := [.int x1, .int x2, .ref o]) rfl ?_
      obtain ⟨q5, hq5, hm⟩ := am_bE hm
      refine ms_callV (M2 := mt_X1_isInBranch) (d2 := 3) (ci := 1) [.int x2, .int x1] (am_fd ck_X1_canMove (pc := 19) rfl) ok_X1_isInBranch tw_326 tw_327 tw_328 (by decide) (kO hO) (Nat.le_of_ble_eq_true rfl) (Nat.le_of_ble_eq_true rfl) (x_X1_isInBranch hL hO hq5) ?_
      refine am_ifc (tgt := 27) (am_fd ck_X1_canMove (pc := 22) rfl) rfl (fun hc6 => ?_) (fun hc6 => ?_)
      · replace hm := am_it hm hc6
        refine am_steps ck_X1_canMove 1 (pc' := 28) (lv' := [(0, .ref o), (1, .int x1), (2, .int x2)]) (st' := [.ref o]) rfl ?_
        refine ms_getr (ci := 1) (k := 0) (v := (aU o)) (am_fd ck_X1_canMove (pc := 28) rfl) tw_35 (kO hO) rfl (lyO0 hL hO) (kU hO) ?_
        refine am_steps ck_X1_canMove 1 (pc' := 32) (lv' := [(0, .ref o), (1, .int x1), (2, .int x2)]) (st' := [.int x1, .ref (aU o)]) rfl ?_
        obtain ⟨hb7, hm⟩ := am_gE hm
        refine ms_iald (n := 24) (am_fd ck_X1_canMove (pc := 32) rfl) (kU hO) hb7 ?_
        refine am_steps ck_X1_canMove 1 (pc' := 34) (lv' := [(0, .ref o), (1, .int x1), (2, .int x2)]) (st' := [.int x2, .int (m (aU o) (am_ix x1))]) rfl ?_
        refine am_icmp (tgt := 59) (am_fd ck_X1_canMove (pc := 34) rfl) rfl (fun hc8 => ?_) (fun hc8 => ?_)
        · replace hm := am_it hm hc8
          refine am_steps ck_X1_canMove 1 (pc' := 60) (lv' := [(0, .ref o), (1, .int x1), (2, .int x2)]) (st' := [.int (am_i 0)]) rfl ?_
          cases hm
          exact am_end (am_fd ck_X1_canMove (pc := 60) rfl) am_rZ0 rfl rfl
        · replace hm := am_if hm hc8
          refine am_steps ck_X1_canMove 2 (pc' := 39) (lv' := [(0, .ref o), (1, .int x1), (2, .int x2)]) (st' := [.int x2, .ref o]) rfl ?_
          obtain ⟨q9, hq9, hm⟩ := am_bE hm
          refine ms_callV (M2 := mt_X1_depthOf) (d2 := 3) (ci := 1) [.int x2] (am_fd ck_X1_canMove (pc := 39) rfl) ok_X1_depthOf tw_330 tw_269 tw_270 (by decide) (kO hO) (Nat.le_of_ble_eq_true rfl) (Nat.le_of_ble_eq_true rfl) (x_X1_depthOf hL hO hq9) ?_
          refine am_steps ck_X1_canMove 4 (pc' := 46) (lv' := [(0, .ref o), (1, .int x1), (2, .int x2)]) (st' := [.int x1, .ref o, .int (q9 + (am_i 1))]) rfl ?_
          obtain ⟨q10, hq10, hm⟩ := am_bE hm
          refine ms_callV (M2 := mt_X1_heightOf) (d2 := 4) (ci := 1) [.int x1] (am_fd ck_X1_canMove (pc := 46) rfl) ok_X1_heightOf tw_331 tw_332 tw_333 (by decide) (kO hO) (Nat.le_of_ble_eq_true rfl) (Nat.le_of_ble_eq_true rfl) (x_X1_heightOf hL hO hq10) ?_
          refine am_steps ck_X1_canMove 2 (pc' := 52) (lv' := [(0, .ref o), (1, .int x1), (2, .int x2)]) (st' := [.int (am_i 12), .int ((q9 + (am_i 1)) + q10)]) rfl ?_
          refine am_icmp (tgt := 59) (am_fd ck_X1_canMove (pc := 52) rfl) rfl (fun hc11 => ?_) (fun hc11 => ?_)
          · replace hm := am_it hm hc11
            refine am_steps ck_X1_canMove 1 (pc' := 60) (lv' := [(0, .ref o), (1, .int x1), (2, .int x2)]) (st' := [.int (am_i 0)]) rfl ?_
            cases hm
            exact am_end (am_fd ck_X1_canMove (pc := 60) rfl) am_rZ0 rfl rfl
          · replace hm := am_if hm hc11
            refine am_steps ck_X1_canMove 2 (pc' := 60) (lv' := [(0, .ref o), (1, .int x1), (2, .int x2)]) (st' := [.int (am_i 1)]) rfl ?_
            cases hm
            exact am_end (am_fd ck_X1_canMove (pc := 60) rfl) am_rZ1 rfl rfl
      · replace hm := am_if hm hc6
        refine am_steps ck_X1_canMove 1 (pc' := 26) (lv' := [(0, .ref o), (1, .int x1), (2, .int x2)]) (st' := [.int (am_i 0)]) rfl ?_
        cases hm
        exact am_end (am_fd ck_X1_canMove (pc := 26) rfl) am_rZ0 rfl rfl
set_option maxRecDepth 100000 in
set_option maxHeartbeats 4000000 in
theorem x_X1_makeStale_4 {G : am_G} {o : Nat} {x1 : Int32} {r : am_rr} {res : am_m} {k : am_m → Option (am_m)} (hL : am_Lay r) (hO : am_og o) : ∀ (n : Nat) (z2 : Int32) (z3 : Int32) (m : am_m), m_X1_makeStale_4 o x1 k n z2 z3 m = some res → (∀ (m1 : am_m), k m1 = some res → am_W G mt_X1_makeStale 3 none (am_hh res r) 37 [] [] (am_hh m1 r)) → am_W G mt_X1_makeStale 3 none (am_hh res r) 4 [(0, .ref o), (2, .int z2), (3, .int z3)] [] (am_hh m r) := by
  intro n
  induction n with
  | zero => intro z2 z3 m hm K; cases hm
  | succ n ih =>
    intro z2 z3 m hm K
    unfold m_X1_makeStale_4 at hm
    refine am_steps ck_X1_makeStale 2 (pc' := 7) (lv' := [(0, .ref o), (2, .int z2), (3, .int z3)]) (st' := [.int (am_i 12), .int z3]) rfl ?_
    refine am_icmp (tgt := 37) (am_fd ck_X1_makeStale (pc := 7) rfl) rfl (fun hc1 => ?_) (fun hc1 => ?_)
    · replace hm := am_it hm hc1
      refine am_subp [] rfl ?_
      exact K _ hm
    · replace hm := am_if hm hc1
      refine am_steps ck_X1_makeStale 2 (pc' := 12) (lv' := [(0, .ref o), (2, .int z2), (3, .int z3)]) (st' := [.int z2, .ref o]) rfl ?_
      obtain ⟨q2, hq2, hm⟩ := am_bE hm
      refine ms_callV (M2 := mt_X1_isThere) (d2 := 1) (ci := 1) [.int z2] (am_fd ck_X1_makeStale (pc := 12) rfl) ok_X1_isThere tw_256 tw_232 tw_233 (by decide) (kO hO) (Nat.le_of_ble_eq_true rfl) (Nat.le_of_ble_eq_true rfl) (x_X1_isThere hL hO hq2) ?_
      refine am_ifc (tgt := 37) (am_fd ck_X1_makeStale (pc := 15) rfl) rfl (fun hc3 => ?_) (fun hc3 => ?_)
      · replace hm := am_it hm hc3
        refine am_subp [] rfl ?_
        exact K _ hm
      · replace hm := am_if hm hc3
        refine am_steps ck_X1_makeStale 1 (pc' := 19) (lv' := [(0, .ref o), (2, .int z2), (3, .int z3)]) (st' := [.ref o]) rfl ?_
        refine ms_getr (ci := 1) (k := 1) (v := (aS o)) (am_fd ck_X1_makeStale (pc := 19) rfl) tw_38 (kO hO) rfl (lyO1 hL hO) (kS hO) ?_
        refine am_steps ck_X1_makeStale 2 (pc' := 24) (lv' := [(0, .ref o), (2, .int z2), (3, .int z3)]) (st' := [.int (am_i 1), .int z2, .ref (aS o)]) rfl ?_
        obtain ⟨hb4, hm⟩ := am_gE hm
        refine ms_zast (n := 24) (am_fd ck_X1_makeStale (pc := 24) rfl) (kS hO) hb4 (Or.inr am_i1) (fun m5 em5 => ?_)
        replace hm := am_letE em5 hm
        refine am_steps ck_X1_makeStale 2 (pc' := 27) (lv' := [(0, .ref o), (2, .int z2), (3, .int z3)]) (st' := [.int z2, .ref o]) rfl ?_
        obtain ⟨q6, hq6, hm⟩ := am_bE hm
        refine ms_callV (M2 := mt_X1_upperOf) (d2 := 2) (ci := 1) [.int z2] (am_fd ck_X1_makeStale (pc := 27) rfl) ok_X1_upperOf tw_257 tw_258 tw_259 (by decide) (kO hO) (Nat.le_of_ble_eq_true rfl) (Nat.le_of_ble_eq_true rfl) (x_X1_upperOf hL hO hq6) ?_
        refine am_steps ck_X1_makeStale 3 (pc' := 4) (lv' := [(3, .int (z3 + am_i 1)), (2, .int q6), (0, .ref o)]) (st' := []) rfl ?_
        refine am_subp [2, 1, 0] rfl ?_
        exact ih _ _ _ hm K
set_option maxRecDepth 100000 in
set_option maxHeartbeats 4000000 in
theorem x_X1_makeStale {G : am_G} {m : am_m} {r : am_rr} {o : Nat} {x1 : Int32} {res : am_m} (hL : am_Lay r) (hO : am_og o) (hm : m_X1_makeStale m o x1 = some res) : am_Met G mt_X1_makeStale 3 [.ref o, .int x1] (am_hh m r) none (am_hh res r) := by
  refine am_of (by decide) (Nat.le_of_ble_eq_true rfl) ?_
  unfold m_X1_makeStale at hm
  show am_W G mt_X1_makeStale 3 _ _ 0 [(0, .ref o), (1, .int x1)] [] (am_hh m r)
  refine am_steps ck_X1_makeStale 4 (pc' := 4) (lv' := [(3, .int (am_i 0)), (2, .int x1), (0, .ref o), (1, .int x1)]) (st' := []) rfl ?_
  refine am_subp [2, 1, 0] rfl ?_
  refine x_X1_makeStale_4 hL hO am_F _ _ _ hm (fun m7 hm => ?_)
  cases hm
  exact am_end (am_fd ck_X1_makeStale (pc := 37) rfl) am_rV rfl rfl
set_option maxRecDepth 100000 in
set_option maxHeartbeats 4000000 in
theorem x_X1_moveTo {G : am_G} {m : am_m} {r : am_rr} {o : Nat} {x1 : Int32} {x2 : Int32} {res : am_m} (hL : am_Lay r) (hO : am_og o) (hm : m_X1_moveTo m o x1 x2 = some res) : am_Met G mt_X1_moveTo 4 [.ref o, .int x1, .int x2] (am_hh m r) none (am_hh res r) := by
  refine am_of (by decide) (Nat.le_of_ble_eq_true rfl) ?_
  unfold m_X1_moveTo at hm
  show am_W G mt_X1_moveTo 4 _ _ 0 [(0, .ref o), (1, .int x1), (2, .int x2)] [] (am_hh m r)
  refine am_steps ck_X1_moveTo 3 (pc' := 3) (lv' := [(0, .ref o), (1, .int x1), (2, .int x2)]) (st' := [.int x1, .ref o, .ref o]) rfl ?_
  obtain ⟨q1, hq1, hm⟩ := am_bE hm
  refine ms_callV (M2 := mt_X1_upperOf) (d2 := 2) (ci := 1) [.int x1] (am_fd ck_X1_moveTo (pc := 3) rfl) ok_X1_upperOf tw_257 tw_258 tw_259 (by decide) (kO hO) (Nat.le_of_ble_eq_true rfl) (Nat.le_of_ble_eq_true rfl) (x_X1_upperOf hL hO hq1) ?_
  obtain ⟨q2, hq2, hm⟩ := am_bE hm
  refine ms_callVv (M2 := mt_X1_makeStale) (d2 := 3) (ci := 1) [.int q1] (am_fd ck_X1_moveTo (pc := 6) rfl) ok_X1_makeStale tw_342 tw_253 tw_254 (by decide) (kO hO) (Nat.le_of_ble_eq_true rfl) (Nat.le_of_ble_eq_true rfl) (x_X1_makeStale hL hO hq2) ?_
  refine am_steps ck_X1_moveTo 1 (pc' := 10) (lv' := [(0, .ref o), (1, .int x1), (2, .int x2)]) (st' := [.ref o]) rfl ?_
  refine ms_getr (ci := 1) (k := 0) (v := (aU o)) (am_fd ck_X1_moveTo (pc := 10) rfl) tw_35 (kO hO) rfl (lyO0 hL hO) (kU hO) ?_
  refine am_steps ck_X1_moveTo 2 (pc' := 15) (lv' := [(0, .ref o), (1, .int x1), (2, .int x2)]) (st' := [.int x2, .int x1, .ref (aU o)]) rfl ?_
  obtain ⟨hb3, hm⟩ := am_gE hm
  refine ms_iast (n := 24) (am_fd ck_X1_moveTo (pc := 15) rfl) (kU hO) hb3 (fun m4 em4 => ?_)
  replace hm := am_letE em4 hm
  refine am_steps ck_X1_moveTo 2 (pc' := 18) (lv' := [(0, .ref o), (1, .int x1), (2, .int x2)]) (st' := [.int x2, .ref o]) rfl ?_
  obtain ⟨q5, hq5, hm⟩ := am_bE hm
  refine ms_callVv (M2 := mt_X1_makeStale) (d2 := 3) (ci := 1) [.int x2] (am_fd ck_X1_moveTo (pc := 18) rfl) ok_X1_makeStale tw_342 tw_253 tw_254 (by decide) (kO hO) (Nat.le_of_ble_eq_true rfl) (Nat.le_of_ble_eq_true rfl) (x_X1_makeStale hL hO hq5) ?_
  cases hm
  exact am_end (am_fd ck_X1_moveTo (pc := 21) rfl) am_rV rfl rfl
set_option maxRecDepth 100000 in
set_option maxHeartbeats 4000000 in
theorem x_X1_thereSet_4 {G : am_G} {o : Nat} {m : am_m} {r : am_rr} {res : Int32} {k : Int32 → Option (Int32)} (hL : am_Lay r) (hO : am_og o) : ∀ (n : Nat) (z1 : Int32) (z2 : Int32), m_X1_thereSet_4 o m k n z1 z2 = some res → (∀ (u1 : Int32), k u1 = some res → am_W G mt_X1_thereSet 2 (some (.int res)) (am_hh m r) 30 [(1, .int u1)] [] (am_hh m r)) → am_W G mt_X1_thereSet 2 (some (.int res)) (am_hh m r) 4 [(0, .ref o), (1, .int z1), (2, .int z2)] [] (am_hh m r) := by
  intro n
  induction n with
  | zero => intro z1 z2 hm K; cases hm
  | succ n ih =>
    intro z1 z2 hm K
    unfold m_X1_thereSet_4 at hm
    refine am_steps ck_X1_thereSet 2 (pc' := 7) (lv' := [(0, .ref o), (1, .int z1), (2, .int z2)]) (st' := [.int (am_i 24), .int z2]) rfl ?_
    refine am_icmp (tgt := 30) (am_fd ck_X1_thereSet (pc := 7) rfl) rfl (fun hc1 => ?_) (fun hc1 => ?_)
    · replace hm := am_it hm hc1
      refine am_subp [1] rfl ?_
      exact K _ hm
    · replace hm := am_if hm hc1
      refine am_steps ck_X1_thereSet 2 (pc' := 12) (lv' := [(0, .ref o), (1, .int z1), (2, .int z2)]) (st' := [.int z2, .ref o]) rfl ?_
      obtain ⟨q2, hq2, hm⟩ := am_bE hm
      refine ms_callV (M2 := mt_X1_isThere) (d2 := 1) (ci := 1) [.int z2] (am_fd ck_X1_thereSet (pc := 12) rfl) ok_X1_isThere tw_256 tw_232 tw_233 (by decide) (kO hO) (Nat.le_of_ble_eq_true rfl) (Nat.le_of_ble_eq_true rfl) (x_X1_isThere hL hO hq2) ?_
      refine am_ifc (tgt := 24) (am_fd ck_X1_thereSet (pc := 15) rfl) rfl (fun hc3 => ?_) (fun hc3 => ?_)
      · replace hm := am_it hm hc3
        refine am_steps ck_X1_thereSet 2 (pc' := 4) (lv' := [(2, .int (z2 + am_i 1)), (0, .ref o), (1, .int z1)]) (st' := []) rfl ?_
        refine am_subp [1, 2, 0] rfl ?_
        exact ih _ _ hm K
      · replace hm := am_if hm hc3
        refine am_steps ck_X1_thereSet 8 (pc' := 4) (lv' := [(2, .int (z2 + am_i 1)), (1, .int (z1 ||| ((am_i 1) <<< (z2 &&& 31)))), (0, .ref o)]) (st' := []) rfl ?_
        refine am_subp [2, 1, 0] rfl ?_
        exact ih _ _ hm K
set_option maxRecDepth 100000 in
set_option maxHeartbeats 4000000 in
theorem x_X1_thereSet {G : am_G} {m : am_m} {r : am_rr} {o : Nat} {res : Int32} (hL : am_Lay r) (hO : am_og o) (hm : m_X1_thereSet m o = some res) : am_Met G mt_X1_thereSet 2 [.ref o] (am_hh m r) (some (.int res)) (am_hh m r) := by
  refine am_of (by decide) (Nat.le_of_ble_eq_true rfl) ?_
  unfold m_X1_thereSet at hm
  show am_W G mt_X1_thereSet 2 _ _ 0 [(0, .ref o)] [] (am_hh m r)
  refine am_steps ck_X1_thereSet 4 (pc' := 4) (lv' := [(2, .int (am_i 0)), (1, .int (am_i 0)), (0, .ref o)]) (st' := []) rfl ?_
  refine am_subp [2, 1, 0] rfl ?_
  refine x_X1_thereSet_4 hL hO am_F _ _ hm (fun u4 hm => ?_)
  refine am_steps ck_X1_thereSet 1 (pc' := 31) (lv' := [(1, .int u4)]) (st' := [.int u4]) rfl ?_
  cases hm
  exact am_end (am_fd ck_X1_thereSet (pc := 31) rfl) am_rI rfl rfl
set_option maxRecDepth 100000 in
set_option maxHeartbeats 4000000 in
theorem x_X1_staleSet_4 {G : am_G} {o : Nat} {m : am_m} {r : am_rr} {res : Int32} {k : Int32 → Option (Int32)} (hL : am_Lay r) (hO : am_og o) : ∀ (n : Nat) (z1 : Int32) (z2 : Int32), m_X1_staleSet_4 o m k n z1 z2 = some res → (∀ (u1 : Int32), k u1 = some res → am_W G mt_X1_staleSet 2 (some (.int res)) (am_hh m r) 39 [(1, .int u1)] [] (am_hh m r)) → am_W G mt_X1_staleSet 2 (some (.int res)) (am_hh m r) 4 [(0, .ref o), (1, .int z1), (2, .int z2)] [] (am_hh m r) := by
  intro n
  induction n with
  | zero => intro z1 z2 hm K; cases hm
  | succ n ih =>
    intro z1 z2 hm K
    unfold m_X1_staleSet_4 at hm
    refine am_steps ck_X1_staleSet 2 (pc' := 7) (lv' := [(0, .ref o), (1, .int z1), (2, .int z2)]) (st' := [.int (am_i 24), .int z2]) rfl ?_
    refine am_icmp (tgt := 39) (am_fd ck_X1_staleSet (pc := 7) rfl) rfl (fun hc1 => ?_) (fun hc1 => ?_)
    · replace hm := am_it hm hc1
      refine am_subp [1] rfl ?_
      exact K _ hm
    · replace hm := am_if hm hc1
      refine am_steps ck_X1_staleSet 2 (pc' := 12) (lv' := [(0, .ref o), (1, .int z1), (2, .int z2)]) (st' := [.int z2, .ref o]) rfl ?_
      obtain ⟨q2, hq2, hm⟩ := am_bE hm
      refine ms_callV (M2 := mt_X1_isThere) (d2 := 1) (ci := 1) [.int z2] (am_fd ck_X1_staleSet (pc := 12) rfl) ok_X1_isThere tw_256 tw_232 tw_233 (by decide) (kO hO) (Nat.le_of_ble_eq_true rfl) (Nat.le_of_ble_eq_true rfl) (x_X1_isThere hL hO hq2) ?_
      refine am_ifc (tgt := 33) (am_fd ck_X1_staleSet (pc := 15) rfl) rfl (fun hc3 => ?_) (fun hc3 => ?_)
      · replace hm := am_it hm hc3
        refine am_steps ck_X1_staleSet 2 (pc' := 4) (lv' := [(2, .int (z2 + am_i 1)), (0, .ref o), (1, .int z1)]) (st' := []) rfl ?_
        refine am_subp [1, 2, 0] rfl ?_
        exact ih _ _ hm K
      · replace hm := am_if hm hc3
        refine am_steps ck_X1_staleSet 1 (pc' := 19) (lv' := [(0, .ref o), (1, .int z1), (2, .int z2)]) (st' := [.ref o]) rfl ?_
        refine ms_getr (ci := 1) (k := 1) (v := (aS o)) (am_fd ck_X1_staleSet (pc := 19) rfl) tw_38 (kO hO) rfl (lyO1 hL hO) (kS hO) ?_
        refine am_steps ck_X1_staleSet 1 (pc' := 23) (lv' := [(0, .ref o), (1, .int z1), (2, .int z2)]) (st' := [.int z2, .ref (aS o)]) rfl ?_
        obtain ⟨hb4, hm⟩ := am_gE hm
        refine ms_zald (n := 24) (am_fd ck_X1_staleSet (pc := 23) rfl) (kS hO) hb4 ?_
        refine am_ifc (tgt := 33) (am_fd ck_X1_staleSet (pc := 24) rfl) rfl (fun hc5 => ?_) (fun hc5 => ?_)
        · replace hm := am_it hm hc5
          refine am_steps ck_X1_staleSet 2 (pc' := 4) (lv' := [(2, .int (z2 + am_i 1)), (0, .ref o), (1, .int z1)]) (st' := []) rfl ?_
          refine am_subp [1, 2, 0] rfl ?_
          exact ih _ _ hm K
        · replace hm := am_if hm hc5
          refine am_steps ck_X1_staleSet 8 (pc' := 4) (lv' := [(2, .int (z2 + am_i 1)), (1, .int (z1 ||| ((am_i 1) <<< (z2 &&& 31)))), (0, .ref o)]) (st' := []) rfl ?_
          refine am_subp [2, 1, 0] rfl ?_
          exact ih _ _ hm K
set_option maxRecDepth 100000 in
set_option maxHeartbeats 4000000 in
theorem x_X1_staleSet {G : am_G} {m : am_m} {r : am_rr} {o : Nat} {res : Int32} (hL : am_Lay r) (hO : am_og o) (hm : m_X1_staleSet m o = some res) : am_Met G mt_X1_staleSet 2 [.ref o] (am_hh m r) (some (.int res)) (am_hh m r) := by
  refine am_of (by decide) (Nat.le_of_ble_eq_true rfl) ?_
  unfold m_X1_staleSet at hm
  show am_W G mt_X1_staleSet 2 _ _ 0 [(0, .ref o)] [] (am_hh m r)
  refine am_steps ck_X1_staleSet 4 (pc' := 4) (lv' := [(2, .int (am_i 0)), (1, .int (am_i 0)), (0, .ref o)]) (st' := []) rfl ?_
  refine am_subp [2, 1, 0] rfl ?_
  refine x_X1_staleSet_4 hL hO am_F _ _ hm (fun u6 hm => ?_)
  refine am_steps ck_X1_staleSet 1 (pc' := 40) (lv' := [(1, .int u6)]) (st' := [.int u6]) rfl ?_
  cases hm
  exact am_end (am_fd ck_X1_staleSet (pc := 40) rfl) am_rI rfl rfl
set_option maxRecDepth 100000 in
set_option maxHeartbeats 4000000 in
theorem x_X5_addTo_2 {G : am_G} {a1 : Nat} {a2 : Nat} {r : am_rr} {res : am_m} {k : am_m → Option (am_m)} (hL : am_Lay r) (ha1 : am_k a1 11 64) (ha2 : am_k a2 11 64) : ∀ (n : Nat) (z2 : Int32) (m : am_m), m_X5_addTo_2 a1 a2 k n z2 m = some res → (∀ (m1 : am_m), k m1 = some res → am_W G mt_X5_addTo 1 none (am_hh res r) 23 [] [] (am_hh m1 r)) → am_W G mt_X5_addTo 1 none (am_hh res r) 2 [(0, .ref a1), (1, .ref a2), (2, .int z2)] [] (am_hh m r) := by
  intro n
  induction n with
  | zero => intro z2 m hm K; cases hm
  | succ n ih =>
    intro z2 m hm K
    unfold m_X5_addTo_2 at hm
    refine am_steps ck_X5_addTo 2 (pc' := 5) (lv' := [(0, .ref a1), (1, .ref a2), (2, .int z2)]) (st' := [.int (am_i 64), .int z2]) rfl ?_
    refine am_icmp (tgt := 23) (am_fd ck_X5_addTo (pc := 5) rfl) rfl (fun hc1 => ?_) (fun hc1 => ?_)
    · replace hm := am_it hm hc1
      refine am_subp [] rfl ?_
      exact K _ hm
    · replace hm := am_if hm hc1
      refine am_steps ck_X5_addTo 3 (pc' := 11) (lv' := [(0, .ref a1), (1, .ref a2), (2, .int z2)]) (st' := [.int z2, .ref a1, .int z2, .ref a1]) rfl ?_
      obtain ⟨hb2, hm⟩ := am_gE hm
      refine ms_iald (n := 64) (am_fd ck_X5_addTo (pc := 11) rfl) ha1 hb2 ?_
      refine am_steps ck_X5_addTo 2 (pc' := 14) (lv' := [(0, .ref a1), (1, .ref a2), (2, .int z2)]) (st' := [.int z2, .ref a2, .int (m a1 (am_ix z2)), .int z2, .ref a1]) rfl ?_
      obtain ⟨hb3, hm⟩ := am_gE hm
      refine ms_iald (n := 64) (am_fd ck_X5_addTo (pc := 14) rfl) ha2 hb3 ?_
      refine am_steps ck_X5_addTo 1 (pc' := 16) (lv' := [(0, .ref a1), (1, .ref a2), (2, .int z2)]) (st' := [.int ((m a1 (am_ix z2)) + (m a2 (am_ix z2))), .int z2, .ref a1]) rfl ?_
      obtain ⟨hb4, hm⟩ := am_gE hm
      refine ms_iast (n := 64) (am_fd ck_X5_addTo (pc := 16) rfl) ha1 hb4 (fun m5 em5 => ?_)
      replace hm := am_letE em5 hm
      refine am_steps ck_X5_addTo 2 (pc' := 2) (lv' := [(2, .int (z2 + am_i 1)), (0, .ref a1), (1, .ref a2)]) (st' := []) rfl ?_
      refine am_subp [1, 2, 0] rfl ?_
      exact ih _ _ hm K
set_option maxRecDepth 100000 in
set_option maxHeartbeats 4000000 in
theorem x_X5_addTo {G : am_G} {m : am_m} {r : am_rr} {a1 : Nat} {a2 : Nat} {res : am_m} (hL : am_Lay r) (ha1 : am_k a1 11 64) (ha2 : am_k a2 11 64) (hm : m_X5_addTo m a1 a2 = some res) : am_Met G mt_X5_addTo 1 [.ref a1, .ref a2] (am_hh m r) none (am_hh res r) := by
  refine am_of (by decide) (Nat.le_of_ble_eq_true rfl) ?_
  unfold m_X5_addTo at hm
  show am_W G mt_X5_addTo 1 _ _ 0 [(0, .ref a1), (1, .ref a2)] [] (am_hh m r)
  refine am_steps ck_X5_addTo 2 (pc' := 2) (lv' := [(2, .int (am_i 0)), (0, .ref a1), (1, .ref a2)]) (st' := []) rfl ?_
  refine am_subp [1, 2, 0] rfl ?_
  refine x_X5_addTo_2 hL ha1 ha2 am_F _ _ hm (fun m6 hm => ?_)
  cases hm
  exact am_end (am_fd ck_X5_addTo (pc := 23) rfl) am_rV rfl rfl
set_option maxRecDepth 100000 in
set_option maxHeartbeats 4000000 in
theorem x_X1_sumBranches_2 {G : am_G} {o : Nat} {r : am_rr} {res : am_m} {k : am_m → Option (am_m)} (hL : am_Lay r) (hO : am_og o) : ∀ (n : Nat) (z2 : Int32) (m : am_m), m_X1_sumBranches_2 o k n z2 m = some res → (∀ (m1 : am_m), k m1 = some res → am_W G mt_X1_sumBranches 4 none (am_hh res r) 30 [(0, .ref o), (1, .ref 2988)] [] (am_hh m1 r)) → am_W G mt_X1_sumBranches 4 none (am_hh res r) 2 [(0, .ref o), (1, .ref 2988), (2, .int z2)] [] (am_hh m r) := by
  intro n
  induction n with
  | zero => intro z2 m hm K; cases hm
  | succ n ih =>
    intro z2 m hm K
    unfold m_X1_sumBranches_2 at hm
    refine am_steps ck_X1_sumBranches 2 (pc' := 5) (lv' := [(0, .ref o), (1, .ref 2988), (2, .int z2)]) (st' := [.int (am_i 24), .int z2]) rfl ?_
    refine am_icmp (tgt := 30) (am_fd ck_X1_sumBranches (pc := 5) rfl) rfl (fun hc1 => ?_) (fun hc1 => ?_)
    · replace hm := am_it hm hc1
      refine am_subp [0, 1] rfl ?_
      exact K _ hm
    · replace hm := am_if hm hc1
      refine am_steps ck_X1_sumBranches 1 (pc' := 9) (lv' := [(0, .ref o), (1, .ref 2988), (2, .int z2)]) (st' := [.ref o]) rfl ?_
      refine ms_getr (ci := 1) (k := 2) (v := (o + 3)) (am_fd ck_X1_sumBranches (pc := 9) rfl) tw_42 (kO hO) rfl (lyO2 hL hO) (kWo hO) ?_
      refine am_steps ck_X1_sumBranches 1 (pc' := 13) (lv' := [(0, .ref o), (1, .ref 2988), (2, .int z2)]) (st' := [.int z2, .ref (o + 3)]) rfl ?_
      obtain ⟨hb2, hm⟩ := am_gE hm
      refine ms_rald (n := 24) (v := (aW o (am_ix z2))) (am_fd ck_X1_sumBranches (pc := 13) rfl) (kWo hO) hb2 (lyW hL hO (am_ixl hb2)) (kW hO (am_ixl hb2)) ?_
      refine am_steps ck_X1_sumBranches 3 (pc' := 17) (lv' := [(0, .ref o), (1, .ref 2988), (2, .int z2)]) (st' := [.int z2, .ref 2988, .int (am_i 0), .ref (aW o (am_ix z2))]) rfl ?_
      obtain ⟨hb3, hm⟩ := am_gE hm
      refine ms_rald (n := 24) (v := (aR (am_ix z2))) (am_fd ck_X1_sumBranches (pc := 17) rfl) kc_2988 hb3 (hL.2.1 _ (am_ixl hb3)) (am_rw _ (am_ixl hb3)) ?_
      refine am_steps ck_X1_sumBranches 2 (pc' := 21) (lv' := [(0, .ref o), (1, .ref 2988), (2, .int z2)]) (st' := [.int (am_i 64), .int (am_i 0), .ref (aR (am_ix z2)), .int (am_i 0), .ref (aW o (am_ix z2))]) rfl ?_
      obtain ⟨hb4, hm⟩ := am_gE hm
      refine ms_copy (n1 := 64) (n2 := 64) (Or.inl rfl) (am_fd ck_X1_sumBranches (pc := 21) rfl) tw_246 tw_248 tw_247 tw_10 (kW hO (am_ixl hb2)) (am_rw _ (am_ixl hb3)) hb4 am_i11 (Nat.le_of_ble_eq_true rfl) (Nat.le_of_ble_eq_true rfl) (fun m5 em5 => ?_)
      replace hm := am_letE em5 hm
      refine am_steps ck_X1_sumBranches 2 (pc' := 2) (lv' := [(2, .int (z2 + am_i 1)), (0, .ref o), (1, .ref 2988)]) (st' := []) rfl ?_
      refine am_subp [1, 2, 0] rfl ?_
      exact ih _ _ hm K
set_option maxRecDepth 100000 in
set_option maxHeartbeats 4000000 in
theorem x_X1_sumBranches_39 {G : am_G} {o : Nat} {r : am_rr} {y2 : Int32} {res : am_m} {k : am_m → Option (am_m)} (hL : am_Lay r) (hO : am_og o) : ∀ (n : Nat) (z3 : Int32) (m : am_m), m_X1_sumBranches_39 o y2 k n z3 m = some res → (∀ (m1 : am_m), k m1 = some res → am_W G mt_X1_sumBranches 4 none (am_hh res r) 86 [(0, .ref o), (1, .ref 2988), (2, .int y2)] [] (am_hh m1 r)) → am_W G mt_X1_sumBranches 4 none (am_hh res r) 39 [(0, .ref o), (1, .ref 2988), (2, .int y2), (3, .int z3)] [] (am_hh m r) := by
  intro n
  induction n with
  | zero => intro z3 m hm K; cases hm
  | succ n ih =>
    intro z3 m hm K
    unfold m_X1_sumBranches_39 at hm
    refine am_steps ck_X1_sumBranches 2 (pc' := 42) (lv' := [(0, .ref o), (1, .ref 2988), (2, .int y2), (3, .int z3)]) (st' := [.int (am_i 24), .int z3]) rfl ?_
    refine am_icmp (tgt := 86) (am_fd ck_X1_sumBranches (pc := 42) rfl) rfl (fun hc8 => ?_) (fun hc8 => ?_)
    · replace hm := am_it hm hc8
      refine am_subp [0, 1, 2] rfl ?_
      exact K _ hm
    · replace hm := am_if hm hc8
      refine am_steps ck_X1_sumBranches 2 (pc' := 47) (lv' := [(0, .ref o), (1, .ref 2988), (2, .int y2), (3, .int z3)]) (st' := [.int z3, .ref o]) rfl ?_
      obtain ⟨q9, hq9, hm⟩ := am_bE hm
      refine ms_callV (M2 := mt_X1_upperOf) (d2 := 2) (ci := 1) [.int z3] (am_fd ck_X1_sumBranches (pc := 47) rfl) ok_X1_upperOf tw_257 tw_258 tw_259 (by decide) (kO hO) (Nat.le_of_ble_eq_true rfl) (Nat.le_of_ble_eq_true rfl) (x_X1_upperOf hL hO hq9) ?_
      refine am_steps ck_X1_sumBranches 3 (pc' := 55) (lv' := [(4, .int q9), (0, .ref o), (1, .ref 2988), (2, .int y2), (3, .int z3)]) (st' := [.int q9, .ref o]) rfl ?_
      obtain ⟨q10, hq10, hm⟩ := am_bE hm
      refine ms_callV (M2 := mt_X1_isThere) (d2 := 1) (ci := 1) [.int q9] (am_fd ck_X1_sumBranches (pc := 55) rfl) ok_X1_isThere tw_256 tw_232 tw_233 (by decide) (kO hO) (Nat.le_of_ble_eq_true rfl) (Nat.le_of_ble_eq_true rfl) (x_X1_isThere hL hO hq10) ?_
      refine am_ifc (tgt := 80) (am_fd ck_X1_sumBranches (pc := 58) rfl) rfl (fun hc11 => ?_) (fun hc11 => ?_)
      · replace hm := am_it hm hc11
        refine am_steps ck_X1_sumBranches 2 (pc' := 39) (lv' := [(3, .int (z3 + am_i 1)), (4, .int q9), (0, .ref o), (1, .ref 2988), (2, .int y2)]) (st' := []) rfl ?_
        refine am_subp [2, 3, 4, 0] rfl ?_
        exact ih _ _ hm K
      · replace hm := am_if hm hc11
        refine am_steps ck_X1_sumBranches 2 (pc' := 63) (lv' := [(4, .int q9), (0, .ref o), (1, .ref 2988), (2, .int y2), (3, .int z3)]) (st' := [.int z3, .ref o]) rfl ?_
        obtain ⟨q12, hq12, hm⟩ := am_bE hm
        refine ms_callV (M2 := mt_X1_depthOf) (d2 := 3) (ci := 1) [.int z3] (am_fd ck_X1_sumBranches (pc := 63) rfl) ok_X1_depthOf tw_330 tw_269 tw_270 (by decide) (kO hO) (Nat.le_of_ble_eq_true rfl) (Nat.le_of_ble_eq_true rfl) (x_X1_depthOf hL hO hq12) ?_
        refine am_steps ck_X1_sumBranches 1 (pc' := 67) (lv' := [(4, .int q9), (0, .ref o), (1, .ref 2988), (2, .int y2), (3, .int z3)]) (st' := [.int y2, .int q12]) rfl ?_
        refine am_icmp (tgt := 80) (am_fd ck_X1_sumBranches (pc := 67) rfl) rfl (fun hc13 => ?_) (fun hc13 => ?_)
        · replace hm := am_it hm hc13
          refine am_steps ck_X1_sumBranches 2 (pc' := 39) (lv' := [(3, .int (z3 + am_i 1)), (4, .int q9), (0, .ref o), (1, .ref 2988), (2, .int y2)]) (st' := []) rfl ?_
          refine am_subp [2, 3, 4, 0] rfl ?_
          exact ih _ _ hm K
        · replace hm := am_if hm hc13
          refine am_steps ck_X1_sumBranches 2 (pc' := 73) (lv' := [(4, .int q9), (0, .ref o), (1, .ref 2988), (2, .int y2), (3, .int z3)]) (st' := [.int q9, .ref 2988]) rfl ?_
          obtain ⟨hb14, hm⟩ := am_gE hm
          refine ms_rald (n := 24) (v := (aR (am_ix q9))) (am_fd ck_X1_sumBranches (pc := 73) rfl) kc_2988 hb14 (hL.2.1 _ (am_ixl hb14)) (am_rw _ (am_ixl hb14)) ?_
          refine am_steps ck_X1_sumBranches 2 (pc' := 76) (lv' := [(4, .int q9), (0, .ref o), (1, .ref 2988), (2, .int y2), (3, .int z3)]) (st' := [.int z3, .ref 2988, .ref (aR (am_ix q9))]) rfl ?_
          obtain ⟨hb15, hm⟩ := am_gE hm
          refine ms_rald (n := 24) (v := (aR (am_ix z3))) (am_fd ck_X1_sumBranches (pc := 76) rfl) kc_2988 hb15 (hL.2.1 _ (am_ixl hb15)) (am_rw _ (am_ixl hb15)) ?_
          obtain ⟨q16, hq16, hm⟩ := am_bE hm
          refine ms_callSv (M2 := mt_X5_addTo) (d2 := 1) [.ref (aR (am_ix q9)), .ref (aR (am_ix z3))] (am_fd ck_X1_sumBranches (pc := 77) rfl) ok_X5_addTo tw_578 tw_395 (Nat.le_of_ble_eq_true rfl) (Nat.le_of_ble_eq_true rfl) (x_X5_addTo hL (am_rw _ (am_ixl hb14)) (am_rw _ (am_ixl hb15)) hq16) ?_
          refine am_steps ck_X1_sumBranches 2 (pc' := 39) (lv' := [(3, .int (z3 + am_i 1)), (4, .int q9), (0, .ref o), (1, .ref 2988), (2, .int y2)]) (st' := []) rfl ?_
          refine am_subp [2, 3, 4, 0] rfl ?_
          exact ih _ _ hm K
set_option maxRecDepth 100000 in
set_option maxHeartbeats 4000000 in
theorem x_X1_sumBranches_33 {G : am_G} {o : Nat} {r : am_rr} {res : am_m} {k : am_m → Option (am_m)} (hL : am_Lay r) (hO : am_og o) : ∀ (n : Nat) (z2 : Int32) (m : am_m), m_X1_sumBranches_33 o k n z2 m = some res → (∀ (m1 : am_m), k m1 = some res → am_W G mt_X1_sumBranches 4 none (am_hh res r) 92 [] [] (am_hh m1 r)) → am_W G mt_X1_sumBranches 4 none (am_hh res r) 33 [(0, .ref o), (1, .ref 2988), (2, .int z2)] [] (am_hh m r) := by
  intro n
  induction n with
  | zero => intro z2 m hm K; cases hm
  | succ n ih =>
    intro z2 m hm K
    unfold m_X1_sumBranches_33 at hm
    refine am_steps ck_X1_sumBranches 1 (pc' := 34) (lv' := [(0, .ref o), (1, .ref 2988), (2, .int z2)]) (st' := [.int z2]) rfl ?_
    refine am_ifc (tgt := 92) (am_fd ck_X1_sumBranches (pc := 34) rfl) rfl (fun hc7 => ?_) (fun hc7 => ?_)
    · replace hm := am_it hm hc7
      refine am_subp [] rfl ?_
      exact K _ hm
    · replace hm := am_if hm hc7
      refine am_steps ck_X1_sumBranches 2 (pc' := 39) (lv' := [(3, .int (am_i 0)), (0, .ref o), (1, .ref 2988), (2, .int z2)]) (st' := []) rfl ?_
      refine am_subp [1, 2, 3, 0] rfl ?_
      refine x_X1_sumBranches_39 hL hO am_F _ _ hm (fun m17 hm => ?_)
      refine am_steps ck_X1_sumBranches 2 (pc' := 33) (lv' := [(2, .int (z2 + am_i (-1))), (0, .ref o), (1, .ref 2988)]) (st' := []) rfl ?_
      refine am_subp [1, 2, 0] rfl ?_
      exact ih _ _ hm K
set_option maxRecDepth 100000 in
set_option maxHeartbeats 4000000 in
theorem x_X1_sumBranches {G : am_G} {m : am_m} {r : am_rr} {o : Nat} {res : am_m} (hL : am_Lay r) (hO : am_og o) (hm : m_X1_sumBranches m o = some res) : am_Met G mt_X1_sumBranches 4 [.ref o, .ref 2988] (am_hh m r) none (am_hh res r) := by
  refine am_of (by decide) (Nat.le_of_ble_eq_true rfl) ?_
  unfold m_X1_sumBranches at hm
  show am_W G mt_X1_sumBranches 4 _ _ 0 [(0, .ref o), (1, .ref 2988)] [] (am_hh m r)
  refine am_steps ck_X1_sumBranches 2 (pc' := 2) (lv' := [(2, .int (am_i 0)), (0, .ref o), (1, .ref 2988)]) (st' := []) rfl ?_
  refine am_subp [1, 2, 0] rfl ?_
  refine x_X1_sumBranches_2 hL hO am_F _ _ hm (fun m6 hm => ?_)
  refine am_steps ck_X1_sumBranches 2 (pc' := 33) (lv' := [(2, .int (am_i 12)), (0, .ref o), (1, .ref 2988)]) (st' := []) rfl ?_
  refine am_subp [1, 2, 0] rfl ?_
  refine x_X1_sumBranches_33 hL hO am_F _ _ hm (fun m18 hm => ?_)
  cases hm
  exact am_end (am_fd ck_X1_sumBranches (pc := 92) rfl) am_rV rfl rfl
set_option maxRecDepth 100000 in
set_option maxHeartbeats 4000000 in
theorem x_X1_hasVersion {G : am_G} {m : am_m} {r : am_rr} {o : Nat} {x1 : Int32} {x2 : Int32} {res : Int32} (hL : am_Lay r) (hO : am_og o) (hm : m_X1_hasVersion m o x1 x2 = some res) : am_Met G mt_X1_hasVersion 2 [.ref o, .int x1, .int x2] (am_hh m r) (some (.int res)) (am_hh m r) := by
  refine am_of (by decide) (Nat.le_of_ble_eq_true rfl) ?_
  unfold m_X1_hasVersion at hm
  show am_W G mt_X1_hasVersion 2 _ _ 0 [(0, .ref o), (1, .int x1), (2, .int x2)] [] (am_hh m r)
  refine am_steps ck_X1_hasVersion 2 (pc' := 2) (lv' := [(0, .ref o), (1, .int x1), (2, .int x2)]) (st' := [.int x1, .ref o]) rfl ?_
  obtain ⟨q1, hq1, hm⟩ := am_bE hm
  refine ms_callV (M2 := mt_X1_isThere) (d2 := 1) (ci := 1) [.int x1] (am_fd ck_X1_hasVersion (pc := 2) rfl) ok_X1_isThere tw_256 tw_232 tw_233 (by decide) (kO hO) (Nat.le_of_ble_eq_true rfl) (Nat.le_of_ble_eq_true rfl) (x_X1_isThere hL hO hq1) ?_
  refine am_ifc (tgt := 26) (am_fd ck_X1_hasVersion (pc := 5) rfl) rfl (fun hc2 => ?_) (fun hc2 => ?_)
  · replace hm := am_it hm hc2
    refine am_steps ck_X1_hasVersion 1 (pc' := 27) (lv' := [(0, .ref o), (1, .int x1), (2, .int x2)]) (st' := [.int (am_i 0)]) rfl ?_
    cases hm
    exact am_end (am_fd ck_X1_hasVersion (pc := 27) rfl) am_rZ0 rfl rfl
  · replace hm := am_if hm hc2
    refine am_steps ck_X1_hasVersion 1 (pc' := 9) (lv' := [(0, .ref o), (1, .int x1), (2, .int x2)]) (st' := [.int x2]) rfl ?_
    refine am_ifc (tgt := 26) (am_fd ck_X1_hasVersion (pc := 9) rfl) rfl (fun hc3 => ?_) (fun hc3 => ?_)
    · replace hm := am_it hm hc3
      refine am_steps ck_X1_hasVersion 1 (pc' := 27) (lv' := [(0, .ref o), (1, .int x1), (2, .int x2)]) (st' := [.int (am_i 0)]) rfl ?_
      cases hm
      exact am_end (am_fd ck_X1_hasVersion (pc := 27) rfl) am_rZ0 rfl rfl
    · replace hm := am_if hm hc3
      refine am_steps ck_X1_hasVersion 2 (pc' := 14) (lv' := [(0, .ref o), (1, .int x1), (2, .int x2)]) (st' := [.ref o, .int x2]) rfl ?_
      refine ms_getr (ci := 1) (k := 4) (v := (aC o)) (am_fd ck_X1_hasVersion (pc := 14) rfl) tw_49 (kO hO) rfl (lyO4 hL hO) (kC hO) ?_
      refine am_steps ck_X1_hasVersion 1 (pc' := 18) (lv' := [(0, .ref o), (1, .int x1), (2, .int x2)]) (st' := [.int x1, .ref (aC o), .int x2]) rfl ?_
      obtain ⟨hb4, hm⟩ := am_gE hm
      refine ms_iald (n := 24) (am_fd ck_X1_hasVersion (pc := 18) rfl) (kC hO) hb4 ?_
      refine am_icmp (tgt := 26) (am_fd ck_X1_hasVersion (pc := 19) rfl) rfl (fun hc5 => ?_) (fun hc5 => ?_)
      · replace hm := am_it hm hc5
        refine am_steps ck_X1_hasVersion 1 (pc' := 27) (lv' := [(0, .ref o), (1, .int x1), (2, .int x2)]) (st' := [.int (am_i 0)]) rfl ?_
        cases hm
        exact am_end (am_fd ck_X1_hasVersion (pc := 27) rfl) am_rZ0 rfl rfl
      · replace hm := am_if hm hc5
        refine am_steps ck_X1_hasVersion 2 (pc' := 27) (lv' := [(0, .ref o), (1, .int x1), (2, .int x2)]) (st' := [.int (am_i 1)]) rfl ?_
        cases hm
        exact am_end (am_fd ck_X1_hasVersion (pc := 27) rfl) am_rZ1 rfl rfl
set_option maxRecDepth 100000 in
set_option maxHeartbeats 4000000 in
theorem x_X1_rolledUp_47 {G : am_G} {o : Nat} {x1 : Int32} {a2 : Nat} {m : am_m} {y1 : Int32} {y3 : Int32} {w4 : Nat} {res : am_m × am_rr} {k : am_rr → Option (am_m × am_rr)} (hO : am_og o) (ha2 : am_k a2 11 64) (hw4 : am_k w4 11 64) : ∀ (n : Nat) (z5 : Int32) (r : am_rr) (hL : am_Lay r), m_X1_rolledUp_47 o x1 a2 m y1 y3 w4 k n z5 r = some res → (∀ (r1 : am_rr), k r1 = some res → am_Lay r1 → am_W G mt_X1_rolledUp 2 none (am_hh res.1 res.2) 75 [(0, .ref o), (1, .int y1), (2, .ref a2), (3, .int y3), (4, .ref w4)] [] (am_hh m r1)) → am_W G mt_X1_rolledUp 2 none (am_hh res.1 res.2) 47 [(0, .ref o), (1, .int y1), (2, .ref a2), (3, .int y3), (4, .ref w4), (5, .int z5)] [] (am_hh m r) := by
  intro n
  induction n with
  | zero => intro z5 r hL hm K; cases hm
  | succ n ih =>
    intro z5 r hL hm K
    unfold m_X1_rolledUp_47 at hm
    refine am_steps ck_X1_rolledUp 2 (pc' := 50) (lv' := [(0, .ref o), (1, .int y1), (2, .ref a2), (3, .int y3), (4, .ref w4), (5, .int z5)]) (st' := [.int y3, .int z5]) rfl ?_
    refine am_icmp (tgt := 75) (am_fd ck_X1_rolledUp (pc := 50) rfl) rfl (fun hc8 => ?_) (fun hc8 => ?_)
    · replace hm := am_it hm hc8
      refine am_subp [0, 1, 2, 3, 4] rfl ?_
      exact K _ hm hL
    · replace hm := am_if hm hc8
      refine am_steps ck_X1_rolledUp 1 (pc' := 54) (lv' := [(0, .ref o), (1, .int y1), (2, .ref a2), (3, .int y3), (4, .ref w4), (5, .int z5)]) (st' := [.ref o]) rfl ?_
      refine ms_getr (ci := 1) (k := 5) (v := (o + 54)) (am_fd ck_X1_rolledUp (pc := 54) rfl) tw_51 (kO hO) rfl (lyO5 hL hO) (kVo hO) ?_
      refine am_steps ck_X1_rolledUp 2 (pc' := 60) (lv' := [(0, .ref o), (1, .int y1), (2, .ref a2), (3, .int y3), (4, .ref w4), (5, .int z5)]) (st' := [.ref o, .int z5, .ref (o + 54)]) rfl ?_
      refine ms_getr (ci := 1) (k := 5) (v := (o + 54)) (am_fd ck_X1_rolledUp (pc := 60) rfl) tw_51 (kO hO) rfl (lyO5 hL hO) (kVo hO) ?_
      refine am_steps ck_X1_rolledUp 3 (pc' := 67) (lv' := [(0, .ref o), (1, .int y1), (2, .ref a2), (3, .int y3), (4, .ref w4), (5, .int z5)]) (st' := [.int (z5 - (am_i 1)), .ref (o + 54), .int z5, .ref (o + 54)]) rfl ?_
      obtain ⟨hb9, hm⟩ := am_gE hm
      obtain ⟨hx10, hx10k⟩ : (∃ w, w < 192 ∧ (r (o + 54) (am_ix (z5 - (am_i 1)))) = o + 55 + w) ∧ am_k (r (o + 54) (am_ix (z5 - (am_i 1)))) 11 64 := ⟨hL.vx hO (am_ixl hb9), hL.v hO (am_ixl hb9)⟩
      refine ms_rald (n := 192) (v := (r (o + 54) (am_ix (z5 - (am_i 1))))) (am_fd ck_X1_rolledUp (pc := 67) rfl) (kVo hO) hb9 rfl hx10k ?_
      obtain ⟨hb11, hm⟩ := am_gE hm
      refine ms_rast (n := 192) (am_fd ck_X1_rolledUp (pc := 68) rfl) (kVo hO) hx10k hb11 (fun r12 er12 => ?_)
      replace hm := am_letE er12 hm
      have hL0 := hL
      replace hL := hL.rast hO hx10 er12
      refine am_steps ck_X1_rolledUp 2 (pc' := 47) (lv' := [(5, .int (z5 + am_i (-1))), (0, .ref o), (1, .int y1), (2, .ref a2), (3, .int y3), (4, .ref w4)]) (st' := []) rfl ?_
      refine am_subp [1, 2, 3, 4, 5, 0] rfl ?_
      exact ih _ _ hL hm K
set_option maxRecDepth 100000 in
set_option maxHeartbeats 4000000 in
theorem x_X1_rolledUp {G : am_G} {m : am_m} {r : am_rr} {o : Nat} {x1 : Int32} {a2 : Nat} {res : am_m × am_rr} (hL : am_Lay r) (hO : am_og o) (ha2 : am_k a2 11 64) (hm : m_X1_rolledUp m r o x1 a2 = some res) : am_Met G mt_X1_rolledUp 2 [.ref o, .int x1, .ref a2] (am_hh m r) none (am_hh res.1 res.2) := by
  refine am_of (by decide) (Nat.le_of_ble_eq_true rfl) ?_
  unfold m_X1_rolledUp at hm
  show am_W G mt_X1_rolledUp 2 _ _ 0 [(0, .ref o), (1, .int x1), (2, .ref a2)] [] (am_hh m r)
  refine am_steps ck_X1_rolledUp 3 (pc' := 3) (lv' := [(0, .ref o), (1, .int x1), (2, .ref a2)]) (st' := [.ref o, .int (am_i 0), .ref a2]) rfl ?_
  refine ms_getr (ci := 1) (k := 3) (v := (o + 28)) (am_fd ck_X1_rolledUp (pc := 3) rfl) tw_46 (kO hO) rfl (lyO3 hL hO) (kXo hO) ?_
  refine am_steps ck_X1_rolledUp 1 (pc' := 7) (lv' := [(0, .ref o), (1, .int x1), (2, .ref a2)]) (st' := [.int x1, .ref (o + 28), .int (am_i 0), .ref a2]) rfl ?_
  obtain ⟨hb1, hm⟩ := am_gE hm
  refine ms_rald (n := 24) (v := (aX o (am_ix x1))) (am_fd ck_X1_rolledUp (pc := 7) rfl) (kXo hO) hb1 (lyX hL hO (am_ixl hb1)) (kX hO (am_ixl hb1)) ?_
  refine am_steps ck_X1_rolledUp 2 (pc' := 11) (lv' := [(0, .ref o), (1, .int x1), (2, .ref a2)]) (st' := [.int (am_i 64), .int (am_i 0), .ref (aX o (am_ix x1)), .int (am_i 0), .ref a2]) rfl ?_
  obtain ⟨hb2, hm⟩ := am_gE hm
  refine ms_copy (n1 := 64) (n2 := 64) (Or.inl rfl) (am_fd ck_X1_rolledUp (pc := 11) rfl) tw_246 tw_248 tw_247 tw_10 ha2 (kX hO (am_ixl hb1)) hb2 am_i11 (Nat.le_of_ble_eq_true rfl) (Nat.le_of_ble_eq_true rfl) (fun m3 em3 => ?_)
  replace hm := am_letE em3 hm
  refine am_steps ck_X1_rolledUp 1 (pc' := 15) (lv' := [(0, .ref o), (1, .int x1), (2, .ref a2)]) (st' := [.ref o]) rfl ?_
  refine ms_getr (ci := 1) (k := 1) (v := (aS o)) (am_fd ck_X1_rolledUp (pc := 15) rfl) tw_38 (kO hO) rfl (lyO1 hL hO) (kS hO) ?_
  refine am_steps ck_X1_rolledUp 2 (pc' := 20) (lv' := [(0, .ref o), (1, .int x1), (2, .ref a2)]) (st' := [.int (am_i 0), .int x1, .ref (aS o)]) rfl ?_
  obtain ⟨hb4, hm⟩ := am_gE hm
  refine ms_zast (n := 24) (am_fd ck_X1_rolledUp (pc := 20) rfl) (kS hO) hb4 (Or.inl am_i0) (fun m5 em5 => ?_)
  replace hm := am_letE em5 hm
  refine am_steps ck_X1_rolledUp 5 (pc' := 27) (lv' := [(3, .int (x1 * (am_i 8))), (0, .ref o), (1, .int x1), (2, .ref a2)]) (st' := [.ref o]) rfl ?_
  refine ms_getr (ci := 1) (k := 5) (v := (o + 54)) (am_fd ck_X1_rolledUp (pc := 27) rfl) tw_51 (kO hO) rfl (lyO5 hL hO) (kVo hO) ?_
  refine am_steps ck_X1_rolledUp 5 (pc' := 36) (lv' := [(3, .int (x1 * (am_i 8))), (0, .ref o), (1, .int x1), (2, .ref a2)]) (st' := [.int (((x1 * (am_i 8)) + (am_i 8)) - (am_i 1)), .ref (o + 54)]) rfl ?_
  obtain ⟨hb6, hm⟩ := am_gE hm
  obtain ⟨hx7, hx7k⟩ : (∃ w, w < 192 ∧ (r (o + 54) (am_ix (((x1 * (am_i 8)) + (am_i 8)) - (am_i 1)))) = o + 55 + w) ∧ am_k (r (o + 54) (am_ix (((x1 * (am_i 8)) + (am_i 8)) - (am_i 1)))) 11 64 := ⟨hL.vx hO (am_ixl hb6), hL.v hO (am_ixl hb6)⟩
  refine ms_rald (n := 192) (v := (r (o + 54) (am_ix (((x1 * (am_i 8)) + (am_i 8)) - (am_i 1))))) (am_fd ck_X1_rolledUp (pc := 36) rfl) (kVo hO) hb6 rfl hx7k ?_
  refine am_steps ck_X1_rolledUp 7 (pc' := 47) (lv' := [(5, .int (((x1 * (am_i 8)) + (am_i 8)) - (am_i 1))), (4, .ref (r (o + 54) (am_ix (((x1 * (am_i 8)) + (am_i 8)) - (am_i 1))))), (3, .int (x1 * (am_i 8))), (0, .ref o), (1, .int x1), (2, .ref a2)]) (st' := []) rfl ?_
  refine am_subp [3, 4, 5, 2, 1, 0] rfl ?_
  refine x_X1_rolledUp_47 hO ha2 hx7k am_F _ _ hL hm (fun r13 hm hL => ?_)
  refine am_steps ck_X1_rolledUp 1 (pc' := 76) (lv' := [(0, .ref o), (1, .int x1), (2, .ref a2), (3, .int (x1 * (am_i 8))), (4, .ref (r (o + 54) (am_ix (((x1 * (am_i 8)) + (am_i 8)) - (am_i 1)))))]) (st' := [.ref o]) rfl ?_
  refine ms_getr (ci := 1) (k := 5) (v := (o + 54)) (am_fd ck_X1_rolledUp (pc := 76) rfl) tw_51 (kO hO) rfl (lyO5 hL hO) (kVo hO) ?_
  refine am_steps ck_X1_rolledUp 2 (pc' := 82) (lv' := [(0, .ref o), (1, .int x1), (2, .ref a2), (3, .int (x1 * (am_i 8))), (4, .ref (r (o + 54) (am_ix (((x1 * (am_i 8)) + (am_i 8)) - (am_i 1)))))]) (st' := [.ref (r (o + 54) (am_ix (((x1 * (am_i 8)) + (am_i 8)) - (am_i 1)))), .int (x1 * (am_i 8)), .ref (o + 54)]) rfl ?_
  obtain ⟨hb14, hm⟩ := am_gE hm
  refine ms_rast (n := 192) (am_fd ck_X1_rolledUp (pc := 82) rfl) (kVo hO) hx7k hb14 (fun r15 er15 => ?_)
  replace hm := am_letE er15 hm
  have hL0 := hL
  replace hL := hL.rast hO hx7 er15
  refine am_steps ck_X1_rolledUp 5 (pc' := 90) (lv' := [(0, .ref o), (1, .int x1), (2, .ref a2), (3, .int (x1 * (am_i 8))), (4, .ref (r (o + 54) (am_ix (((x1 * (am_i 8)) + (am_i 8)) - (am_i 1)))))]) (st' := [.int (am_i 64), .int (am_i 0), .ref (r (o + 54) (am_ix (((x1 * (am_i 8)) + (am_i 8)) - (am_i 1)))), .int (am_i 0), .ref a2]) rfl ?_
  obtain ⟨hb16, hm⟩ := am_gE hm
  refine ms_copy (n1 := 64) (n2 := 64) (Or.inl rfl) (am_fd ck_X1_rolledUp (pc := 90) rfl) tw_246 tw_248 tw_247 tw_10 ha2 hx7k hb16 am_i11 (Nat.le_of_ble_eq_true rfl) (Nat.le_of_ble_eq_true rfl) (fun m17 em17 => ?_)
  replace hm := am_letE em17 hm
  refine am_steps ck_X1_rolledUp 1 (pc' := 94) (lv' := [(0, .ref o), (1, .int x1), (2, .ref a2), (3, .int (x1 * (am_i 8))), (4, .ref (r (o + 54) (am_ix (((x1 * (am_i 8)) + (am_i 8)) - (am_i 1)))))]) (st' := [.ref o]) rfl ?_
  refine ms_getr (ci := 1) (k := 4) (v := (aC o)) (am_fd ck_X1_rolledUp (pc := 94) rfl) tw_49 (kO hO) rfl (lyO4 hL hO) (kC hO) ?_
  refine am_steps ck_X1_rolledUp 2 (pc' := 99) (lv' := [(0, .ref o), (1, .int x1), (2, .ref a2), (3, .int (x1 * (am_i 8))), (4, .ref (r (o + 54) (am_ix (((x1 * (am_i 8)) + (am_i 8)) - (am_i 1)))))]) (st' := [.ref o, .int x1, .ref (aC o)]) rfl ?_
  refine ms_getr (ci := 1) (k := 4) (v := (aC o)) (am_fd ck_X1_rolledUp (pc := 99) rfl) tw_49 (kO hO) rfl (lyO4 hL hO) (kC hO) ?_
  refine am_steps ck_X1_rolledUp 1 (pc' := 103) (lv' := [(0, .ref o), (1, .int x1), (2, .ref a2), (3, .int (x1 * (am_i 8))), (4, .ref (r (o + 54) (am_ix (((x1 * (am_i 8)) + (am_i 8)) - (am_i 1)))))]) (st' := [.int x1, .ref (aC o), .int x1, .ref (aC o)]) rfl ?_
  obtain ⟨hb18, hm⟩ := am_gE hm
  refine ms_iald (n := 24) (am_fd ck_X1_rolledUp (pc := 103) rfl) (kC hO) hb18 ?_
  refine am_steps ck_X1_rolledUp 3 (pc' := 108) (lv' := [(0, .ref o), (1, .int x1), (2, .ref a2), (3, .int (x1 * (am_i 8))), (4, .ref (r (o + 54) (am_ix (((x1 * (am_i 8)) + (am_i 8)) - (am_i 1)))))]) (st' := [.int (am_i 8), .int ((m17 (aC o) (am_ix x1)) + (am_i 1)), .int x1, .ref (aC o)]) rfl ?_
  refine am_mmin (am_fd ck_X1_rolledUp (pc := 108) rfl) tw_401 mth_min_s mth_ini mth_min_c (Nat.le_of_ble_eq_true rfl) (Nat.le_of_ble_eq_true rfl) ?_
  obtain ⟨hb19, hm⟩ := am_gE hm
  refine ms_iast (n := 24) (am_fd ck_X1_rolledUp (pc := 111) rfl) (kC hO) hb19 (fun m20 em20 => ?_)
  replace hm := am_letE em20 hm
  cases hm
  exact am_end (am_fd ck_X1_rolledUp (pc := 112) rfl) am_rV rfl rfl
set_option maxRecDepth 100000 in
set_option maxHeartbeats 4000000 in
theorem x_X2_keep {G : am_G} {m : am_m} {r : am_rr} {o1 : Nat} {res : am_m} (hL : am_Lay r) (hO1 : am_og o1) (hm : m_X2_keep m r o1 = some res) : am_Met G mt_X2_keep 3 [.ref 498, .ref o1] (am_hh m r) none (am_hh res r) := by
  refine am_of (by decide) (Nat.le_of_ble_eq_true rfl) ?_
  unfold m_X2_keep at hm
  show am_W G mt_X2_keep 3 _ _ 0 [(0, .ref 498), (1, .ref o1)] [] (am_hh m r)
  refine am_steps ck_X2_keep 1 (pc' := 1) (lv' := [(0, .ref 498), (1, .ref o1)]) (st' := [.ref 498]) rfl ?_
  refine ms_getr (ci := 2) (k := 0) (v := 499) (am_fd ck_X2_keep (pc := 1) rfl) tw_77 kc_498 rfl (ly_498_0 hL) kc_499 ?_
  refine am_steps ck_X2_keep 1 (pc' := 5) (lv' := [(0, .ref 498), (1, .ref o1)]) (st' := [.ref 498, .ref 499]) rfl ?_
  refine ms_geti (ci := 2) (k := 1) (am_fd ck_X2_keep (pc := 5) rfl) tw_78 kc_498 rfl ?_
  obtain ⟨hb1, hm⟩ := am_gE hm
  refine ms_oald (n := 10) (v := (500 + 247 * (am_ix (m 498 1)))) (am_fd ck_X2_keep (pc := 8) rfl) kc_499 hb1 (hL.2.2.1 _ (am_ixl hb1)) (kO (Or.inr (Or.inr (Or.inr ⟨_, (am_ixl hb1), rfl⟩)))) ?_
  refine am_steps ck_X2_keep 2 (pc' := 11) (lv' := [(2, .ref (500 + 247 * (am_ix (m 498 1)))), (0, .ref 498), (1, .ref o1)]) (st' := [.ref (500 + 247 * (am_ix (m 498 1)))]) rfl ?_
  refine am_ifnn (tgt := 15) (am_fd ck_X2_keep (pc := 11) rfl) rfl ?_
  refine am_steps ck_X2_keep 2 (pc' := 17) (lv' := [(2, .ref (500 + 247 * (am_ix (m 498 1)))), (0, .ref 498), (1, .ref o1)]) (st' := [.ref o1, .ref (500 + 247 * (am_ix (m 498 1)))]) rfl ?_
  obtain ⟨q2, hq2, hm⟩ := am_bE hm
  refine ms_callVv (M2 := mt_X1_takeOver) (d2 := 2) (ci := 1) [.ref o1] (am_fd ck_X2_keep (pc := 17) rfl) ok_X1_takeOver tw_242 tw_243 tw_244 (by decide) (kO (Or.inr (Or.inr (Or.inr ⟨_, (am_ixl hb1), rfl⟩)))) (Nat.le_of_ble_eq_true rfl) (Nat.le_of_ble_eq_true rfl) (x_X1_takeOver hL (Or.inr (Or.inr (Or.inr ⟨_, (am_ixl hb1), rfl⟩))) hO1 hq2) ?_
  refine am_steps ck_X2_keep 2 (pc' := 22) (lv' := [(2, .ref (500 + 247 * (am_ix (m 498 1)))), (0, .ref 498), (1, .ref o1)]) (st' := [.ref 498, .ref 498]) rfl ?_
  refine ms_geti (ci := 2) (k := 1) (am_fd ck_X2_keep (pc := 22) rfl) tw_78 kc_498 rfl ?_
  refine am_steps ck_X2_keep 3 (pc' := 29) (lv' := [(2, .ref (500 + 247 * (am_ix (m 498 1)))), (0, .ref 498), (1, .ref o1)]) (st' := [.int (am_i 10), .int ((q2 498 1) + (am_i 1)), .ref 498]) rfl ?_
  refine am_irem (am_fd ck_X2_keep (pc := 29) rfl) (by decide) ?_
  refine ms_puti (ci := 2) (k := 1) (am_fd ck_X2_keep (pc := 30) rfl) tw_78 kc_498 rfl rfl (fun m3 em3 => ?_)
  replace hm := am_letE em3 hm
  refine am_steps ck_X2_keep 2 (pc' := 35) (lv' := [(2, .ref (500 + 247 * (am_ix (m 498 1)))), (0, .ref 498), (1, .ref o1)]) (st' := [.ref 498, .ref 498]) rfl ?_
  refine ms_geti (ci := 2) (k := 2) (am_fd ck_X2_keep (pc := 35) rfl) tw_79 kc_498 rfl ?_
  refine am_steps ck_X2_keep 3 (pc' := 42) (lv' := [(2, .ref (500 + 247 * (am_ix (m 498 1)))), (0, .ref 498), (1, .ref o1)]) (st' := [.int (am_i 10), .int ((m3 498 2) + (am_i 1)), .ref 498]) rfl ?_
  refine am_mmin (am_fd ck_X2_keep (pc := 42) rfl) tw_249 mth_min_s mth_ini mth_min_c (Nat.le_of_ble_eq_true rfl) (Nat.le_of_ble_eq_true rfl) ?_
  refine ms_puti (ci := 2) (k := 2) (am_fd ck_X2_keep (pc := 45) rfl) tw_79 kc_498 rfl rfl (fun m4 em4 => ?_)
  replace hm := am_letE em4 hm
  cases hm
  exact am_end (am_fd ck_X2_keep (pc := 48) rfl) am_rV rfl rfl
set_option maxRecDepth 100000 in
set_option maxHeartbeats 4000000 in
theorem x_X2_takeBack {G : am_G} {m : am_m} {r : am_rr} {o1 : Nat} {res : Int32 × am_m} (hL : am_Lay r) (hO1 : am_og o1) (hm : m_X2_takeBack m r o1 = some res) : am_Met G mt_X2_takeBack 3 [.ref 498, .ref o1] (am_hh m r) (some (.int res.1)) (am_hh res.2 r) := by
  refine am_of (by decide) (Nat.le_of_ble_eq_true rfl) ?_
  unfold m_X2_takeBack at hm
  show am_W G mt_X2_takeBack 3 _ _ 0 [(0, .ref 498), (1, .ref o1)] [] (am_hh m r)
  refine am_steps ck_X2_takeBack 1 (pc' := 1) (lv' := [(0, .ref 498), (1, .ref o1)]) (st' := [.ref 498]) rfl ?_
  refine ms_geti (ci := 2) (k := 1) (am_fd ck_X2_takeBack (pc := 1) rfl) tw_78 kc_498 rfl ?_
  refine am_steps ck_X2_takeBack 5 (pc' := 11) (lv' := [(0, .ref 498), (1, .ref o1)]) (st' := [.int (am_i 10), .int (((m 498 1) + (am_i 10)) - (am_i 1))]) rfl ?_
  refine am_irem (am_fd ck_X2_takeBack (pc := 11) rfl) (by decide) ?_
  refine am_steps ck_X2_takeBack 2 (pc' := 14) (lv' := [(2, .int ((((m 498 1) + (am_i 10)) - (am_i 1)) - (((m 498 1) + (am_i 10)) - (am_i 1)) / (am_i 10) * (am_i 10))), (0, .ref 498), (1, .ref o1)]) (st' := [.ref 498]) rfl ?_
  refine ms_getr (ci := 2) (k := 0) (v := 499) (am_fd ck_X2_takeBack (pc := 14) rfl) tw_77 kc_498 rfl (ly_498_0 hL) kc_499 ?_
  refine am_steps ck_X2_takeBack 1 (pc' := 18) (lv' := [(2, .int ((((m 498 1) + (am_i 10)) - (am_i 1)) - (((m 498 1) + (am_i 10)) - (am_i 1)) / (am_i 10) * (am_i 10))), (0, .ref 498), (1, .ref o1)]) (st' := [.int ((((m 498 1) + (am_i 10)) - (am_i 1)) - (((m 498 1) + (am_i 10)) - (am_i 1)) / (am_i 10) * (am_i 10)), .ref 499]) rfl ?_
  obtain ⟨hb1, hm⟩ := am_gE hm
  refine ms_oald (n := 10) (v := (500 + 247 * (am_ix ((((m 498 1) + (am_i 10)) - (am_i 1)) - (((m 498 1) + (am_i 10)) - (am_i 1)) / (am_i 10) * (am_i 10))))) (am_fd ck_X2_takeBack (pc := 18) rfl) kc_499 hb1 (hL.2.2.1 _ (am_ixl hb1)) (kO (Or.inr (Or.inr (Or.inr ⟨_, (am_ixl hb1), rfl⟩)))) ?_
  refine am_steps ck_X2_takeBack 2 (pc' := 21) (lv' := [(3, .ref (500 + 247 * (am_ix ((((m 498 1) + (am_i 10)) - (am_i 1)) - (((m 498 1) + (am_i 10)) - (am_i 1)) / (am_i 10) * (am_i 10))))), (2, .int ((((m 498 1) + (am_i 10)) - (am_i 1)) - (((m 498 1) + (am_i 10)) - (am_i 1)) / (am_i 10) * (am_i 10))), (0, .ref 498), (1, .ref o1)]) (st' := [.ref 498]) rfl ?_
  refine ms_geti (ci := 2) (k := 2) (am_fd ck_X2_takeBack (pc := 21) rfl) tw_79 kc_498 rfl ?_
  refine am_ifc (tgt := 31) (am_fd ck_X2_takeBack (pc := 24) rfl) rfl (fun hc2 => ?_) (fun hc2 => ?_)
  · replace hm := am_it hm hc2
    refine am_steps ck_X2_takeBack 1 (pc' := 32) (lv' := [(3, .ref (500 + 247 * (am_ix ((((m 498 1) + (am_i 10)) - (am_i 1)) - (((m 498 1) + (am_i 10)) - (am_i 1)) / (am_i 10) * (am_i 10))))), (2, .int ((((m 498 1) + (am_i 10)) - (am_i 1)) - (((m 498 1) + (am_i 10)) - (am_i 1)) / (am_i 10) * (am_i 10))), (0, .ref 498), (1, .ref o1)]) (st' := [.int (am_i 0)]) rfl ?_
    cases hm
    exact am_end (am_fd ck_X2_takeBack (pc := 32) rfl) am_rZ0 rfl rfl
  · replace hm := am_if hm hc2
    refine am_steps ck_X2_takeBack 1 (pc' := 28) (lv' := [(3, .ref (500 + 247 * (am_ix ((((m 498 1) + (am_i 10)) - (am_i 1)) - (((m 498 1) + (am_i 10)) - (am_i 1)) / (am_i 10) * (am_i 10))))), (2, .int ((((m 498 1) + (am_i 10)) - (am_i 1)) - (((m 498 1) + (am_i 10)) - (am_i 1)) / (am_i 10) * (am_i 10))), (0, .ref 498), (1, .ref o1)]) (st' := [.ref (500 + 247 * (am_ix ((((m 498 1) + (am_i 10)) - (am_i 1)) - (((m 498 1) + (am_i 10)) - (am_i 1)) / (am_i 10) * (am_i 10))))]) rfl ?_
    refine am_ifnn (tgt := 33) (am_fd ck_X2_takeBack (pc := 28) rfl) rfl ?_
    refine am_steps ck_X2_takeBack 2 (pc' := 35) (lv' := [(3, .ref (500 + 247 * (am_ix ((((m 498 1) + (am_i 10)) - (am_i 1)) - (((m 498 1) + (am_i 10)) - (am_i 1)) / (am_i 10) * (am_i 10))))), (2, .int ((((m 498 1) + (am_i 10)) - (am_i 1)) - (((m 498 1) + (am_i 10)) - (am_i 1)) / (am_i 10) * (am_i 10))), (0, .ref 498), (1, .ref o1)]) (st' := [.ref (500 + 247 * (am_ix ((((m 498 1) + (am_i 10)) - (am_i 1)) - (((m 498 1) + (am_i 10)) - (am_i 1)) / (am_i 10) * (am_i 10)))), .ref o1]) rfl ?_
    obtain ⟨q3, hq3, hm⟩ := am_bE hm
    refine ms_callVv (M2 := mt_X1_takeOver) (d2 := 2) (ci := 1) [.ref (500 + 247 * (am_ix ((((m 498 1) + (am_i 10)) - (am_i 1)) - (((m 498 1) + (am_i 10)) - (am_i 1)) / (am_i 10) * (am_i 10))))] (am_fd ck_X2_takeBack (pc := 35) rfl) ok_X1_takeOver tw_242 tw_243 tw_244 (by decide) (kO hO1) (Nat.le_of_ble_eq_true rfl) (Nat.le_of_ble_eq_true rfl) (x_X1_takeOver hL hO1 (Or.inr (Or.inr (Or.inr ⟨_, (am_ixl hb1), rfl⟩))) hq3) ?_
    refine am_steps ck_X2_takeBack 2 (pc' := 40) (lv' := [(3, .ref (500 + 247 * (am_ix ((((m 498 1) + (am_i 10)) - (am_i 1)) - (((m 498 1) + (am_i 10)) - (am_i 1)) / (am_i 10) * (am_i 10))))), (2, .int ((((m 498 1) + (am_i 10)) - (am_i 1)) - (((m 498 1) + (am_i 10)) - (am_i 1)) / (am_i 10) * (am_i 10))), (0, .ref 498), (1, .ref o1)]) (st' := [.int ((((m 498 1) + (am_i 10)) - (am_i 1)) - (((m 498 1) + (am_i 10)) - (am_i 1)) / (am_i 10) * (am_i 10)), .ref 498]) rfl ?_
    refine ms_puti (ci := 2) (k := 1) (am_fd ck_X2_takeBack (pc := 40) rfl) tw_78 kc_498 rfl rfl (fun m4 em4 => ?_)
    replace hm := am_letE em4 hm
    refine am_steps ck_X2_takeBack 2 (pc' := 45) (lv' := [(3, .ref (500 + 247 * (am_ix ((((m 498 1) + (am_i 10)) - (am_i 1)) - (((m 498 1) + (am_i 10)) - (am_i 1)) / (am_i 10) * (am_i 10))))), (2, .int ((((m 498 1) + (am_i 10)) - (am_i 1)) - (((m 498 1) + (am_i 10)) - (am_i 1)) / (am_i 10) * (am_i 10))), (0, .ref 498), (1, .ref o1)]) (st' := [.ref 498, .ref 498]) rfl ?_
    refine ms_geti (ci := 2) (k := 2) (am_fd ck_X2_takeBack (pc := 45) rfl) tw_79 kc_498 rfl ?_
    refine am_steps ck_X2_takeBack 2 (pc' := 50) (lv' := [(3, .ref (500 + 247 * (am_ix ((((m 498 1) + (am_i 10)) - (am_i 1)) - (((m 498 1) + (am_i 10)) - (am_i 1)) / (am_i 10) * (am_i 10))))), (2, .int ((((m 498 1) + (am_i 10)) - (am_i 1)) - (((m 498 1) + (am_i 10)) - (am_i 1)) / (am_i 10) * (am_i 10))), (0, .ref 498), (1, .ref o1)]) (st' := [.int ((m4 498 2) - (am_i 1)), .ref 498]) rfl ?_
    refine ms_puti (ci := 2) (k := 2) (am_fd ck_X2_takeBack (pc := 50) rfl) tw_79 kc_498 rfl rfl (fun m5 em5 => ?_)
    replace hm := am_letE em5 hm
    refine am_steps ck_X2_takeBack 1 (pc' := 54) (lv' := [(3, .ref (500 + 247 * (am_ix ((((m 498 1) + (am_i 10)) - (am_i 1)) - (((m 498 1) + (am_i 10)) - (am_i 1)) / (am_i 10) * (am_i 10))))), (2, .int ((((m 498 1) + (am_i 10)) - (am_i 1)) - (((m 498 1) + (am_i 10)) - (am_i 1)) / (am_i 10) * (am_i 10))), (0, .ref 498), (1, .ref o1)]) (st' := [.int (am_i 1)]) rfl ?_
    cases hm
    exact am_end (am_fd ck_X2_takeBack (pc := 54) rfl) am_rZ1 rfl rfl
set_option maxRecDepth 100000 in
set_option maxHeartbeats 4000000 in
theorem x_X2_forget {G : am_G} {m : am_m} {r : am_rr} {res : am_m} (hL : am_Lay r) (hm : m_X2_forget m  = some res) : am_Met G mt_X2_forget 1 [.ref 498] (am_hh m r) none (am_hh res r) := by
  refine am_of (by decide) (Nat.le_of_ble_eq_true rfl) ?_
  unfold m_X2_forget at hm
  show am_W G mt_X2_forget 1 _ _ 0 [(0, .ref 498)] [] (am_hh m r)
  refine am_steps ck_X2_forget 2 (pc' := 2) (lv' := [(0, .ref 498)]) (st' := [.int (am_i 0), .ref 498]) rfl ?_
  refine ms_puti (ci := 2) (k := 2) (am_fd ck_X2_forget (pc := 2) rfl) tw_79 kc_498 rfl rfl (fun m1 em1 => ?_)
  replace hm := am_letE em1 hm
  cases hm
  exact am_end (am_fd ck_X2_forget (pc := 5) rfl) am_rV rfl rfl
set_option maxRecDepth 100000 in
set_option maxHeartbeats 4000000 in
theorem x_X3_clear {G : am_G} {m : am_m} {r : am_rr} {res : am_m} (hL : am_Lay r) (hm : m_X3_clear m  = some res) : am_Met G mt_X3_clear 1 [.ref 2986] (am_hh m r) none (am_hh res r) := by
  refine am_of (by decide) (Nat.le_of_ble_eq_true rfl) ?_
  unfold m_X3_clear at hm
  show am_W G mt_X3_clear 1 _ _ 0 [(0, .ref 2986)] [] (am_hh m r)
  refine am_steps ck_X3_clear 2 (pc' := 2) (lv' := [(0, .ref 2986)]) (st' := [.int (am_i 0), .ref 2986]) rfl ?_
  refine ms_puti (ci := 3) (k := 1) (am_fd ck_X3_clear (pc := 2) rfl) tw_182 kc_2986 rfl rfl (fun m1 em1 => ?_)
  replace hm := am_letE em1 hm
  cases hm
  exact am_end (am_fd ck_X3_clear (pc := 5) rfl) am_rV rfl rfl
set_option maxRecDepth 100000 in
set_option maxHeartbeats 4000000 in
theorem x_X3_signAt {G : am_G} {m : am_m} {r : am_rr} {x1 : Int32} {res : Int32} (hL : am_Lay r) (hm : m_X3_signAt m x1 = some res) : am_Met G mt_X3_signAt 1 [.ref 2986, .int x1] (am_hh m r) (some (.int res)) (am_hh m r) := by
  refine am_of (by decide) (Nat.le_of_ble_eq_true rfl) ?_
  unfold m_X3_signAt at hm
  show am_W G mt_X3_signAt 1 _ _ 0 [(0, .ref 2986), (1, .int x1)] [] (am_hh m r)
  refine am_steps ck_X3_signAt 1 (pc' := 1) (lv' := [(0, .ref 2986), (1, .int x1)]) (st' := [.int x1]) rfl ?_
  refine am_ifc (tgt := 27) (am_fd ck_X3_signAt (pc := 1) rfl) rfl (fun hc1 => ?_) (fun hc1 => ?_)
  · replace hm := am_it hm hc1
    refine am_steps ck_X3_signAt 1 (pc' := 28) (lv' := [(0, .ref 2986), (1, .int x1)]) (st' := [.int (am_i (-1))]) rfl ?_
    cases hm
    exact am_end (am_fd ck_X3_signAt (pc := 28) rfl) am_rI rfl rfl
  · replace hm := am_if hm hc1
    refine am_steps ck_X3_signAt 2 (pc' := 6) (lv' := [(0, .ref 2986), (1, .int x1)]) (st' := [.ref 2986, .int x1]) rfl ?_
    refine ms_geti (ci := 3) (k := 1) (am_fd ck_X3_signAt (pc := 6) rfl) tw_182 kc_2986 rfl ?_
    refine am_icmp (tgt := 27) (am_fd ck_X3_signAt (pc := 9) rfl) rfl (fun hc2 => ?_) (fun hc2 => ?_)
    · replace hm := am_it hm hc2
      refine am_steps ck_X3_signAt 1 (pc' := 28) (lv' := [(0, .ref 2986), (1, .int x1)]) (st' := [.int (am_i (-1))]) rfl ?_
      cases hm
      exact am_end (am_fd ck_X3_signAt (pc := 28) rfl) am_rI rfl rfl
    · replace hm := am_if hm hc2
      refine am_steps ck_X3_signAt 2 (pc' := 15) (lv' := [(0, .ref 2986), (1, .int x1)]) (st' := [.int (am_i 64), .int x1]) rfl ?_
      refine am_icmp (tgt := 27) (am_fd ck_X3_signAt (pc := 15) rfl) rfl (fun hc3 => ?_) (fun hc3 => ?_)
      · replace hm := am_it hm hc3
        refine am_steps ck_X3_signAt 1 (pc' := 28) (lv' := [(0, .ref 2986), (1, .int x1)]) (st' := [.int (am_i (-1))]) rfl ?_
        cases hm
        exact am_end (am_fd ck_X3_signAt (pc := 28) rfl) am_rI rfl rfl
      · replace hm := am_if hm hc3
        refine am_steps ck_X3_signAt 1 (pc' := 19) (lv' := [(0, .ref 2986), (1, .int x1)]) (st' := [.ref 2986]) rfl ?_
        refine ms_getr (ci := 3) (k := 0) (v := 2987) (am_fd ck_X3_signAt (pc := 19) rfl) tw_181 kc_2986 rfl (ly_2986_0 hL) kc_2987 ?_
        refine am_steps ck_X3_signAt 1 (pc' := 23) (lv' := [(0, .ref 2986), (1, .int x1)]) (st' := [.int x1, .ref 2987]) rfl ?_
        obtain ⟨hb4, hm⟩ := am_gE hm
        refine ms_iald (n := 64) (am_fd ck_X3_signAt (pc := 23) rfl) kc_2987 hb4 ?_
        refine am_steps ck_X3_signAt 1 (pc' := 28) (lv' := [(0, .ref 2986), (1, .int x1)]) (st' := [.int (m 2987 (am_ix x1))]) rfl ?_
        cases hm
        exact am_end (am_fd ck_X3_signAt (pc := 28) rfl) am_rI rfl rfl
set_option maxRecDepth 100000 in
set_option maxHeartbeats 4000000 in
theorem x_J13_bitCount_95d88 {G : am_G} {m : am_m} {r : am_rr} {x1 : Int64} {res : Int32} (hL : am_Lay r) (hm : m_J13_bitCount_95d88 m x1 = some res) : am_Met G mt_J13_bitCount_95d88 1 [.long x1] (am_hh m r) (some (.int res)) (am_hh m r) := by
  refine am_of (by decide) (Nat.le_of_ble_eq_true rfl) ?_
  unfold m_J13_bitCount_95d88 at hm
  show am_W G mt_J13_bitCount_95d88 1 _ _ 0 [(0, .long x1)] [] (am_hh m r)
  refine am_steps ck_J13_bitCount_95d88 4 (pc' := 4) (lv' := [(0, .long x1)]) (st' := [.long ((x1.toUInt64 >>> ((am_i 1).toInt64.toUInt64 &&& Int64.toUInt64 63)).toInt64), .long x1]) rfl ?_
  refine am_ldc2 (am_fd ck_J13_bitCount_95d88 (pc := 4) rfl) tw_303 ?_
  refine am_steps ck_J13_bitCount_95d88 4 (pc' := 11) (lv' := [(0, .long (x1 - (((x1.toUInt64 >>> ((am_i 1).toInt64.toUInt64 &&& Int64.toUInt64 63)).toInt64) &&& (6148914691236517205 : Int64))))]) (st' := [.long (x1 - (((x1.toUInt64 >>> ((am_i 1).toInt64.toUInt64 &&& Int64.toUInt64 63)).toInt64) &&& (6148914691236517205 : Int64)))]) rfl ?_
  refine am_ldc2 (am_fd ck_J13_bitCount_95d88 (pc := 11) rfl) tw_304 ?_
  refine am_steps ck_J13_bitCount_95d88 4 (pc' := 18) (lv' := [(0, .long (x1 - (((x1.toUInt64 >>> ((am_i 1).toInt64.toUInt64 &&& Int64.toUInt64 63)).toInt64) &&& (6148914691236517205 : Int64))))]) (st' := [.long (((x1 - (((x1.toUInt64 >>> ((am_i 1).toInt64.toUInt64 &&& Int64.toUInt64 63)).toInt64) &&& (6148914691236517205 : Int64))).toUInt64 >>> ((am_i 2).toInt64.toUInt64 &&& Int64.toUInt64 63)).toInt64), .long ((x1 - (((x1.toUInt64 >>> ((am_i 1).toInt64.toUInt64 &&& Int64.toUInt64 63)).toInt64) &&& (6148914691236517205 : Int64))) &&& (3689348814741910323 : Int64))]) rfl ?_
  refine am_ldc2 (am_fd ck_J13_bitCount_95d88 (pc := 18) rfl) tw_304 ?_
  refine am_steps ck_J13_bitCount_95d88 8 (pc' := 29) (lv' := [(0, .long (((x1 - (((x1.toUInt64 >>> ((am_i 1).toInt64.toUInt64 &&& Int64.toUInt64 63)).toInt64) &&& (6148914691236517205 : Int64))) &&& (3689348814741910323 : Int64)) + ((((x1 - (((x1.toUInt64 >>> ((am_i 1).toInt64.toUInt64 &&& Int64.toUInt64 63)).toInt64) &&& (6148914691236517205 : Int64))).toUInt64 >>> ((am_i 2).toInt64.toUInt64 &&& Int64.toUInt64 63)).toInt64) &&& (3689348814741910323 : Int64))))]) (st' := [.long ((((x1 - (((x1.toUInt64 >>> ((am_i 1).toInt64.toUInt64 &&& Int64.toUInt64 63)).toInt64) &&& (6148914691236517205 : Int64))) &&& (3689348814741910323 : Int64)) + ((((x1 - (((x1.toUInt64 >>> ((am_i 1).toInt64.toUInt64 &&& Int64.toUInt64 63)).toInt64) &&& (6148914691236517205 : Int64))).toUInt64 >>> ((am_i 2).toInt64.toUInt64 &&& Int64.toUInt64 63)).toInt64) &&& (3689348814741910323 : Int64))) + (((((x1 - (((x1.toUInt64 >>> ((am_i 1).toInt64.toUInt64 &&& Int64.toUInt64 63)).toInt64) &&& (6148914691236517205 : Int64))) &&& (3689348814741910323 : Int64)) + ((((x1 - (((x1.toUInt64 >>> ((am_i 1).toInt64.toUInt64 &&& Int64.toUInt64 63)).toInt64) &&& (6148914691236517205 : Int64))).toUInt64 >>> ((am_i 2).toInt64.toUInt64 &&& Int64.toUInt64 63)).toInt64) &&& (3689348814741910323 : Int64))).toUInt64 >>> ((am_i 4).toInt64.toUInt64 &&& Int64.toUInt64 63)).toInt64))]) rfl ?_
  refine am_ldc2 (am_fd ck_J13_bitCount_95d88 (pc := 29) rfl) tw_305 ?_
  refine am_steps ck_J13_bitCount_95d88 24 (pc' := 60) (lv' := [(0, .long ((((((((x1 - (((x1.toUInt64 >>> ((am_i 1).toInt64.toUInt64 &&& Int64.toUInt64 63)).toInt64) &&& (6148914691236517205 : Int64))) &&& (3689348814741910323 : Int64)) + ((((x1 - (((x1.toUInt64 >>> ((am_i 1).toInt64.toUInt64 &&& Int64.toUInt64 63)).toInt64) &&& (6148914691236517205 : Int64))).toUInt64 >>> ((am_i 2).toInt64.toUInt64 &&& Int64.toUInt64 63)).toInt64) &&& (3689348814741910323 : Int64))) + (((((x1 - (((x1.toUInt64 >>> ((am_i 1).toInt64.toUInt64 &&& Int64.toUInt64 63)).toInt64) &&& (6148914691236517205 : Int64))) &&& (3689348814741910323 : Int64)) + ((((x1 - (((x1.toUInt64 >>> ((am_i 1).toInt64.toUInt64 &&& Int64.toUInt64 63)).toInt64) &&& (6148914691236517205 : Int64))).toUInt64 >>> ((am_i 2).toInt64.toUInt64 &&& Int64.toUInt64 63)).toInt64) &&& (3689348814741910323 : Int64))).toUInt64 >>> ((am_i 4).toInt64.toUInt64 &&& Int64.toUInt64 63)).toInt64)) &&& (1085102592571150095 : Int64)) + (((((((x1 - (((x1.toUInt64 >>> ((am_i 1).toInt64.toUInt64 &&& Int64.toUInt64 63)).toInt64) &&& (6148914691236517205 : Int64))) &&& (3689348814741910323 : Int64)) + ((((x1 - (((x1.toUInt64 >>> ((am_i 1).toInt64.toUInt64 &&& Int64.toUInt64 63)).toInt64) &&& (6148914691236517205 : Int64))).toUInt64 >>> ((am_i 2).toInt64.toUInt64 &&& Int64.toUInt64 63)).toInt64) &&& (3689348814741910323 : Int64))) + (((((x1 - (((x1.toUInt64 >>> ((am_i 1).toInt64.toUInt64 &&& Int64.toUInt64 63)).toInt64) &&& (6148914691236517205 : Int64))) &&& (3689348814741910323 : Int64)) + ((((x1 - (((x1.toUInt64 >>> ((am_i 1).toInt64.toUInt64 &&& Int64.toUInt64 63)).toInt64) &&& (6148914691236517205 : Int64))).toUInt64 >>> ((am_i 2).toInt64.toUInt64 &&& Int64.toUInt64 63)).toInt64) &&& (3689348814741910323 : Int64))).toUInt64 >>> ((am_i 4).toInt64.toUInt64 &&& Int64.toUInt64 63)).toInt64)) &&& (1085102592571150095 : Int64)).toUInt64 >>> ((am_i 8).toInt64.toUInt64 &&& Int64.toUInt64 63)).toInt64)) + ((((((((x1 - (((x1.toUInt64 >>> ((am_i 1).toInt64.toUInt64 &&& Int64.toUInt64 63)).toInt64) &&& (6148914691236517205 : Int64))) &&& (3689348814741910323 : Int64)) + ((((x1 - (((x1.toUInt64 >>> ((am_i 1).toInt64.toUInt64 &&& Int64.toUInt64 63)).toInt64) &&& (6148914691236517205 : Int64))).toUInt64 >>> ((am_i 2).toInt64.toUInt64 &&& Int64.toUInt64 63)).toInt64) &&& (3689348814741910323 : Int64))) + (((((x1 - (((x1.toUInt64 >>> ((am_i 1).toInt64.toUInt64 &&& Int64.toUInt64 63)).toInt64) &&& (6148914691236517205 : Int64))) &&& (3689348814741910323 : Int64)) + ((((x1 - (((x1.toUInt64 >>> ((am_i 1).toInt64.toUInt64 &&& Int64.toUInt64 63)).toInt64) &&& (6148914691236517205 : Int64))).toUInt64 >>> ((am_i 2).toInt64.toUInt64 &&& Int64.toUInt64 63)).toInt64) &&& (3689348814741910323 : Int64))).toUInt64 >>> ((am_i 4).toInt64.toUInt64 &&& Int64.toUInt64 63)).toInt64)) &&& (1085102592571150095 : Int64)) + (((((((x1 - (((x1.toUInt64 >>> ((am_i 1).toInt64.toUInt64 &&& Int64.toUInt64 63)).toInt64) &&& (6148914691236517205 : Int64))) &&& (3689348814741910323 : Int64)) + ((((x1 - (((x1.toUInt64 >>> ((am_i 1).toInt64.toUInt64 &&& Int64.toUInt64 63)).toInt64) &&& (6148914691236517205 : Int64))).toUInt64 >>> ((am_i 2).toInt64.toUInt64 &&& Int64.toUInt64 63)).toInt64) &&& (3689348814741910323 : Int64))) + (((((x1 - (((x1.toUInt64 >>> ((am_i 1).toInt64.toUInt64 &&& Int64.toUInt64 63)).toInt64) &&& (6148914691236517205 : Int64))) &&& (3689348814741910323 : Int64)) + ((((x1 - (((x1.toUInt64 >>> ((am_i 1).toInt64.toUInt64 &&& Int64.toUInt64 63)).toInt64) &&& (6148914691236517205 : Int64))).toUInt64 >>> ((am_i 2).toInt64.toUInt64 &&& Int64.toUInt64 63)).toInt64) &&& (3689348814741910323 : Int64))).toUInt64 >>> ((am_i 4).toInt64.toUInt64 &&& Int64.toUInt64 63)).toInt64)) &&& (1085102592571150095 : Int64)).toUInt64 >>> ((am_i 8).toInt64.toUInt64 &&& Int64.toUInt64 63)).toInt64)).toUInt64 >>> ((am_i 16).toInt64.toUInt64 &&& Int64.toUInt64 63)).toInt64)) + (((((((((x1 - (((x1.toUInt64 >>> ((am_i 1).toInt64.toUInt64 &&& Int64.toUInt64 63)).toInt64) &&& (6148914691236517205 : Int64))) &&& (3689348814741910323 : Int64)) + ((((x1 - (((x1.toUInt64 >>> ((am_i 1).toInt64.toUInt64 &&& Int64.toUInt64 63)).toInt64) &&& (6148914691236517205 : Int64))).toUInt64 >>> ((am_i 2).toInt64.toUInt64 &&& Int64.toUInt64 63)).toInt64) &&& (3689348814741910323 : Int64))) + (((((x1 - (((x1.toUInt64 >>> ((am_i 1).toInt64.toUInt64 &&& Int64.toUInt64 63)).toInt64) &&& (6148914691236517205 : Int64))) &&& (3689348814741910323 : Int64)) + ((((x1 - (((x1.toUInt64 >>> ((am_i 1).toInt64.toUInt64 &&& Int64.toUInt64 63)).toInt64) &&& (6148914691236517205 : Int64))).toUInt64 >>> ((am_i 2).toInt64.toUInt64 &&& Int64.toUInt64 63)).toInt64) &&& (3689348814741910323 : Int64))).toUInt64 >>> ((am_i 4).toInt64.toUInt64 &&& Int64.toUInt64 63)).toInt64)) &&& (1085102592571150095 : Int64)) + (((((((x1 - (((x1.toUInt64 >>> ((am_i 1).toInt64.toUInt64 &&& Int64.toUInt64 63)).toInt64) &&& (6148914691236517205 : Int64))) &&& (3689348814741910323 : Int64)) + ((((x1 - (((x1.toUInt64 >>> ((am_i 1).toInt64.toUInt64 &&& Int64.toUInt64 63)).toInt64) &&& (6148914691236517205 : Int64))).toUInt64 >>> ((am_i 2).toInt64.toUInt64 &&& Int64.toUInt64 63)).toInt64) &&& (3689348814741910323 : Int64))) + (((((x1 - (((x1.toUInt64 >>> ((am_i 1).toInt64.toUInt64 &&& Int64.toUInt64 63)).toInt64) &&& (6148914691236517205 : Int64))) &&& (3689348814741910323 : Int64)) + ((((x1 - (((x1.toUInt64 >>> ((am_i 1).toInt64.toUInt64 &&& Int64.toUInt64 63)).toInt64) &&& (6148914691236517205 : Int64))).toUInt64 >>> ((am_i 2).toInt64.toUInt64 &&& Int64.toUInt64 63)).toInt64) &&& (3689348814741910323 : Int64))).toUInt64 >>> ((am_i 4).toInt64.toUInt64 &&& Int64.toUInt64 63)).toInt64)) &&& (1085102592571150095 : Int64)).toUInt64 >>> ((am_i 8).toInt64.toUInt64 &&& Int64.toUInt64 63)).toInt64)) + ((((((((x1 - (((x1.toUInt64 >>> ((am_i 1).toInt64.toUInt64 &&& Int64.toUInt64 63)).toInt64) &&& (6148914691236517205 : Int64))) &&& (3689348814741910323 : Int64)) + ((((x1 - (((x1.toUInt64 >>> ((am_i 1).toInt64.toUInt64 &&& Int64.toUInt64 63)).toInt64) &&& (6148914691236517205 : Int64))).toUInt64 >>> ((am_i 2).toInt64.toUInt64 &&& Int64.toUInt64 63)).toInt64) &&& (3689348814741910323 : Int64))) + (((((x1 - (((x1.toUInt64 >>> ((am_i 1).toInt64.toUInt64 &&& Int64.toUInt64 63)).toInt64) &&& (6148914691236517205 : Int64))) &&& (3689348814741910323 : Int64)) + ((((x1 - (((x1.toUInt64 >>> ((am_i 1).toInt64.toUInt64 &&& Int64.toUInt64 63)).toInt64) &&& (6148914691236517205 : Int64))).toUInt64 >>> ((am_i 2).toInt64.toUInt64 &&& Int64.toUInt64 63)).toInt64) &&& (3689348814741910323 : Int64))).toUInt64 >>> ((am_i 4).toInt64.toUInt64 &&& Int64.toUInt64 63)).toInt64)) &&& (1085102592571150095 : Int64)) + (((((((x1 - (((x1.toUInt64 >>> ((am_i 1).toInt64.toUInt64 &&& Int64.toUInt64 63)).toInt64) &&& (6148914691236517205 : Int64))) &&& (3689348814741910323 : Int64)) + ((((x1 - (((x1.toUInt64 >>> ((am_i 1).toInt64.toUInt64 &&& Int64.toUInt64 63)).toInt64) &&& (6148914691236517205 : Int64))).toUInt64 >>> ((am_i 2).toInt64.toUInt64 &&& Int64.toUInt64 63)).toInt64) &&& (3689348814741910323 : Int64))) + (((((x1 - (((x1.toUInt64 >>> ((am_i 1).toInt64.toUInt64 &&& Int64.toUInt64 63)).toInt64) &&& (6148914691236517205 : Int64))) &&& (3689348814741910323 : Int64)) + ((((x1 - (((x1.toUInt64 >>> ((am_i 1).toInt64.toUInt64 &&& Int64.toUInt64 63)).toInt64) &&& (6148914691236517205 : Int64))).toUInt64 >>> ((am_i 2).toInt64.toUInt64 &&& Int64.toUInt64 63)).toInt64) &&& (3689348814741910323 : Int64))).toUInt64 >>> ((am_i 4).toInt64.toUInt64 &&& Int64.toUInt64 63)).toInt64)) &&& (1085102592571150095 : Int64)).toUInt64 >>> ((am_i 8).toInt64.toUInt64 &&& Int64.toUInt64 63)).toInt64)).toUInt64 >>> ((am_i 16).toInt64.toUInt64 &&& Int64.toUInt64 63)).toInt64)).toUInt64 >>> ((am_i 32).toInt64.toUInt64 &&& Int64.toUInt64 63)).toInt64)))]) (st' := [.int (((((((((x1 - (((x1.toUInt64 >>> ((am_i 1).toInt64.toUInt64 &&& Int64.toUInt64 63)).toInt64) &&& (6148914691236517205 : Int64))) &&& (3689348814741910323 : Int64)) + ((((x1 - (((x1.toUInt64 >>> ((am_i 1).toInt64.toUInt64 &&& Int64.toUInt64 63)).toInt64) &&& (6148914691236517205 : Int64))).toUInt64 >>> ((am_i 2).toInt64.toUInt64 &&& Int64.toUInt64 63)).toInt64) &&& (3689348814741910323 : Int64))) + (((((x1 - (((x1.toUInt64 >>> ((am_i 1).toInt64.toUInt64 &&& Int64.toUInt64 63)).toInt64) &&& (6148914691236517205 : Int64))) &&& (3689348814741910323 : Int64)) + ((((x1 - (((x1.toUInt64 >>> ((am_i 1).toInt64.toUInt64 &&& Int64.toUInt64 63)).toInt64) &&& (6148914691236517205 : Int64))).toUInt64 >>> ((am_i 2).toInt64.toUInt64 &&& Int64.toUInt64 63)).toInt64) &&& (3689348814741910323 : Int64))).toUInt64 >>> ((am_i 4).toInt64.toUInt64 &&& Int64.toUInt64 63)).toInt64)) &&& (1085102592571150095 : Int64)) + (((((((x1 - (((x1.toUInt64 >>> ((am_i 1).toInt64.toUInt64 &&& Int64.toUInt64 63)).toInt64) &&& (6148914691236517205 : Int64))) &&& (3689348814741910323 : Int64)) + ((((x1 - (((x1.toUInt64 >>> ((am_i 1).toInt64.toUInt64 &&& Int64.toUInt64 63)).toInt64) &&& (6148914691236517205 : Int64))).toUInt64 >>> ((am_i 2).toInt64.toUInt64 &&& Int64.toUInt64 63)).toInt64) &&& (3689348814741910323 : Int64))) + (((((x1 - (((x1.toUInt64 >>> ((am_i 1).toInt64.toUInt64 &&& Int64.toUInt64 63)).toInt64) &&& (6148914691236517205 : Int64))) &&& (3689348814741910323 : Int64)) + ((((x1 - (((x1.toUInt64 >>> ((am_i 1).toInt64.toUInt64 &&& Int64.toUInt64 63)).toInt64) &&& (6148914691236517205 : Int64))).toUInt64 >>> ((am_i 2).toInt64.toUInt64 &&& Int64.toUInt64 63)).toInt64) &&& (3689348814741910323 : Int64))).toUInt64 >>> ((am_i 4).toInt64.toUInt64 &&& Int64.toUInt64 63)).toInt64)) &&& (1085102592571150095 : Int64)).toUInt64 >>> ((am_i 8).toInt64.toUInt64 &&& Int64.toUInt64 63)).toInt64)) + ((((((((x1 - (((x1.toUInt64 >>> ((am_i 1).toInt64.toUInt64 &&& Int64.toUInt64 63)).toInt64) &&& (6148914691236517205 : Int64))) &&& (3689348814741910323 : Int64)) + ((((x1 - (((x1.toUInt64 >>> ((am_i 1).toInt64.toUInt64 &&& Int64.toUInt64 63)).toInt64) &&& (6148914691236517205 : Int64))).toUInt64 >>> ((am_i 2).toInt64.toUInt64 &&& Int64.toUInt64 63)).toInt64) &&& (3689348814741910323 : Int64))) + (((((x1 - (((x1.toUInt64 >>> ((am_i 1).toInt64.toUInt64 &&& Int64.toUInt64 63)).toInt64) &&& (6148914691236517205 : Int64))) &&& (3689348814741910323 : Int64)) + ((((x1 - (((x1.toUInt64 >>> ((am_i 1).toInt64.toUInt64 &&& Int64.toUInt64 63)).toInt64) &&& (6148914691236517205 : Int64))).toUInt64 >>> ((am_i 2).toInt64.toUInt64 &&& Int64.toUInt64 63)).toInt64) &&& (3689348814741910323 : Int64))).toUInt64 >>> ((am_i 4).toInt64.toUInt64 &&& Int64.toUInt64 63)).toInt64)) &&& (1085102592571150095 : Int64)) + (((((((x1 - (((x1.toUInt64 >>> ((am_i 1).toInt64.toUInt64 &&& Int64.toUInt64 63)).toInt64) &&& (6148914691236517205 : Int64))) &&& (3689348814741910323 : Int64)) + ((((x1 - (((x1.toUInt64 >>> ((am_i 1).toInt64.toUInt64 &&& Int64.toUInt64 63)).toInt64) &&& (6148914691236517205 : Int64))).toUInt64 >>> ((am_i 2).toInt64.toUInt64 &&& Int64.toUInt64 63)).toInt64) &&& (3689348814741910323 : Int64))) + (((((x1 - (((x1.toUInt64 >>> ((am_i 1).toInt64.toUInt64 &&& Int64.toUInt64 63)).toInt64) &&& (6148914691236517205 : Int64))) &&& (3689348814741910323 : Int64)) + ((((x1 - (((x1.toUInt64 >>> ((am_i 1).toInt64.toUInt64 &&& Int64.toUInt64 63)).toInt64) &&& (6148914691236517205 : Int64))).toUInt64 >>> ((am_i 2).toInt64.toUInt64 &&& Int64.toUInt64 63)).toInt64) &&& (3689348814741910323 : Int64))).toUInt64 >>> ((am_i 4).toInt64.toUInt64 &&& Int64.toUInt64 63)).toInt64)) &&& (1085102592571150095 : Int64)).toUInt64 >>> ((am_i 8).toInt64.toUInt64 &&& Int64.toUInt64 63)).toInt64)).toUInt64 >>> ((am_i 16).toInt64.toUInt64 &&& Int64.toUInt64 63)).toInt64)) + (((((((((x1 - (((x1.toUInt64 >>> ((am_i 1).toInt64.toUInt64 &&& Int64.toUInt64 63)).toInt64) &&& (6148914691236517205 : Int64))) &&& (3689348814741910323 : Int64)) + ((((x1 - (((x1.toUInt64 >>> ((am_i 1).toInt64.toUInt64 &&& Int64.toUInt64 63)).toInt64) &&& (6148914691236517205 : Int64))).toUInt64 >>> ((am_i 2).toInt64.toUInt64 &&& Int64.toUInt64 63)).toInt64) &&& (3689348814741910323 : Int64))) + (((((x1 - (((x1.toUInt64 >>> ((am_i 1).toInt64.toUInt64 &&& Int64.toUInt64 63)).toInt64) &&& (6148914691236517205 : Int64))) &&& (3689348814741910323 : Int64)) + ((((x1 - (((x1.toUInt64 >>> ((am_i 1).toInt64.toUInt64 &&& Int64.toUInt64 63)).toInt64) &&& (6148914691236517205 : Int64))).toUInt64 >>> ((am_i 2).toInt64.toUInt64 &&& Int64.toUInt64 63)).toInt64) &&& (3689348814741910323 : Int64))).toUInt64 >>> ((am_i 4).toInt64.toUInt64 &&& Int64.toUInt64 63)).toInt64)) &&& (1085102592571150095 : Int64)) + (((((((x1 - (((x1.toUInt64 >>> ((am_i 1).toInt64.toUInt64 &&& Int64.toUInt64 63)).toInt64) &&& (6148914691236517205 : Int64))) &&& (3689348814741910323 : Int64)) + ((((x1 - (((x1.toUInt64 >>> ((am_i 1).toInt64.toUInt64 &&& Int64.toUInt64 63)).toInt64) &&& (6148914691236517205 : Int64))).toUInt64 >>> ((am_i 2).toInt64.toUInt64 &&& Int64.toUInt64 63)).toInt64) &&& (3689348814741910323 : Int64))) + (((((x1 - (((x1.toUInt64 >>> ((am_i 1).toInt64.toUInt64 &&& Int64.toUInt64 63)).toInt64) &&& (6148914691236517205 : Int64))) &&& (3689348814741910323 : Int64)) + ((((x1 - (((x1.toUInt64 >>> ((am_i 1).toInt64.toUInt64 &&& Int64.toUInt64 63)).toInt64) &&& (6148914691236517205 : Int64))).toUInt64 >>> ((am_i 2).toInt64.toUInt64 &&& Int64.toUInt64 63)).toInt64) &&& (3689348814741910323 : Int64))).toUInt64 >>> ((am_i 4).toInt64.toUInt64 &&& Int64.toUInt64 63)).toInt64)) &&& (1085102592571150095 : Int64)).toUInt64 >>> ((am_i 8).toInt64.toUInt64 &&& Int64.toUInt64 63)).toInt64)) + ((((((((x1 - (((x1.toUInt64 >>> ((am_i 1).toInt64.toUInt64 &&& Int64.toUInt64 63)).toInt64) &&& (6148914691236517205 : Int64))) &&& (3689348814741910323 : Int64)) + ((((x1 - (((x1.toUInt64 >>> ((am_i 1).toInt64.toUInt64 &&& Int64.toUInt64 63)).toInt64) &&& (6148914691236517205 : Int64))).toUInt64 >>> ((am_i 2).toInt64.toUInt64 &&& Int64.toUInt64 63)).toInt64) &&& (3689348814741910323 : Int64))) + (((((x1 - (((x1.toUInt64 >>> ((am_i 1).toInt64.toUInt64 &&& Int64.toUInt64 63)).toInt64) &&& (6148914691236517205 : Int64))) &&& (3689348814741910323 : Int64)) + ((((x1 - (((x1.toUInt64 >>> ((am_i 1).toInt64.toUInt64 &&& Int64.toUInt64 63)).toInt64) &&& (6148914691236517205 : Int64))).toUInt64 >>> ((am_i 2).toInt64.toUInt64 &&& Int64.toUInt64 63)).toInt64) &&& (3689348814741910323 : Int64))).toUInt64 >>> ((am_i 4).toInt64.toUInt64 &&& Int64.toUInt64 63)).toInt64)) &&& (1085102592571150095 : Int64)) + (((((((x1 - (((x1.toUInt64 >>> ((am_i 1).toInt64.toUInt64 &&& Int64.toUInt64 63)).toInt64) &&& (6148914691236517205 : Int64))) &&& (3689348814741910323 : Int64)) + ((((x1 - (((x1.toUInt64 >>> ((am_i 1).toInt64.toUInt64 &&& Int64.toUInt64 63)).toInt64) &&& (6148914691236517205 : Int64))).toUInt64 >>> ((am_i 2).toInt64.toUInt64 &&& Int64.toUInt64 63)).toInt64) &&& (3689348814741910323 : Int64))) + (((((x1 - (((x1.toUInt64 >>> ((am_i 1).toInt64.toUInt64 &&& Int64.toUInt64 63)).toInt64) &&& (6148914691236517205 : Int64))) &&& (3689348814741910323 : Int64)) + ((((x1 - (((x1.toUInt64 >>> ((am_i 1).toInt64.toUInt64 &&& Int64.toUInt64 63)).toInt64) &&& (6148914691236517205 : Int64))).toUInt64 >>> ((am_i 2).toInt64.toUInt64 &&& Int64.toUInt64 63)).toInt64) &&& (3689348814741910323 : Int64))).toUInt64 >>> ((am_i 4).toInt64.toUInt64 &&& Int64.toUInt64 63)).toInt64)) &&& (1085102592571150095 : Int64)).toUInt64 >>> ((am_i 8).toInt64.toUInt64 &&& Int64.toUInt64 63)).toInt64)).toUInt64 >>> ((am_i 16).toInt64.toUInt64 &&& Int64.toUInt64 63)).toInt64)).toUInt64 >>> ((am_i 32).toInt64.toUInt64 &&& Int64.toUInt64 63)).toInt64)).toInt32 &&& (am_i 127))]) rfl ?_
  cases hm
  exact am_end (am_fd ck_J13_bitCount_95d88 (pc := 60) rfl) am_rI rfl rfl
set_option maxRecDepth 100000 in
set_option maxHeartbeats 4000000 in
theorem x_X3_put {G : am_G} {m : am_m} {r : am_rr} {x1 : Int32} {res : am_m} (hL : am_Lay r) (hm : m_X3_put m x1 = some res) : am_Met G mt_X3_put 1 [.ref 2986, .int x1] (am_hh m r) none (am_hh res r) := by
  refine am_of (by decide) (Nat.le_of_ble_eq_true rfl) ?_
  unfold m_X3_put at hm
  show am_W G mt_X3_put 1 _ _ 0 [(0, .ref 2986), (1, .int x1)] [] (am_hh m r)
  refine am_steps ck_X3_put 1 (pc' := 1) (lv' := [(0, .ref 2986), (1, .int x1)]) (st' := [.ref 2986]) rfl ?_
  refine ms_geti (ci := 3) (k := 1) (am_fd ck_X3_put (pc := 1) rfl) tw_182 kc_2986 rfl ?_
  refine am_steps ck_X3_put 1 (pc' := 6) (lv' := [(0, .ref 2986), (1, .int x1)]) (st' := [.int (am_i 64), .int (m 2986 1)]) rfl ?_
  refine am_icmp (tgt := 10) (am_fd ck_X3_put (pc := 6) rfl) rfl (fun hc1 => ?_) (fun hc1 => ?_)
  · replace hm := am_it hm hc1
    refine am_steps ck_X3_put 1 (pc' := 11) (lv' := [(0, .ref 2986), (1, .int x1)]) (st' := [.ref 2986]) rfl ?_
    refine ms_getr (ci := 3) (k := 0) (v := 2987) (am_fd ck_X3_put (pc := 11) rfl) tw_181 kc_2986 rfl (ly_2986_0 hL) kc_2987 ?_
    refine am_steps ck_X3_put 1 (pc' := 15) (lv' := [(0, .ref 2986), (1, .int x1)]) (st' := [.ref 2986, .ref 2987]) rfl ?_
    refine ms_geti (ci := 3) (k := 1) (am_fd ck_X3_put (pc := 15) rfl) tw_182 kc_2986 rfl ?_
    refine am_steps ck_X3_put 1 (pc' := 19) (lv' := [(0, .ref 2986), (1, .int x1)]) (st' := [.int x1, .int (m 2986 1), .ref 2987]) rfl ?_
    obtain ⟨hb2, hm⟩ := am_gE hm
    refine ms_iast (n := 64) (am_fd ck_X3_put (pc := 19) rfl) kc_2987 hb2 (fun m3 em3 => ?_)
    replace hm := am_letE em3 hm
    refine am_steps ck_X3_put 2 (pc' := 22) (lv' := [(0, .ref 2986), (1, .int x1)]) (st' := [.ref 2986, .ref 2986]) rfl ?_
    refine ms_geti (ci := 3) (k := 1) (am_fd ck_X3_put (pc := 22) rfl) tw_182 kc_2986 rfl ?_
    refine am_steps ck_X3_put 2 (pc' := 27) (lv' := [(0, .ref 2986), (1, .int x1)]) (st' := [.int ((m3 2986 1) + (am_i 1)), .ref 2986]) rfl ?_
    refine ms_puti (ci := 3) (k := 1) (am_fd ck_X3_put (pc := 27) rfl) tw_182 kc_2986 rfl rfl (fun m4 em4 => ?_)
    replace hm := am_letE em4 hm
    cases hm
    exact am_end (am_fd ck_X3_put (pc := 30) rfl) am_rV rfl rfl
  · replace hm := am_if hm hc1
    cases hm
    exact am_end (am_fd ck_X3_put (pc := 9) rfl) am_rV rfl rfl
set_option maxRecDepth 100000 in
set_option maxHeartbeats 4000000 in
theorem x_X3_putNumber_3 {G : am_G} {x1 : Int32} {r : am_rr} {y1 : Int32} {res : am_m} {k : am_m → Option (am_m)} (hL : am_Lay r) : ∀ (n : Nat) (z2 : Int32) (m : am_m), m_X3_putNumber_3 x1 y1 k n z2 m = some res → (∀ (m1 : am_m), k m1 = some res → am_W G mt_X3_putNumber 2 none (am_hh res r) 38 [] [] (am_hh m1 r)) → am_W G mt_X3_putNumber 2 none (am_hh res r) 3 [(0, .ref 2986), (1, .int y1), (2, .int z2)] [] (am_hh m r) := by
  intro n
  induction n with
  | zero => intro z2 m hm K; cases hm
  | succ n ih =>
    intro z2 m hm K
    unfold m_X3_putNumber_3 at hm
    refine am_steps ck_X3_putNumber 1 (pc' := 4) (lv' := [(0, .ref 2986), (1, .int y1), (2, .int z2)]) (st' := [.int z2]) rfl ?_
    refine am_ifc (tgt := 38) (am_fd ck_X3_putNumber (pc := 4) rfl) rfl (fun hc1 => ?_) (fun hc1 => ?_)
    · replace hm := am_it hm hc1
      refine am_subp [] rfl ?_
      exact K _ hm
    · replace hm := am_if hm hc1
      refine am_steps ck_X3_putNumber 2 (pc' := 9) (lv' := [(0, .ref 2986), (1, .int y1), (2, .int z2)]) (st' := [.int z2, .int y1]) rfl ?_
      refine am_icmp (tgt := 17) (am_fd ck_X3_putNumber (pc := 9) rfl) rfl (fun hc2 => ?_) (fun hc2 => ?_)
      · replace hm := am_it hm hc2
        refine am_steps ck_X3_putNumber 4 (pc' := 22) (lv' := [(0, .ref 2986), (1, .int y1), (2, .int z2)]) (st' := [.int z2, .int y1, .int (am_i 48), .ref 2986]) rfl ?_
        obtain ⟨hb3, hm⟩ := am_gE hm
        refine am_idiv (am_fd ck_X3_putNumber (pc := 22) rfl) (am_nzE hb3) ?_
        refine am_steps ck_X3_putNumber 1 (pc' := 25) (lv' := [(0, .ref 2986), (1, .int y1), (2, .int z2)]) (st' := [.int (am_i 10), .int (y1 / z2), .int (am_i 48), .ref 2986]) rfl ?_
        refine am_irem (am_fd ck_X3_putNumber (pc := 25) rfl) (by decide) ?_
        refine am_steps ck_X3_putNumber 1 (pc' := 27) (lv' := [(0, .ref 2986), (1, .int y1), (2, .int z2)]) (st' := [.int ((am_i 48) + ((y1 / z2) - (y1 / z2) / (am_i 10) * (am_i 10))), .ref 2986]) rfl ?_
        obtain ⟨q4, hq4, hm⟩ := am_bE hm
        refine ms_callVv (M2 := mt_X3_put) (d2 := 1) (ci := 3) [.int ((am_i 48) + ((y1 / z2) - (y1 / z2) / (am_i 10) * (am_i 10)))] (am_fd ck_X3_putNumber (pc := 27) rfl) ok_X3_put tw_734 tw_736 ts_19 (by decide) kc_2986 (Nat.le_of_ble_eq_true rfl) (Nat.le_of_ble_eq_true rfl) (x_X3_put hL hq4) ?_
        refine am_steps ck_X3_putNumber 2 (pc' := 33) (lv' := [(0, .ref 2986), (1, .int y1), (2, .int z2)]) (st' := [.int (am_i 10), .int z2]) rfl ?_
        refine am_idiv (am_fd ck_X3_putNumber (pc := 33) rfl) (by decide) ?_
        refine am_steps ck_X3_putNumber 2 (pc' := 3) (lv' := [(2, .int (z2 / (am_i 10))), (0, .ref 2986), (1, .int y1)]) (st' := []) rfl ?_
        refine am_subp [1, 2, 0] rfl ?_
        exact ih _ _ hm K
      · replace hm := am_if hm hc2
        refine am_steps ck_X3_putNumber 2 (pc' := 14) (lv' := [(0, .ref 2986), (1, .int y1), (2, .int z2)]) (st' := [.int (am_i 1), .int z2]) rfl ?_
        refine am_icmp (tgt := 30) (am_fd ck_X3_putNumber (pc := 14) rfl) rfl (fun hc5 => ?_) (fun hc5 => ?_)
        · replace hm := am_it hm hc5
          refine am_steps ck_X3_putNumber 2 (pc' := 33) (lv' := [(0, .ref 2986), (1, .int y1), (2, .int z2)]) (st' := [.int (am_i 10), .int z2]) rfl ?_
          refine am_idiv (am_fd ck_X3_putNumber (pc := 33) rfl) (by decide) ?_
          refine am_steps ck_X3_putNumber 2 (pc' := 3) (lv' := [(2, .int (z2 / (am_i 10))), (0, .ref 2986), (1, .int y1)]) (st' := []) rfl ?_
          refine am_subp [1, 2, 0] rfl ?_
          exact ih _ _ hm K
        · replace hm := am_if hm hc5
          refine am_steps ck_X3_putNumber 4 (pc' := 22) (lv' := [(0, .ref 2986), (1, .int y1), (2, .int z2)]) (st' := [.int z2, .int y1, .int (am_i 48), .ref 2986]) rfl ?_
          obtain ⟨hb6, hm⟩ := am_gE hm
          refine am_idiv (am_fd ck_X3_putNumber (pc := 22) rfl) (am_nzE hb6) ?_
          refine am_steps ck_X3_putNumber 1 (pc' := 25) (lv' := [(0, .ref 2986), (1, .int y1), (2, .int z2)]) (st' := [.int (am_i 10), .int (y1 / z2), .int (am_i 48), .ref 2986]) rfl ?_
          refine am_irem (am_fd ck_X3_putNumber (pc := 25) rfl) (by decide) ?_
          refine am_steps ck_X3_putNumber 1 (pc' := 27) (lv' := [(0, .ref 2986), (1, .int y1), (2, .int z2)]) (st' := [.int ((am_i 48) + ((y1 / z2) - (y1 / z2) / (am_i 10) * (am_i 10))), .ref 2986]) rfl ?_
          obtain ⟨q7, hq7, hm⟩ := am_bE hm
          refine ms_callVv (M2 := mt_X3_put) (d2 := 1) (ci := 3) [.int ((am_i 48) + ((y1 / z2) - (y1 / z2) / (am_i 10) * (am_i 10)))] (am_fd ck_X3_putNumber (pc := 27) rfl) ok_X3_put tw_734 tw_736 ts_19 (by decide) kc_2986 (Nat.le_of_ble_eq_true rfl) (Nat.le_of_ble_eq_true rfl) (x_X3_put hL hq7) ?_
          refine am_steps ck_X3_putNumber 2 (pc' := 33) (lv' := [(0, .ref 2986), (1, .int y1), (2, .int z2)]) (st' := [.int (am_i 10), .int z2]) rfl ?_
          refine am_idiv (am_fd ck_X3_putNumber (pc := 33) rfl) (by decide) ?_
          refine am_steps ck_X3_putNumber 2 (pc' := 3) (lv' := [(2, .int (z2 / (am_i 10))), (0, .ref 2986), (1, .int y1)]) (st' := []) rfl ?_
          refine am_subp [1, 2, 0] rfl ?_
          exact ih _ _ hm K
set_option maxRecDepth 100000 in
set_option maxHeartbeats 4000000 in
theorem x_X3_putNumber {G : am_G} {m : am_m} {r : am_rr} {x1 : Int32} {res : am_m} (hL : am_Lay r) (hm : m_X3_putNumber m x1 = some res) : am_Met G mt_X3_putNumber 2 [.ref 2986, .int x1] (am_hh m r) none (am_hh res r) := by
  refine am_of (by decide) (Nat.le_of_ble_eq_true rfl) ?_
  unfold m_X3_putNumber at hm
  show am_W G mt_X3_putNumber 2 _ _ 0 [(0, .ref 2986), (1, .int x1)] [] (am_hh m r)
  refine am_ldc (am_fd ck_X3_putNumber (pc := 0) rfl) tw_733 ?_
  refine am_steps ck_X3_putNumber 1 (pc' := 3) (lv' := [(2, .int (am_i 1000000000)), (0, .ref 2986), (1, .int x1)]) (st' := []) rfl ?_
  refine am_subp [1, 2, 0] rfl ?_
  refine x_X3_putNumber_3 hL am_F _ _ hm (fun m8 hm => ?_)
  cases hm
  exact am_end (am_fd ck_X3_putNumber (pc := 38) rfl) am_rV rfl rfl
set_option maxRecDepth 100000 in
set_option maxHeartbeats 4000000 in
theorem x_X5_leadsOver {G : am_G} {m : am_m} {r : am_rr} {a1 : Nat} {x2 : Int32} {x3 : Int32} {res : Int32} (hL : am_Lay r) (ha1 : am_k a1 11 64) (hm : m_X5_leadsOver m a1 x2 x3 = some res) : am_Met G mt_X5_leadsOver 1 [.ref a1, .int x2, .int x3] (am_hh m r) (some (.int res)) (am_hh m r) := by
  refine am_of (by decide) (Nat.le_of_ble_eq_true rfl) ?_
  unfold m_X5_leadsOver at hm
  show am_W G mt_X5_leadsOver 1 _ _ 0 [(0, .ref a1), (1, .int x2), (2, .int x3)] [] (am_hh m r)
  refine am_steps ck_X5_leadsOver 2 (pc' := 2) (lv' := [(0, .ref a1), (1, .int x2), (2, .int x3)]) (st' := [.int x2, .ref a1]) rfl ?_
  obtain ⟨hb1, hm⟩ := am_gE hm
  refine ms_iald (n := 64) (am_fd ck_X5_leadsOver (pc := 2) rfl) ha1 hb1 ?_
  refine am_steps ck_X5_leadsOver 2 (pc' := 5) (lv' := [(0, .ref a1), (1, .int x2), (2, .int x3)]) (st' := [.int x3, .ref a1, .int (m a1 (am_ix x2))]) rfl ?_
  obtain ⟨hb2, hm⟩ := am_gE hm
  refine ms_iald (n := 64) (am_fd ck_X5_leadsOver (pc := 5) rfl) ha1 hb2 ?_
  refine am_icmp (tgt := 23) (am_fd ck_X5_leadsOver (pc := 6) rfl) rfl (fun hc3 => ?_) (fun hc3 => ?_)
  · replace hm := am_it hm hc3
    refine am_steps ck_X5_leadsOver 2 (pc' := 28) (lv' := [(0, .ref a1), (1, .int x2), (2, .int x3)]) (st' := [.int (am_i 1)]) rfl ?_
    cases hm
    exact am_end (am_fd ck_X5_leadsOver (pc := 28) rfl) am_rZ1 rfl rfl
  · replace hm := am_if hm hc3
    refine am_steps ck_X5_leadsOver 2 (pc' := 11) (lv' := [(0, .ref a1), (1, .int x2), (2, .int x3)]) (st' := [.int x2, .ref a1]) rfl ?_
    obtain ⟨hb4, hm⟩ := am_gE hm
    refine ms_iald (n := 64) (am_fd ck_X5_leadsOver (pc := 11) rfl) ha1 hb4 ?_
    refine am_steps ck_X5_leadsOver 2 (pc' := 14) (lv' := [(0, .ref a1), (1, .int x2), (2, .int x3)]) (st' := [.int x3, .ref a1, .int (m a1 (am_ix x2))]) rfl ?_
    obtain ⟨hb5, hm⟩ := am_gE hm
    refine ms_iald (n := 64) (am_fd ck_X5_leadsOver (pc := 14) rfl) ha1 hb5 ?_
    refine am_icmp (tgt := 27) (am_fd ck_X5_leadsOver (pc := 15) rfl) rfl (fun hc6 => ?_) (fun hc6 => ?_)
    · replace hm := am_it hm hc6
      refine am_steps ck_X5_leadsOver 1 (pc' := 28) (lv' := [(0, .ref a1), (1, .int x2), (2, .int x3)]) (st' := [.int (am_i 0)]) rfl ?_
      cases hm
      exact am_end (am_fd ck_X5_leadsOver (pc := 28) rfl) am_rZ0 rfl rfl
    · replace hm := am_if hm hc6
      refine am_steps ck_X5_leadsOver 2 (pc' := 20) (lv' := [(0, .ref a1), (1, .int x2), (2, .int x3)]) (st' := [.int x3, .int x2]) rfl ?_
      refine am_icmp (tgt := 27) (am_fd ck_X5_leadsOver (pc := 20) rfl) rfl (fun hc7 => ?_) (fun hc7 => ?_)
      · replace hm := am_it hm hc7
        refine am_steps ck_X5_leadsOver 1 (pc' := 28) (lv' := [(0, .ref a1), (1, .int x2), (2, .int x3)]) (st' := [.int (am_i 0)]) rfl ?_
        cases hm
        exact am_end (am_fd ck_X5_leadsOver (pc := 28) rfl) am_rZ0 rfl rfl
      · replace hm := am_if hm hc7
        refine am_steps ck_X5_leadsOver 2 (pc' := 28) (lv' := [(0, .ref a1), (1, .int x2), (2, .int x3)]) (st' := [.int (am_i 1)]) rfl ?_
        cases hm
        exact am_end (am_fd ck_X5_leadsOver (pc := 28) rfl) am_rZ1 rfl rfl
set_option maxRecDepth 100000 in
set_option maxHeartbeats 4000000 in
theorem x_X5_leaderBehind_4 {G : am_G} {a1 : Nat} {x2 : Int32} {m : am_m} {r : am_rr} {y1 : Int32} {res : Int32} {k : Int32 → Option (Int32)} (hL : am_Lay r) (ha1 : am_k a1 11 64) : ∀ (n : Nat) (z2 : Int32) (z3 : Int32), m_X5_leaderBehind_4 a1 x2 m y1 k n z2 z3 = some res → (∀ (u2 : Int32), k u2 = some res → am_W G mt_X5_leaderBehind 2 (some (.int res)) (am_hh m r) 54 [(2, .int u2)] [] (am_hh m r)) → am_W G mt_X5_leaderBehind 2 (some (.int res)) (am_hh m r) 4 [(0, .ref a1), (1, .int y1), (2, .int z2), (3, .int z3)] [] (am_hh m r) := by
  intro n
  induction n with
  | zero => intro z2 z3 hm K; cases hm
  | succ n ih =>
    intro z2 z3 hm K
    unfold m_X5_leaderBehind_4 at hm
    refine am_steps ck_X5_leaderBehind 2 (pc' := 7) (lv' := [(0, .ref a1), (1, .int y1), (2, .int z2), (3, .int z3)]) (st' := [.int (am_i 64), .int z3]) rfl ?_
    refine am_icmp (tgt := 54) (am_fd ck_X5_leaderBehind (pc := 7) rfl) rfl (fun hc1 => ?_) (fun hc1 => ?_)
    · replace hm := am_it hm hc1
      refine am_subp [2] rfl ?_
      exact K _ hm
    · replace hm := am_if hm hc1
      refine am_steps ck_X5_leaderBehind 2 (pc' := 12) (lv' := [(0, .ref a1), (1, .int y1), (2, .int z2), (3, .int z3)]) (st' := [.int z3, .ref a1]) rfl ?_
      obtain ⟨hb2, hm⟩ := am_gE hm
      refine ms_iald (n := 64) (am_fd ck_X5_leaderBehind (pc := 12) rfl) ha1 hb2 ?_
      refine am_ifc (tgt := 48) (am_fd ck_X5_leaderBehind (pc := 13) rfl) rfl (fun hc3 => ?_) (fun hc3 => ?_)
      · replace hm := am_it hm hc3
        refine am_steps ck_X5_leaderBehind 2 (pc' := 4) (lv' := [(3, .int (z3 + am_i 1)), (0, .ref a1), (1, .int y1), (2, .int z2)]) (st' := []) rfl ?_
        refine am_subp [1, 2, 3, 0] rfl ?_
        exact ih _ _ hm K
      · replace hm := am_if hm hc3
        refine am_steps ck_X5_leaderBehind 1 (pc' := 17) (lv' := [(0, .ref a1), (1, .int y1), (2, .int z2), (3, .int z3)]) (st' := [.int y1]) rfl ?_
        refine am_ifc (tgt := 32) (am_fd ck_X5_leaderBehind (pc := 17) rfl) rfl (fun hc4 => ?_) (fun hc4 => ?_)
        · replace hm := am_it hm hc4
          refine am_steps ck_X5_leaderBehind 2 (pc' := 34) (lv' := [(0, .ref a1), (1, .int y1), (2, .int z2), (3, .int z3)]) (st' := [.int (am_i (-1)), .int z2]) rfl ?_
          refine am_icmp (tgt := 46) (am_fd ck_X5_leaderBehind (pc := 34) rfl) rfl (fun hc5 => ?_) (fun hc5 => ?_)
          · replace hm := am_it hm hc5
            refine am_steps ck_X5_leaderBehind 4 (pc' := 4) (lv' := [(3, .int (z3 + am_i 1)), (2, .int z3), (0, .ref a1), (1, .int y1)]) (st' := []) rfl ?_
            refine am_subp [2, 3, 1, 0] rfl ?_
            exact ih _ _ hm K
          · replace hm := am_if hm hc5
            refine am_steps ck_X5_leaderBehind 2 (pc' := 39) (lv' := [(0, .ref a1), (1, .int y1), (2, .int z2), (3, .int z3)]) (st' := [.int z3, .ref a1]) rfl ?_
            obtain ⟨hb6, hm⟩ := am_gE hm
            refine ms_iald (n := 64) (am_fd ck_X5_leaderBehind (pc := 39) rfl) ha1 hb6 ?_
            refine am_steps ck_X5_leaderBehind 2 (pc' := 42) (lv' := [(0, .ref a1), (1, .int y1), (2, .int z2), (3, .int z3)]) (st' := [.int z2, .ref a1, .int (m a1 (am_ix z3))]) rfl ?_
            obtain ⟨hb7, hm⟩ := am_gE hm
            refine ms_iald (n := 64) (am_fd ck_X5_leaderBehind (pc := 42) rfl) ha1 hb7 ?_
            refine am_icmp (tgt := 48) (am_fd ck_X5_leaderBehind (pc := 43) rfl) rfl (fun hc8 => ?_) (fun hc8 => ?_)
            · replace hm := am_it hm hc8
              refine am_steps ck_X5_leaderBehind 2 (pc' := 4) (lv' := [(3, .int (z3 + am_i 1)), (0, .ref a1), (1, .int y1), (2, .int z2)]) (st' := []) rfl ?_
              refine am_subp [1, 2, 3, 0] rfl ?_
              exact ih _ _ hm K
            · replace hm := am_if hm hc8
              refine am_steps ck_X5_leaderBehind 4 (pc' := 4) (lv' := [(3, .int (z3 + am_i 1)), (2, .int z3), (0, .ref a1), (1, .int y1)]) (st' := []) rfl ?_
              refine am_subp [2, 3, 1, 0] rfl ?_
              exact ih _ _ hm K
        · replace hm := am_if hm hc4
          refine am_steps ck_X5_leaderBehind 3 (pc' := 23) (lv' := [(0, .ref a1), (1, .int y1), (2, .int z2), (3, .int z3)]) (st' := [.int z3, .int y1, .ref a1]) rfl ?_
          obtain ⟨q9, hq9, hm⟩ := am_bE hm
          refine ms_callS (M2 := mt_X5_leadsOver) (d2 := 1) [.ref a1, .int y1, .int z3] (am_fd ck_X5_leaderBehind (pc := 23) rfl) ok_X5_leadsOver tw_648 tw_649 (Nat.le_of_ble_eq_true rfl) (Nat.le_of_ble_eq_true rfl) (x_X5_leadsOver hL ha1 hq9) ?_
          refine am_ifc (tgt := 32) (am_fd ck_X5_leaderBehind (pc := 26) rfl) rfl (fun hc10 => ?_) (fun hc10 => ?_)
          · replace hm := am_it hm hc10
            refine am_steps ck_X5_leaderBehind 2 (pc' := 34) (lv' := [(0, .ref a1), (1, .int y1), (2, .int z2), (3, .int z3)]) (st' := [.int (am_i (-1)), .int z2]) rfl ?_
            refine am_icmp (tgt := 46) (am_fd ck_X5_leaderBehind (pc := 34) rfl) rfl (fun hc11 => ?_) (fun hc11 => ?_)
            · replace hm := am_it hm hc11
              refine am_steps ck_X5_leaderBehind 4 (pc' := 4) (lv' := [(3, .int (z3 + am_i 1)), (2, .int z3), (0, .ref a1), (1, .int y1)]) (st' := []) rfl ?_
              refine am_subp [2, 3, 1, 0] rfl ?_
              exact ih _ _ hm K
            · replace hm := am_if hm hc11
              refine am_steps ck_X5_leaderBehind 2 (pc' := 39) (lv' := [(0, .ref a1), (1, .int y1), (2, .int z2), (3, .int z3)]) (st' := [.int z3, .ref a1]) rfl ?_
              obtain ⟨hb12, hm⟩ := am_gE hm
              refine ms_iald (n := 64) (am_fd ck_X5_leaderBehind (pc := 39) rfl) ha1 hb12 ?_
              refine am_steps ck_X5_leaderBehind 2 (pc' := 42) (lv' := [(0, .ref a1), (1, .int y1), (2, .int z2), (3, .int z3)]) (st' := [.int z2, .ref a1, .int (m a1 (am_ix z3))]) rfl ?_
              obtain ⟨hb13, hm⟩ := am_gE hm
              refine ms_iald (n := 64) (am_fd ck_X5_leaderBehind (pc := 42) rfl) ha1 hb13 ?_
              refine am_icmp (tgt := 48) (am_fd ck_X5_leaderBehind (pc := 43) rfl) rfl (fun hc14 => ?_) (fun hc14 => ?_)
              · replace hm := am_it hm hc14
                refine am_steps ck_X5_leaderBehind 2 (pc' := 4) (lv' := [(3, .int (z3 + am_i 1)), (0, .ref a1), (1, .int y1), (2, .int z2)]) (st' := []) rfl ?_
                refine am_subp [1, 2, 3, 0] rfl ?_
                exact ih _ _ hm K
              · replace hm := am_if hm hc14
                refine am_steps ck_X5_leaderBehind 4 (pc' := 4) (lv' := [(3, .int (z3 + am_i 1)), (2, .int z3), (0, .ref a1), (1, .int y1)]) (st' := []) rfl ?_
                refine am_subp [2, 3, 1, 0] rfl ?_
                exact ih _ _ hm K
          · replace hm := am_if hm hc10
            refine am_steps ck_X5_leaderBehind 3 (pc' := 4) (lv' := [(3, .int (z3 + am_i 1)), (0, .ref a1), (1, .int y1), (2, .int z2)]) (st' := []) rfl ?_
            refine am_subp [1, 2, 3, 0] rfl ?_
            exact ih _ _ hm K
set_option maxRecDepth 100000 in
set_option maxHeartbeats 4000000 in
theorem x_X5_leaderBehind {G : am_G} {m : am_m} {r : am_rr} {a1 : Nat} {x2 : Int32} {res : Int32} (hL : am_Lay r) (ha1 : am_k a1 11 64) (hm : m_X5_leaderBehind m a1 x2 = some res) : am_Met G mt_X5_leaderBehind 2 [.ref a1, .int x2] (am_hh m r) (some (.int res)) (am_hh m r) := by
  refine am_of (by decide) (Nat.le_of_ble_eq_true rfl) ?_
  unfold m_X5_leaderBehind at hm
  show am_W G mt_X5_leaderBehind 2 _ _ 0 [(0, .ref a1), (1, .int x2)] [] (am_hh m r)
  refine am_steps ck_X5_leaderBehind 4 (pc' := 4) (lv' := [(3, .int (am_i 0)), (2, .int (am_i (-1))), (0, .ref a1), (1, .int x2)]) (st' := []) rfl ?_
  refine am_subp [2, 3, 1, 0] rfl ?_
  refine x_X5_leaderBehind_4 hL ha1 am_F _ _ hm (fun u15 hm => ?_)
  refine am_steps ck_X5_leaderBehind 1 (pc' := 55) (lv' := [(2, .int u15)]) (st' := [.int u15]) rfl ?_
  cases hm
  exact am_end (am_fd ck_X5_leaderBehind (pc := 55) rfl) am_rI rfl rfl
set_option maxRecDepth 100000 in
set_option maxHeartbeats 4000000 in
theorem x_X5_leaderAt_4 {G : am_G} {a1 : Nat} {x2 : Int32} {m : am_m} {r : am_rr} {y1 : Int32} {res : Int32} {k : Int32 → Option (Int32)} (hL : am_Lay r) (ha1 : am_k a1 11 64) : ∀ (n : Nat) (z2 : Int32) (z3 : Int32), m_X5_leaderAt_4 a1 x2 m y1 k n z2 z3 = some res → (∀ (u2 : Int32), k u2 = some res → am_W G mt_X5_leaderAt 3 (some (.int res)) (am_hh m r) 34 [(1, .int y1), (2, .int u2)] [] (am_hh m r)) → am_W G mt_X5_leaderAt 3 (some (.int res)) (am_hh m r) 4 [(0, .ref a1), (1, .int y1), (2, .int z2), (3, .int z3)] [] (am_hh m r) := by
  intro n
  induction n with
  | zero => intro z2 z3 hm K; cases hm
  | succ n ih =>
    intro z2 z3 hm K
    unfold m_X5_leaderAt_4 at hm
    refine am_steps ck_X5_leaderAt 2 (pc' := 6) (lv' := [(0, .ref a1), (1, .int y1), (2, .int z2), (3, .int z3)]) (st' := [.int y1, .int z3]) rfl ?_
    refine am_icmp (tgt := 34) (am_fd ck_X5_leaderAt (pc := 6) rfl) rfl (fun hc1 => ?_) (fun hc1 => ?_)
    · replace hm := am_it hm hc1
      refine am_subp [1, 2] rfl ?_
      exact K _ hm
    · replace hm := am_if hm hc1
      refine am_steps ck_X5_leaderAt 2 (pc' := 12) (lv' := [(0, .ref a1), (1, .int y1), (2, .int z2), (3, .int z3)]) (st' := [.int (am_i 64), .int z3]) rfl ?_
      refine am_icmp (tgt := 34) (am_fd ck_X5_leaderAt (pc := 12) rfl) rfl (fun hc2 => ?_) (fun hc2 => ?_)
      · replace hm := am_it hm hc2
        refine am_subp [1, 2] rfl ?_
        exact K _ hm
      · replace hm := am_if hm hc2
        refine am_steps ck_X5_leaderAt 2 (pc' := 17) (lv' := [(0, .ref a1), (1, .int y1), (2, .int z2), (3, .int z3)]) (st' := [.int z2, .ref a1]) rfl ?_
        obtain ⟨q3, hq3, hm⟩ := am_bE hm
        refine ms_callS (M2 := mt_X5_leaderBehind) (d2 := 2) [.ref a1, .int z2] (am_fd ck_X5_leaderAt (pc := 17) rfl) ok_X5_leaderBehind tw_645 tw_646 (Nat.le_of_ble_eq_true rfl) (Nat.le_of_ble_eq_true rfl) (x_X5_leaderBehind hL ha1 hq3) ?_
        refine am_steps ck_X5_leaderAt 3 (pc' := 23) (lv' := [(2, .int q3), (0, .ref a1), (1, .int y1), (3, .int z3)]) (st' := [.int (am_i (-1)), .int q3]) rfl ?_
        refine am_icmp (tgt := 28) (am_fd ck_X5_leaderAt (pc := 23) rfl) rfl (fun hc4 => ?_) (fun hc4 => ?_)
        · replace hm := am_it hm hc4
          refine am_steps ck_X5_leaderAt 2 (pc' := 4) (lv' := [(3, .int (z3 + am_i 1)), (2, .int q3), (0, .ref a1), (1, .int y1)]) (st' := []) rfl ?_
          refine am_subp [2, 3, 1, 0] rfl ?_
          exact ih _ _ hm K
        · replace hm := am_if hm hc4
          refine am_steps ck_X5_leaderAt 1 (pc' := 27) (lv' := [(2, .int q3), (0, .ref a1), (1, .int y1), (3, .int z3)]) (st' := [.int (am_i (-1))]) rfl ?_
          cases hm
          exact am_end (am_fd ck_X5_leaderAt (pc := 27) rfl) am_rI rfl rfl
set_option maxRecDepth 100000 in
set_option maxHeartbeats 4000000 in
theorem x_X5_leaderAt {G : am_G} {m : am_m} {r : am_rr} {a1 : Nat} {x2 : Int32} {res : Int32} (hL : am_Lay r) (ha1 : am_k a1 11 64) (hm : m_X5_leaderAt m a1 x2 = some res) : am_Met G mt_X5_leaderAt 3 [.ref a1, .int x2] (am_hh m r) (some (.int res)) (am_hh m r) := by
  refine am_of (by decide) (Nat.le_of_ble_eq_true rfl) ?_
  unfold m_X5_leaderAt at hm
  show am_W G mt_X5_leaderAt 3 _ _ 0 [(0, .ref a1), (1, .int x2)] [] (am_hh m r)
  refine am_steps ck_X5_leaderAt 4 (pc' := 4) (lv' := [(3, .int (am_i 0)), (2, .int (am_i (-1))), (0, .ref a1), (1, .int x2)]) (st' := []) rfl ?_
  refine am_subp [2, 3, 1, 0] rfl ?_
  refine x_X5_leaderAt_4 hL ha1 am_F _ _ hm (fun u5 hm => ?_)
  refine am_steps ck_X5_leaderAt 2 (pc' := 37) (lv' := [(1, .int x2), (2, .int u5)]) (st' := [.int (am_i 64), .int x2]) rfl ?_
  refine am_icmp (tgt := 44) (am_fd ck_X5_leaderAt (pc := 37) rfl) rfl (fun hc6 => ?_) (fun hc6 => ?_)
  · replace hm := am_it hm hc6
    refine am_steps ck_X5_leaderAt 1 (pc' := 45) (lv' := [(1, .int x2), (2, .int u5)]) (st' := [.int (am_i (-1))]) rfl ?_
    cases hm
    exact am_end (am_fd ck_X5_leaderAt (pc := 45) rfl) am_rI rfl rfl
  · replace hm := am_if hm hc6
    refine am_steps ck_X5_leaderAt 2 (pc' := 45) (lv' := [(1, .int x2), (2, .int u5)]) (st' := [.int u5]) rfl ?_
    cases hm
    exact am_end (am_fd ck_X5_leaderAt (pc := 45) rfl) am_rI rfl rfl
set_option maxRecDepth 100000 in
set_option maxHeartbeats 4000000 in
theorem x_X6_maskOf_4 {G : am_G} {a1 : Nat} {m : am_m} {r : am_rr} {res : Int64} {k : Int64 → Option (Int64)} (hL : am_Lay r) (ha1 : am_k a1 11 64) : ∀ (n : Nat) (z1 : Int64) (z3 : Int32), m_X6_maskOf_4 a1 m k n z1 z3 = some res → (∀ (u1 : Int64), k u1 = some res → am_W G mt_X6_maskOf 1 (some (.long res)) (am_hh m r) 34 [(1, .long u1)] [] (am_hh m r)) → am_W G mt_X6_maskOf 1 (some (.long res)) (am_hh m r) 4 [(0, .ref a1), (1, .long z1), (3, .int z3)] [] (am_hh m r) := by
  intro n
  induction n with
  | zero => intro z1 z3 hm K; cases hm
  | succ n ih =>
    intro z1 z3 hm K
    unfold m_X6_maskOf_4 at hm
    refine am_steps ck_X6_maskOf 2 (pc' := 7) (lv' := [(0, .ref a1), (1, .long z1), (3, .int z3)]) (st' := [.int (am_i 64), .int z3]) rfl ?_
    refine am_icmp (tgt := 34) (am_fd ck_X6_maskOf (pc := 7) rfl) rfl (fun hc1 => ?_) (fun hc1 => ?_)
    · replace hm := am_it hm hc1
      refine am_subp [1] rfl ?_
      exact K _ hm
    · replace hm := am_if hm hc1
      refine am_steps ck_X6_maskOf 2 (pc' := 12) (lv' := [(0, .ref a1), (1, .long z1), (3, .int z3)]) (st' := [.ref a1, .int z3]) rfl ?_
      refine ms_alen (n := 64) (x := am_i 64) (am_fd ck_X6_maskOf (pc := 12) rfl) ha1 (by decide) ?_
      refine am_icmp (tgt := 34) (am_fd ck_X6_maskOf (pc := 13) rfl) rfl (fun hc2 => ?_) (fun hc2 => ?_)
      · replace hm := am_it hm hc2
        refine am_subp [1] rfl ?_
        exact K _ hm
      · replace hm := am_if hm hc2
        refine am_steps ck_X6_maskOf 2 (pc' := 18) (lv' := [(0, .ref a1), (1, .long z1), (3, .int z3)]) (st' := [.int z3, .ref a1]) rfl ?_
        obtain ⟨hb3, hm⟩ := am_gE hm
        refine ms_iald (n := 64) (am_fd ck_X6_maskOf (pc := 18) rfl) ha1 hb3 ?_
        refine am_ifc (tgt := 28) (am_fd ck_X6_maskOf (pc := 19) rfl) rfl (fun hc4 => ?_) (fun hc4 => ?_)
        · replace hm := am_it hm hc4
          refine am_steps ck_X6_maskOf 2 (pc' := 4) (lv' := [(3, .int (z3 + am_i 1)), (0, .ref a1), (1, .long z1)]) (st' := []) rfl ?_
          refine am_subp [1, 2, 0] rfl ?_
          exact ih _ _ hm K
        · replace hm := am_if hm hc4
          refine am_steps ck_X6_maskOf 8 (pc' := 4) (lv' := [(3, .int (z3 + am_i 1)), (1, .long (z1 ||| ((Int64.ofNat 1) <<< (z3.toInt64 &&& 63)))), (0, .ref a1)]) (st' := []) rfl ?_
          refine am_subp [2, 1, 0] rfl ?_
          exact ih _ _ hm K
set_option maxRecDepth 100000 in
set_option maxHeartbeats 4000000 in
theorem x_X6_maskOf {G : am_G} {m : am_m} {r : am_rr} {a1 : Nat} {res : Int64} (hL : am_Lay r) (ha1 : am_k a1 11 64) (hm : m_X6_maskOf m a1 = some res) : am_Met G mt_X6_maskOf 1 [.ref a1] (am_hh m r) (some (.long res)) (am_hh m r) := by
  refine am_of (by decide) (Nat.le_of_ble_eq_true rfl) ?_
  unfold m_X6_maskOf at hm
  show am_W G mt_X6_maskOf 1 _ _ 0 [(0, .ref a1)] [] (am_hh m r)
  refine am_steps ck_X6_maskOf 4 (pc' := 4) (lv' := [(3, .int (am_i 0)), (1, .long (Int64.ofNat 0)), (0, .ref a1)]) (st' := []) rfl ?_
  refine am_subp [2, 1, 0] rfl ?_
  refine x_X6_maskOf_4 hL ha1 am_F _ _ hm (fun u5 hm => ?_)
  refine am_steps ck_X6_maskOf 1 (pc' := 35) (lv' := [(1, .long u5)]) (st' := [.long u5]) rfl ?_
  cases hm
  exact am_end (am_fd ck_X6_maskOf (pc := 35) rfl) am_rJ rfl rfl
set_option maxRecDepth 100000 in
set_option maxHeartbeats 4000000 in
theorem x_X3_tell_22 {G : am_G} {x1 : Int32} {a2 : Nat} {r : am_rr} {y3 : Int32} {res : am_m} {k : am_m → Option (am_m)} (hL : am_Lay r) (ha2 : am_k a2 11 64) : ∀ (n : Nat) (z4 : Int32) (m : am_m), m_X3_tell_22 x1 a2 y3 k n z4 m = some res → (∀ (m1 : am_m), k m1 = some res → am_W G mt_X3_tell 4 none (am_hh res r) 83 [(0, .ref 2986), (3, .int y3)] [] (am_hh m1 r)) → am_W G mt_X3_tell 4 none (am_hh res r) 22 [(0, .ref 2986), (2, .ref a2), (3, .int y3), (4, .int z4)] [] (am_hh m r) := by
  intro n
  induction n with
  | zero => intro z4 m hm K; cases hm
  | succ n ih =>
    intro z4 m hm K
    unfold m_X3_tell_22 at hm
    refine am_steps ck_X3_tell 2 (pc' := 25) (lv' := [(0, .ref 2986), (2, .ref a2), (3, .int y3), (4, .int z4)]) (st' := [.int y3, .int z4]) rfl ?_
    refine am_icmp (tgt := 83) (am_fd ck_X3_tell (pc := 25) rfl) rfl (fun hc5 => ?_) (fun hc5 => ?_)
    · replace hm := am_it hm hc5
      refine am_subp [0, 2] rfl ?_
      exact K _ hm
    · replace hm := am_if hm hc5
      refine am_steps ck_X3_tell 2 (pc' := 31) (lv' := [(0, .ref 2986), (2, .ref a2), (3, .int y3), (4, .int z4)]) (st' := [.int (am_i 5), .int z4]) rfl ?_
      refine am_icmp (tgt := 83) (am_fd ck_X3_tell (pc := 31) rfl) rfl (fun hc6 => ?_) (fun hc6 => ?_)
      · replace hm := am_it hm hc6
        refine am_subp [0, 2] rfl ?_
        exact K _ hm
      · replace hm := am_if hm hc6
        refine am_steps ck_X3_tell 2 (pc' := 37) (lv' := [(0, .ref 2986), (2, .ref a2), (3, .int y3), (4, .int z4)]) (st' := [.int z4, .ref a2]) rfl ?_
        obtain ⟨q7, hq7, hm⟩ := am_bE hm
        refine ms_callS (M2 := mt_X5_leaderAt) (d2 := 3) [.ref a2, .int z4] (am_fd ck_X3_tell (pc := 37) rfl) ok_X5_leaderAt tw_738 tw_643 (Nat.le_of_ble_eq_true rfl) (Nat.le_of_ble_eq_true rfl) (x_X5_leaderAt hL ha2 hq7) ?_
        refine am_steps ck_X3_tell 3 (pc' := 45) (lv' := [(5, .int q7), (0, .ref 2986), (2, .ref a2), (3, .int y3), (4, .int z4)]) (st' := [.int (am_i (-1)), .int q7]) rfl ?_
        refine am_icmp (tgt := 51) (am_fd ck_X3_tell (pc := 45) rfl) rfl (fun hc8 => ?_) (fun hc8 => ?_)
        · replace hm := am_it hm hc8
          refine am_steps ck_X3_tell 2 (pc' := 54) (lv' := [(5, .int q7), (0, .ref 2986), (2, .ref a2), (3, .int y3), (4, .int z4)]) (st' := [.int (am_i 32), .ref 2986]) rfl ?_
          obtain ⟨q9, hq9, hm⟩ := am_bE hm
          refine ms_callVv (M2 := mt_X3_put) (d2 := 1) (ci := 3) [.int (am_i 32)] (am_fd ck_X3_tell (pc := 54) rfl) ok_X3_put tw_734 tw_736 ts_19 (by decide) kc_2986 (Nat.le_of_ble_eq_true rfl) (Nat.le_of_ble_eq_true rfl) (x_X3_put hL hq9) ?_
          refine am_steps ck_X3_tell 2 (pc' := 60) (lv' := [(5, .int q7), (0, .ref 2986), (2, .ref a2), (3, .int y3), (4, .int z4)]) (st' := [.int q7, .ref 2986]) rfl ?_
          obtain ⟨q10, hq10, hm⟩ := am_bE hm
          refine ms_callVv (M2 := mt_X3_putNumber) (d2 := 2) (ci := 3) [.int q7] (am_fd ck_X3_tell (pc := 60) rfl) ok_X3_putNumber tw_729 tw_731 ts_18 (by decide) kc_2986 (Nat.le_of_ble_eq_true rfl) (Nat.le_of_ble_eq_true rfl) (x_X3_putNumber hL hq10) ?_
          refine am_steps ck_X3_tell 2 (pc' := 66) (lv' := [(5, .int q7), (0, .ref 2986), (2, .ref a2), (3, .int y3), (4, .int z4)]) (st' := [.int (am_i 120), .ref 2986]) rfl ?_
          obtain ⟨q11, hq11, hm⟩ := am_bE hm
          refine ms_callVv (M2 := mt_X3_put) (d2 := 1) (ci := 3) [.int (am_i 120)] (am_fd ck_X3_tell (pc := 66) rfl) ok_X3_put tw_734 tw_736 ts_19 (by decide) kc_2986 (Nat.le_of_ble_eq_true rfl) (Nat.le_of_ble_eq_true rfl) (x_X3_put hL hq11) ?_
          refine am_steps ck_X3_tell 3 (pc' := 73) (lv' := [(5, .int q7), (0, .ref 2986), (2, .ref a2), (3, .int y3), (4, .int z4)]) (st' := [.int q7, .ref a2, .ref 2986]) rfl ?_
          obtain ⟨hb12, hm⟩ := am_gE hm
          refine ms_iald (n := 64) (am_fd ck_X3_tell (pc := 73) rfl) ha2 hb12 ?_
          obtain ⟨q13, hq13, hm⟩ := am_bE hm
          refine ms_callVv (M2 := mt_X3_putNumber) (d2 := 2) (ci := 3) [.int (q11 a2 (am_ix q7))] (am_fd ck_X3_tell (pc := 74) rfl) ok_X3_putNumber tw_729 tw_731 ts_18 (by decide) kc_2986 (Nat.le_of_ble_eq_true rfl) (Nat.le_of_ble_eq_true rfl) (x_X3_putNumber hL hq13) ?_
          refine am_steps ck_X3_tell 2 (pc' := 22) (lv' := [(4, .int (z4 + am_i 1)), (5, .int q7), (0, .ref 2986), (2, .ref a2), (3, .int y3)]) (st' := []) rfl ?_
          refine am_subp [2, 3, 4, 0] rfl ?_
          exact ih _ _ hm K
        · replace hm := am_if hm hc8
          refine am_steps ck_X3_tell 1 (pc' := 83) (lv' := [(5, .int q7), (0, .ref 2986), (2, .ref a2), (3, .int y3), (4, .int z4)]) (st' := []) rfl ?_
          refine am_subp [1, 3] rfl ?_
          exact K _ hm
set_option maxRecDepth 100000 in
set_option maxHeartbeats 4000000 in
theorem x_X3_tell {G : am_G} {m : am_m} {r : am_rr} {x1 : Int32} {a2 : Nat} {res : am_m} (hL : am_Lay r) (ha2 : am_k a2 11 64) (hm : m_X3_tell m x1 a2 = some res) : am_Met G mt_X3_tell 4 [.ref 2986, .int x1, .ref a2] (am_hh m r) none (am_hh res r) := by
  refine am_of (by decide) (Nat.le_of_ble_eq_true rfl) ?_
  unfold m_X3_tell at hm
  show am_W G mt_X3_tell 4 _ _ 0 [(0, .ref 2986), (1, .int x1), (2, .ref a2)] [] (am_hh m r)
  refine am_steps ck_X3_tell 1 (pc' := 1) (lv' := [(0, .ref 2986), (1, .int x1), (2, .ref a2)]) (st' := [.ref a2]) rfl ?_
  obtain ⟨q1, hq1, hm⟩ := am_bE hm
  refine ms_callS (M2 := mt_X6_maskOf) (d2 := 1) [.ref a2] (am_fd ck_X3_tell (pc := 1) rfl) ok_X6_maskOf tw_727 tw_293 (Nat.le_of_ble_eq_true rfl) (Nat.le_of_ble_eq_true rfl) (x_X6_maskOf hL ha2 hq1) ?_
  obtain ⟨q2, hq2, hm⟩ := am_bE hm
  refine ms_callS (M2 := mt_J13_bitCount_95d88) (d2 := 1) [.long q1] (am_fd ck_X3_tell (pc := 4) rfl) ok_J13_bitCount_95d88 tw_728 tw_301 (Nat.le_of_ble_eq_true rfl) (Nat.le_of_ble_eq_true rfl) (x_J13_bitCount_95d88 hL hq2) ?_
  refine am_steps ck_X3_tell 3 (pc' := 10) (lv' := [(3, .int q2), (0, .ref 2986), (1, .int x1), (2, .ref a2)]) (st' := [.int x1, .ref 2986]) rfl ?_
  obtain ⟨q3, hq3, hm⟩ := am_bE hm
  refine ms_callVv (M2 := mt_X3_putNumber) (d2 := 2) (ci := 3) [.int x1] (am_fd ck_X3_tell (pc := 10) rfl) ok_X3_putNumber tw_729 tw_731 ts_18 (by decide) kc_2986 (Nat.le_of_ble_eq_true rfl) (Nat.le_of_ble_eq_true rfl) (x_X3_putNumber hL hq3) ?_
  refine am_steps ck_X3_tell 2 (pc' := 16) (lv' := [(3, .int q2), (0, .ref 2986), (1, .int x1), (2, .ref a2)]) (st' := [.int (am_i 58), .ref 2986]) rfl ?_
  obtain ⟨q4, hq4, hm⟩ := am_bE hm
  refine ms_callVv (M2 := mt_X3_put) (d2 := 1) (ci := 3) [.int (am_i 58)] (am_fd ck_X3_tell (pc := 16) rfl) ok_X3_put tw_734 tw_736 ts_19 (by decide) kc_2986 (Nat.le_of_ble_eq_true rfl) (Nat.le_of_ble_eq_true rfl) (x_X3_put hL hq4) ?_
  refine am_steps ck_X3_tell 2 (pc' := 22) (lv' := [(4, .int (am_i 0)), (3, .int q2), (0, .ref 2986), (1, .int x1), (2, .ref a2)]) (st' := []) rfl ?_
  refine am_subp [2, 4, 1, 0] rfl ?_
  refine x_X3_tell_22 hL ha2 am_F _ _ hm (fun m14 hm => ?_)
  refine am_steps ck_X3_tell 2 (pc' := 85) (lv' := [(0, .ref 2986), (3, .int q2)]) (st' := [.int (am_i 5), .int q2]) rfl ?_
  refine am_icmp (tgt := 107) (am_fd ck_X3_tell (pc := 85) rfl) rfl (fun hc15 => ?_) (fun hc15 => ?_)
  · replace hm := am_it hm hc15
    cases hm
    exact am_end (am_fd ck_X3_tell (pc := 107) rfl) am_rV rfl rfl
  · replace hm := am_if hm hc15
    refine am_steps ck_X3_tell 2 (pc' := 91) (lv' := [(0, .ref 2986), (3, .int q2)]) (st' := [.int (am_i 32), .ref 2986]) rfl ?_
    obtain ⟨q16, hq16, hm⟩ := am_bE hm
    refine ms_callVv (M2 := mt_X3_put) (d2 := 1) (ci := 3) [.int (am_i 32)] (am_fd ck_X3_tell (pc := 91) rfl) ok_X3_put tw_734 tw_736 ts_19 (by decide) kc_2986 (Nat.le_of_ble_eq_true rfl) (Nat.le_of_ble_eq_true rfl) (x_X3_put hL hq16) ?_
    refine am_steps ck_X3_tell 2 (pc' := 97) (lv' := [(0, .ref 2986), (3, .int q2)]) (st' := [.int (am_i 43), .ref 2986]) rfl ?_
    obtain ⟨q17, hq17, hm⟩ := am_bE hm
    refine ms_callVv (M2 := mt_X3_put) (d2 := 1) (ci := 3) [.int (am_i 43)] (am_fd ck_X3_tell (pc := 97) rfl) ok_X3_put tw_734 tw_736 ts_19 (by decide) kc_2986 (Nat.le_of_ble_eq_true rfl) (Nat.le_of_ble_eq_true rfl) (x_X3_put hL hq17) ?_
    refine am_steps ck_X3_tell 4 (pc' := 104) (lv' := [(0, .ref 2986), (3, .int q2)]) (st' := [.int (q2 - (am_i 5)), .ref 2986]) rfl ?_
    obtain ⟨q18, hq18, hm⟩ := am_bE hm
    refine ms_callVv (M2 := mt_X3_putNumber) (d2 := 2) (ci := 3) [.int (q2 - (am_i 5))] (am_fd ck_X3_tell (pc := 104) rfl) ok_X3_putNumber tw_729 tw_731 ts_18 (by decide) kc_2986 (Nat.le_of_ble_eq_true rfl) (Nat.le_of_ble_eq_true rfl) (x_X3_putNumber hL hq18) ?_
    cases hm
    exact am_end (am_fd ck_X3_tell (pc := 107) rfl) am_rV rfl rfl
set_option maxRecDepth 100000 in
set_option maxHeartbeats 4000000 in
theorem x_X6_common_12 {G : am_G} {x1 : Int64} {x2 : Int64} {m : am_m} {r : am_rr} {res : Int32} {k : Int32 → Option (Int32)} (hL : am_Lay r) : ∀ (n : Nat) (z4 : Int32) (z5 : Int64) (z7 : Int64) (z9 : Int32), m_X6_common_12 x1 x2 m k n z4 z5 z7 z9 = some res → (∀ (u4 : Int32), k u4 = some res → am_W G mt_X6_common 2 (some (.int res)) (am_hh m r) 85 [(4, .int u4)] [] (am_hh m r)) → am_W G mt_X6_common 2 (some (.int res)) (am_hh m r) 12 [(4, .int z4), (5, .long z5), (7, .long z7), (9, .int z9)] [] (am_hh m r) := by
  intro n
  induction n with
  | zero => intro z4 z5 z7 z9 hm K; cases hm
  | succ n ih =>
    intro z4 z5 z7 z9 hm K
    unfold m_X6_common_12 at hm
    refine am_steps ck_X6_common 2 (pc' := 16) (lv' := [(4, .int z4), (5, .long z5), (7, .long z7), (9, .int z9)]) (st' := [.int (am_i 7), .int z9]) rfl ?_
    refine am_icmp (tgt := 85) (am_fd ck_X6_common (pc := 16) rfl) rfl (fun hc1 => ?_) (fun hc1 => ?_)
    · replace hm := am_it hm hc1
      refine am_subp [0] rfl ?_
      exact K _ hm
    · replace hm := am_if hm hc1
      refine am_steps ck_X6_common 1 (pc' := 21) (lv' := [(4, .int z4), (5, .long z5), (7, .long z7), (9, .int z9)]) (st' := [.int z9]) rfl ?_
      refine am_ifc (tgt := 66) (am_fd ck_X6_common (pc := 21) rfl) rfl (fun hc2 => ?_) (fun hc2 => ?_)
      · replace hm := am_it hm hc2
        refine am_steps ck_X6_common 4 (pc' := 73) (lv' := [(4, .int z4), (5, .long z5), (7, .long z7), (9, .int z9)]) (st' := [.long (z5 &&& z7), .int z4]) rfl ?_
        obtain ⟨q3, hq3, hm⟩ := am_bE hm
        refine ms_callS (M2 := mt_J13_bitCount_95d88) (d2 := 1) [.long (z5 &&& z7)] (am_fd ck_X6_common (pc := 73) rfl) ok_J13_bitCount_95d88 tw_300 tw_301 (Nat.le_of_ble_eq_true rfl) (Nat.le_of_ble_eq_true rfl) (x_J13_bitCount_95d88 hL hq3) ?_
        refine am_steps ck_X6_common 4 (pc' := 12) (lv' := [(9, .int (z9 + am_i 1)), (4, .int (z4 + q3)), (5, .long z5), (7, .long z7)]) (st' := []) rfl ?_
        refine am_subp [1, 2, 3, 0] rfl ?_
        exact ih _ _ _ _ hm K
      · replace hm := am_if hm hc2
        refine am_steps ck_X6_common 11 (pc' := 40) (lv' := [(10, .int ((am_i 1) <<< ((z9 - (am_i 1)) &&& 31))), (4, .int z4), (5, .long z5), (7, .long z7), (9, .int z9)]) (st' := [.long (z5 ||| ((z5.toUInt64 >>> (((am_i 1) <<< ((z9 - (am_i 1)) &&& 31)).toInt64.toUInt64 &&& Int64.toUInt64 63)).toInt64))]) rfl ?_
        refine am_gets (am_fd ck_X6_common (pc := 40) rfl) tw_298 ?_
        refine am_steps ck_X6_common 1 (pc' := 45) (lv' := [(10, .int ((am_i 1) <<< ((z9 - (am_i 1)) &&& 31))), (4, .int z4), (5, .long z5), (7, .long z7), (9, .int z9)]) (st' := [.int z9, .ref 2, .long (z5 ||| ((z5.toUInt64 >>> (((am_i 1) <<< ((z9 - (am_i 1)) &&& 31)).toInt64.toUInt64 &&& Int64.toUInt64 63)).toInt64))]) rfl ?_
        obtain ⟨hb4, hm⟩ := am_gE hm
        refine am_lald (am_fd ck_X6_common (pc := 45) rfl) (am_ibv hb4) ?_
        refine am_steps ck_X6_common 7 (pc' := 57) (lv' := [(5, .long ((z5 ||| ((z5.toUInt64 >>> (((am_i 1) <<< ((z9 - (am_i 1)) &&& 31)).toInt64.toUInt64 &&& Int64.toUInt64 63)).toInt64)) &&& (am_lm (am_ix z9)))), (10, .int ((am_i 1) <<< ((z9 - (am_i 1)) &&& 31))), (4, .int z4), (7, .long z7), (9, .int z9)]) (st' := [.long (z7 ||| ((z7.toUInt64 >>> (((am_i 1) <<< ((z9 - (am_i 1)) &&& 31)).toInt64.toUInt64 &&& Int64.toUInt64 63)).toInt64))]) rfl ?_
        refine am_gets (am_fd ck_X6_common (pc := 57) rfl) tw_298 ?_
        refine am_steps ck_X6_common 1 (pc' := 62) (lv' := [(5, .long ((z5 ||| ((z5.toUInt64 >>> (((am_i 1) <<< ((z9 - (am_i 1)) &&& 31)).toInt64.toUInt64 &&& Int64.toUInt64 63)).toInt64)) &&& (am_lm (am_ix z9)))), (10, .int ((am_i 1) <<< ((z9 - (am_i 1)) &&& 31))), (4, .int z4), (7, .long z7), (9, .int z9)]) (st' := [.int z9, .ref 2, .long (z7 ||| ((z7.toUInt64 >>> (((am_i 1) <<< ((z9 - (am_i 1)) &&& 31)).toInt64.toUInt64 &&& Int64.toUInt64 63)).toInt64))]) rfl ?_
        obtain ⟨hb5, hm⟩ := am_gE hm
        refine am_lald (am_fd ck_X6_common (pc := 62) rfl) (am_ibv hb5) ?_
        refine am_steps ck_X6_common 6 (pc' := 73) (lv' := [(7, .long ((z7 ||| ((z7.toUInt64 >>> (((am_i 1) <<< ((z9 - (am_i 1)) &&& 31)).toInt64.toUInt64 &&& Int64.toUInt64 63)).toInt64)) &&& (am_lm (am_ix z9)))), (5, .long ((z5 ||| ((z5.toUInt64 >>> (((am_i 1) <<< ((z9 - (am_i 1)) &&& 31)).toInt64.toUInt64 &&& Int64.toUInt64 63)).toInt64)) &&& (am_lm (am_ix z9)))), (10, .int ((am_i 1) <<< ((z9 - (am_i 1)) &&& 31))), (4, .int z4), (9, .int z9)]) (st' := [.long (((z5 ||| ((z5.toUInt64 >>> (((am_i 1) <<< ((z9 - (am_i 1)) &&& 31)).toInt64.toUInt64 &&& Int64.toUInt64 63)).toInt64)) &&& (am_lm (am_ix z9))) &&& ((z7 ||| ((z7.toUInt64 >>> (((am_i 1) <<< ((z9 - (am_i 1)) &&& 31)).toInt64.toUInt64 &&& Int64.toUInt64 63)).toInt64)) &&& (am_lm (am_ix z9)))), .int z4]) rfl ?_
        obtain ⟨q6, hq6, hm⟩ := am_bE hm
        refine ms_callS (M2 := mt_J13_bitCount_95d88) (d2 := 1) [.long (((z5 ||| ((z5.toUInt64 >>> (((am_i 1) <<< ((z9 - (am_i 1)) &&& 31)).toInt64.toUInt64 &&& Int64.toUInt64 63)).toInt64)) &&& (am_lm (am_ix z9))) &&& ((z7 ||| ((z7.toUInt64 >>> (((am_i 1) <<< ((z9 - (am_i 1)) &&& 31)).toInt64.toUInt64 &&& Int64.toUInt64 63)).toInt64)) &&& (am_lm (am_ix z9))))] (am_fd ck_X6_common (pc := 73) rfl) ok_J13_bitCount_95d88 tw_300 tw_301 (Nat.le_of_ble_eq_true rfl) (Nat.le_of_ble_eq_true rfl) (x_J13_bitCount_95d88 hL hq6) ?_
        refine am_steps ck_X6_common 4 (pc' := 12) (lv' := [(9, .int (z9 + am_i 1)), (4, .int (z4 + q6)), (7, .long ((z7 ||| ((z7.toUInt64 >>> (((am_i 1) <<< ((z9 - (am_i 1)) &&& 31)).toInt64.toUInt64 &&& Int64.toUInt64 63)).toInt64)) &&& (am_lm (am_ix z9)))), (5, .long ((z5 ||| ((z5.toUInt64 >>> (((am_i 1) <<< ((z9 - (am_i 1)) &&& 31)).toInt64.toUInt64 &&& Int64.toUInt64 63)).toInt64)) &&& (am_lm (am_ix z9)))), (10, .int ((am_i 1) <<< ((z9 - (am_i 1)) &&& 31)))]) (st' := []) rfl ?_
        refine am_subp [1, 3, 2, 0] rfl ?_
        exact ih _ _ _ _ hm K
set_option maxRecDepth 100000 in
set_option maxHeartbeats 4000000 in
theorem x_X6_common {G : am_G} {m : am_m} {r : am_rr} {x1 : Int64} {x2 : Int64} {res : Int32} (hL : am_Lay r) (hm : m_X6_common m x1 x2 = some res) : am_Met G mt_X6_common 2 [.long x1, .long x2] (am_hh m r) (some (.int res)) (am_hh m r) := by
  refine am_of (by decide) (Nat.le_of_ble_eq_true rfl) ?_
  unfold m_X6_common at hm
  show am_W G mt_X6_common 2 _ _ 0 [(0, .long x1), (2, .long x2)] [] (am_hh m r)
  refine am_steps ck_X6_common 8 (pc' := 12) (lv' := [(9, .int (am_i 0)), (7, .long x2), (5, .long x1), (4, .int (am_i 0)), (0, .long x1), (2, .long x2)]) (st' := []) rfl ?_
  refine am_subp [3, 2, 1, 0] rfl ?_
  refine x_X6_common_12 hL am_F _ _ _ _ hm (fun u7 hm => ?_)
  refine am_steps ck_X6_common 1 (pc' := 87) (lv' := [(4, .int u7)]) (st' := [.int u7]) rfl ?_
  cases hm
  exact am_end (am_fd ck_X6_common (pc := 87) rfl) am_rI rfl rfl
set_option maxRecDepth 100000 in
set_option maxHeartbeats 4000000 in
theorem x_X6_nodesOf {G : am_G} {m : am_m} {r : am_rr} {x1 : Int64} {res : Int32} (hL : am_Lay r) (hm : m_X6_nodesOf m x1 = some res) : am_Met G mt_X6_nodesOf 3 [.long x1] (am_hh m r) (some (.int res)) (am_hh m r) := by
  refine am_of (by decide) (Nat.le_of_ble_eq_true rfl) ?_
  unfold m_X6_nodesOf at hm
  show am_W G mt_X6_nodesOf 3 _ _ 0 [(0, .long x1)] [] (am_hh m r)
  refine am_steps ck_X6_nodesOf 2 (pc' := 2) (lv' := [(0, .long x1)]) (st' := [.long x1, .long x1]) rfl ?_
  obtain ⟨q1, hq1, hm⟩ := am_bE hm
  refine ms_callS (M2 := mt_X6_common) (d2 := 2) [.long x1, .long x1] (am_fd ck_X6_nodesOf (pc := 2) rfl) ok_X6_common tw_383 tw_296 (Nat.le_of_ble_eq_true rfl) (Nat.le_of_ble_eq_true rfl) (x_X6_common hL hq1) ?_
  cases hm
  exact am_end (am_fd ck_X6_nodesOf (pc := 5) rfl) am_rI rfl rfl
set_option maxRecDepth 100000 in
set_option maxHeartbeats 4000000 in
theorem x_X4_keptPart_7 {G : am_G} {o1 : Nat} {x2 : Int32} {m : am_m} {r : am_rr} {y1 : Int32} {res : Int32} {k : Int32 → Int32 → Option (Int32)} (hL : am_Lay r) (hO1 : am_og o1) : ∀ (n : Nat) (z2 : Int32) (z3 : Int32) (z4 : Int32), m_X4_keptPart_7 o1 x2 m y1 k n z2 z3 z4 = some res → (∀ (u2 : Int32) (u3 : Int32), k u2 u3 = some res → am_W G mt_X4_keptPart 4 (some (.int res)) (am_hh m r) 61 [(0, .ref o1), (1, .int y1), (2, .int u2), (3, .int u3)] [] (am_hh m r)) → am_W G mt_X4_keptPart 4 (some (.int res)) (am_hh m r) 7 [(0, .ref o1), (1, .int y1), (2, .int z2), (3, .int z3), (4, .int z4)] [] (am_hh m r) := by
  intro n
  induction n with
  | zero => intro z2 z3 z4 hm K; cases hm
  | succ n ih =>
    intro z2 z3 z4 hm K
    unfold m_X4_keptPart_7 at hm
    refine am_steps ck_X4_keptPart 2 (pc' := 11) (lv' := [(0, .ref o1), (1, .int y1), (2, .int z2), (3, .int z3), (4, .int z4)]) (st' := [.int (am_i 24), .int z4]) rfl ?_
    refine am_icmp (tgt := 61) (am_fd ck_X4_keptPart (pc := 11) rfl) rfl (fun hc1 => ?_) (fun hc1 => ?_)
    · replace hm := am_it hm hc1
      refine am_subp [0, 1, 2, 3] rfl ?_
      exact K _ _ hm
    · replace hm := am_if hm hc1
      refine am_steps ck_X4_keptPart 1 (pc' := 15) (lv' := [(0, .ref o1), (1, .int y1), (2, .int z2), (3, .int z3), (4, .int z4)]) (st' := [.ref o1]) rfl ?_
      refine ms_getr (ci := 1) (k := 0) (v := (aU o1)) (am_fd ck_X4_keptPart (pc := 15) rfl) tw_36 (kO hO1) rfl (lyO0 hL hO1) (kU hO1) ?_
      refine am_steps ck_X4_keptPart 1 (pc' := 20) (lv' := [(0, .ref o1), (1, .int y1), (2, .int z2), (3, .int z3), (4, .int z4)]) (st' := [.int z4, .ref (aU o1)]) rfl ?_
      obtain ⟨hb2, hm⟩ := am_gE hm
      refine ms_iald (n := 24) (am_fd ck_X4_keptPart (pc := 20) rfl) (kU hO1) hb2 ?_
      refine am_steps ck_X4_keptPart 1 (pc' := 22) (lv' := [(0, .ref o1), (1, .int y1), (2, .int z2), (3, .int z3), (4, .int z4)]) (st' := [.int y1, .int (m (aU o1) (am_ix z4))]) rfl ?_
      refine am_icmp (tgt := 28) (am_fd ck_X4_keptPart (pc := 22) rfl) rfl (fun hc3 => ?_) (fun hc3 => ?_)
      · replace hm := am_it hm hc3
        refine am_steps ck_X4_keptPart 1 (pc' := 29) (lv' := [(0, .ref o1), (1, .int y1), (2, .int z2), (3, .int z3), (4, .int z4)]) (st' := [.ref o1]) rfl ?_
        refine ms_getr (ci := 1) (k := 3) (v := (o1 + 28)) (am_fd ck_X4_keptPart (pc := 29) rfl) tw_47 (kO hO1) rfl (lyO3 hL hO1) (kXo hO1) ?_
        refine am_steps ck_X4_keptPart 1 (pc' := 34) (lv' := [(0, .ref o1), (1, .int y1), (2, .int z2), (3, .int z3), (4, .int z4)]) (st' := [.int z4, .ref (o1 + 28)]) rfl ?_
        obtain ⟨hb4, hm⟩ := am_gE hm
        refine ms_rald (n := 24) (v := (aX o1 (am_ix z4))) (am_fd ck_X4_keptPart (pc := 34) rfl) (kXo hO1) hb4 (lyX hL hO1 (am_ixl hb4)) (kX hO1 (am_ixl hb4)) ?_
        obtain ⟨q5, hq5, hm⟩ := am_bE hm
        refine ms_callS (M2 := mt_X6_maskOf) (d2 := 1) [.ref (aX o1 (am_ix z4))] (am_fd ck_X4_keptPart (pc := 35) rfl) ok_X6_maskOf tw_379 tw_293 (Nat.le_of_ble_eq_true rfl) (Nat.le_of_ble_eq_true rfl) (x_X6_maskOf hL (kX hO1 (am_ixl hb4)) hq5) ?_
        obtain ⟨q6, hq6, hm⟩ := am_bE hm
        refine ms_callS (M2 := mt_X6_nodesOf) (d2 := 3) [.long q5] (am_fd ck_X4_keptPart (pc := 38) rfl) ok_X6_nodesOf tw_380 tw_381 (Nat.le_of_ble_eq_true rfl) (Nat.le_of_ble_eq_true rfl) (x_X6_nodesOf hL hq6) ?_
        refine am_steps ck_X4_keptPart 3 (pc' := 46) (lv' := [(5, .int q6), (0, .ref o1), (1, .int y1), (2, .int z2), (3, .int z3), (4, .int z4)]) (st' := [.int z3, .int q6]) rfl ?_
        refine am_icmp (tgt := 55) (am_fd ck_X4_keptPart (pc := 46) rfl) rfl (fun hc7 => ?_) (fun hc7 => ?_)
        · replace hm := am_it hm hc7
          refine am_steps ck_X4_keptPart 2 (pc' := 7) (lv' := [(4, .int (z4 + am_i 1)), (5, .int q6), (0, .ref o1), (1, .int y1), (2, .int z2), (3, .int z3)]) (st' := []) rfl ?_
          refine am_subp [2, 3, 4, 5, 0] rfl ?_
          exact ih _ _ _ hm K
        · replace hm := am_if hm hc7
          refine am_steps ck_X4_keptPart 6 (pc' := 7) (lv' := [(4, .int (z4 + am_i 1)), (3, .int q6), (2, .int z4), (5, .int q6), (0, .ref o1), (1, .int y1)]) (st' := []) rfl ?_
          refine am_subp [4, 5, 2, 1, 0] rfl ?_
          exact ih _ _ _ hm K
      · replace hm := am_if hm hc3
        refine am_steps ck_X4_keptPart 3 (pc' := 7) (lv' := [(4, .int (z4 + am_i 1)), (0, .ref o1), (1, .int y1), (2, .int z2), (3, .int z3)]) (st' := []) rfl ?_
        refine am_subp [1, 2, 3, 4, 0] rfl ?_
        exact ih _ _ _ hm K
set_option maxRecDepth 100000 in
set_option maxHeartbeats 4000000 in
theorem x_X4_keptPart {G : am_G} {m : am_m} {r : am_rr} {o1 : Nat} {x2 : Int32} {res : Int32} (hL : am_Lay r) (hO1 : am_og o1) (hm : m_X4_keptPart m o1 x2 = some res) : am_Met G mt_X4_keptPart 4 [.ref o1, .int x2] (am_hh m r) (some (.int res)) (am_hh m r) := by
  refine am_of (by decide) (Nat.le_of_ble_eq_true rfl) ?_
  unfold m_X4_keptPart at hm
  show am_W G mt_X4_keptPart 4 _ _ 0 [(0, .ref o1), (1, .int x2)] [] (am_hh m r)
  refine am_steps ck_X4_keptPart 6 (pc' := 7) (lv' := [(4, .int (am_i 0)), (3, .int (am_i (-1))), (2, .int x2), (0, .ref o1), (1, .int x2)]) (st' := []) rfl ?_
  refine am_subp [3, 4, 2, 1, 0] rfl ?_
  refine x_X4_keptPart_7 hL hO1 am_F _ _ _ hm (fun u8 u9 hm => ?_)
  refine am_steps ck_X4_keptPart 1 (pc' := 62) (lv' := [(0, .ref o1), (1, .int x2), (2, .int u8), (3, .int u9)]) (st' := [.ref o1]) rfl ?_
  refine ms_getr (ci := 1) (k := 2) (v := (o1 + 3)) (am_fd ck_X4_keptPart (pc := 62) rfl) tw_44 (kO hO1) rfl (lyO2 hL hO1) (kWo hO1) ?_
  refine am_steps ck_X4_keptPart 1 (pc' := 66) (lv' := [(0, .ref o1), (1, .int x2), (2, .int u8), (3, .int u9)]) (st' := [.int x2, .ref (o1 + 3)]) rfl ?_
  obtain ⟨hb10, hm⟩ := am_gE hm
  refine ms_rald (n := 24) (v := (aW o1 (am_ix x2))) (am_fd ck_X4_keptPart (pc := 66) rfl) (kWo hO1) hb10 (lyW hL hO1 (am_ixl hb10)) (kW hO1 (am_ixl hb10)) ?_
  obtain ⟨q11, hq11, hm⟩ := am_bE hm
  refine ms_callS (M2 := mt_X6_maskOf) (d2 := 1) [.ref (aW o1 (am_ix x2))] (am_fd ck_X4_keptPart (pc := 67) rfl) ok_X6_maskOf tw_379 tw_293 (Nat.le_of_ble_eq_true rfl) (Nat.le_of_ble_eq_true rfl) (x_X6_maskOf hL (kW hO1 (am_ixl hb10)) hq11) ?_
  obtain ⟨q12, hq12, hm⟩ := am_bE hm
  refine ms_callS (M2 := mt_X6_nodesOf) (d2 := 3) [.long q11] (am_fd ck_X4_keptPart (pc := 70) rfl) ok_X6_nodesOf tw_380 tw_381 (Nat.le_of_ble_eq_true rfl) (Nat.le_of_ble_eq_true rfl) (x_X6_nodesOf hL hq12) ?_
  refine am_steps ck_X4_keptPart 1 (pc' := 74) (lv' := [(0, .ref o1), (1, .int x2), (2, .int u8), (3, .int u9)]) (st' := [.int u9, .int q12]) rfl ?_
  refine am_icmp (tgt := 81) (am_fd ck_X4_keptPart (pc := 74) rfl) rfl (fun hc13 => ?_) (fun hc13 => ?_)
  · replace hm := am_it hm hc13
    refine am_steps ck_X4_keptPart 1 (pc' := 82) (lv' := [(0, .ref o1), (1, .int x2), (2, .int u8), (3, .int u9)]) (st' := [.int u8]) rfl ?_
    cases hm
    exact am_end (am_fd ck_X4_keptPart (pc := 82) rfl) am_rI rfl rfl
  · replace hm := am_if hm hc13
    refine am_steps ck_X4_keptPart 2 (pc' := 82) (lv' := [(0, .ref o1), (1, .int x2), (2, .int u8), (3, .int u9)]) (st' := [.int x2]) rfl ?_
    cases hm
    exact am_end (am_fd ck_X4_keptPart (pc := 82) rfl) am_rI rfl rfl
set_option maxRecDepth 100000 in
set_option maxHeartbeats 4000000 in
theorem x_X4_mergeIn {G : am_G} {m : am_m} {r : am_rr} {a1 : Nat} {res : am_m} (hL : am_Lay r) (ha1 : am_k a1 11 64) (hm : m_X4_mergeIn m a1 = some res) : am_Met G mt_X4_mergeIn 3 [.ref 2982, .ref a1] (am_hh m r) none (am_hh res r) := by
  refine am_of (by decide) (Nat.le_of_ble_eq_true rfl) ?_
  unfold m_X4_mergeIn at hm
  show am_W G mt_X4_mergeIn 3 _ _ 0 [(0, .ref 2982), (1, .ref a1)] [] (am_hh m r)
  refine am_steps ck_X4_mergeIn 2 (pc' := 2) (lv' := [(0, .ref 2982), (1, .ref a1)]) (st' := [.ref 2982, .ref 2982]) rfl ?_
  refine ms_geti (ci := 4) (k := 1) (am_fd ck_X4_mergeIn (pc := 2) rfl) tw_130 kc_2982 rfl ?_
  refine am_steps ck_X4_mergeIn 1 (pc' := 6) (lv' := [(0, .ref 2982), (1, .ref a1)]) (st' := [.ref 2982, .int (m 2982 1), .ref 2982]) rfl ?_
  refine ms_getr (ci := 4) (k := 0) (v := 2983) (am_fd ck_X4_mergeIn (pc := 6) rfl) tw_129 kc_2982 rfl (ly_2982_0 hL) kc_2983 ?_
  obtain ⟨q1, hq1, hm⟩ := am_bE hm
  refine ms_callS (M2 := mt_X6_maskOf) (d2 := 1) [.ref 2983] (am_fd ck_X4_mergeIn (pc := 9) rfl) ok_X6_maskOf tw_379 tw_293 (Nat.le_of_ble_eq_true rfl) (Nat.le_of_ble_eq_true rfl) (x_X6_maskOf hL kc_2983 hq1) ?_
  refine am_steps ck_X4_mergeIn 1 (pc' := 13) (lv' := [(0, .ref 2982), (1, .ref a1)]) (st' := [.ref a1, .long q1, .int (m 2982 1), .ref 2982]) rfl ?_
  obtain ⟨q2, hq2, hm⟩ := am_bE hm
  refine ms_callS (M2 := mt_X6_maskOf) (d2 := 1) [.ref a1] (am_fd ck_X4_mergeIn (pc := 13) rfl) ok_X6_maskOf tw_379 tw_293 (Nat.le_of_ble_eq_true rfl) (Nat.le_of_ble_eq_true rfl) (x_X6_maskOf hL ha1 hq2) ?_
  obtain ⟨q3, hq3, hm⟩ := am_bE hm
  refine ms_callS (M2 := mt_X6_common) (d2 := 2) [.long q1, .long q2] (am_fd ck_X4_mergeIn (pc := 16) rfl) ok_X6_common tw_393 tw_296 (Nat.le_of_ble_eq_true rfl) (Nat.le_of_ble_eq_true rfl) (x_X6_common hL hq3) ?_
  refine am_steps ck_X4_mergeIn 1 (pc' := 20) (lv' := [(0, .ref 2982), (1, .ref a1)]) (st' := [.int ((m 2982 1) + q3), .ref 2982]) rfl ?_
  refine ms_puti (ci := 4) (k := 1) (am_fd ck_X4_mergeIn (pc := 20) rfl) tw_130 kc_2982 rfl rfl (fun m4 em4 => ?_)
  replace hm := am_letE em4 hm
  refine am_steps ck_X4_mergeIn 2 (pc' := 25) (lv' := [(0, .ref 2982), (1, .ref a1)]) (st' := [.ref 2982, .ref 2982]) rfl ?_
  refine ms_geti (ci := 4) (k := 2) (am_fd ck_X4_mergeIn (pc := 25) rfl) tw_131 kc_2982 rfl ?_
  refine am_steps ck_X4_mergeIn 2 (pc' := 30) (lv' := [(0, .ref 2982), (1, .ref a1)]) (st' := [.int ((m4 2982 2) + (am_i 1)), .ref 2982]) rfl ?_
  refine ms_puti (ci := 4) (k := 2) (am_fd ck_X4_mergeIn (pc := 30) rfl) tw_131 kc_2982 rfl rfl (fun m5 em5 => ?_)
  replace hm := am_letE em5 hm
  refine am_steps ck_X4_mergeIn 1 (pc' := 34) (lv' := [(0, .ref 2982), (1, .ref a1)]) (st' := [.ref 2982]) rfl ?_
  refine ms_getr (ci := 4) (k := 0) (v := 2983) (am_fd ck_X4_mergeIn (pc := 34) rfl) tw_129 kc_2982 rfl (ly_2982_0 hL) kc_2983 ?_
  refine am_steps ck_X4_mergeIn 1 (pc' := 38) (lv' := [(0, .ref 2982), (1, .ref a1)]) (st' := [.ref a1, .ref 2983]) rfl ?_
  obtain ⟨q6, hq6, hm⟩ := am_bE hm
  refine ms_callSv (M2 := mt_X5_addTo) (d2 := 1) [.ref 2983, .ref a1] (am_fd ck_X4_mergeIn (pc := 38) rfl) ok_X5_addTo tw_394 tw_395 (Nat.le_of_ble_eq_true rfl) (Nat.le_of_ble_eq_true rfl) (x_X5_addTo hL kc_2983 ha1 hq6) ?_
  cases hm
  exact am_end (am_fd ck_X4_mergeIn (pc := 41) rfl) am_rV rfl rfl
set_option maxRecDepth 100000 in
set_option maxHeartbeats 4000000 in
theorem x_X4_mergeParts_38 {G : am_G} {o1 : Nat} {x2 : Int32} {x3 : Int32} {r : am_rr} {y2 : Int32} {y3 : Int32} {res : am_m} {k : am_m → Option (am_m)} (hL : am_Lay r) (hO1 : am_og o1) : ∀ (n : Nat) (z5 : Int32) (m : am_m), m_X4_mergeParts_38 o1 x2 x3 y2 y3 k n z5 m = some res → (∀ (m1 : am_m), k m1 = some res → am_W G mt_X4_mergeParts 4 none (am_hh res r) 79 [(0, .ref 2982), (1, .ref o1), (2, .int y2), (3, .int y3)] [] (am_hh m1 r)) → am_W G mt_X4_mergeParts 4 none (am_hh res r) 38 [(0, .ref 2982), (1, .ref o1), (2, .int y2), (3, .int y3), (5, .int z5)] [] (am_hh m r) := by
  intro n
  induction n with
  | zero => intro z5 m hm K; cases hm
  | succ n ih =>
    intro z5 m hm K
    unfold m_X4_mergeParts_38 at hm
    refine am_steps ck_X4_mergeParts 2 (pc' := 42) (lv' := [(0, .ref 2982), (1, .ref o1), (2, .int y2), (3, .int y3), (5, .int z5)]) (st' := [.int (am_i 24), .int z5]) rfl ?_
    refine am_icmp (tgt := 79) (am_fd ck_X4_mergeParts (pc := 42) rfl) rfl (fun hc5 => ?_) (fun hc5 => ?_)
    · replace hm := am_it hm hc5
      refine am_subp [0, 1, 2, 3] rfl ?_
      exact K _ hm
    · replace hm := am_if hm hc5
      refine am_steps ck_X4_mergeParts 1 (pc' := 46) (lv' := [(0, .ref 2982), (1, .ref o1), (2, .int y2), (3, .int y3), (5, .int z5)]) (st' := [.ref o1]) rfl ?_
      refine ms_getr (ci := 1) (k := 0) (v := (aU o1)) (am_fd ck_X4_mergeParts (pc := 46) rfl) tw_36 (kO hO1) rfl (lyO0 hL hO1) (kU hO1) ?_
      refine am_steps ck_X4_mergeParts 1 (pc' := 51) (lv' := [(0, .ref 2982), (1, .ref o1), (2, .int y2), (3, .int y3), (5, .int z5)]) (st' := [.int z5, .ref (aU o1)]) rfl ?_
      obtain ⟨hb6, hm⟩ := am_gE hm
      refine ms_iald (n := 24) (am_fd ck_X4_mergeParts (pc := 51) rfl) (kU hO1) hb6 ?_
      refine am_steps ck_X4_mergeParts 1 (pc' := 53) (lv' := [(0, .ref 2982), (1, .ref o1), (2, .int y2), (3, .int y3), (5, .int z5)]) (st' := [.int y2, .int (m (aU o1) (am_ix z5))]) rfl ?_
      refine am_icmp (tgt := 73) (am_fd ck_X4_mergeParts (pc := 53) rfl) rfl (fun hc7 => ?_) (fun hc7 => ?_)
      · replace hm := am_it hm hc7
        refine am_steps ck_X4_mergeParts 2 (pc' := 38) (lv' := [(5, .int (z5 + am_i 1)), (0, .ref 2982), (1, .ref o1), (2, .int y2), (3, .int y3)]) (st' := []) rfl ?_
        refine am_subp [1, 2, 3, 4, 0] rfl ?_
        exact ih _ _ hm K
      · replace hm := am_if hm hc7
        refine am_steps ck_X4_mergeParts 2 (pc' := 59) (lv' := [(0, .ref 2982), (1, .ref o1), (2, .int y2), (3, .int y3), (5, .int z5)]) (st' := [.int y3, .int z5]) rfl ?_
        refine am_icmp (tgt := 73) (am_fd ck_X4_mergeParts (pc := 59) rfl) rfl (fun hc8 => ?_) (fun hc8 => ?_)
        · replace hm := am_it hm hc8
          refine am_steps ck_X4_mergeParts 2 (pc' := 38) (lv' := [(5, .int (z5 + am_i 1)), (0, .ref 2982), (1, .ref o1), (2, .int y2), (3, .int y3)]) (st' := []) rfl ?_
          refine am_subp [1, 2, 3, 4, 0] rfl ?_
          exact ih _ _ hm K
        · replace hm := am_if hm hc8
          refine am_steps ck_X4_mergeParts 2 (pc' := 64) (lv' := [(0, .ref 2982), (1, .ref o1), (2, .int y2), (3, .int y3), (5, .int z5)]) (st' := [.ref o1, .ref 2982]) rfl ?_
          refine ms_getr (ci := 1) (k := 3) (v := (o1 + 28)) (am_fd ck_X4_mergeParts (pc := 64) rfl) tw_47 (kO hO1) rfl (lyO3 hL hO1) (kXo hO1) ?_
          refine am_steps ck_X4_mergeParts 1 (pc' := 69) (lv' := [(0, .ref 2982), (1, .ref o1), (2, .int y2), (3, .int y3), (5, .int z5)]) (st' := [.int z5, .ref (o1 + 28), .ref 2982]) rfl ?_
          obtain ⟨hb9, hm⟩ := am_gE hm
          refine ms_rald (n := 24) (v := (aX o1 (am_ix z5))) (am_fd ck_X4_mergeParts (pc := 69) rfl) (kXo hO1) hb9 (lyX hL hO1 (am_ixl hb9)) (kX hO1 (am_ixl hb9)) ?_
          obtain ⟨q10, hq10, hm⟩ := am_bE hm
          refine ms_callVv (M2 := mt_X4_mergeIn) (d2 := 3) (ci := 4) [.ref (aX o1 (am_ix z5))] (am_fd ck_X4_mergeParts (pc := 70) rfl) ok_X4_mergeIn tw_389 tw_391 ts_2 (by decide) kc_2982 (Nat.le_of_ble_eq_true rfl) (Nat.le_of_ble_eq_true rfl) (x_X4_mergeIn hL (kX hO1 (am_ixl hb9)) hq10) ?_
          refine am_steps ck_X4_mergeParts 2 (pc' := 38) (lv' := [(5, .int (z5 + am_i 1)), (0, .ref 2982), (1, .ref o1), (2, .int y2), (3, .int y3)]) (st' := []) rfl ?_
          refine am_subp [1, 2, 3, 4, 0] rfl ?_
          exact ih _ _ hm K
set_option maxRecDepth 100000 in
set_option maxHeartbeats 4000000 in
theorem x_X4_mergeParts {G : am_G} {m : am_m} {r : am_rr} {o1 : Nat} {x2 : Int32} {x3 : Int32} {res : am_m} (hL : am_Lay r) (hO1 : am_og o1) (hm : m_X4_mergeParts m o1 x2 x3 = some res) : am_Met G mt_X4_mergeParts 4 [.ref 2982, .ref o1, .int x2, .int x3] (am_hh m r) none (am_hh res r) := by
  refine am_of (by decide) (Nat.le_of_ble_eq_true rfl) ?_
  unfold m_X4_mergeParts at hm
  show am_W G mt_X4_mergeParts 4 _ _ 0 [(0, .ref 2982), (1, .ref o1), (2, .int x2), (3, .int x3)] [] (am_hh m r)
  refine am_steps ck_X4_mergeParts 2 (pc' := 2) (lv' := [(0, .ref 2982), (1, .ref o1), (2, .int x2), (3, .int x3)]) (st' := [.int x2, .int x3]) rfl ?_
  refine am_icmp (tgt := 14) (am_fd ck_X4_mergeParts (pc := 2) rfl) rfl (fun hc1 => ?_) (fun hc1 => ?_)
  · replace hm := am_it hm hc1
    refine am_steps ck_X4_mergeParts 1 (pc' := 15) (lv' := [(0, .ref 2982), (1, .ref o1), (2, .int x2), (3, .int x3)]) (st' := [.ref o1]) rfl ?_
    refine ms_getr (ci := 1) (k := 3) (v := (o1 + 28)) (am_fd ck_X4_mergeParts (pc := 15) rfl) tw_47 (kO hO1) rfl (lyO3 hL hO1) (kXo hO1) ?_
    refine am_steps ck_X4_mergeParts 1 (pc' := 19) (lv' := [(0, .ref 2982), (1, .ref o1), (2, .int x2), (3, .int x3)]) (st' := [.int x3, .ref (o1 + 28)]) rfl ?_
    obtain ⟨hb2, hm⟩ := am_gE hm
    refine ms_rald (n := 24) (v := (aX o1 (am_ix x3))) (am_fd ck_X4_mergeParts (pc := 19) rfl) (kXo hO1) hb2 (lyX hL hO1 (am_ixl hb2)) (kX hO1 (am_ixl hb2)) ?_
    refine am_steps ck_X4_mergeParts 4 (pc' := 26) (lv' := [(4, .ref (aX o1 (am_ix x3))), (0, .ref 2982), (1, .ref o1), (2, .int x2), (3, .int x3)]) (st' := [.ref 2982, .int (am_i 0), .ref (aX o1 (am_ix x3))]) rfl ?_
    refine ms_getr (ci := 4) (k := 0) (v := 2983) (am_fd ck_X4_mergeParts (pc := 26) rfl) tw_129 kc_2982 rfl (ly_2982_0 hL) kc_2983 ?_
    refine am_steps ck_X4_mergeParts 2 (pc' := 32) (lv' := [(4, .ref (aX o1 (am_ix x3))), (0, .ref 2982), (1, .ref o1), (2, .int x2), (3, .int x3)]) (st' := [.int (am_i 64), .int (am_i 0), .ref 2983, .int (am_i 0), .ref (aX o1 (am_ix x3))]) rfl ?_
    obtain ⟨hb3, hm⟩ := am_gE hm
    refine ms_copy (n1 := 64) (n2 := 64) (Or.inl rfl) (am_fd ck_X4_mergeParts (pc := 32) rfl) tw_388 tw_248 tw_247 tw_10 (kX hO1 (am_ixl hb2)) kc_2983 hb3 am_i11 (Nat.le_of_ble_eq_true rfl) (Nat.le_of_ble_eq_true rfl) (fun m4 em4 => ?_)
    replace hm := am_letE em4 hm
    refine am_steps ck_X4_mergeParts 2 (pc' := 38) (lv' := [(5, .int (am_i 0)), (4, .ref (aX o1 (am_ix x3))), (0, .ref 2982), (1, .ref o1), (2, .int x2), (3, .int x3)]) (st' := []) rfl ?_
    refine am_subp [2, 3, 4, 5, 0] rfl ?_
    refine x_X4_mergeParts_38 hL hO1 am_F _ _ hm (fun m11 hm => ?_)
    refine am_steps ck_X4_mergeParts 2 (pc' := 81) (lv' := [(0, .ref 2982), (1, .ref o1), (2, .int x2), (3, .int x3)]) (st' := [.int x2, .int x3]) rfl ?_
    refine am_icmp (tgt := 94) (am_fd ck_X4_mergeParts (pc := 81) rfl) rfl (fun hc12 => ?_) (fun hc12 => ?_)
    · replace hm := am_it hm hc12
      cases hm
      exact am_end (am_fd ck_X4_mergeParts (pc := 94) rfl) am_rV rfl rfl
    · replace hm := am_if hm hc12
      refine am_steps ck_X4_mergeParts 2 (pc' := 86) (lv' := [(0, .ref 2982), (1, .ref o1), (2, .int x2), (3, .int x3)]) (st' := [.ref o1, .ref 2982]) rfl ?_
      refine ms_getr (ci := 1) (k := 2) (v := (o1 + 3)) (am_fd ck_X4_mergeParts (pc := 86) rfl) tw_44 (kO hO1) rfl (lyO2 hL hO1) (kWo hO1) ?_
      refine am_steps ck_X4_mergeParts 1 (pc' := 90) (lv' := [(0, .ref 2982), (1, .ref o1), (2, .int x2), (3, .int x3)]) (st' := [.int x2, .ref (o1 + 3), .ref 2982]) rfl ?_
      obtain ⟨hb13, hm⟩ := am_gE hm
      refine ms_rald (n := 24) (v := (aW o1 (am_ix x2))) (am_fd ck_X4_mergeParts (pc := 90) rfl) (kWo hO1) hb13 (lyW hL hO1 (am_ixl hb13)) (kW hO1 (am_ixl hb13)) ?_
      obtain ⟨q14, hq14, hm⟩ := am_bE hm
      refine ms_callVv (M2 := mt_X4_mergeIn) (d2 := 3) (ci := 4) [.ref (aW o1 (am_ix x2))] (am_fd ck_X4_mergeParts (pc := 91) rfl) ok_X4_mergeIn tw_389 tw_391 ts_2 (by decide) kc_2982 (Nat.le_of_ble_eq_true rfl) (Nat.le_of_ble_eq_true rfl) (x_X4_mergeIn hL (kW hO1 (am_ixl hb13)) hq14) ?_
      cases hm
      exact am_end (am_fd ck_X4_mergeParts (pc := 94) rfl) am_rV rfl rfl
  · replace hm := am_if hm hc1
    refine am_steps ck_X4_mergeParts 1 (pc' := 6) (lv' := [(0, .ref 2982), (1, .ref o1), (2, .int x2), (3, .int x3)]) (st' := [.ref o1]) rfl ?_
    refine ms_getr (ci := 1) (k := 2) (v := (o1 + 3)) (am_fd ck_X4_mergeParts (pc := 6) rfl) tw_44 (kO hO1) rfl (lyO2 hL hO1) (kWo hO1) ?_
    refine am_steps ck_X4_mergeParts 1 (pc' := 10) (lv' := [(0, .ref 2982), (1, .ref o1), (2, .int x2), (3, .int x3)]) (st' := [.int x2, .ref (o1 + 3)]) rfl ?_
    obtain ⟨hb15, hm⟩ := am_gE hm
    refine ms_rald (n := 24) (v := (aW o1 (am_ix x2))) (am_fd ck_X4_mergeParts (pc := 10) rfl) (kWo hO1) hb15 (lyW hL hO1 (am_ixl hb15)) (kW hO1 (am_ixl hb15)) ?_
    refine am_steps ck_X4_mergeParts 5 (pc' := 26) (lv' := [(4, .ref (aW o1 (am_ix x2))), (0, .ref 2982), (1, .ref o1), (2, .int x2), (3, .int x3)]) (st' := [.ref 2982, .int (am_i 0), .ref (aW o1 (am_ix x2))]) rfl ?_
    refine ms_getr (ci := 4) (k := 0) (v := 2983) (am_fd ck_X4_mergeParts (pc := 26) rfl) tw_129 kc_2982 rfl (ly_2982_0 hL) kc_2983 ?_
    refine am_steps ck_X4_mergeParts 2 (pc' := 32) (lv' := [(4, .ref (aW o1 (am_ix x2))), (0, .ref 2982), (1, .ref o1), (2, .int x2), (3, .int x3)]) (st' := [.int (am_i 64), .int (am_i 0), .ref 2983, .int (am_i 0), .ref (aW o1 (am_ix x2))]) rfl ?_
    obtain ⟨hb16, hm⟩ := am_gE hm
    refine ms_copy (n1 := 64) (n2 := 64) (Or.inl rfl) (am_fd ck_X4_mergeParts (pc := 32) rfl) tw_388 tw_248 tw_247 tw_10 (kW hO1 (am_ixl hb15)) kc_2983 hb16 am_i11 (Nat.le_of_ble_eq_true rfl) (Nat.le_of_ble_eq_true rfl) (fun m17 em17 => ?_)
    replace hm := am_letE em17 hm
    refine am_steps ck_X4_mergeParts 2 (pc' := 38) (lv' := [(5, .int (am_i 0)), (4, .ref (aW o1 (am_ix x2))), (0, .ref 2982), (1, .ref o1), (2, .int x2), (3, .int x3)]) (st' := []) rfl ?_
    refine am_subp [2, 3, 4, 5, 0] rfl ?_
    refine x_X4_mergeParts_38 hL hO1 am_F _ _ hm (fun m18 hm => ?_)
    refine am_steps ck_X4_mergeParts 2 (pc' := 81) (lv' := [(0, .ref 2982), (1, .ref o1), (2, .int x2), (3, .int x3)]) (st' := [.int x2, .int x3]) rfl ?_
    refine am_icmp (tgt := 94) (am_fd ck_X4_mergeParts (pc := 81) rfl) rfl (fun hc19 => ?_) (fun hc19 => ?_)
    · replace hm := am_it hm hc19
      cases hm
      exact am_end (am_fd ck_X4_mergeParts (pc := 94) rfl) am_rV rfl rfl
    · replace hm := am_if hm hc19
      refine am_steps ck_X4_mergeParts 2 (pc' := 86) (lv' := [(0, .ref 2982), (1, .ref o1), (2, .int x2), (3, .int x3)]) (st' := [.ref o1, .ref 2982]) rfl ?_
      refine ms_getr (ci := 1) (k := 2) (v := (o1 + 3)) (am_fd ck_X4_mergeParts (pc := 86) rfl) tw_44 (kO hO1) rfl (lyO2 hL hO1) (kWo hO1) ?_
      refine am_steps ck_X4_mergeParts 1 (pc' := 90) (lv' := [(0, .ref 2982), (1, .ref o1), (2, .int x2), (3, .int x3)]) (st' := [.int x2, .ref (o1 + 3), .ref 2982]) rfl ?_
      obtain ⟨hb20, hm⟩ := am_gE hm
      refine ms_rald (n := 24) (v := (aW o1 (am_ix x2))) (am_fd ck_X4_mergeParts (pc := 90) rfl) (kWo hO1) hb20 (lyW hL hO1 (am_ixl hb20)) (kW hO1 (am_ixl hb20)) ?_
      obtain ⟨q21, hq21, hm⟩ := am_bE hm
      refine ms_callVv (M2 := mt_X4_mergeIn) (d2 := 3) (ci := 4) [.ref (aW o1 (am_ix x2))] (am_fd ck_X4_mergeParts (pc := 91) rfl) ok_X4_mergeIn tw_389 tw_391 ts_2 (by decide) kc_2982 (Nat.le_of_ble_eq_true rfl) (Nat.le_of_ble_eq_true rfl) (x_X4_mergeIn hL (kW hO1 (am_ixl hb20)) hq21) ?_
      cases hm
      exact am_end (am_fd ck_X4_mergeParts (pc := 94) rfl) am_rV rfl rfl
