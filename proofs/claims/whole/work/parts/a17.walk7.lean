/-! ===== the walks, 7 ===== -/
set_option maxRecDepth 100000 in
set_option maxHeartbeats 4000000 in
theorem x_X9_home_77 {G : am_G} {x1 : Int32} {r : am_rr} {y1 : Int32} {y2 : Int32} {y3 : Int32} {y4 : Int32} {res : Int32 × am_m} {k : am_m → Option (Int32 × am_m)} (hL : am_Lay r) : ∀ (n : Nat) (z5 : Int32) (m : am_m), m_X9_home_77 x1 y1 y2 y3 y4 k n z5 m = some res → (∀ (m1 : am_m), k m1 = some res → am_W G mt_X9_home 5 (some (.int res.1)) (am_hh res.2 r) 117 [(0, .ref 3261), (1, .int y1), (2, .int y2), (3, .int y3), (4, .int y4)] [] (am_hh m1 r)) → am_W G mt_X9_home 5 (some (.int res.1)) (am_hh res.2 r) 77 [(0, .ref 3261), (1, .int y1), (2, .int y2), (3, .int y3), (4, .int y4), (5, .int z5)] [] (am_hh m r) := by
  intro n
  induction n with
  | zero => intro z5 m hm K; cases hm
  | succ n ih =>
    intro z5 m hm K
    unfold m_X9_home_77 at hm
    refine am_steps ck_X9_home 2 (pc' := 81) (lv' := [(0, .ref 3261), (1, .int y1), (2, .int y2), (3, .int y3), (4, .int y4), (5, .int z5)]) (st' := [.int (am_i 64), .int z5]) rfl ?_
    refine am_icmp (tgt := 117) (am_fd ck_X9_home (pc := 81) rfl) rfl (fun hc9 => ?_) (fun hc9 => ?_)
    · replace hm := am_it hm hc9
      refine am_subp [0, 1, 2, 3, 4] rfl ?_
      exact K _ hm
    · replace hm := am_if hm hc9
      refine am_steps ck_X9_home 3 (pc' := 88) (lv' := [(0, .ref 3261), (1, .int y1), (2, .int y2), (3, .int y3), (4, .int y4), (5, .int z5)]) (st' := [.int y4, .int y1, .ref 3261]) rfl ?_
      obtain ⟨q10, hq10, hm⟩ := am_bE hm
      refine ms_callV (M2 := mt_X9_isIn_) (d2 := 1) (ci := 7) [.int y1, .int y4] (am_fd ck_X9_home (pc := 88) rfl) ok_X9_isIn_ tw_1019 tw_1021 ts_38 (by decide) kc_3261 (Nat.le_of_ble_eq_true rfl) (Nat.le_of_ble_eq_true rfl) (x_X9_isIn_ hL hq10) ?_
      refine am_ifc (tgt := 117) (am_fd ck_X9_home (pc := 91) rfl) rfl (fun hc11 => ?_) (fun hc11 => ?_)
      · replace hm := am_it hm hc11
        refine am_subp [0, 1, 2, 3, 4] rfl ?_
        exact K _ hm
      · replace hm := am_if hm hc11
        refine am_steps ck_X9_home 1 (pc' := 95) (lv' := [(0, .ref 3261), (1, .int y1), (2, .int y2), (3, .int y3), (4, .int y4), (5, .int z5)]) (st' := [.ref 3261]) rfl ?_
        refine ms_getr (ci := 7) (k := 6) (v := 3266) (am_fd ck_X9_home (pc := 95) rfl) tw_881 kc_3261 rfl (ly_3261_6 hL) kc_3266 ?_
        refine am_steps ck_X9_home 2 (pc' := 101) (lv' := [(0, .ref 3261), (1, .int y1), (2, .int y2), (3, .int y3), (4, .int y4), (5, .int z5)]) (st' := [.int z5, .ref 3266, .int z5, .ref 3266]) rfl ?_
        obtain ⟨hb12, hm⟩ := am_gE hm
        refine ms_iald (n := 64) (am_fd ck_X9_home (pc := 101) rfl) kc_3266 hb12 ?_
        refine am_steps ck_X9_home 1 (pc' := 103) (lv' := [(0, .ref 3261), (1, .int y1), (2, .int y2), (3, .int y3), (4, .int y4), (5, .int z5)]) (st' := [.ref 3261, .int (m 3266 (am_ix z5)), .int z5, .ref 3266]) rfl ?_
        refine ms_getr (ci := 7) (k := 7) (v := 3267) (am_fd ck_X9_home (pc := 103) rfl) tw_882 kc_3261 rfl (ly_3261_7 hL) kc_3267 ?_
        refine am_steps ck_X9_home 1 (pc' := 108) (lv' := [(0, .ref 3261), (1, .int y1), (2, .int y2), (3, .int y3), (4, .int y4), (5, .int z5)]) (st' := [.int z5, .ref 3267, .int (m 3266 (am_ix z5)), .int z5, .ref 3266]) rfl ?_
        obtain ⟨hb13, hm⟩ := am_gE hm
        refine ms_iald (n := 64) (am_fd ck_X9_home (pc := 108) rfl) kc_3267 hb13 ?_
        refine am_steps ck_X9_home 1 (pc' := 110) (lv' := [(0, .ref 3261), (1, .int y1), (2, .int y2), (3, .int y3), (4, .int y4), (5, .int z5)]) (st' := [.int ((m 3266 (am_ix z5)) - (m 3267 (am_ix z5))), .int z5, .ref 3266]) rfl ?_
        obtain ⟨hb14, hm⟩ := am_gE hm
        refine ms_iast (n := 64) (am_fd ck_X9_home (pc := 110) rfl) kc_3266 hb14 (fun m15 em15 => ?_)
        replace hm := am_letE em15 hm
        refine am_steps ck_X9_home 2 (pc' := 77) (lv' := [(5, .int (z5 + am_i 1)), (0, .ref 3261), (1, .int y1), (2, .int y2), (3, .int y3), (4, .int y4)]) (st' := []) rfl ?_
        refine am_subp [1, 2, 3, 4, 5, 0] rfl ?_
        exact ih _ _ hm K
set_option maxRecDepth 100000 in
set_option maxHeartbeats 4000000 in
theorem x_X9_home_21 {G : am_G} {x1 : Int32} {r : am_rr} {y1 : Int32} {res : Int32 × am_m} {k : Int32 → am_m → Option (Int32 × am_m)} (hL : am_Lay r) : ∀ (n : Nat) (z2 : Int32) (z3 : Int32) (z4 : Int32) (m : am_m), m_X9_home_21 x1 y1 k n z2 z3 z4 m = some res → (∀ (u2 : Int32) (m1 : am_m), k u2 m1 = some res → am_W G mt_X9_home 5 (some (.int res.1)) (am_hh res.2 r) 156 [(2, .int u2)] [] (am_hh m1 r)) → am_W G mt_X9_home 5 (some (.int res.1)) (am_hh res.2 r) 21 [(0, .ref 3261), (1, .int y1), (2, .int z2), (3, .int z3), (4, .int z4)] [] (am_hh m r) := by
  intro n
  induction n with
  | zero => intro z2 z3 z4 m hm K; cases hm
  | succ n ih =>
    intro z2 z3 z4 m hm K
    unfold m_X9_home_21 at hm
    refine am_steps ck_X9_home 2 (pc' := 25) (lv' := [(0, .ref 3261), (1, .int y1), (2, .int z2), (3, .int z3), (4, .int z4)]) (st' := [.int (am_i 24), .int z4]) rfl ?_
    refine am_icmp (tgt := 156) (am_fd ck_X9_home (pc := 25) rfl) rfl (fun hc4 => ?_) (fun hc4 => ?_)
    · replace hm := am_it hm hc4
      refine am_subp [2] rfl ?_
      exact K _ _ hm
    · replace hm := am_if hm hc4
      refine am_steps ck_X9_home 2 (pc' := 31) (lv' := [(0, .ref 3261), (1, .int y1), (2, .int z2), (3, .int z3), (4, .int z4)]) (st' := [.ref 3261, .int z4]) rfl ?_
      refine ms_getr (ci := 7) (k := 0) (v := 3262) (am_fd ck_X9_home (pc := 31) rfl) tw_875 kc_3261 rfl (ly_3261_0 hL) kc_3262 ?_
      refine am_steps ck_X9_home 3 (pc' := 38) (lv' := [(0, .ref 3261), (1, .int y1), (2, .int z2), (3, .int z3), (4, .int z4)]) (st' := [.int ((am_i 24) + y1), .ref 3262, .int z4]) rfl ?_
      obtain ⟨hb5, hm⟩ := am_gE hm
      refine ms_iald (n := 15517) (am_fd ck_X9_home (pc := 38) rfl) kc_3262 hb5 ?_
      refine am_icmp (tgt := 55) (am_fd ck_X9_home (pc := 39) rfl) rfl (fun hc6 => ?_) (fun hc6 => ?_)
      · replace hm := am_it hm hc6
        refine am_steps ck_X9_home 3 (pc' := 59) (lv' := [(0, .ref 3261), (1, .int y1), (2, .int z2), (3, .int z3), (4, .int z4)]) (st' := [.ref 3261, .int z4, .ref 3261]) rfl ?_
        refine ms_getr (ci := 7) (k := 6) (v := 3266) (am_fd ck_X9_home (pc := 59) rfl) tw_881 kc_3261 rfl (ly_3261_6 hL) kc_3266 ?_
        obtain ⟨q7, hq7, hm⟩ := am_bE hm
        refine ms_callVv (M2 := mt_X9_laysBranch) (d2 := 3) (ci := 7) [.int z4, .ref 3266] (am_fd ck_X9_home (pc := 62) rfl) ok_X9_laysBranch tw_1169 tw_1171 ts_62 (by decide) kc_3261 (Nat.le_of_ble_eq_true rfl) (Nat.le_of_ble_eq_true rfl) (x_X9_laysBranch hL kc_3266 hq7) ?_
        refine am_steps ck_X9_home 3 (pc' := 68) (lv' := [(0, .ref 3261), (1, .int y1), (2, .int z2), (3, .int z3), (4, .int z4)]) (st' := [.ref 3261, .int y1, .ref 3261]) rfl ?_
        refine ms_getr (ci := 7) (k := 7) (v := 3267) (am_fd ck_X9_home (pc := 68) rfl) tw_882 kc_3261 rfl (ly_3261_7 hL) kc_3267 ?_
        obtain ⟨q8, hq8, hm⟩ := am_bE hm
        refine ms_callVv (M2 := mt_X9_laysBranch) (d2 := 3) (ci := 7) [.int y1, .ref 3267] (am_fd ck_X9_home (pc := 71) rfl) ok_X9_laysBranch tw_1169 tw_1171 ts_62 (by decide) kc_3261 (Nat.le_of_ble_eq_true rfl) (Nat.le_of_ble_eq_true rfl) (x_X9_laysBranch hL kc_3267 hq8) ?_
        refine am_steps ck_X9_home 2 (pc' := 77) (lv' := [(5, .int (am_i 0)), (0, .ref 3261), (1, .int y1), (2, .int z2), (3, .int z3), (4, .int z4)]) (st' := []) rfl ?_
        refine am_subp [1, 2, 3, 4, 5, 0] rfl ?_
        refine x_X9_home_77 hL am_F _ _ hm (fun m16 hm => ?_)
        refine am_steps ck_X9_home 1 (pc' := 118) (lv' := [(0, .ref 3261), (1, .int y1), (2, .int z2), (3, .int z3), (4, .int z4)]) (st' := [.ref 3261]) rfl ?_
        refine ms_getr (ci := 7) (k := 6) (v := 3266) (am_fd ck_X9_home (pc := 118) rfl) tw_881 kc_3261 rfl (ly_3261_6 hL) kc_3266 ?_
        refine am_steps ck_X9_home 1 (pc' := 122) (lv' := [(0, .ref 3261), (1, .int y1), (2, .int z2), (3, .int z3), (4, .int z4)]) (st' := [.ref 3261, .ref 3266]) rfl ?_
        refine ms_getr (ci := 7) (k := 7) (v := 3267) (am_fd ck_X9_home (pc := 122) rfl) tw_882 kc_3261 rfl (ly_3261_7 hL) kc_3267 ?_
        obtain ⟨q17, hq17, hm⟩ := am_bE hm
        refine ms_callS (M2 := mt_X9_unlike) (d2 := 1) [.ref 3266, .ref 3267] (am_fd ck_X9_home (pc := 125) rfl) ok_X9_unlike tw_1320 tw_1321 (Nat.le_of_ble_eq_true rfl) (Nat.le_of_ble_eq_true rfl) (x_X9_unlike hL kc_3266 kc_3267 hq17) ?_
        refine am_steps ck_X9_home 3 (pc' := 132) (lv' := [(5, .int q17), (0, .ref 3261), (1, .int y1), (2, .int z2), (3, .int z3), (4, .int z4)]) (st' := [.int (am_i (-1)), .int z2]) rfl ?_
        refine am_icmp (tgt := 144) (am_fd ck_X9_home (pc := 132) rfl) rfl (fun hc18 => ?_) (fun hc18 => ?_)
        · replace hm := am_it hm hc18
          refine am_steps ck_X9_home 6 (pc' := 21) (lv' := [(4, .int (z4 + am_i 1)), (3, .int q17), (2, .int z4), (5, .int q17), (0, .ref 3261), (1, .int y1)]) (st' := []) rfl ?_
          refine am_subp [4, 5, 2, 1, 0] rfl ?_
          exact ih _ _ _ _ hm K
        · replace hm := am_if hm hc18
          refine am_steps ck_X9_home 2 (pc' := 138) (lv' := [(5, .int q17), (0, .ref 3261), (1, .int y1), (2, .int z2), (3, .int z3), (4, .int z4)]) (st' := [.int z3, .int q17]) rfl ?_
          refine am_icmp (tgt := 144) (am_fd ck_X9_home (pc := 138) rfl) rfl (fun hc19 => ?_) (fun hc19 => ?_)
          · replace hm := am_it hm hc19
            refine am_steps ck_X9_home 6 (pc' := 21) (lv' := [(4, .int (z4 + am_i 1)), (3, .int q17), (2, .int z4), (5, .int q17), (0, .ref 3261), (1, .int y1)]) (st' := []) rfl ?_
            refine am_subp [4, 5, 2, 1, 0] rfl ?_
            exact ih _ _ _ _ hm K
          · replace hm := am_if hm hc19
            refine am_steps ck_X9_home 3 (pc' := 21) (lv' := [(4, .int (z4 + am_i 1)), (5, .int q17), (0, .ref 3261), (1, .int y1), (2, .int z2), (3, .int z3)]) (st' := []) rfl ?_
            refine am_subp [2, 3, 4, 5, 0] rfl ?_
            exact ih _ _ _ _ hm K
      · replace hm := am_if hm hc6
        refine am_steps ck_X9_home 3 (pc' := 46) (lv' := [(0, .ref 3261), (1, .int y1), (2, .int z2), (3, .int z3), (4, .int z4)]) (st' := [.int z4, .int y1, .ref 3261]) rfl ?_
        obtain ⟨q20, hq20, hm⟩ := am_bE hm
        refine ms_callV (M2 := mt_X9_canMove) (d2 := 4) (ci := 7) [.int y1, .int z4] (am_fd ck_X9_home (pc := 46) rfl) ok_X9_canMove tw_1015 tw_1017 ts_37 (by decide) kc_3261 (Nat.le_of_ble_eq_true rfl) (Nat.le_of_ble_eq_true rfl) (x_X9_canMove hL hq20) ?_
        refine am_ifc (tgt := 55) (am_fd ck_X9_home (pc := 49) rfl) rfl (fun hc21 => ?_) (fun hc21 => ?_)
        · replace hm := am_it hm hc21
          refine am_steps ck_X9_home 3 (pc' := 59) (lv' := [(0, .ref 3261), (1, .int y1), (2, .int z2), (3, .int z3), (4, .int z4)]) (st' := [.ref 3261, .int z4, .ref 3261]) rfl ?_
          refine ms_getr (ci := 7) (k := 6) (v := 3266) (am_fd ck_X9_home (pc := 59) rfl) tw_881 kc_3261 rfl (ly_3261_6 hL) kc_3266 ?_
          obtain ⟨q22, hq22, hm⟩ := am_bE hm
          refine ms_callVv (M2 := mt_X9_laysBranch) (d2 := 3) (ci := 7) [.int z4, .ref 3266] (am_fd ck_X9_home (pc := 62) rfl) ok_X9_laysBranch tw_1169 tw_1171 ts_62 (by decide) kc_3261 (Nat.le_of_ble_eq_true rfl) (Nat.le_of_ble_eq_true rfl) (x_X9_laysBranch hL kc_3266 hq22) ?_
          refine am_steps ck_X9_home 3 (pc' := 68) (lv' := [(0, .ref 3261), (1, .int y1), (2, .int z2), (3, .int z3), (4, .int z4)]) (st' := [.ref 3261, .int y1, .ref 3261]) rfl ?_
          refine ms_getr (ci := 7) (k := 7) (v := 3267) (am_fd ck_X9_home (pc := 68) rfl) tw_882 kc_3261 rfl (ly_3261_7 hL) kc_3267 ?_
          obtain ⟨q23, hq23, hm⟩ := am_bE hm
          refine ms_callVv (M2 := mt_X9_laysBranch) (d2 := 3) (ci := 7) [.int y1, .ref 3267] (am_fd ck_X9_home (pc := 71) rfl) ok_X9_laysBranch tw_1169 tw_1171 ts_62 (by decide) kc_3261 (Nat.le_of_ble_eq_true rfl) (Nat.le_of_ble_eq_true rfl) (x_X9_laysBranch hL kc_3267 hq23) ?_
          refine am_steps ck_X9_home 2 (pc' := 77) (lv' := [(5, .int (am_i 0)), (0, .ref 3261), (1, .int y1), (2, .int z2), (3, .int z3), (4, .int z4)]) (st' := []) rfl ?_
          refine am_subp [1, 2, 3, 4, 5, 0] rfl ?_
          refine x_X9_home_77 hL am_F _ _ hm (fun m24 hm => ?_)
          refine am_steps ck_X9_home 1 (pc' := 118) (lv' := [(0, .ref 3261), (1, .int y1), (2, .int z2), (3, .int z3), (4, .int z4)]) (st' := [.ref 3261]) rfl ?_
          refine ms_getr (ci := 7) (k := 6) (v := 3266) (am_fd ck_X9_home (pc := 118) rfl) tw_881 kc_3261 rfl (ly_3261_6 hL) kc_3266 ?_
          refine am_steps ck_X9_home 1 (pc' := 122) (lv' := [(0, .ref 3261), (1, .int y1), (2, .int z2), (3, .int z3), (4, .int z4)]) (st' := [.ref 3261, .ref 3266]) rfl ?_
          refine ms_getr (ci := 7) (k := 7) (v := 3267) (am_fd ck_X9_home (pc := 122) rfl) tw_882 kc_3261 rfl (ly_3261_7 hL) kc_3267 ?_
          obtain ⟨q25, hq25, hm⟩ := am_bE hm
          refine ms_callS (M2 := mt_X9_unlike) (d2 := 1) [.ref 3266, .ref 3267] (am_fd ck_X9_home (pc := 125) rfl) ok_X9_unlike tw_1320 tw_1321 (Nat.le_of_ble_eq_true rfl) (Nat.le_of_ble_eq_true rfl) (x_X9_unlike hL kc_3266 kc_3267 hq25) ?_
          refine am_steps ck_X9_home 3 (pc' := 132) (lv' := [(5, .int q25), (0, .ref 3261), (1, .int y1), (2, .int z2), (3, .int z3), (4, .int z4)]) (st' := [.int (am_i (-1)), .int z2]) rfl ?_
          refine am_icmp (tgt := 144) (am_fd ck_X9_home (pc := 132) rfl) rfl (fun hc26 => ?_) (fun hc26 => ?_)
          · replace hm := am_it hm hc26
            refine am_steps ck_X9_home 6 (pc' := 21) (lv' := [(4, .int (z4 + am_i 1)), (3, .int q25), (2, .int z4), (5, .int q25), (0, .ref 3261), (1, .int y1)]) (st' := []) rfl ?_
            refine am_subp [4, 5, 2, 1, 0] rfl ?_
            exact ih _ _ _ _ hm K
          · replace hm := am_if hm hc26
            refine am_steps ck_X9_home 2 (pc' := 138) (lv' := [(5, .int q25), (0, .ref 3261), (1, .int y1), (2, .int z2), (3, .int z3), (4, .int z4)]) (st' := [.int z3, .int q25]) rfl ?_
            refine am_icmp (tgt := 144) (am_fd ck_X9_home (pc := 138) rfl) rfl (fun hc27 => ?_) (fun hc27 => ?_)
            · replace hm := am_it hm hc27
              refine am_steps ck_X9_home 6 (pc' := 21) (lv' := [(4, .int (z4 + am_i 1)), (3, .int q25), (2, .int z4), (5, .int q25), (0, .ref 3261), (1, .int y1)]) (st' := []) rfl ?_
              refine am_subp [4, 5, 2, 1, 0] rfl ?_
              exact ih _ _ _ _ hm K
            · replace hm := am_if hm hc27
              refine am_steps ck_X9_home 3 (pc' := 21) (lv' := [(4, .int (z4 + am_i 1)), (5, .int q25), (0, .ref 3261), (1, .int y1), (2, .int z2), (3, .int z3)]) (st' := []) rfl ?_
              refine am_subp [2, 3, 4, 5, 0] rfl ?_
              exact ih _ _ _ _ hm K
        · replace hm := am_if hm hc21
          refine am_steps ck_X9_home 3 (pc' := 21) (lv' := [(4, .int (z4 + am_i 1)), (0, .ref 3261), (1, .int y1), (2, .int z2), (3, .int z3)]) (st' := []) rfl ?_
          refine am_subp [1, 2, 3, 4, 0] rfl ?_
          exact ih _ _ _ _ hm K
set_option maxRecDepth 100000 in
set_option maxHeartbeats 4000000 in
theorem x_X9_home {G : am_G} {m : am_m} {r : am_rr} {x1 : Int32} {res : Int32 × am_m} (hL : am_Lay r) (hm : m_X9_home m x1 = some res) : am_Met G mt_X9_home 5 [.ref 3261, .int x1] (am_hh m r) (some (.int res.1)) (am_hh res.2 r) := by
  refine am_of (by decide) (Nat.le_of_ble_eq_true rfl) ?_
  unfold m_X9_home at hm
  show am_W G mt_X9_home 5 _ _ 0 [(0, .ref 3261), (1, .int x1)] [] (am_hh m r)
  refine am_steps ck_X9_home 2 (pc' := 2) (lv' := [(0, .ref 3261), (1, .int x1)]) (st' := [.int x1, .ref 3261]) rfl ?_
  obtain ⟨q1, hq1, hm⟩ := am_bE hm
  refine ms_callV (M2 := mt_X9_isUnit) (d2 := 2) (ci := 7) [.int x1] (am_fd ck_X9_home (pc := 2) rfl) ok_X9_isUnit tw_949 tw_951 ts_28 (by decide) kc_3261 (Nat.le_of_ble_eq_true rfl) (Nat.le_of_ble_eq_true rfl) (x_X9_isUnit hL hq1) ?_
  refine am_ifc (tgt := 12) (am_fd ck_X9_home (pc := 5) rfl) rfl (fun hc2 => ?_) (fun hc2 => ?_)
  · replace hm := am_it hm hc2
    refine am_steps ck_X9_home 1 (pc' := 13) (lv' := [(0, .ref 3261), (1, .int x1)]) (st' := [.int (am_i (-1))]) rfl ?_
    cases hm
    exact am_end (am_fd ck_X9_home (pc := 13) rfl) am_rI rfl rfl
  · replace hm := am_if hm hc2
    refine am_steps ck_X9_home 1 (pc' := 9) (lv' := [(0, .ref 3261), (1, .int x1)]) (st' := [.int x1]) rfl ?_
    refine am_ifc (tgt := 14) (am_fd ck_X9_home (pc := 9) rfl) rfl (fun hc3 => ?_) (fun hc3 => ?_)
    · replace hm := am_it hm hc3
      refine am_steps ck_X9_home 6 (pc' := 21) (lv' := [(4, .int (am_i 0)), (3, .int (am_i 0)), (2, .int (am_i (-1))), (0, .ref 3261), (1, .int x1)]) (st' := []) rfl ?_
      refine am_subp [3, 4, 2, 1, 0] rfl ?_
      refine x_X9_home_21 hL am_F _ _ _ _ hm (fun u28 m29 hm => ?_)
      refine am_steps ck_X9_home 1 (pc' := 157) (lv' := [(2, .int u28)]) (st' := [.int u28]) rfl ?_
      cases hm
      exact am_end (am_fd ck_X9_home (pc := 157) rfl) am_rI rfl rfl
    · replace hm := am_if hm hc3
      refine am_steps ck_X9_home 1 (pc' := 13) (lv' := [(0, .ref 3261), (1, .int x1)]) (st' := [.int (am_i (-1))]) rfl ?_
      cases hm
      exact am_end (am_fd ck_X9_home (pc := 13) rfl) am_rI rfl rfl
set_option maxRecDepth 100000 in
set_option maxHeartbeats 4000000 in
theorem x_X9_count {G : am_G} {m : am_m} {r : am_rr} {x1 : Int32} {res : Int32} (hL : am_Lay r) (hm : m_X9_count m x1 = some res) : am_Met G mt_X9_count 2 [.ref 3261, .int x1] (am_hh m r) (some (.int res)) (am_hh m r) := by
  refine am_of (by decide) (Nat.le_of_ble_eq_true rfl) ?_
  unfold m_X9_count at hm
  show am_W G mt_X9_count 2 _ _ 0 [(0, .ref 3261), (1, .int x1)] [] (am_hh m r)
  refine am_steps ck_X9_count 3 (pc' := 4) (lv' := [(0, .ref 3261), (1, .int x1)]) (st' := [.int (am_i 10), .int (am_i 0), .int x1]) rfl ?_
  obtain ⟨q1, hq1, hm⟩ := am_bE hm
  refine ms_callS (M2 := mt_X9_isIn) (d2 := 1) [.int x1, .int (am_i 0), .int (am_i 10)] (am_fd ck_X9_count (pc := 4) rfl) ok_X9_isIn tw_953 tw_954 (Nat.le_of_ble_eq_true rfl) (Nat.le_of_ble_eq_true rfl) (x_X9_isIn hL hq1) ?_
  refine am_ifc (tgt := 23) (am_fd ck_X9_count (pc := 7) rfl) rfl (fun hc2 => ?_) (fun hc2 => ?_)
  · replace hm := am_it hm hc2
    refine am_steps ck_X9_count 1 (pc' := 24) (lv' := [(0, .ref 3261), (1, .int x1)]) (st' := [.int (am_i (-1))]) rfl ?_
    cases hm
    exact am_end (am_fd ck_X9_count (pc := 24) rfl) am_rI rfl rfl
  · replace hm := am_if hm hc2
    refine am_steps ck_X9_count 1 (pc' := 11) (lv' := [(0, .ref 3261), (1, .int x1)]) (st' := [.ref 3261]) rfl ?_
    refine ms_getr (ci := 7) (k := 0) (v := 3262) (am_fd ck_X9_count (pc := 11) rfl) tw_875 kc_3261 rfl (ly_3261_0 hL) kc_3262 ?_
    refine am_steps ck_X9_count 3 (pc' := 19) (lv' := [(0, .ref 3261), (1, .int x1)]) (st' := [.int ((am_i 15456) + x1), .ref 3262]) rfl ?_
    obtain ⟨hb3, hm⟩ := am_gE hm
    refine ms_iald (n := 15517) (am_fd ck_X9_count (pc := 19) rfl) kc_3262 hb3 ?_
    refine am_steps ck_X9_count 1 (pc' := 24) (lv' := [(0, .ref 3261), (1, .int x1)]) (st' := [.int (m 3262 (am_ix ((am_i 15456) + x1)))]) rfl ?_
    cases hm
    exact am_end (am_fd ck_X9_count (pc := 24) rfl) am_rI rfl rfl
set_option maxRecDepth 100000 in
set_option maxHeartbeats 4000000 in
theorem x_X9_image_15 {G : am_G} {x1 : Int32} {r : am_rr} {y1 : Int32} {res : Int32 × am_m} {k : am_m → Option (Int32 × am_m)} (hL : am_Lay r) : ∀ (n : Nat) (z2 : Int32) (m : am_m), m_X9_image_15 x1 y1 k n z2 m = some res → (∀ (m1 : am_m), k m1 = some res → am_W G mt_X9_image 1 (some (.int res.1)) (am_hh res.2 r) 59 [(0, .ref 3261), (1, .int y1)] [] (am_hh m1 r)) → am_W G mt_X9_image 1 (some (.int res.1)) (am_hh res.2 r) 15 [(0, .ref 3261), (1, .int y1), (2, .int z2)] [] (am_hh m r) := by
  intro n
  induction n with
  | zero => intro z2 m hm K; cases hm
  | succ n ih =>
    intro z2 m hm K
    unfold m_X9_image_15 at hm
    refine am_steps ck_X9_image 2 (pc' := 19) (lv' := [(0, .ref 3261), (1, .int y1), (2, .int z2)]) (st' := [.int (am_i 15517), .int z2]) rfl ?_
    refine am_icmp (tgt := 59) (am_fd ck_X9_image (pc := 19) rfl) rfl (fun hc2 => ?_) (fun hc2 => ?_)
    · replace hm := am_it hm hc2
      refine am_subp [0, 1] rfl ?_
      exact K _ hm
    · replace hm := am_if hm hc2
      refine am_steps ck_X9_image 1 (pc' := 23) (lv' := [(0, .ref 3261), (1, .int y1), (2, .int z2)]) (st' := [.int y1]) rfl ?_
      refine am_ifc (tgt := 41) (am_fd ck_X9_image (pc := 23) rfl) rfl (fun hc3 => ?_) (fun hc3 => ?_)
      · replace hm := am_it hm hc3
        refine am_steps ck_X9_image 1 (pc' := 42) (lv' := [(0, .ref 3261), (1, .int y1), (2, .int z2)]) (st' := [.ref 3261]) rfl ?_
        refine ms_getr (ci := 7) (k := 0) (v := 3262) (am_fd ck_X9_image (pc := 42) rfl) tw_875 kc_3261 rfl (ly_3261_0 hL) kc_3262 ?_
        refine am_steps ck_X9_image 2 (pc' := 47) (lv' := [(0, .ref 3261), (1, .int y1), (2, .int z2)]) (st' := [.ref 3261, .int z2, .ref 3262]) rfl ?_
        refine ms_getr (ci := 7) (k := 2) (v := 3264) (am_fd ck_X9_image (pc := 47) rfl) tw_877 kc_3261 rfl (ly_3261_2 hL) kc_3264 ?_
        refine am_steps ck_X9_image 1 (pc' := 51) (lv' := [(0, .ref 3261), (1, .int y1), (2, .int z2)]) (st' := [.int z2, .ref 3264, .int z2, .ref 3262]) rfl ?_
        obtain ⟨hb4, hm⟩ := am_gE hm
        refine ms_iald (n := 15517) (am_fd ck_X9_image (pc := 51) rfl) kc_3264 hb4 ?_
        obtain ⟨hb5, hm⟩ := am_gE hm
        refine ms_iast (n := 15517) (am_fd ck_X9_image (pc := 52) rfl) kc_3262 hb5 (fun m6 em6 => ?_)
        replace hm := am_letE em6 hm
        refine am_steps ck_X9_image 2 (pc' := 15) (lv' := [(2, .int (z2 + am_i 1)), (0, .ref 3261), (1, .int y1)]) (st' := []) rfl ?_
        refine am_subp [1, 2, 0] rfl ?_
        exact ih _ _ hm K
      · replace hm := am_if hm hc3
        refine am_steps ck_X9_image 1 (pc' := 27) (lv' := [(0, .ref 3261), (1, .int y1), (2, .int z2)]) (st' := [.ref 3261]) rfl ?_
        refine ms_getr (ci := 7) (k := 2) (v := 3264) (am_fd ck_X9_image (pc := 27) rfl) tw_877 kc_3261 rfl (ly_3261_2 hL) kc_3264 ?_
        refine am_steps ck_X9_image 2 (pc' := 32) (lv' := [(0, .ref 3261), (1, .int y1), (2, .int z2)]) (st' := [.ref 3261, .int z2, .ref 3264]) rfl ?_
        refine ms_getr (ci := 7) (k := 0) (v := 3262) (am_fd ck_X9_image (pc := 32) rfl) tw_875 kc_3261 rfl (ly_3261_0 hL) kc_3262 ?_
        refine am_steps ck_X9_image 1 (pc' := 36) (lv' := [(0, .ref 3261), (1, .int y1), (2, .int z2)]) (st' := [.int z2, .ref 3262, .int z2, .ref 3264]) rfl ?_
        obtain ⟨hb7, hm⟩ := am_gE hm
        refine ms_iald (n := 15517) (am_fd ck_X9_image (pc := 36) rfl) kc_3262 hb7 ?_
        obtain ⟨hb8, hm⟩ := am_gE hm
        refine ms_iast (n := 15517) (am_fd ck_X9_image (pc := 37) rfl) kc_3264 hb8 (fun m9 em9 => ?_)
        replace hm := am_letE em9 hm
        refine am_steps ck_X9_image 3 (pc' := 15) (lv' := [(2, .int (z2 + am_i 1)), (0, .ref 3261), (1, .int y1)]) (st' := []) rfl ?_
        refine am_subp [1, 2, 0] rfl ?_
        exact ih _ _ hm K
set_option maxRecDepth 100000 in
set_option maxHeartbeats 4000000 in
theorem x_X9_image {G : am_G} {m : am_m} {r : am_rr} {x1 : Int32} {res : Int32 × am_m} (hL : am_Lay r) (hm : m_X9_image m x1 = some res) : am_Met G mt_X9_image 1 [.ref 3261, .int x1] (am_hh m r) (some (.int res.1)) (am_hh res.2 r) := by
  refine am_of (by decide) (Nat.le_of_ble_eq_true rfl) ?_
  unfold m_X9_image at hm
  show am_W G mt_X9_image 1 _ _ 0 [(0, .ref 3261), (1, .int x1)] [] (am_hh m r)
  refine am_steps ck_X9_image 1 (pc' := 1) (lv' := [(0, .ref 3261), (1, .int x1)]) (st' := [.int x1]) rfl ?_
  refine am_ifc (tgt := 13) (am_fd ck_X9_image (pc := 1) rfl) rfl (fun hc1 => ?_) (fun hc1 => ?_)
  · replace hm := am_it hm hc1
    refine am_steps ck_X9_image 2 (pc' := 15) (lv' := [(2, .int (am_i 0)), (0, .ref 3261), (1, .int x1)]) (st' := []) rfl ?_
    refine am_subp [1, 2, 0] rfl ?_
    refine x_X9_image_15 hL am_F _ _ hm (fun m10 hm => ?_)
    refine am_steps ck_X9_image 1 (pc' := 60) (lv' := [(0, .ref 3261), (1, .int x1)]) (st' := [.int x1]) rfl ?_
    refine am_ifc (tgt := 68) (am_fd ck_X9_image (pc := 60) rfl) rfl (fun hc11 => ?_) (fun hc11 => ?_)
    · replace hm := am_it hm hc11
      refine am_steps ck_X9_image 2 (pc' := 70) (lv' := [(0, .ref 3261), (1, .int x1)]) (st' := [.int (am_i 1), .ref 3261]) rfl ?_
      refine ms_putz (ci := 7) (k := 5) (am_fd ck_X9_image (pc := 70) rfl) tw_880 kc_3261 rfl rfl (Or.inr am_i1) (fun m12 em12 => ?_)
      replace hm := am_letE em12 hm
      refine am_steps ck_X9_image 1 (pc' := 74) (lv' := [(0, .ref 3261), (1, .int x1)]) (st' := [.int (am_i 1)]) rfl ?_
      cases hm
      exact am_end (am_fd ck_X9_image (pc := 74) rfl) am_rZ1 rfl rfl
    · replace hm := am_if hm hc11
      refine am_steps ck_X9_image 2 (pc' := 65) (lv' := [(0, .ref 3261), (1, .int x1)]) (st' := [.int (am_i 0), .ref 3261]) rfl ?_
      refine ms_puti (ci := 7) (k := 4) (am_fd ck_X9_image (pc := 65) rfl) tw_879 kc_3261 rfl rfl (fun m13 em13 => ?_)
      replace hm := am_letE em13 hm
      refine am_steps ck_X9_image 2 (pc' := 70) (lv' := [(0, .ref 3261), (1, .int x1)]) (st' := [.int (am_i 1), .ref 3261]) rfl ?_
      refine ms_putz (ci := 7) (k := 5) (am_fd ck_X9_image (pc := 70) rfl) tw_880 kc_3261 rfl rfl (Or.inr am_i1) (fun m14 em14 => ?_)
      replace hm := am_letE em14 hm
      refine am_steps ck_X9_image 1 (pc' := 74) (lv' := [(0, .ref 3261), (1, .int x1)]) (st' := [.int (am_i 1)]) rfl ?_
      cases hm
      exact am_end (am_fd ck_X9_image (pc := 74) rfl) am_rZ1 rfl rfl
  · replace hm := am_if hm hc1
    refine am_steps ck_X9_image 1 (pc' := 5) (lv' := [(0, .ref 3261), (1, .int x1)]) (st' := [.ref 3261]) rfl ?_
    refine ms_geti (ci := 7) (k := 5) (am_fd ck_X9_image (pc := 5) rfl) tw_880 kc_3261 rfl ?_
    refine am_ifc (tgt := 13) (am_fd ck_X9_image (pc := 8) rfl) rfl (fun hc15 => ?_) (fun hc15 => ?_)
    · replace hm := am_it hm hc15
      refine am_steps ck_X9_image 2 (pc' := 15) (lv' := [(2, .int (am_i 0)), (0, .ref 3261), (1, .int x1)]) (st' := []) rfl ?_
      refine am_subp [1, 2, 0] rfl ?_
      refine x_X9_image_15 hL am_F _ _ hm (fun m16 hm => ?_)
      refine am_steps ck_X9_image 1 (pc' := 60) (lv' := [(0, .ref 3261), (1, .int x1)]) (st' := [.int x1]) rfl ?_
      refine am_ifc (tgt := 68) (am_fd ck_X9_image (pc := 60) rfl) rfl (fun hc17 => ?_) (fun hc17 => ?_)
      · replace hm := am_it hm hc17
        refine am_steps ck_X9_image 2 (pc' := 70) (lv' := [(0, .ref 3261), (1, .int x1)]) (st' := [.int (am_i 1), .ref 3261]) rfl ?_
        refine ms_putz (ci := 7) (k := 5) (am_fd ck_X9_image (pc := 70) rfl) tw_880 kc_3261 rfl rfl (Or.inr am_i1) (fun m18 em18 => ?_)
        replace hm := am_letE em18 hm
        refine am_steps ck_X9_image 1 (pc' := 74) (lv' := [(0, .ref 3261), (1, .int x1)]) (st' := [.int (am_i 1)]) rfl ?_
        cases hm
        exact am_end (am_fd ck_X9_image (pc := 74) rfl) am_rZ1 rfl rfl
      · replace hm := am_if hm hc17
        refine am_steps ck_X9_image 2 (pc' := 65) (lv' := [(0, .ref 3261), (1, .int x1)]) (st' := [.int (am_i 0), .ref 3261]) rfl ?_
        refine ms_puti (ci := 7) (k := 4) (am_fd ck_X9_image (pc := 65) rfl) tw_879 kc_3261 rfl rfl (fun m19 em19 => ?_)
        replace hm := am_letE em19 hm
        refine am_steps ck_X9_image 2 (pc' := 70) (lv' := [(0, .ref 3261), (1, .int x1)]) (st' := [.int (am_i 1), .ref 3261]) rfl ?_
        refine ms_putz (ci := 7) (k := 5) (am_fd ck_X9_image (pc := 70) rfl) tw_880 kc_3261 rfl rfl (Or.inr am_i1) (fun m20 em20 => ?_)
        replace hm := am_letE em20 hm
        refine am_steps ck_X9_image 1 (pc' := 74) (lv' := [(0, .ref 3261), (1, .int x1)]) (st' := [.int (am_i 1)]) rfl ?_
        cases hm
        exact am_end (am_fd ck_X9_image (pc := 74) rfl) am_rZ1 rfl rfl
    · replace hm := am_if hm hc15
      refine am_steps ck_X9_image 1 (pc' := 12) (lv' := [(0, .ref 3261), (1, .int x1)]) (st' := [.int (am_i 0)]) rfl ?_
      cases hm
      exact am_end (am_fd ck_X9_image (pc := 12) rfl) am_rZ0 rfl rfl
set_option maxRecDepth 100000 in
set_option maxHeartbeats 4000000 in
theorem x_X9_rightOnes_4 {G : am_G} {r : am_rr} {res : Int32 × am_m} {k : Int32 → am_m → Option (Int32 × am_m)} (hL : am_Lay r) : ∀ (n : Nat) (z1 : Int32) (z2 : Int32) (m : am_m), m_X9_rightOnes_4 k n z1 z2 m = some res → (∀ (u1 : Int32) (m1 : am_m), k u1 m1 = some res → am_W G mt_X9_rightOnes 5 (some (.int res.1)) (am_hh res.2 r) 42 [(1, .int u1)] [] (am_hh m1 r)) → am_W G mt_X9_rightOnes 5 (some (.int res.1)) (am_hh res.2 r) 4 [(0, .ref 3261), (1, .int z1), (2, .int z2)] [] (am_hh m r) := by
  intro n
  induction n with
  | zero => intro z1 z2 m hm K; cases hm
  | succ n ih =>
    intro z1 z2 m hm K
    unfold m_X9_rightOnes_4 at hm
    refine am_steps ck_X9_rightOnes 2 (pc' := 7) (lv' := [(0, .ref 3261), (1, .int z1), (2, .int z2)]) (st' := [.int (am_i 24), .int z2]) rfl ?_
    refine am_icmp (tgt := 42) (am_fd ck_X9_rightOnes (pc := 7) rfl) rfl (fun hc1 => ?_) (fun hc1 => ?_)
    · replace hm := am_it hm hc1
      refine am_subp [1] rfl ?_
      exact K _ _ hm
    · replace hm := am_if hm hc1
      refine am_steps ck_X9_rightOnes 3 (pc' := 13) (lv' := [(0, .ref 3261), (1, .int z1), (2, .int z2)]) (st' := [.int z2, .ref 3261, .int z1]) rfl ?_
      obtain ⟨q2, hq2, hm⟩ := am_bE hm
      refine ms_callV (M2 := mt_X9_isUnit) (d2 := 2) (ci := 7) [.int z2] (am_fd ck_X9_rightOnes (pc := 13) rfl) ok_X9_isUnit tw_949 tw_951 ts_28 (by decide) kc_3261 (Nat.le_of_ble_eq_true rfl) (Nat.le_of_ble_eq_true rfl) (x_X9_isUnit hL hq2) ?_
      refine am_ifc (tgt := 33) (am_fd ck_X9_rightOnes (pc := 16) rfl) rfl (fun hc3 => ?_) (fun hc3 => ?_)
      · replace hm := am_it hm hc3
        refine am_steps ck_X9_rightOnes 5 (pc' := 4) (lv' := [(2, .int (z2 + am_i 1)), (1, .int (z1 ||| (am_i 0))), (0, .ref 3261)]) (st' := []) rfl ?_
        refine am_subp [2, 1, 0] rfl ?_
        exact ih _ _ _ hm K
      · replace hm := am_if hm hc3
        refine am_steps ck_X9_rightOnes 2 (pc' := 21) (lv' := [(0, .ref 3261), (1, .int z1), (2, .int z2)]) (st' := [.int z2, .ref 3261, .int z1]) rfl ?_
        obtain ⟨q4, hq4, hm⟩ := am_bE hm
        refine ms_callV (M2 := mt_X9_isRight) (d2 := 4) (ci := 7) [.int z2] (am_fd ck_X9_rightOnes (pc := 21) rfl) ok_X9_isRight tw_1165 tw_1167 ts_61 (by decide) kc_3261 (Nat.le_of_ble_eq_true rfl) (Nat.le_of_ble_eq_true rfl) (x_X9_isRight hL hq4) ?_
        refine am_ifc (tgt := 33) (am_fd ck_X9_rightOnes (pc := 24) rfl) rfl (fun hc5 => ?_) (fun hc5 => ?_)
        · replace hm := am_it hm hc5
          refine am_steps ck_X9_rightOnes 5 (pc' := 4) (lv' := [(2, .int (z2 + am_i 1)), (1, .int (z1 ||| (am_i 0))), (0, .ref 3261)]) (st' := []) rfl ?_
          refine am_subp [2, 1, 0] rfl ?_
          exact ih _ _ _ hm K
        · replace hm := am_if hm hc5
          refine am_steps ck_X9_rightOnes 8 (pc' := 4) (lv' := [(2, .int (z2 + am_i 1)), (1, .int (z1 ||| ((am_i 1) <<< (z2 &&& 31)))), (0, .ref 3261)]) (st' := []) rfl ?_
          refine am_subp [2, 1, 0] rfl ?_
          exact ih _ _ _ hm K
set_option maxRecDepth 100000 in
set_option maxHeartbeats 4000000 in
theorem x_X9_rightOnes {G : am_G} {m : am_m} {r : am_rr} {res : Int32 × am_m} (hL : am_Lay r) (hm : m_X9_rightOnes m  = some res) : am_Met G mt_X9_rightOnes 5 [.ref 3261] (am_hh m r) (some (.int res.1)) (am_hh res.2 r) := by
  refine am_of (by decide) (Nat.le_of_ble_eq_true rfl) ?_
  unfold m_X9_rightOnes at hm
  show am_W G mt_X9_rightOnes 5 _ _ 0 [(0, .ref 3261)] [] (am_hh m r)
  refine am_steps ck_X9_rightOnes 4 (pc' := 4) (lv' := [(2, .int (am_i 0)), (1, .int (am_i 0)), (0, .ref 3261)]) (st' := []) rfl ?_
  refine am_subp [2, 1, 0] rfl ?_
  refine x_X9_rightOnes_4 hL am_F _ _ _ hm (fun u6 m7 hm => ?_)
  refine am_steps ck_X9_rightOnes 1 (pc' := 43) (lv' := [(1, .int u6)]) (st' := [.int u6]) rfl ?_
  cases hm
  exact am_end (am_fd ck_X9_rightOnes (pc := 43) rfl) am_rI rfl rfl
set_option maxRecDepth 100000 in
set_option maxHeartbeats 4000000 in
theorem x_X9_there_4 {G : am_G} {m : am_m} {r : am_rr} {res : Int32} {k : Int32 → Option (Int32)} (hL : am_Lay r) : ∀ (n : Nat) (z1 : Int32) (z2 : Int32), m_X9_there_4 m k n z1 z2 = some res → (∀ (u1 : Int32), k u1 = some res → am_W G mt_X9_there 1 (some (.int res)) (am_hh m r) 29 [(1, .int u1)] [] (am_hh m r)) → am_W G mt_X9_there 1 (some (.int res)) (am_hh m r) 4 [(0, .ref 3261), (1, .int z1), (2, .int z2)] [] (am_hh m r) := by
  intro n
  induction n with
  | zero => intro z1 z2 hm K; cases hm
  | succ n ih =>
    intro z1 z2 hm K
    unfold m_X9_there_4 at hm
    refine am_steps ck_X9_there 2 (pc' := 7) (lv' := [(0, .ref 3261), (1, .int z1), (2, .int z2)]) (st' := [.int (am_i 24), .int z2]) rfl ?_
    refine am_icmp (tgt := 29) (am_fd ck_X9_there (pc := 7) rfl) rfl (fun hc1 => ?_) (fun hc1 => ?_)
    · replace hm := am_it hm hc1
      refine am_subp [1] rfl ?_
      exact K _ hm
    · replace hm := am_if hm hc1
      refine am_steps ck_X9_there 2 (pc' := 12) (lv' := [(0, .ref 3261), (1, .int z1), (2, .int z2)]) (st' := [.ref 3261, .int z1]) rfl ?_
      refine ms_getr (ci := 7) (k := 0) (v := 3262) (am_fd ck_X9_there (pc := 12) rfl) tw_875 kc_3261 rfl (ly_3261_0 hL) kc_3262 ?_
      refine am_steps ck_X9_there 3 (pc' := 18) (lv' := [(0, .ref 3261), (1, .int z1), (2, .int z2)]) (st' := [.int ((am_i 0) + z2), .ref 3262, .int z1]) rfl ?_
      obtain ⟨hb2, hm⟩ := am_gE hm
      refine ms_iald (n := 15517) (am_fd ck_X9_there (pc := 18) rfl) kc_3262 hb2 ?_
      refine am_steps ck_X9_there 6 (pc' := 4) (lv' := [(2, .int (z2 + am_i 1)), (1, .int (z1 ||| ((m 3262 (am_ix ((am_i 0) + z2))) <<< (z2 &&& 31)))), (0, .ref 3261)]) (st' := []) rfl ?_
      refine am_subp [2, 1, 0] rfl ?_
      exact ih _ _ hm K
set_option maxRecDepth 100000 in
set_option maxHeartbeats 4000000 in
theorem x_X9_there {G : am_G} {m : am_m} {r : am_rr} {res : Int32} (hL : am_Lay r) (hm : m_X9_there m  = some res) : am_Met G mt_X9_there 1 [.ref 3261] (am_hh m r) (some (.int res)) (am_hh m r) := by
  refine am_of (by decide) (Nat.le_of_ble_eq_true rfl) ?_
  unfold m_X9_there at hm
  show am_W G mt_X9_there 1 _ _ 0 [(0, .ref 3261)] [] (am_hh m r)
  refine am_steps ck_X9_there 4 (pc' := 4) (lv' := [(2, .int (am_i 0)), (1, .int (am_i 0)), (0, .ref 3261)]) (st' := []) rfl ?_
  refine am_subp [2, 1, 0] rfl ?_
  refine x_X9_there_4 hL am_F _ _ hm (fun u3 hm => ?_)
  refine am_steps ck_X9_there 1 (pc' := 30) (lv' := [(1, .int u3)]) (st' := [.int u3]) rfl ?_
  cases hm
  exact am_end (am_fd ck_X9_there (pc := 30) rfl) am_rI rfl rfl
set_option maxRecDepth 100000 in
set_option maxHeartbeats 4000000 in
theorem x_X9_deepest_4 {G : am_G} {m : am_m} {r : am_rr} {res : Int32} {k : Int32 → Option (Int32)} (hL : am_Lay r) : ∀ (n : Nat) (z1 : Int32) (z2 : Int32), m_X9_deepest_4 m k n z1 z2 = some res → (∀ (u1 : Int32), k u1 = some res → am_W G mt_X9_deepest 3 (some (.int res)) (am_hh m r) 39 [(1, .int u1)] [] (am_hh m r)) → am_W G mt_X9_deepest 3 (some (.int res)) (am_hh m r) 4 [(0, .ref 3261), (1, .int z1), (2, .int z2)] [] (am_hh m r) := by
  intro n
  induction n with
  | zero => intro z1 z2 hm K; cases hm
  | succ n ih =>
    intro z1 z2 hm K
    unfold m_X9_deepest_4 at hm
    refine am_steps ck_X9_deepest 2 (pc' := 7) (lv' := [(0, .ref 3261), (1, .int z1), (2, .int z2)]) (st' := [.int (am_i 24), .int z2]) rfl ?_
    refine am_icmp (tgt := 39) (am_fd ck_X9_deepest (pc := 7) rfl) rfl (fun hc1 => ?_) (fun hc1 => ?_)
    · replace hm := am_it hm hc1
      refine am_subp [1] rfl ?_
      exact K _ hm
    · replace hm := am_if hm hc1
      refine am_steps ck_X9_deepest 2 (pc' := 12) (lv' := [(0, .ref 3261), (1, .int z1), (2, .int z2)]) (st' := [.int z2, .ref 3261]) rfl ?_
      obtain ⟨q2, hq2, hm⟩ := am_bE hm
      refine ms_callV (M2 := mt_X9_isUnit) (d2 := 2) (ci := 7) [.int z2] (am_fd ck_X9_deepest (pc := 12) rfl) ok_X9_isUnit tw_949 tw_951 ts_28 (by decide) kc_3261 (Nat.le_of_ble_eq_true rfl) (Nat.le_of_ble_eq_true rfl) (x_X9_isUnit hL hq2) ?_
      refine am_ifc (tgt := 33) (am_fd ck_X9_deepest (pc := 15) rfl) rfl (fun hc3 => ?_) (fun hc3 => ?_)
      · replace hm := am_it hm hc3
        refine am_steps ck_X9_deepest 2 (pc' := 4) (lv' := [(2, .int (z2 + am_i 1)), (0, .ref 3261), (1, .int z1)]) (st' := []) rfl ?_
        refine am_subp [1, 2, 0] rfl ?_
        exact ih _ _ hm K
      · replace hm := am_if hm hc3
        refine am_steps ck_X9_deepest 2 (pc' := 20) (lv' := [(0, .ref 3261), (1, .int z1), (2, .int z2)]) (st' := [.int z2, .ref 3261]) rfl ?_
        obtain ⟨q4, hq4, hm⟩ := am_bE hm
        refine ms_callV (M2 := mt_X9_depth) (d2 := 1) (ci := 7) [.int z2] (am_fd ck_X9_deepest (pc := 20) rfl) ok_X9_depth tw_974 tw_976 ts_31 (by decide) kc_3261 (Nat.le_of_ble_eq_true rfl) (Nat.le_of_ble_eq_true rfl) (x_X9_depth hL hq4) ?_
        refine am_steps ck_X9_deepest 1 (pc' := 24) (lv' := [(0, .ref 3261), (1, .int z1), (2, .int z2)]) (st' := [.int z1, .int q4]) rfl ?_
        refine am_icmp (tgt := 33) (am_fd ck_X9_deepest (pc := 24) rfl) rfl (fun hc5 => ?_) (fun hc5 => ?_)
        · replace hm := am_it hm hc5
          refine am_steps ck_X9_deepest 2 (pc' := 4) (lv' := [(2, .int (z2 + am_i 1)), (0, .ref 3261), (1, .int z1)]) (st' := []) rfl ?_
          refine am_subp [1, 2, 0] rfl ?_
          exact ih _ _ hm K
        · replace hm := am_if hm hc5
          refine am_steps ck_X9_deepest 2 (pc' := 29) (lv' := [(0, .ref 3261), (1, .int z1), (2, .int z2)]) (st' := [.int z2, .ref 3261]) rfl ?_
          obtain ⟨q6, hq6, hm⟩ := am_bE hm
          refine ms_callV (M2 := mt_X9_depth) (d2 := 1) (ci := 7) [.int z2] (am_fd ck_X9_deepest (pc := 29) rfl) ok_X9_depth tw_974 tw_976 ts_31 (by decide) kc_3261 (Nat.le_of_ble_eq_true rfl) (Nat.le_of_ble_eq_true rfl) (x_X9_depth hL hq6) ?_
          refine am_steps ck_X9_deepest 3 (pc' := 4) (lv' := [(2, .int (z2 + am_i 1)), (1, .int q6), (0, .ref 3261)]) (st' := []) rfl ?_
          refine am_subp [2, 1, 0] rfl ?_
          exact ih _ _ hm K
set_option maxRecDepth 100000 in
set_option maxHeartbeats 4000000 in
theorem x_X9_deepest {G : am_G} {m : am_m} {r : am_rr} {res : Int32} (hL : am_Lay r) (hm : m_X9_deepest m  = some res) : am_Met G mt_X9_deepest 3 [.ref 3261] (am_hh m r) (some (.int res)) (am_hh m r) := by
  refine am_of (by decide) (Nat.le_of_ble_eq_true rfl) ?_
  unfold m_X9_deepest at hm
  show am_W G mt_X9_deepest 3 _ _ 0 [(0, .ref 3261)] [] (am_hh m r)
  refine am_steps ck_X9_deepest 4 (pc' := 4) (lv' := [(2, .int (am_i 0)), (1, .int (am_i 0)), (0, .ref 3261)]) (st' := []) rfl ?_
  refine am_subp [2, 1, 0] rfl ?_
  refine x_X9_deepest_4 hL am_F _ _ hm (fun u7 hm => ?_)
  refine am_steps ck_X9_deepest 1 (pc' := 40) (lv' := [(1, .int u7)]) (st' := [.int u7]) rfl ?_
  cases hm
  exact am_end (am_fd ck_X9_deepest (pc := 40) rfl) am_rI rfl rfl
set_option maxRecDepth 100000 in
set_option maxHeartbeats 4000000 in
theorem x_X9_sumNodes_4 {G : am_G} {r : am_rr} {res : Int32 × am_m} {k : Int32 → am_m → Option (Int32 × am_m)} (hL : am_Lay r) : ∀ (n : Nat) (z1 : Int32) (z2 : Int32) (m : am_m), m_X9_sumNodes_4 k n z1 z2 m = some res → (∀ (u1 : Int32) (m1 : am_m), k u1 m1 = some res → am_W G mt_X9_sumNodes 5 (some (.int res.1)) (am_hh res.2 r) 39 [(1, .int u1)] [] (am_hh m1 r)) → am_W G mt_X9_sumNodes 5 (some (.int res.1)) (am_hh res.2 r) 4 [(0, .ref 3261), (1, .int z1), (2, .int z2)] [] (am_hh m r) := by
  intro n
  induction n with
  | zero => intro z1 z2 m hm K; cases hm
  | succ n ih =>
    intro z1 z2 m hm K
    unfold m_X9_sumNodes_4 at hm
    refine am_steps ck_X9_sumNodes 2 (pc' := 7) (lv' := [(0, .ref 3261), (1, .int z1), (2, .int z2)]) (st' := [.int (am_i 24), .int z2]) rfl ?_
    refine am_icmp (tgt := 39) (am_fd ck_X9_sumNodes (pc := 7) rfl) rfl (fun hc1 => ?_) (fun hc1 => ?_)
    · replace hm := am_it hm hc1
      refine am_subp [1] rfl ?_
      exact K _ _ hm
    · replace hm := am_if hm hc1
      refine am_steps ck_X9_sumNodes 3 (pc' := 13) (lv' := [(0, .ref 3261), (1, .int z1), (2, .int z2)]) (st' := [.int z2, .ref 3261, .int z1]) rfl ?_
      obtain ⟨q2, hq2, hm⟩ := am_bE hm
      refine ms_callV (M2 := mt_X9_isUnit) (d2 := 2) (ci := 7) [.int z2] (am_fd ck_X9_sumNodes (pc := 13) rfl) ok_X9_isUnit tw_949 tw_951 ts_28 (by decide) kc_3261 (Nat.le_of_ble_eq_true rfl) (Nat.le_of_ble_eq_true rfl) (x_X9_isUnit hL hq2) ?_
      refine am_ifc (tgt := 30) (am_fd ck_X9_sumNodes (pc := 16) rfl) rfl (fun hc3 => ?_) (fun hc3 => ?_)
      · replace hm := am_it hm hc3
        refine am_steps ck_X9_sumNodes 5 (pc' := 4) (lv' := [(2, .int (z2 + am_i 1)), (1, .int (z1 + (am_i 0))), (0, .ref 3261)]) (st' := []) rfl ?_
        refine am_subp [2, 1, 0] rfl ?_
        exact ih _ _ _ hm K
      · replace hm := am_if hm hc3
        refine am_steps ck_X9_sumNodes 2 (pc' := 21) (lv' := [(0, .ref 3261), (1, .int z1), (2, .int z2)]) (st' := [.int z2, .ref 3261, .int z1]) rfl ?_
        obtain ⟨q4, hq4, hm⟩ := am_bE hm
        refine ms_callS (M2 := mt_X9_sumAt) (d2 := 1) [.int z2] (am_fd ck_X9_sumNodes (pc := 21) rfl) ok_X9_sumAt tw_982 tw_983 (Nat.le_of_ble_eq_true rfl) (Nat.le_of_ble_eq_true rfl) (x_X9_sumAt hL hq4) ?_
        obtain ⟨q5, hq5, hm⟩ := am_bE hm
        refine ms_callV (M2 := mt_X9_nodesAt) (d2 := 4) (ci := 7) [.int q4] (am_fd ck_X9_sumNodes (pc := 24) rfl) ok_X9_nodesAt tw_1058 tw_1060 ts_45 (by decide) kc_3261 (Nat.le_of_ble_eq_true rfl) (Nat.le_of_ble_eq_true rfl) (x_X9_nodesAt hL hq5) ?_
        refine am_steps ck_X9_sumNodes 5 (pc' := 4) (lv' := [(2, .int (z2 + am_i 1)), (1, .int (z1 + q5.1)), (0, .ref 3261)]) (st' := []) rfl ?_
        refine am_subp [2, 1, 0] rfl ?_
        exact ih _ _ _ hm K
set_option maxRecDepth 100000 in
set_option maxHeartbeats 4000000 in
theorem x_X9_sumNodes {G : am_G} {m : am_m} {r : am_rr} {res : Int32 × am_m} (hL : am_Lay r) (hm : m_X9_sumNodes m  = some res) : am_Met G mt_X9_sumNodes 5 [.ref 3261] (am_hh m r) (some (.int res.1)) (am_hh res.2 r) := by
  refine am_of (by decide) (Nat.le_of_ble_eq_true rfl) ?_
  unfold m_X9_sumNodes at hm
  show am_W G mt_X9_sumNodes 5 _ _ 0 [(0, .ref 3261)] [] (am_hh m r)
  refine am_steps ck_X9_sumNodes 4 (pc' := 4) (lv' := [(2, .int (am_i 0)), (1, .int (am_i 0)), (0, .ref 3261)]) (st' := []) rfl ?_
  refine am_subp [2, 1, 0] rfl ?_
  refine x_X9_sumNodes_4 hL am_F _ _ _ hm (fun u6 m7 hm => ?_)
  refine am_steps ck_X9_sumNodes 1 (pc' := 40) (lv' := [(1, .int u6)]) (st' := [.int u6]) rfl ?_
  cases hm
  exact am_end (am_fd ck_X9_sumNodes (pc := 40) rfl) am_rI rfl rfl
set_option maxRecDepth 100000 in
set_option maxHeartbeats 4000000 in
theorem x_X9_unlikeOnes_4 {G : am_G} {m : am_m} {r : am_rr} {res : Int32} {k : Int32 → Option (Int32)} (hL : am_Lay r) : ∀ (n : Nat) (z1 : Int32) (z2 : Int32), m_X9_unlikeOnes_4 m k n z1 z2 = some res → (∀ (u1 : Int32), k u1 = some res → am_W G mt_X9_unlikeOnes 1 (some (.int res)) (am_hh m r) 95 [(1, .int u1)] [] (am_hh m r)) → am_W G mt_X9_unlikeOnes 1 (some (.int res)) (am_hh m r) 4 [(0, .ref 3261), (1, .int z1), (2, .int z2)] [] (am_hh m r) := by
  intro n
  induction n with
  | zero => intro z1 z2 hm K; cases hm
  | succ n ih =>
    intro z1 z2 hm K
    unfold m_X9_unlikeOnes_4 at hm
    refine am_steps ck_X9_unlikeOnes 2 (pc' := 7) (lv' := [(0, .ref 3261), (1, .int z1), (2, .int z2)]) (st' := [.int (am_i 24), .int z2]) rfl ?_
    refine am_icmp (tgt := 95) (am_fd ck_X9_unlikeOnes (pc := 7) rfl) rfl (fun hc1 => ?_) (fun hc1 => ?_)
    · replace hm := am_it hm hc1
      refine am_subp [1] rfl ?_
      exact K _ hm
    · replace hm := am_if hm hc1
      refine am_steps ck_X9_unlikeOnes 1 (pc' := 11) (lv' := [(0, .ref 3261), (1, .int z1), (2, .int z2)]) (st' := [.ref 3261]) rfl ?_
      refine ms_geti (ci := 7) (k := 5) (am_fd ck_X9_unlikeOnes (pc := 11) rfl) tw_880 kc_3261 rfl ?_
      refine am_ifc (tgt := 95) (am_fd ck_X9_unlikeOnes (pc := 14) rfl) rfl (fun hc2 => ?_) (fun hc2 => ?_)
      · replace hm := am_it hm hc2
        refine am_subp [1] rfl ?_
        exact K _ hm
      · replace hm := am_if hm hc2
        refine am_steps ck_X9_unlikeOnes 1 (pc' := 18) (lv' := [(0, .ref 3261), (1, .int z1), (2, .int z2)]) (st' := [.ref 3261]) rfl ?_
        refine ms_getr (ci := 7) (k := 0) (v := 3262) (am_fd ck_X9_unlikeOnes (pc := 18) rfl) tw_875 kc_3261 rfl (ly_3261_0 hL) kc_3262 ?_
        refine am_steps ck_X9_unlikeOnes 3 (pc' := 24) (lv' := [(0, .ref 3261), (1, .int z1), (2, .int z2)]) (st' := [.int ((am_i 0) + z2), .ref 3262]) rfl ?_
        obtain ⟨hb3, hm⟩ := am_gE hm
        refine ms_iald (n := 15517) (am_fd ck_X9_unlikeOnes (pc := 24) rfl) kc_3262 hb3 ?_
        refine am_steps ck_X9_unlikeOnes 1 (pc' := 26) (lv' := [(0, .ref 3261), (1, .int z1), (2, .int z2)]) (st' := [.ref 3261, .int (m 3262 (am_ix ((am_i 0) + z2)))]) rfl ?_
        refine ms_getr (ci := 7) (k := 2) (v := 3264) (am_fd ck_X9_unlikeOnes (pc := 26) rfl) tw_877 kc_3261 rfl (ly_3261_2 hL) kc_3264 ?_
        refine am_steps ck_X9_unlikeOnes 3 (pc' := 32) (lv' := [(0, .ref 3261), (1, .int z1), (2, .int z2)]) (st' := [.int ((am_i 0) + z2), .ref 3264, .int (m 3262 (am_ix ((am_i 0) + z2)))]) rfl ?_
        obtain ⟨hb4, hm⟩ := am_gE hm
        refine ms_iald (n := 15517) (am_fd ck_X9_unlikeOnes (pc := 32) rfl) kc_3264 hb4 ?_
        refine am_icmp (tgt := 69) (am_fd ck_X9_unlikeOnes (pc := 33) rfl) rfl (fun hc5 => ?_) (fun hc5 => ?_)
        · replace hm := am_it hm hc5
          refine am_steps ck_X9_unlikeOnes 5 (pc' := 77) (lv' := [(3, .int (am_i 1)), (0, .ref 3261), (1, .int z1), (2, .int z2)]) (st' := [.int (am_i 1), .int z1]) rfl ?_
          refine am_ifc (tgt := 86) (am_fd ck_X9_unlikeOnes (pc := 77) rfl) rfl (fun hc6 => ?_) (fun hc6 => ?_)
          · replace hm := am_it hm hc6
            refine am_steps ck_X9_unlikeOnes 5 (pc' := 4) (lv' := [(2, .int (z2 + am_i 1)), (1, .int (z1 ||| (am_i 0))), (3, .int (am_i 1)), (0, .ref 3261)]) (st' := []) rfl ?_
            refine am_subp [3, 1, 0] rfl ?_
            exact ih _ _ hm K
          · replace hm := am_if hm hc6
            refine am_steps ck_X9_unlikeOnes 8 (pc' := 4) (lv' := [(2, .int (z2 + am_i 1)), (1, .int (z1 ||| ((am_i 1) <<< (z2 &&& 31)))), (3, .int (am_i 1)), (0, .ref 3261)]) (st' := []) rfl ?_
            refine am_subp [3, 1, 0] rfl ?_
            exact ih _ _ hm K
        · replace hm := am_if hm hc5
          refine am_steps ck_X9_unlikeOnes 1 (pc' := 37) (lv' := [(0, .ref 3261), (1, .int z1), (2, .int z2)]) (st' := [.ref 3261]) rfl ?_
          refine ms_getr (ci := 7) (k := 0) (v := 3262) (am_fd ck_X9_unlikeOnes (pc := 37) rfl) tw_875 kc_3261 rfl (ly_3261_0 hL) kc_3262 ?_
          refine am_steps ck_X9_unlikeOnes 3 (pc' := 43) (lv' := [(0, .ref 3261), (1, .int z1), (2, .int z2)]) (st' := [.int ((am_i 0) + z2), .ref 3262]) rfl ?_
          obtain ⟨hb7, hm⟩ := am_gE hm
          refine ms_iald (n := 15517) (am_fd ck_X9_unlikeOnes (pc := 43) rfl) kc_3262 hb7 ?_
          refine am_steps ck_X9_unlikeOnes 1 (pc' := 45) (lv' := [(0, .ref 3261), (1, .int z1), (2, .int z2)]) (st' := [.int (am_i 1), .int (m 3262 (am_ix ((am_i 0) + z2)))]) rfl ?_
          refine am_icmp (tgt := 73) (am_fd ck_X9_unlikeOnes (pc := 45) rfl) rfl (fun hc8 => ?_) (fun hc8 => ?_)
          · replace hm := am_it hm hc8
            refine am_steps ck_X9_unlikeOnes 4 (pc' := 77) (lv' := [(3, .int (am_i 0)), (0, .ref 3261), (1, .int z1), (2, .int z2)]) (st' := [.int (am_i 0), .int z1]) rfl ?_
            refine am_ifc (tgt := 86) (am_fd ck_X9_unlikeOnes (pc := 77) rfl) rfl (fun hc9 => ?_) (fun hc9 => ?_)
            · replace hm := am_it hm hc9
              refine am_steps ck_X9_unlikeOnes 5 (pc' := 4) (lv' := [(2, .int (z2 + am_i 1)), (1, .int (z1 ||| (am_i 0))), (3, .int (am_i 0)), (0, .ref 3261)]) (st' := []) rfl ?_
              refine am_subp [3, 1, 0] rfl ?_
              exact ih _ _ hm K
            · replace hm := am_if hm hc9
              refine am_steps ck_X9_unlikeOnes 8 (pc' := 4) (lv' := [(2, .int (z2 + am_i 1)), (1, .int (z1 ||| ((am_i 1) <<< (z2 &&& 31)))), (3, .int (am_i 0)), (0, .ref 3261)]) (st' := []) rfl ?_
              refine am_subp [3, 1, 0] rfl ?_
              exact ih _ _ hm K
          · replace hm := am_if hm hc8
            refine am_steps ck_X9_unlikeOnes 1 (pc' := 49) (lv' := [(0, .ref 3261), (1, .int z1), (2, .int z2)]) (st' := [.ref 3261]) rfl ?_
            refine ms_getr (ci := 7) (k := 0) (v := 3262) (am_fd ck_X9_unlikeOnes (pc := 49) rfl) tw_875 kc_3261 rfl (ly_3261_0 hL) kc_3262 ?_
            refine am_steps ck_X9_unlikeOnes 3 (pc' := 56) (lv' := [(0, .ref 3261), (1, .int z1), (2, .int z2)]) (st' := [.int ((am_i 24) + z2), .ref 3262]) rfl ?_
            obtain ⟨hb10, hm⟩ := am_gE hm
            refine ms_iald (n := 15517) (am_fd ck_X9_unlikeOnes (pc := 56) rfl) kc_3262 hb10 ?_
            refine am_steps ck_X9_unlikeOnes 1 (pc' := 58) (lv' := [(0, .ref 3261), (1, .int z1), (2, .int z2)]) (st' := [.ref 3261, .int (m 3262 (am_ix ((am_i 24) + z2)))]) rfl ?_
            refine ms_getr (ci := 7) (k := 2) (v := 3264) (am_fd ck_X9_unlikeOnes (pc := 58) rfl) tw_877 kc_3261 rfl (ly_3261_2 hL) kc_3264 ?_
            refine am_steps ck_X9_unlikeOnes 3 (pc' := 65) (lv' := [(0, .ref 3261), (1, .int z1), (2, .int z2)]) (st' := [.int ((am_i 24) + z2), .ref 3264, .int (m 3262 (am_ix ((am_i 24) + z2)))]) rfl ?_
            obtain ⟨hb11, hm⟩ := am_gE hm
            refine ms_iald (n := 15517) (am_fd ck_X9_unlikeOnes (pc := 65) rfl) kc_3264 hb11 ?_
            refine am_icmp (tgt := 73) (am_fd ck_X9_unlikeOnes (pc := 66) rfl) rfl (fun hc12 => ?_) (fun hc12 => ?_)
            · replace hm := am_it hm hc12
              refine am_steps ck_X9_unlikeOnes 4 (pc' := 77) (lv' := [(3, .int (am_i 0)), (0, .ref 3261), (1, .int z1), (2, .int z2)]) (st' := [.int (am_i 0), .int z1]) rfl ?_
              refine am_ifc (tgt := 86) (am_fd ck_X9_unlikeOnes (pc := 77) rfl) rfl (fun hc13 => ?_) (fun hc13 => ?_)
              · replace hm := am_it hm hc13
                refine am_steps ck_X9_unlikeOnes 5 (pc' := 4) (lv' := [(2, .int (z2 + am_i 1)), (1, .int (z1 ||| (am_i 0))), (3, .int (am_i 0)), (0, .ref 3261)]) (st' := []) rfl ?_
                refine am_subp [3, 1, 0] rfl ?_
                exact ih _ _ hm K
              · replace hm := am_if hm hc13
                refine am_steps ck_X9_unlikeOnes 8 (pc' := 4) (lv' := [(2, .int (z2 + am_i 1)), (1, .int (z1 ||| ((am_i 1) <<< (z2 &&& 31)))), (3, .int (am_i 0)), (0, .ref 3261)]) (st' := []) rfl ?_
                refine am_subp [3, 1, 0] rfl ?_
                exact ih _ _ hm K
            · replace hm := am_if hm hc12
              refine am_steps ck_X9_unlikeOnes 5 (pc' := 77) (lv' := [(3, .int (am_i 1)), (0, .ref 3261), (1, .int z1), (2, .int z2)]) (st' := [.int (am_i 1), .int z1]) rfl ?_
              refine am_ifc (tgt := 86) (am_fd ck_X9_unlikeOnes (pc := 77) rfl) rfl (fun hc14 => ?_) (fun hc14 => ?_)
              · replace hm := am_it hm hc14
                refine am_steps ck_X9_unlikeOnes 5 (pc' := 4) (lv' := [(2, .int (z2 + am_i 1)), (1, .int (z1 ||| (am_i 0))), (3, .int (am_i 1)), (0, .ref 3261)]) (st' := []) rfl ?_
                refine am_subp [3, 1, 0] rfl ?_
                exact ih _ _ hm K
              · replace hm := am_if hm hc14
                refine am_steps ck_X9_unlikeOnes 8 (pc' := 4) (lv' := [(2, .int (z2 + am_i 1)), (1, .int (z1 ||| ((am_i 1) <<< (z2 &&& 31)))), (3, .int (am_i 1)), (0, .ref 3261)]) (st' := []) rfl ?_
                refine am_subp [3, 1, 0] rfl ?_
                exact ih _ _ hm K
set_option maxRecDepth 100000 in
set_option maxHeartbeats 4000000 in
theorem x_X9_unlikeOnes {G : am_G} {m : am_m} {r : am_rr} {res : Int32} (hL : am_Lay r) (hm : m_X9_unlikeOnes m  = some res) : am_Met G mt_X9_unlikeOnes 1 [.ref 3261] (am_hh m r) (some (.int res)) (am_hh m r) := by
  refine am_of (by decide) (Nat.le_of_ble_eq_true rfl) ?_
  unfold m_X9_unlikeOnes at hm
  show am_W G mt_X9_unlikeOnes 1 _ _ 0 [(0, .ref 3261)] [] (am_hh m r)
  refine am_steps ck_X9_unlikeOnes 4 (pc' := 4) (lv' := [(2, .int (am_i 0)), (1, .int (am_i 0)), (0, .ref 3261)]) (st' := []) rfl ?_
  refine am_subp [2, 1, 0] rfl ?_
  refine x_X9_unlikeOnes_4 hL am_F _ _ hm (fun u15 hm => ?_)
  refine am_steps ck_X9_unlikeOnes 1 (pc' := 96) (lv' := [(1, .int u15)]) (st' := [.int u15]) rfl ?_
  cases hm
  exact am_end (am_fd ck_X9_unlikeOnes (pc := 96) rfl) am_rI rfl rfl
theorem sw_X9_look_1 : decode mt_X9_look.2.1 1 = .ok (.tableswitch 167 0 12 #[67, 72, 77, 82, 88, 93, 98, 103, 120, 125, 146, 155, 162], 67) := by decide +kernel
set_option maxRecDepth 100000 in
set_option maxHeartbeats 4000000 in
theorem x_X9_look {G : am_G} {m : am_m} {r : am_rr} {x1 : Int32} {res : Int32 × am_m} (hL : am_Lay r) (hm : m_X9_look m x1 = some res) : am_Met G mt_X9_look 6 [.ref 3261, .int x1] (am_hh m r) (some (.int res.1)) (am_hh res.2 r) := by
  refine am_of (by decide) (Nat.le_of_ble_eq_true rfl) ?_
  unfold m_X9_look at hm
  show am_W G mt_X9_look 6 _ _ 0 [(0, .ref 3261), (1, .int x1)] [] (am_hh m r)
  refine am_steps ck_X9_look 1 (pc' := 1) (lv' := [(0, .ref 3261), (1, .int x1)]) (st' := [.int x1]) rfl ?_
  by_cases hs2 : x1 = am_i 0
  · replace hm := am_it hm hs2
    refine ms_sw (v := 0) (off := 67) (tgt := 68) sw_X9_look_1 hs2 (by decide) (by decide) (by decide) rfl rfl ?_
    refine am_steps ck_X9_look 1 (pc' := 69) (lv' := [(0, .ref 3261), (1, .int x1)]) (st' := [.ref 3261]) rfl ?_
    obtain ⟨q1, hq1, hm⟩ := am_bE hm
    refine ms_callV (M2 := mt_X9_there) (d2 := 1) (ci := 7) [] (am_fd ck_X9_look (pc := 69) rfl) ok_X9_there tw_1380 tw_1382 ts_77 (by decide) kc_3261 (Nat.le_of_ble_eq_true rfl) (Nat.le_of_ble_eq_true rfl) (x_X9_there hL hq1) ?_
    cases hm
    exact am_end (am_fd ck_X9_look (pc := 72) rfl) am_rI rfl rfl
  · replace hm := am_if hm hs2
    by_cases hs4 : x1 = am_i 1
    · replace hm := am_it hm hs4
      refine ms_sw (v := 1) (off := 72) (tgt := 73) sw_X9_look_1 hs4 (by decide) (by decide) (by decide) rfl rfl ?_
      refine am_steps ck_X9_look 1 (pc' := 74) (lv' := [(0, .ref 3261), (1, .int x1)]) (st' := [.ref 3261]) rfl ?_
      obtain ⟨q3, hq3, hm⟩ := am_bE hm
      refine ms_callV (M2 := mt_X9_staleOnes) (d2 := 1) (ci := 7) [] (am_fd ck_X9_look (pc := 74) rfl) ok_X9_staleOnes tw_1360 tw_1362 ts_76 (by decide) kc_3261 (Nat.le_of_ble_eq_true rfl) (Nat.le_of_ble_eq_true rfl) (x_X9_staleOnes hL hq3) ?_
      cases hm
      exact am_end (am_fd ck_X9_look (pc := 77) rfl) am_rI rfl rfl
    · replace hm := am_if hm hs4
      by_cases hs6 : x1 = am_i 2
      · replace hm := am_it hm hs6
        refine ms_sw (v := 2) (off := 77) (tgt := 78) sw_X9_look_1 hs6 (by decide) (by decide) (by decide) rfl rfl ?_
        refine am_steps ck_X9_look 1 (pc' := 79) (lv' := [(0, .ref 3261), (1, .int x1)]) (st' := [.ref 3261]) rfl ?_
        obtain ⟨q5, hq5, hm⟩ := am_bE hm
        refine ms_callV (M2 := mt_X9_rightOnes) (d2 := 5) (ci := 7) [] (am_fd ck_X9_look (pc := 79) rfl) ok_X9_rightOnes tw_1384 tw_1386 ts_78 (by decide) kc_3261 (Nat.le_of_ble_eq_true rfl) (Nat.le_of_ble_eq_true rfl) (x_X9_rightOnes hL hq5) ?_
        cases hm
        exact am_end (am_fd ck_X9_look (pc := 82) rfl) am_rI rfl rfl
      · replace hm := am_if hm hs6
        by_cases hs8 : x1 = am_i 3
        · replace hm := am_it hm hs8
          refine ms_sw (v := 3) (off := 82) (tgt := 83) sw_X9_look_1 hs8 (by decide) (by decide) (by decide) rfl rfl ?_
          refine am_steps ck_X9_look 2 (pc' := 85) (lv' := [(0, .ref 3261), (1, .int x1)]) (st' := [.int (am_i 0), .ref 3261]) rfl ?_
          obtain ⟨q7, hq7, hm⟩ := am_bE hm
          refine ms_callV (M2 := mt_X9_branchMany) (d2 := 3) (ci := 7) [.int (am_i 0)] (am_fd ck_X9_look (pc := 85) rfl) ok_X9_branchMany tw_1031 tw_1033 ts_41 (by decide) kc_3261 (Nat.le_of_ble_eq_true rfl) (Nat.le_of_ble_eq_true rfl) (x_X9_branchMany hL hq7) ?_
          cases hm
          exact am_end (am_fd ck_X9_look (pc := 88) rfl) am_rI rfl rfl
        · replace hm := am_if hm hs8
          by_cases hs10 : x1 = am_i 4
          · replace hm := am_it hm hs10
            refine ms_sw (v := 4) (off := 88) (tgt := 89) sw_X9_look_1 hs10 (by decide) (by decide) (by decide) rfl rfl ?_
            refine am_steps ck_X9_look 1 (pc' := 90) (lv' := [(0, .ref 3261), (1, .int x1)]) (st' := [.ref 3261]) rfl ?_
            obtain ⟨q9, hq9, hm⟩ := am_bE hm
            refine ms_callV (M2 := mt_X9_deepest) (d2 := 3) (ci := 7) [] (am_fd ck_X9_look (pc := 90) rfl) ok_X9_deepest tw_1388 tw_1390 ts_79 (by decide) kc_3261 (Nat.le_of_ble_eq_true rfl) (Nat.le_of_ble_eq_true rfl) (x_X9_deepest hL hq9) ?_
            cases hm
            exact am_end (am_fd ck_X9_look (pc := 93) rfl) am_rI rfl rfl
          · replace hm := am_if hm hs10
            by_cases hs11 : x1 = am_i 5
            · replace hm := am_it hm hs11
              refine ms_sw (v := 5) (off := 93) (tgt := 94) sw_X9_look_1 hs11 (by decide) (by decide) (by decide) rfl rfl ?_
              refine am_steps ck_X9_look 1 (pc' := 95) (lv' := [(0, .ref 3261), (1, .int x1)]) (st' := [.ref 3261]) rfl ?_
              refine ms_geti (ci := 7) (k := 4) (am_fd ck_X9_look (pc := 95) rfl) tw_879 kc_3261 rfl ?_
              cases hm
              exact am_end (am_fd ck_X9_look (pc := 98) rfl) am_rI rfl rfl
            · replace hm := am_if hm hs11
              by_cases hs12 : x1 = am_i 6
              · replace hm := am_it hm hs12
                refine ms_sw (v := 6) (off := 98) (tgt := 99) sw_X9_look_1 hs12 (by decide) (by decide) (by decide) rfl rfl ?_
                refine am_steps ck_X9_look 1 (pc' := 100) (lv' := [(0, .ref 3261), (1, .int x1)]) (st' := [.ref 3261]) rfl ?_
                refine ms_geti (ci := 7) (k := 9) (am_fd ck_X9_look (pc := 100) rfl) tw_884 kc_3261 rfl ?_
                cases hm
                exact am_end (am_fd ck_X9_look (pc := 103) rfl) am_rI rfl rfl
              · replace hm := am_if hm hs12
                by_cases hs15 : x1 = am_i 7
                · replace hm := am_it hm hs15
                  refine ms_sw (v := 7) (off := 103) (tgt := 104) sw_X9_look_1 hs15 (by decide) (by decide) (by decide) rfl rfl ?_
                  refine am_steps ck_X9_look 3 (pc' := 107) (lv' := [(0, .ref 3261), (1, .int x1)]) (st' := [.ref 3261, .int (am_i 0), .ref 3261]) rfl ?_
                  refine ms_getr (ci := 7) (k := 6) (v := 3266) (am_fd ck_X9_look (pc := 107) rfl) tw_881 kc_3261 rfl (ly_3261_6 hL) kc_3266 ?_
                  obtain ⟨q13, hq13, hm⟩ := am_bE hm
                  refine ms_callVv (M2 := mt_X9_laysBranch) (d2 := 3) (ci := 7) [.int (am_i 0), .ref 3266] (am_fd ck_X9_look (pc := 110) rfl) ok_X9_laysBranch tw_1169 tw_1171 ts_62 (by decide) kc_3261 (Nat.le_of_ble_eq_true rfl) (Nat.le_of_ble_eq_true rfl) (x_X9_laysBranch hL kc_3266 hq13) ?_
                  refine am_steps ck_X9_look 1 (pc' := 114) (lv' := [(0, .ref 3261), (1, .int x1)]) (st' := [.ref 3261]) rfl ?_
                  refine ms_getr (ci := 7) (k := 6) (v := 3266) (am_fd ck_X9_look (pc := 114) rfl) tw_881 kc_3261 rfl (ly_3261_6 hL) kc_3266 ?_
                  obtain ⟨q14, hq14, hm⟩ := am_bE hm
                  refine ms_callS (M2 := mt_X9_all) (d2 := 1) [.ref 3266] (am_fd ck_X9_look (pc := 117) rfl) ok_X9_all tw_1043 tw_1044 (Nat.le_of_ble_eq_true rfl) (Nat.le_of_ble_eq_true rfl) (x_X9_all hL kc_3266 hq14) ?_
                  cases hm
                  exact am_end (am_fd ck_X9_look (pc := 120) rfl) am_rI rfl rfl
                · replace hm := am_if hm hs15
                  by_cases hs17 : x1 = am_i 8
                  · replace hm := am_it hm hs17
                    refine ms_sw (v := 8) (off := 120) (tgt := 121) sw_X9_look_1 hs17 (by decide) (by decide) (by decide) rfl rfl ?_
                    refine am_steps ck_X9_look 1 (pc' := 122) (lv' := [(0, .ref 3261), (1, .int x1)]) (st' := [.ref 3261]) rfl ?_
                    obtain ⟨q16, hq16, hm⟩ := am_bE hm
                    refine ms_callV (M2 := mt_X9_sumNodes) (d2 := 5) (ci := 7) [] (am_fd ck_X9_look (pc := 122) rfl) ok_X9_sumNodes tw_1392 tw_1394 ts_80 (by decide) kc_3261 (Nat.le_of_ble_eq_true rfl) (Nat.le_of_ble_eq_true rfl) (x_X9_sumNodes hL hq16) ?_
                    cases hm
                    exact am_end (am_fd ck_X9_look (pc := 125) rfl) am_rI rfl rfl
                  · replace hm := am_if hm hs17
                    by_cases hs20 : x1 = am_i 9
                    · replace hm := am_it hm hs20
                      refine ms_sw (v := 9) (off := 125) (tgt := 126) sw_X9_look_1 hs20 (by decide) (by decide) (by decide) rfl rfl ?_
                      refine am_steps ck_X9_look 3 (pc' := 129) (lv' := [(0, .ref 3261), (1, .int x1)]) (st' := [.ref 3261, .int (am_i 0), .ref 3261]) rfl ?_
                      refine ms_getr (ci := 7) (k := 6) (v := 3266) (am_fd ck_X9_look (pc := 129) rfl) tw_881 kc_3261 rfl (ly_3261_6 hL) kc_3266 ?_
                      obtain ⟨q18, hq18, hm⟩ := am_bE hm
                      refine ms_callVv (M2 := mt_X9_laysBranch) (d2 := 3) (ci := 7) [.int (am_i 0), .ref 3266] (am_fd ck_X9_look (pc := 132) rfl) ok_X9_laysBranch tw_1169 tw_1171 ts_62 (by decide) kc_3261 (Nat.le_of_ble_eq_true rfl) (Nat.le_of_ble_eq_true rfl) (x_X9_laysBranch hL kc_3266 hq18) ?_
                      refine am_steps ck_X9_look 3 (pc' := 139) (lv' := [(0, .ref 3261), (1, .int x1)]) (st' := [.ref 3261, .ref 3261, .int (am_i 64)]) rfl ?_
                      refine ms_getr (ci := 7) (k := 6) (v := 3266) (am_fd ck_X9_look (pc := 139) rfl) tw_881 kc_3261 rfl (ly_3261_6 hL) kc_3266 ?_
                      obtain ⟨q19, hq19, hm⟩ := am_bE hm
                      refine ms_callV (M2 := mt_X9_positive) (d2 := 1) (ci := 7) [.ref 3266] (am_fd ck_X9_look (pc := 142) rfl) ok_X9_positive tw_1173 tw_1175 ts_63 (by decide) kc_3261 (Nat.le_of_ble_eq_true rfl) (Nat.le_of_ble_eq_true rfl) (x_X9_positive hL kc_3266 hq19) ?_
                      refine am_steps ck_X9_look 1 (pc' := 146) (lv' := [(0, .ref 3261), (1, .int x1)]) (st' := [.int ((am_i 64) - q19)]) rfl ?_
                      cases hm
                      exact am_end (am_fd ck_X9_look (pc := 146) rfl) am_rI rfl rfl
                    · replace hm := am_if hm hs20
                      by_cases hs22 : x1 = am_i 10
                      · replace hm := am_it hm hs22
                        refine ms_sw (v := 10) (off := 146) (tgt := 147) sw_X9_look_1 hs22 (by decide) (by decide) (by decide) rfl rfl ?_
                        refine am_steps ck_X9_look 1 (pc' := 148) (lv' := [(0, .ref 3261), (1, .int x1)]) (st' := [.ref 3261]) rfl ?_
                        refine ms_getr (ci := 7) (k := 0) (v := 3262) (am_fd ck_X9_look (pc := 148) rfl) tw_875 kc_3261 rfl (ly_3261_0 hL) kc_3262 ?_
                        refine am_steps ck_X9_look 1 (pc' := 154) (lv' := [(0, .ref 3261), (1, .int x1)]) (st' := [.int (am_i 15467), .ref 3262]) rfl ?_
                        obtain ⟨hb21, hm⟩ := am_gE hm
                        refine ms_iald (n := 15517) (am_fd ck_X9_look (pc := 154) rfl) kc_3262 hb21 ?_
                        cases hm
                        exact am_end (am_fd ck_X9_look (pc := 155) rfl) am_rI rfl rfl
                      · replace hm := am_if hm hs22
                        by_cases hs24 : x1 = am_i 11
                        · replace hm := am_it hm hs24
                          refine ms_sw (v := 11) (off := 155) (tgt := 156) sw_X9_look_1 hs24 (by decide) (by decide) (by decide) rfl rfl ?_
                          refine am_steps ck_X9_look 3 (pc' := 159) (lv' := [(0, .ref 3261), (1, .int x1)]) (st' := [.int (am_i 0), .int (am_i (-1)), .ref 3261]) rfl ?_
                          obtain ⟨q23, hq23, hm⟩ := am_bE hm
                          refine ms_callV (M2 := mt_X9_broken) (d2 := 4) (ci := 7) [.int (am_i (-1)), .int (am_i 0)] (am_fd ck_X9_look (pc := 159) rfl) ok_X9_broken tw_1396 tw_1090 tw_1091 (by decide) kc_3261 (Nat.le_of_ble_eq_true rfl) (Nat.le_of_ble_eq_true rfl) (x_X9_broken hL hq23) ?_
                          cases hm
                          exact am_end (am_fd ck_X9_look (pc := 162) rfl) am_rI rfl rfl
                        · replace hm := am_if hm hs24
                          by_cases hs26 : x1 = am_i 12
                          · replace hm := am_it hm hs26
                            refine ms_sw (v := 12) (off := 162) (tgt := 163) sw_X9_look_1 hs26 (by decide) (by decide) (by decide) rfl rfl ?_
                            refine am_steps ck_X9_look 1 (pc' := 164) (lv' := [(0, .ref 3261), (1, .int x1)]) (st' := [.ref 3261]) rfl ?_
                            obtain ⟨q25, hq25, hm⟩ := am_bE hm
                            refine ms_callV (M2 := mt_X9_unlikeOnes) (d2 := 1) (ci := 7) [] (am_fd ck_X9_look (pc := 164) rfl) ok_X9_unlikeOnes tw_1397 tw_1399 ts_81 (by decide) kc_3261 (Nat.le_of_ble_eq_true rfl) (Nat.le_of_ble_eq_true rfl) (x_X9_unlikeOnes hL hq25) ?_
                            cases hm
                            exact am_end (am_fd ck_X9_look (pc := 167) rfl) am_rI rfl rfl
                          · replace hm := am_if hm hs26
                            refine ms_swd (tgt := 168) sw_X9_look_1 (fun j hj => ?_) rfl ?_
                            · have hj2 : j ≤ 12 := by omega
                              match j, hj2 with
                              | 0, _ => exact hs2
                              | 1, _ => exact hs4
                              | 2, _ => exact hs6
                              | 3, _ => exact hs8
                              | 4, _ => exact hs10
                              | 5, _ => exact hs11
                              | 6, _ => exact hs12
                              | 7, _ => exact hs15
                              | 8, _ => exact hs17
                              | 9, _ => exact hs20
                              | 10, _ => exact hs22
                              | 11, _ => exact hs24
                              | 12, _ => exact hs26
                              | j + 13, h9 => omega
                            · refine am_steps ck_X9_look 1 (pc' := 169) (lv' := [(0, .ref 3261), (1, .int x1)]) (st' := [.int (am_i (-1))]) rfl ?_
                              cases hm
                              exact am_end (am_fd ck_X9_look (pc := 169) rfl) am_rI rfl rfl
