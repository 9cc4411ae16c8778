/-! ===== the walks, 4 ===== -/
set_option maxRecDepth 100000 in
set_option maxHeartbeats 4000000 in
theorem x_X9_rolls_18 {G : am_G} {x1 : Int32} {r : am_rr} {y1 : Int32} {res : Int32 × am_m} {self : am_m → Int32 → Option (Int32 × am_m)} {dd : Nat} {k : Int32 → am_m → Option (Int32 × am_m)} (hL : am_Lay r) (hdd : 6 ≤ dd) (sh : ∀ {m : am_m} {r : am_rr} {x1 : Int32} {res : Int32 × am_m}, am_Lay r → self m x1 = some res → am_Met G mt_X9_rolls dd [.ref 3261, .int x1] (am_hh m r) (some (.int res.1)) (am_hh res.2 r)) : ∀ (n : Nat) (z2 : Int32) (z3 : Int32) (m : am_m), m_X9_rolls_18 self x1 y1 k n z2 z3 m = some res → (∀ (u2 : Int32) (m1 : am_m), k u2 m1 = some res → am_W G mt_X9_rolls (dd + 1) (some (.int res.1)) (am_hh res.2 r) 59 [(0, .ref 3261), (1, .int y1), (2, .int u2)] [] (am_hh m1 r)) → am_W G mt_X9_rolls (dd + 1) (some (.int res.1)) (am_hh res.2 r) 18 [(0, .ref 3261), (1, .int y1), (2, .int z2), (3, .int z3)] [] (am_hh m r) := by
  intro n
  induction n with
  | zero => intro z2 z3 m hm K; cases hm
  | succ n ih =>
    intro z2 z3 m hm K
    unfold m_X9_rolls_18 at hm
    refine am_steps ck_X9_rolls 2 (pc' := 21) (lv' := [(0, .ref 3261), (1, .int y1), (2, .int z2), (3, .int z3)]) (st' := [.int (am_i 24), .int z3]) rfl ?_
    refine am_icmp (tgt := 59) (am_fd ck_X9_rolls (pc := 21) rfl) rfl (fun hc3 => ?_) (fun hc3 => ?_)
    · replace hm := am_it hm hc3
      refine am_subp [0, 1, 2] rfl ?_
      exact K _ _ hm
    · replace hm := am_if hm hc3
      refine am_steps ck_X9_rolls 2 (pc' := 26) (lv' := [(0, .ref 3261), (1, .int y1), (2, .int z2), (3, .int z3)]) (st' := [.int z3, .ref 3261]) rfl ?_
      obtain ⟨q4, hq4, hm⟩ := am_bE hm
      refine ms_callV (M2 := mt_X9_isUnit) (d2 := 2) (ci := 7) [.int z3] (am_fd ck_X9_rolls (pc := 26) rfl) ok_X9_isUnit tw_949 tw_951 ts_28 (by decide) kc_3261 (by omega) (Nat.le_of_ble_eq_true rfl) (x_X9_isUnit hL hq4) ?_
      refine am_ifc (tgt := 53) (am_fd ck_X9_rolls (pc := 29) rfl) rfl (fun hc5 => ?_) (fun hc5 => ?_)
      · replace hm := am_it hm hc5
        refine am_steps ck_X9_rolls 2 (pc' := 18) (lv' := [(3, .int (z3 + am_i 1)), (0, .ref 3261), (1, .int y1), (2, .int z2)]) (st' := []) rfl ?_
        refine am_subp [1, 2, 3, 0] rfl ?_
        exact ih _ _ _ hm K
      · replace hm := am_if hm hc5
        refine am_steps ck_X9_rolls 1 (pc' := 33) (lv' := [(0, .ref 3261), (1, .int y1), (2, .int z2), (3, .int z3)]) (st' := [.ref 3261]) rfl ?_
        refine ms_getr (ci := 7) (k := 0) (v := 3262) (am_fd ck_X9_rolls (pc := 33) rfl) tw_875 kc_3261 rfl (ly_3261_0 hL) kc_3262 ?_
        refine am_steps ck_X9_rolls 3 (pc' := 40) (lv' := [(0, .ref 3261), (1, .int y1), (2, .int z2), (3, .int z3)]) (st' := [.int ((am_i 24) + z3), .ref 3262]) rfl ?_
        obtain ⟨hb6, hm⟩ := am_gE hm
        refine ms_iald (n := 15517) (am_fd ck_X9_rolls (pc := 40) rfl) kc_3262 hb6 ?_
        refine am_steps ck_X9_rolls 1 (pc' := 42) (lv' := [(0, .ref 3261), (1, .int y1), (2, .int z2), (3, .int z3)]) (st' := [.int y1, .int (m 3262 (am_ix ((am_i 24) + z3)))]) rfl ?_
        refine am_icmp (tgt := 53) (am_fd ck_X9_rolls (pc := 42) rfl) rfl (fun hc7 => ?_) (fun hc7 => ?_)
        · replace hm := am_it hm hc7
          refine am_steps ck_X9_rolls 2 (pc' := 18) (lv' := [(3, .int (z3 + am_i 1)), (0, .ref 3261), (1, .int y1), (2, .int z2)]) (st' := []) rfl ?_
          refine am_subp [1, 2, 3, 0] rfl ?_
          exact ih _ _ _ hm K
        · replace hm := am_if hm hc7
          refine am_steps ck_X9_rolls 3 (pc' := 48) (lv' := [(0, .ref 3261), (1, .int y1), (2, .int z2), (3, .int z3)]) (st' := [.int z3, .ref 3261, .int z2]) rfl ?_
          obtain ⟨q8, hq8, hm⟩ := am_bE hm
          refine ms_callV (M2 := mt_X9_rolls) (d2 := dd) (ci := 7) [.int z3] (am_fd ck_X9_rolls (pc := 48) rfl) ok_X9_rolls tw_1050 tw_1052 ts_43 (by decide) kc_3261 (by omega) (Nat.le_of_ble_eq_true rfl) (sh hL hq8) ?_
          refine am_steps ck_X9_rolls 4 (pc' := 18) (lv' := [(3, .int (z3 + am_i 1)), (2, .int (z2 + q8.1)), (0, .ref 3261), (1, .int y1)]) (st' := []) rfl ?_
          refine am_subp [2, 3, 1, 0] rfl ?_
          exact ih _ _ _ hm K
set_option maxRecDepth 100000 in
set_option maxHeartbeats 4000000 in
theorem x_X9_rolls_92 {G : am_G} {x1 : Int32} {r : am_rr} {y1 : Int32} {y3 : Int32} {res : Int32 × am_m} {self : am_m → Int32 → Option (Int32 × am_m)} {dd : Nat} {k : Int32 → am_m → Option (Int32 × am_m)} (hL : am_Lay r) (hdd : 6 ≤ dd) (sh : ∀ {m : am_m} {r : am_rr} {x1 : Int32} {res : Int32 × am_m}, am_Lay r → self m x1 = some res → am_Met G mt_X9_rolls dd [.ref 3261, .int x1] (am_hh m r) (some (.int res.1)) (am_hh res.2 r)) : ∀ (n : Nat) (z2 : Int32) (z4 : Int32) (m : am_m), m_X9_rolls_92 self x1 y1 y3 k n z2 z4 m = some res → (∀ (u2 : Int32) (m1 : am_m), k u2 m1 = some res → am_W G mt_X9_rolls (dd + 1) (some (.int res.1)) (am_hh res.2 r) 146 [(0, .ref 3261), (1, .int y1), (2, .int u2), (3, .int y3)] [] (am_hh m1 r)) → am_W G mt_X9_rolls (dd + 1) (some (.int res.1)) (am_hh res.2 r) 92 [(0, .ref 3261), (1, .int y1), (2, .int z2), (3, .int y3), (4, .int z4)] [] (am_hh m r) := by
  intro n
  induction n with
  | zero => intro z2 z4 m hm K; cases hm
  | succ n ih =>
    intro z2 z4 m hm K
    unfold m_X9_rolls_92 at hm
    refine am_steps ck_X9_rolls 2 (pc' := 96) (lv' := [(0, .ref 3261), (1, .int y1), (2, .int z2), (3, .int y3), (4, .int z4)]) (st' := [.int (am_i 24), .int z4]) rfl ?_
    refine am_icmp (tgt := 146) (am_fd ck_X9_rolls (pc := 96) rfl) rfl (fun hc15 => ?_) (fun hc15 => ?_)
    · replace hm := am_it hm hc15
      refine am_subp [0, 1, 2, 3] rfl ?_
      exact K _ _ hm
    · replace hm := am_if hm hc15
      refine am_steps ck_X9_rolls 2 (pc' := 102) (lv' := [(0, .ref 3261), (1, .int y1), (2, .int z2), (3, .int y3), (4, .int z4)]) (st' := [.int z4, .ref 3261]) rfl ?_
      obtain ⟨q16, hq16, hm⟩ := am_bE hm
      refine ms_callV (M2 := mt_X9_isUnit) (d2 := 2) (ci := 7) [.int z4] (am_fd ck_X9_rolls (pc := 102) rfl) ok_X9_isUnit tw_949 tw_951 ts_28 (by decide) kc_3261 (by omega) (Nat.le_of_ble_eq_true rfl) (x_X9_isUnit hL hq16) ?_
      refine am_ifc (tgt := 140) (am_fd ck_X9_rolls (pc := 105) rfl) rfl (fun hc17 => ?_) (fun hc17 => ?_)
      · replace hm := am_it hm hc17
        refine am_steps ck_X9_rolls 2 (pc' := 92) (lv' := [(4, .int (z4 + am_i 1)), (0, .ref 3261), (1, .int y1), (2, .int z2), (3, .int y3)]) (st' := []) rfl ?_
        refine am_subp [1, 2, 3, 4, 0] rfl ?_
        exact ih _ _ _ hm K
      · replace hm := am_if hm hc17
        refine am_steps ck_X9_rolls 1 (pc' := 109) (lv' := [(0, .ref 3261), (1, .int y1), (2, .int z2), (3, .int y3), (4, .int z4)]) (st' := [.ref 3261]) rfl ?_
        refine ms_getr (ci := 7) (k := 0) (v := 3262) (am_fd ck_X9_rolls (pc := 109) rfl) tw_875 kc_3261 rfl (ly_3261_0 hL) kc_3262 ?_
        refine am_steps ck_X9_rolls 3 (pc' := 117) (lv' := [(0, .ref 3261), (1, .int y1), (2, .int z2), (3, .int y3), (4, .int z4)]) (st' := [.int ((am_i 24) + z4), .ref 3262]) rfl ?_
        obtain ⟨hb18, hm⟩ := am_gE hm
        refine ms_iald (n := 15517) (am_fd ck_X9_rolls (pc := 117) rfl) kc_3262 hb18 ?_
        refine am_steps ck_X9_rolls 1 (pc' := 119) (lv' := [(0, .ref 3261), (1, .int y1), (2, .int z2), (3, .int y3), (4, .int z4)]) (st' := [.int y1, .int (m 3262 (am_ix ((am_i 24) + z4)))]) rfl ?_
        refine am_icmp (tgt := 140) (am_fd ck_X9_rolls (pc := 119) rfl) rfl (fun hc19 => ?_) (fun hc19 => ?_)
        · replace hm := am_it hm hc19
          refine am_steps ck_X9_rolls 2 (pc' := 92) (lv' := [(4, .int (z4 + am_i 1)), (0, .ref 3261), (1, .int y1), (2, .int z2), (3, .int y3)]) (st' := []) rfl ?_
          refine am_subp [1, 2, 3, 4, 0] rfl ?_
          exact ih _ _ _ hm K
        · replace hm := am_if hm hc19
          refine am_steps ck_X9_rolls 2 (pc' := 125) (lv' := [(0, .ref 3261), (1, .int y1), (2, .int z2), (3, .int y3), (4, .int z4)]) (st' := [.int y3, .int z4]) rfl ?_
          refine am_icmp (tgt := 140) (am_fd ck_X9_rolls (pc := 125) rfl) rfl (fun hc20 => ?_) (fun hc20 => ?_)
          · replace hm := am_it hm hc20
            refine am_steps ck_X9_rolls 2 (pc' := 92) (lv' := [(4, .int (z4 + am_i 1)), (0, .ref 3261), (1, .int y1), (2, .int z2), (3, .int y3)]) (st' := []) rfl ?_
            refine am_subp [1, 2, 3, 4, 0] rfl ?_
            exact ih _ _ _ hm K
          · replace hm := am_if hm hc20
            refine am_steps ck_X9_rolls 3 (pc' := 132) (lv' := [(0, .ref 3261), (1, .int y1), (2, .int z2), (3, .int y3), (4, .int z4)]) (st' := [.int z4, .ref 3261, .int z2]) rfl ?_
            obtain ⟨q21, hq21, hm⟩ := am_bE hm
            refine ms_callS (M2 := mt_X9_sumAt) (d2 := 1) [.int z4] (am_fd ck_X9_rolls (pc := 132) rfl) ok_X9_sumAt tw_982 tw_983 (by omega) (Nat.le_of_ble_eq_true rfl) (x_X9_sumAt hL hq21) ?_
            obtain ⟨q22, hq22, hm⟩ := am_bE hm
            refine ms_callV (M2 := mt_X9_merges) (d2 := 3) (ci := 7) [.int q21] (am_fd ck_X9_rolls (pc := 135) rfl) ok_X9_merges tw_1065 tw_1067 ts_46 (by decide) kc_3261 (by omega) (Nat.le_of_ble_eq_true rfl) (x_X9_merges hL hq22) ?_
            refine am_steps ck_X9_rolls 4 (pc' := 92) (lv' := [(4, .int (z4 + am_i 1)), (2, .int (z2 + q22.1)), (0, .ref 3261), (1, .int y1), (3, .int y3)]) (st' := []) rfl ?_
            refine am_subp [2, 3, 1, 4, 0] rfl ?_
            exact ih _ _ _ hm K
set_option maxRecDepth 100000 in
set_option maxHeartbeats 4000000 in
theorem x_X9_rolls_165 {G : am_G} {x1 : Int32} {r : am_rr} {y1 : Int32} {y2 : Int32} {res : Int32 × am_m} {self : am_m → Int32 → Option (Int32 × am_m)} {dd : Nat} {k : am_m → Option (Int32 × am_m)} (hL : am_Lay r) (hdd : 6 ≤ dd) (sh : ∀ {m : am_m} {r : am_rr} {x1 : Int32} {res : Int32 × am_m}, am_Lay r → self m x1 = some res → am_Met G mt_X9_rolls dd [.ref 3261, .int x1] (am_hh m r) (some (.int res.1)) (am_hh res.2 r)) : ∀ (n : Nat) (z4 : Int32) (m : am_m), m_X9_rolls_165 self x1 y1 y2 k n z4 m = some res → (∀ (m1 : am_m), k m1 = some res → am_W G mt_X9_rolls (dd + 1) (some (.int res.1)) (am_hh res.2 r) 197 [(0, .ref 3261), (1, .int y1), (2, .int y2)] [] (am_hh m1 r)) → am_W G mt_X9_rolls (dd + 1) (some (.int res.1)) (am_hh res.2 r) 165 [(0, .ref 3261), (1, .int y1), (2, .int y2), (4, .int z4)] [] (am_hh m r) := by
  intro n
  induction n with
  | zero => intro z4 m hm K; cases hm
  | succ n ih =>
    intro z4 m hm K
    unfold m_X9_rolls_165 at hm
    refine am_steps ck_X9_rolls 2 (pc' := 169) (lv' := [(0, .ref 3261), (1, .int y1), (2, .int y2), (4, .int z4)]) (st' := [.int (am_i 64), .int z4]) rfl ?_
    refine am_icmp (tgt := 197) (am_fd ck_X9_rolls (pc := 169) rfl) rfl (fun hc26 => ?_) (fun hc26 => ?_)
    · replace hm := am_it hm hc26
      refine am_subp [0, 1, 2] rfl ?_
      exact K _ hm
    · replace hm := am_if hm hc26
      refine am_steps ck_X9_rolls 1 (pc' := 173) (lv' := [(0, .ref 3261), (1, .int y1), (2, .int y2), (4, .int z4)]) (st' := [.ref 3261]) rfl ?_
      refine ms_getr (ci := 7) (k := 0) (v := 3262) (am_fd ck_X9_rolls (pc := 173) rfl) tw_875 kc_3261 rfl (ly_3261_0 hL) kc_3262 ?_
      refine am_steps ck_X9_rolls 1 (pc' := 177) (lv' := [(0, .ref 3261), (1, .int y1), (2, .int y2), (4, .int z4)]) (st' := [.int y1, .ref 3262]) rfl ?_
      obtain ⟨q27, hq27, hm⟩ := am_bE hm
      refine ms_callS (M2 := mt_X9_sumAt) (d2 := 1) [.int y1] (am_fd ck_X9_rolls (pc := 177) rfl) ok_X9_sumAt tw_982 tw_983 (by omega) (Nat.le_of_ble_eq_true rfl) (x_X9_sumAt hL hq27) ?_
      refine am_steps ck_X9_rolls 3 (pc' := 184) (lv' := [(0, .ref 3261), (1, .int y1), (2, .int y2), (4, .int z4)]) (st' := [.ref 3261, .int (q27 + z4), .ref 3262]) rfl ?_
      refine ms_getr (ci := 7) (k := 6) (v := 3266) (am_fd ck_X9_rolls (pc := 184) rfl) tw_881 kc_3261 rfl (ly_3261_6 hL) kc_3266 ?_
      refine am_steps ck_X9_rolls 1 (pc' := 189) (lv' := [(0, .ref 3261), (1, .int y1), (2, .int y2), (4, .int z4)]) (st' := [.int z4, .ref 3266, .int (q27 + z4), .ref 3262]) rfl ?_
      obtain ⟨hb28, hm⟩ := am_gE hm
      refine ms_iald (n := 64) (am_fd ck_X9_rolls (pc := 189) rfl) kc_3266 hb28 ?_
      obtain ⟨hb29, hm⟩ := am_gE hm
      refine ms_iast (n := 15517) (am_fd ck_X9_rolls (pc := 190) rfl) kc_3262 hb29 (fun m30 em30 => ?_)
      replace hm := am_letE em30 hm
      refine am_steps ck_X9_rolls 2 (pc' := 165) (lv' := [(4, .int (z4 + am_i 1)), (0, .ref 3261), (1, .int y1), (2, .int y2)]) (st' := []) rfl ?_
      refine am_subp [1, 2, 3, 0] rfl ?_
      exact ih _ _ hm K
set_option maxRecDepth 100000 in
set_option maxHeartbeats 4000000 in
theorem x_X9_rolls {G : am_G} : ∀ (f : Nat) {m : am_m} {r : am_rr} {x1 : Int32} {res : Int32 × am_m}, am_Lay r → m_X9_rolls f m x1 = some res → am_Met G mt_X9_rolls (6 + f) [.ref 3261, .int x1] (am_hh m r) (some (.int res.1)) (am_hh res.2 r) := by
  intro f
  induction f with
  | zero => intro m r x1 res hL hm; cases hm
  | succ f sh =>
    intro m r x1 res hL hm
    refine am_of (by decide) (Nat.le_of_ble_eq_true rfl) ?_
    have hdd : 6 ≤ 6 + f := Nat.le_add_right _ _
    change (bif am_ib ((am_i 48) + x1) 15517 then if ¬ (m 3262 (am_ix ((am_i 48) + x1))) = 0 then m_X9_rolls_18 (m_X9_rolls f) x1 x1 (fun u9 m10 => (m_X9_keptPart m10 x1).bind fun q11 => if ¬ q11.1 = x1 then (m_X9_sumAt q11.2 q11.1).bind fun q13 => (m_X9_lays q11.2 q13 3266).bind fun q14 => m_X9_rolls_92 (m_X9_rolls f) x1 x1 q11.1 (fun u23 m24 => if q11.1 = x1 then m_X9_rolls_165 (m_X9_rolls f) x1 x1 u23 (fun m31 => bif am_ib ((am_i 48) + x1) 15517 then am_let (am_si m31 3262 (am_ix ((am_i 48) + x1)) (am_i 0)) (fun m33 => (m_X9_counts m33 (am_i 4) (am_i 1)).bind fun q34 => (m_X9_hasVersion q34 x1).bind fun q35 => some (u23, q35)) else none) am_F (am_i 0) m24 else (m_X9_ownAt m24 x1).bind fun q36 => (m_X9_merges m24 q36).bind fun q37 => m_X9_rolls_165 (m_X9_rolls f) x1 x1 (u23 + q37.1) (fun m38 => bif am_ib ((am_i 48) + x1) 15517 then am_let (am_si m38 3262 (am_ix ((am_i 48) + x1)) (am_i 0)) (fun m40 => (m_X9_counts m40 (am_i 4) (am_i 1)).bind fun q41 => (m_X9_hasVersion q41 x1).bind fun q42 => some ((u23 + q37.1), q42)) else none) am_F (am_i 0) q37.2) am_F u9 (am_i 0) q14 else (m_X9_ownAt q11.2 x1).bind fun q43 => (m_X9_lays q11.2 q43 3266).bind fun q44 => m_X9_rolls_92 (m_X9_rolls f) x1 x1 q11.1 (fun u45 m46 => if q11.1 = x1 then m_X9_rolls_165 (m_X9_rolls f) x1 x1 u45 (fun m48 => bif am_ib ((am_i 48) + x1) 15517 then am_let (am_si m48 3262 (am_ix ((am_i 48) + x1)) (am_i 0)) (fun m50 => (m_X9_counts m50 (am_i 4) (am_i 1)).bind fun q51 => (m_X9_hasVersion q51 x1).bind fun q52 => some (u45, q52)) else none) am_F (am_i 0) m46 else (m_X9_ownAt m46 x1).bind fun q53 => (m_X9_merges m46 q53).bind fun q54 => m_X9_rolls_165 (m_X9_rolls f) x1 x1 (u45 + q54.1) (fun m55 => bif am_ib ((am_i 48) + x1) 15517 then am_let (am_si m55 3262 (am_ix ((am_i 48) + x1)) (am_i 0)) (fun m57 => (m_X9_counts m57 (am_i 4) (am_i 1)).bind fun q58 => (m_X9_hasVersion q58 x1).bind fun q59 => some ((u45 + q54.1), q59)) else none) am_F (am_i 0) q54.2) am_F u9 (am_i 0) q44) am_F (am_i 0) (am_i 0) m else some ((am_i 0), m) else none) = some res at hm
    show am_W G mt_X9_rolls (6 + f + 1) _ _ 0 [(0, .ref 3261), (1, .int x1)] [] (am_hh m r)
    refine am_steps ck_X9_rolls 1 (pc' := 1) (lv' := [(0, .ref 3261), (1, .int x1)]) (st' := [.ref 3261]) rfl ?_
    refine ms_getr (ci := 7) (k := 0) (v := 3262) (am_fd ck_X9_rolls (pc := 1) rfl) tw_875 kc_3261 rfl (ly_3261_0 hL) kc_3262 ?_
    refine am_steps ck_X9_rolls 3 (pc' := 8) (lv' := [(0, .ref 3261), (1, .int x1)]) (st' := [.int ((am_i 48) + x1), .ref 3262]) rfl ?_
    obtain ⟨hb1, hm⟩ := am_gE hm
    refine ms_iald (n := 15517) (am_fd ck_X9_rolls (pc := 8) rfl) kc_3262 hb1 ?_
    refine am_ifc (tgt := 14) (am_fd ck_X9_rolls (pc := 9) rfl) rfl (fun hc2 => ?_) (fun hc2 => ?_)
    · replace hm := am_it hm hc2
      refine am_steps ck_X9_rolls 4 (pc' := 18) (lv' := [(3, .int (am_i 0)), (2, .int (am_i 0)), (0, .ref 3261), (1, .int x1)]) (st' := []) rfl ?_
      refine am_subp [2, 3, 1, 0] rfl ?_
      refine x_X9_rolls_18 hL hdd sh am_F _ _ _ hm (fun u9 m10 hm => ?_)
      refine am_steps ck_X9_rolls 2 (pc' := 61) (lv' := [(0, .ref 3261), (1, .int x1), (2, .int u9)]) (st' := [.int x1, .ref 3261]) rfl ?_
      obtain ⟨q11, hq11, hm⟩ := am_bE hm
      refine ms_callV (M2 := mt_X9_keptPart) (d2 := 5) (ci := 7) [.int x1] (am_fd ck_X9_rolls (pc := 61) rfl) ok_X9_keptPart tw_1054 tw_1056 ts_44 (by decide) kc_3261 (by omega) (Nat.le_of_ble_eq_true rfl) (x_X9_keptPart hL hq11) ?_
      refine am_steps ck_X9_rolls 4 (pc' := 68) (lv' := [(3, .int q11.1), (0, .ref 3261), (1, .int x1), (2, .int u9)]) (st' := [.int x1, .int q11.1, .ref 3261]) rfl ?_
      refine am_icmp (tgt := 78) (am_fd ck_X9_rolls (pc := 68) rfl) rfl (fun hc12 => ?_) (fun hc12 => ?_)
      · replace hm := am_it hm hc12
        refine am_steps ck_X9_rolls 1 (pc' := 79) (lv' := [(3, .int q11.1), (0, .ref 3261), (1, .int x1), (2, .int u9)]) (st' := [.int q11.1, .ref 3261]) rfl ?_
        obtain ⟨q13, hq13, hm⟩ := am_bE hm
        refine ms_callS (M2 := mt_X9_sumAt) (d2 := 1) [.int q11.1] (am_fd ck_X9_rolls (pc := 79) rfl) ok_X9_sumAt tw_982 tw_983 (by omega) (Nat.le_of_ble_eq_true rfl) (x_X9_sumAt hL hq13) ?_
        refine am_steps ck_X9_rolls 1 (pc' := 83) (lv' := [(3, .int q11.1), (0, .ref 3261), (1, .int x1), (2, .int u9)]) (st' := [.ref 3261, .int q13, .ref 3261]) rfl ?_
        refine ms_getr (ci := 7) (k := 6) (v := 3266) (am_fd ck_X9_rolls (pc := 83) rfl) tw_881 kc_3261 rfl (ly_3261_6 hL) kc_3266 ?_
        obtain ⟨q14, hq14, hm⟩ := am_bE hm
        refine ms_callVv (M2 := mt_X9_lays) (d2 := 1) (ci := 7) [.int q13, .ref 3266] (am_fd ck_X9_rolls (pc := 86) rfl) ok_X9_lays tw_1001 tw_1003 ts_36 (by decide) kc_3261 (by omega) (Nat.le_of_ble_eq_true rfl) (x_X9_lays hL kc_3266 hq14) ?_
        refine am_steps ck_X9_rolls 2 (pc' := 92) (lv' := [(4, .int (am_i 0)), (3, .int q11.1), (0, .ref 3261), (1, .int x1), (2, .int u9)]) (st' := []) rfl ?_
        refine am_subp [2, 3, 4, 1, 0] rfl ?_
        refine x_X9_rolls_92 hL hdd sh am_F _ _ _ hm (fun u23 m24 hm => ?_)
        refine am_steps ck_X9_rolls 2 (pc' := 148) (lv' := [(0, .ref 3261), (1, .int x1), (2, .int u23), (3, .int q11.1)]) (st' := [.int x1, .int q11.1]) rfl ?_
        refine am_icmp (tgt := 162) (am_fd ck_X9_rolls (pc := 148) rfl) rfl (fun hc25 => ?_) (fun hc25 => ?_)
        · replace hm := am_it hm hc25
          refine am_steps ck_X9_rolls 2 (pc' := 165) (lv' := [(4, .int (am_i 0)), (0, .ref 3261), (1, .int x1), (2, .int u23), (3, .int q11.1)]) (st' := []) rfl ?_
          refine am_subp [1, 2, 3, 0] rfl ?_
          refine x_X9_rolls_165 hL hdd sh am_F _ _ hm (fun m31 hm => ?_)
          refine am_steps ck_X9_rolls 1 (pc' := 198) (lv' := [(0, .ref 3261), (1, .int x1), (2, .int u23)]) (st' := [.ref 3261]) rfl ?_
          refine ms_getr (ci := 7) (k := 0) (v := 3262) (am_fd ck_X9_rolls (pc := 198) rfl) tw_875 kc_3261 rfl (ly_3261_0 hL) kc_3262 ?_
          refine am_steps ck_X9_rolls 4 (pc' := 206) (lv' := [(0, .ref 3261), (1, .int x1), (2, .int u23)]) (st' := [.int (am_i 0), .int ((am_i 48) + x1), .ref 3262]) rfl ?_
          obtain ⟨hb32, hm⟩ := am_gE hm
          refine ms_iast (n := 15517) (am_fd ck_X9_rolls (pc := 206) rfl) kc_3262 hb32 (fun m33 em33 => ?_)
          replace hm := am_letE em33 hm
          refine am_steps ck_X9_rolls 3 (pc' := 210) (lv' := [(0, .ref 3261), (1, .int x1), (2, .int u23)]) (st' := [.int (am_i 1), .int (am_i 4), .ref 3261]) rfl ?_
          obtain ⟨q34, hq34, hm⟩ := am_bE hm
          refine ms_callVv (M2 := mt_X9_counts) (d2 := 1) (ci := 7) [.int (am_i 4), .int (am_i 1)] (am_fd ck_X9_rolls (pc := 210) rfl) ok_X9_counts tw_941 tw_943 ts_27 (by decide) kc_3261 (by omega) (Nat.le_of_ble_eq_true rfl) (x_X9_counts hL hq34) ?_
          refine am_steps ck_X9_rolls 2 (pc' := 215) (lv' := [(0, .ref 3261), (1, .int x1), (2, .int u23)]) (st' := [.int x1, .ref 3261]) rfl ?_
          obtain ⟨q35, hq35, hm⟩ := am_bE hm
          refine ms_callVv (M2 := mt_X9_hasVersion) (d2 := 2) (ci := 7) [.int x1] (am_fd ck_X9_rolls (pc := 215) rfl) ok_X9_hasVersion tw_1069 tw_1071 ts_47 (by decide) kc_3261 (by omega) (Nat.le_of_ble_eq_true rfl) (x_X9_hasVersion hL hq35) ?_
          refine am_steps ck_X9_rolls 1 (pc' := 219) (lv' := [(0, .ref 3261), (1, .int x1), (2, .int u23)]) (st' := [.int u23]) rfl ?_
          cases hm
          exact am_end (am_fd ck_X9_rolls (pc := 219) rfl) am_rI rfl rfl
        · replace hm := am_if hm hc25
          refine am_steps ck_X9_rolls 3 (pc' := 154) (lv' := [(0, .ref 3261), (1, .int x1), (2, .int u23), (3, .int q11.1)]) (st' := [.int x1, .ref 3261, .int u23]) rfl ?_
          obtain ⟨q36, hq36, hm⟩ := am_bE hm
          refine ms_callS (M2 := mt_X9_ownAt) (d2 := 1) [.int x1] (am_fd ck_X9_rolls (pc := 154) rfl) ok_X9_ownAt tw_959 tw_960 (by omega) (Nat.le_of_ble_eq_true rfl) (x_X9_ownAt hL hq36) ?_
          obtain ⟨q37, hq37, hm⟩ := am_bE hm
          refine ms_callV (M2 := mt_X9_merges) (d2 := 3) (ci := 7) [.int q36] (am_fd ck_X9_rolls (pc := 157) rfl) ok_X9_merges tw_1065 tw_1067 ts_46 (by decide) kc_3261 (by omega) (Nat.le_of_ble_eq_true rfl) (x_X9_merges hL hq37) ?_
          refine am_steps ck_X9_rolls 4 (pc' := 165) (lv' := [(4, .int (am_i 0)), (2, .int (u23 + q37.1)), (0, .ref 3261), (1, .int x1), (3, .int q11.1)]) (st' := []) rfl ?_
          refine am_subp [2, 3, 1, 0] rfl ?_
          refine x_X9_rolls_165 hL hdd sh am_F _ _ hm (fun m38 hm => ?_)
          refine am_steps ck_X9_rolls 1 (pc' := 198) (lv' := [(0, .ref 3261), (1, .int x1), (2, .int (u23 + q37.1))]) (st' := [.ref 3261]) rfl ?_
          refine ms_getr (ci := 7) (k := 0) (v := 3262) (am_fd ck_X9_rolls (pc := 198) rfl) tw_875 kc_3261 rfl (ly_3261_0 hL) kc_3262 ?_
          refine am_steps ck_X9_rolls 4 (pc' := 206) (lv' := [(0, .ref 3261), (1, .int x1), (2, .int (u23 + q37.1))]) (st' := [.int (am_i 0), .int ((am_i 48) + x1), .ref 3262]) rfl ?_
          obtain ⟨hb39, hm⟩ := am_gE hm
          refine ms_iast (n := 15517) (am_fd ck_X9_rolls (pc := 206) rfl) kc_3262 hb39 (fun m40 em40 => ?_)
          replace hm := am_letE em40 hm
          refine am_steps ck_X9_rolls 3 (pc' := 210) (lv' := [(0, .ref 3261), (1, .int x1), (2, .int (u23 + q37.1))]) (st' := [.int (am_i 1), .int (am_i 4), .ref 3261]) rfl ?_
          obtain ⟨q41, hq41, hm⟩ := am_bE hm
          refine ms_callVv (M2 := mt_X9_counts) (d2 := 1) (ci := 7) [.int (am_i 4), .int (am_i 1)] (am_fd ck_X9_rolls (pc := 210) rfl) ok_X9_counts tw_941 tw_943 ts_27 (by decide) kc_3261 (by omega) (Nat.le_of_ble_eq_true rfl) (x_X9_counts hL hq41) ?_
          refine am_steps ck_X9_rolls 2 (pc' := 215) (lv' := [(0, .ref 3261), (1, .int x1), (2, .int (u23 + q37.1))]) (st' := [.int x1, .ref 3261]) rfl ?_
          obtain ⟨q42, hq42, hm⟩ := am_bE hm
          refine ms_callVv (M2 := mt_X9_hasVersion) (d2 := 2) (ci := 7) [.int x1] (am_fd ck_X9_rolls (pc := 215) rfl) ok_X9_hasVersion tw_1069 tw_1071 ts_47 (by decide) kc_3261 (by omega) (Nat.le_of_ble_eq_true rfl) (x_X9_hasVersion hL hq42) ?_
          refine am_steps ck_X9_rolls 1 (pc' := 219) (lv' := [(0, .ref 3261), (1, .int x1), (2, .int (u23 + q37.1))]) (st' := [.int (u23 + q37.1)]) rfl ?_
          cases hm
          exact am_end (am_fd ck_X9_rolls (pc := 219) rfl) am_rI rfl rfl
      · replace hm := am_if hm hc12
        refine am_steps ck_X9_rolls 1 (pc' := 72) (lv' := [(3, .int q11.1), (0, .ref 3261), (1, .int x1), (2, .int u9)]) (st' := [.int x1, .ref 3261]) rfl ?_
        obtain ⟨q43, hq43, hm⟩ := am_bE hm
        refine ms_callS (M2 := mt_X9_ownAt) (d2 := 1) [.int x1] (am_fd ck_X9_rolls (pc := 72) rfl) ok_X9_ownAt tw_959 tw_960 (by omega) (Nat.le_of_ble_eq_true rfl) (x_X9_ownAt hL hq43) ?_
        refine am_steps ck_X9_rolls 2 (pc' := 83) (lv' := [(3, .int q11.1), (0, .ref 3261), (1, .int x1), (2, .int u9)]) (st' := [.ref 3261, .int q43, .ref 3261]) rfl ?_
        refine ms_getr (ci := 7) (k := 6) (v := 3266) (am_fd ck_X9_rolls (pc := 83) rfl) tw_881 kc_3261 rfl (ly_3261_6 hL) kc_3266 ?_
        obtain ⟨q44, hq44, hm⟩ := am_bE hm
        refine ms_callVv (M2 := mt_X9_lays) (d2 := 1) (ci := 7) [.int q43, .ref 3266] (am_fd ck_X9_rolls (pc := 86) rfl) ok_X9_lays tw_1001 tw_1003 ts_36 (by decide) kc_3261 (by omega) (Nat.le_of_ble_eq_true rfl) (x_X9_lays hL kc_3266 hq44) ?_
        refine am_steps ck_X9_rolls 2 (pc' := 92) (lv' := [(4, .int (am_i 0)), (3, .int q11.1), (0, .ref 3261), (1, .int x1), (2, .int u9)]) (st' := []) rfl ?_
        refine am_subp [2, 3, 4, 1, 0] rfl ?_
        refine x_X9_rolls_92 hL hdd sh am_F _ _ _ hm (fun u45 m46 hm => ?_)
        refine am_steps ck_X9_rolls 2 (pc' := 148) (lv' := [(0, .ref 3261), (1, .int x1), (2, .int u45), (3, .int q11.1)]) (st' := [.int x1, .int q11.1]) rfl ?_
        refine am_icmp (tgt := 162) (am_fd ck_X9_rolls (pc := 148) rfl) rfl (fun hc47 => ?_) (fun hc47 => ?_)
        · replace hm := am_it hm hc47
          refine am_steps ck_X9_rolls 2 (pc' := 165) (lv' := [(4, .int (am_i 0)), (0, .ref 3261), (1, .int x1), (2, .int u45), (3, .int q11.1)]) (st' := []) rfl ?_
          refine am_subp [1, 2, 3, 0] rfl ?_
          refine x_X9_rolls_165 hL hdd sh am_F _ _ hm (fun m48 hm => ?_)
          refine am_steps ck_X9_rolls 1 (pc' := 198) (lv' := [(0, .ref 3261), (1, .int x1), (2, .int u45)]) (st' := [.ref 3261]) rfl ?_
          refine ms_getr (ci := 7) (k := 0) (v := 3262) (am_fd ck_X9_rolls (pc := 198) rfl) tw_875 kc_3261 rfl (ly_3261_0 hL) kc_3262 ?_
          refine am_steps ck_X9_rolls 4 (pc' := 206) (lv' := [(0, .ref 3261), (1, .int x1), (2, .int u45)]) (st' := [.int (am_i 0), .int ((am_i 48) + x1), .ref 3262]) rfl ?_
          obtain ⟨hb49, hm⟩ := am_gE hm
          refine ms_iast (n := 15517) (am_fd ck_X9_rolls (pc := 206) rfl) kc_3262 hb49 (fun m50 em50 => ?_)
          replace hm := am_letE em50 hm
          refine am_steps ck_X9_rolls 3 (pc' := 210) (lv' := [(0, .ref 3261), (1, .int x1), (2, .int u45)]) (st' := [.int (am_i 1), .int (am_i 4), .ref 3261]) rfl ?_
          obtain ⟨q51, hq51, hm⟩ := am_bE hm
          refine ms_callVv (M2 := mt_X9_counts) (d2 := 1) (ci := 7) [.int (am_i 4), .int (am_i 1)] (am_fd ck_X9_rolls (pc := 210) rfl) ok_X9_counts tw_941 tw_943 ts_27 (by decide) kc_3261 (by omega) (Nat.le_of_ble_eq_true rfl) (x_X9_counts hL hq51) ?_
          refine am_steps ck_X9_rolls 2 (pc' := 215) (lv' := [(0, .ref 3261), (1, .int x1), (2, .int u45)]) (st' := [.int x1, .ref 3261]) rfl ?_
          obtain ⟨q52, hq52, hm⟩ := am_bE hm
          refine ms_callVv (M2 := mt_X9_hasVersion) (d2 := 2) (ci := 7) [.int x1] (am_fd ck_X9_rolls (pc := 215) rfl) ok_X9_hasVersion tw_1069 tw_1071 ts_47 (by decide) kc_3261 (by omega) (Nat.le_of_ble_eq_true rfl) (x_X9_hasVersion hL hq52) ?_
          refine am_steps ck_X9_rolls 1 (pc' := 219) (lv' := [(0, .ref 3261), (1, .int x1), (2, .int u45)]) (st' := [.int u45]) rfl ?_
          cases hm
          exact am_end (am_fd ck_X9_rolls (pc := 219) rfl) am_rI rfl rfl
        · replace hm := am_if hm hc47
          refine am_steps ck_X9_rolls 3 (pc' := 154) (lv' := [(0, .ref 3261), (1, .int x1), (2, .int u45), (3, .int q11.1)]) (st' := [.int x1, .ref 3261, .int u45]) rfl ?_
          obtain ⟨q53, hq53, hm⟩ := am_bE hm
          refine ms_callS (M2 := mt_X9_ownAt) (d2 := 1) [.int x1] (am_fd ck_X9_rolls (pc := 154) rfl) ok_X9_ownAt tw_959 tw_960 (by omega) (Nat.le_of_ble_eq_true rfl) (x_X9_ownAt hL hq53) ?_
          obtain ⟨q54, hq54, hm⟩ := am_bE hm
          refine ms_callV (M2 := mt_X9_merges) (d2 := 3) (ci := 7) [.int q53] (am_fd ck_X9_rolls (pc := 157) rfl) ok_X9_merges tw_1065 tw_1067 ts_46 (by decide) kc_3261 (by omega) (Nat.le_of_ble_eq_true rfl) (x_X9_merges hL hq54) ?_
          refine am_steps ck_X9_rolls 4 (pc' := 165) (lv' := [(4, .int (am_i 0)), (2, .int (u45 + q54.1)), (0, .ref 3261), (1, .int x1), (3, .int q11.1)]) (st' := []) rfl ?_
          refine am_subp [2, 3, 1, 0] rfl ?_
          refine x_X9_rolls_165 hL hdd sh am_F _ _ hm (fun m55 hm => ?_)
          refine am_steps ck_X9_rolls 1 (pc' := 198) (lv' := [(0, .ref 3261), (1, .int x1), (2, .int (u45 + q54.1))]) (st' := [.ref 3261]) rfl ?_
          refine ms_getr (ci := 7) (k := 0) (v := 3262) (am_fd ck_X9_rolls (pc := 198) rfl) tw_875 kc_3261 rfl (ly_3261_0 hL) kc_3262 ?_
          refine am_steps ck_X9_rolls 4 (pc' := 206) (lv' := [(0, .ref 3261), (1, .int x1), (2, .int (u45 + q54.1))]) (st' := [.int (am_i 0), .int ((am_i 48) + x1), .ref 3262]) rfl ?_
          obtain ⟨hb56, hm⟩ := am_gE hm
          refine ms_iast (n := 15517) (am_fd ck_X9_rolls (pc := 206) rfl) kc_3262 hb56 (fun m57 em57 => ?_)
          replace hm := am_letE em57 hm
          refine am_steps ck_X9_rolls 3 (pc' := 210) (lv' := [(0, .ref 3261), (1, .int x1), (2, .int (u45 + q54.1))]) (st' := [.int (am_i 1), .int (am_i 4), .ref 3261]) rfl ?_
          obtain ⟨q58, hq58, hm⟩ := am_bE hm
          refine ms_callVv (M2 := mt_X9_counts) (d2 := 1) (ci := 7) [.int (am_i 4), .int (am_i 1)] (am_fd ck_X9_rolls (pc := 210) rfl) ok_X9_counts tw_941 tw_943 ts_27 (by decide) kc_3261 (by omega) (Nat.le_of_ble_eq_true rfl) (x_X9_counts hL hq58) ?_
          refine am_steps ck_X9_rolls 2 (pc' := 215) (lv' := [(0, .ref 3261), (1, .int x1), (2, .int (u45 + q54.1))]) (st' := [.int x1, .ref 3261]) rfl ?_
          obtain ⟨q59, hq59, hm⟩ := am_bE hm
          refine ms_callVv (M2 := mt_X9_hasVersion) (d2 := 2) (ci := 7) [.int x1] (am_fd ck_X9_rolls (pc := 215) rfl) ok_X9_hasVersion tw_1069 tw_1071 ts_47 (by decide) kc_3261 (by omega) (Nat.le_of_ble_eq_true rfl) (x_X9_hasVersion hL hq59) ?_
          refine am_steps ck_X9_rolls 1 (pc' := 219) (lv' := [(0, .ref 3261), (1, .int x1), (2, .int (u45 + q54.1))]) (st' := [.int (u45 + q54.1)]) rfl ?_
          cases hm
          exact am_end (am_fd ck_X9_rolls (pc := 219) rfl) am_rI rfl rfl
    · replace hm := am_if hm hc2
      refine am_steps ck_X9_rolls 1 (pc' := 13) (lv' := [(0, .ref 3261), (1, .int x1)]) (st' := [.int (am_i 0)]) rfl ?_
      cases hm
      exact am_end (am_fd ck_X9_rolls (pc := 13) rfl) am_rI rfl rfl
set_option maxRecDepth 100000 in
set_option maxHeartbeats 4000000 in
theorem x_X9_remembers_53 {G : am_G} {r : am_rr} {res : am_m} {k : am_m → Option (am_m)} (hL : am_Lay r) : ∀ (n : Nat) (z1 : Int32) (m : am_m), m_X9_remembers_53 k n z1 m = some res → (∀ (m1 : am_m), k m1 = some res → am_W G mt_X9_remembers 1 none (am_hh res r) 87 [(0, .ref 3261)] [] (am_hh m1 r)) → am_W G mt_X9_remembers 1 none (am_hh res r) 53 [(0, .ref 3261), (1, .int z1)] [] (am_hh m r) := by
  intro n
  induction n with
  | zero => intro z1 m hm K; cases hm
  | succ n ih =>
    intro z1 m hm K
    unfold m_X9_remembers_53 at hm
    refine am_steps ck_X9_remembers 2 (pc' := 57) (lv' := [(0, .ref 3261), (1, .int z1)]) (st' := [.int (am_i 15456), .int z1]) rfl ?_
    refine am_icmp (tgt := 87) (am_fd ck_X9_remembers (pc := 57) rfl) rfl (fun hc2 => ?_) (fun hc2 => ?_)
    · replace hm := am_it hm hc2
      refine am_subp [0] rfl ?_
      exact K _ hm
    · replace hm := am_if hm hc2
      refine am_steps ck_X9_remembers 1 (pc' := 61) (lv' := [(0, .ref 3261), (1, .int z1)]) (st' := [.ref 3261]) rfl ?_
      refine ms_getr (ci := 7) (k := 3) (v := 3265) (am_fd ck_X9_remembers (pc := 61) rfl) tw_878 kc_3261 rfl (ly_3261_3 hL) kc_3265 ?_
      refine am_steps ck_X9_remembers 2 (pc' := 68) (lv' := [(0, .ref 3261), (1, .int z1)]) (st' := [.ref 3261, .int (am_i 15456), .ref 3265]) rfl ?_
      refine ms_geti (ci := 7) (k := 4) (am_fd ck_X9_remembers (pc := 68) rfl) tw_879 kc_3261 rfl ?_
      refine am_steps ck_X9_remembers 4 (pc' := 75) (lv' := [(0, .ref 3261), (1, .int z1)]) (st' := [.ref 3261, .int (((am_i 15456) * (m 3261 4)) + z1), .ref 3265]) rfl ?_
      refine ms_getr (ci := 7) (k := 0) (v := 3262) (am_fd ck_X9_remembers (pc := 75) rfl) tw_875 kc_3261 rfl (ly_3261_0 hL) kc_3262 ?_
      refine am_steps ck_X9_remembers 1 (pc' := 79) (lv' := [(0, .ref 3261), (1, .int z1)]) (st' := [.int z1, .ref 3262, .int (((am_i 15456) * (m 3261 4)) + z1), .ref 3265]) rfl ?_
      obtain ⟨hb3, hm⟩ := am_gE hm
      refine ms_iald (n := 15517) (am_fd ck_X9_remembers (pc := 79) rfl) kc_3262 hb3 ?_
      obtain ⟨hb4, hm⟩ := am_gE hm
      refine ms_iast (n := 154560) (am_fd ck_X9_remembers (pc := 80) rfl) kc_3265 hb4 (fun m5 em5 => ?_)
      replace hm := am_letE em5 hm
      refine am_steps ck_X9_remembers 2 (pc' := 53) (lv' := [(1, .int (z1 + am_i 1)), (0, .ref 3261)]) (st' := []) rfl ?_
      refine am_subp [1, 0] rfl ?_
      exact ih _ _ hm K
set_option maxRecDepth 100000 in
set_option maxHeartbeats 4000000 in
theorem x_X9_remembers_13 {G : am_G} {r : am_rr} {res : am_m} {k : am_m → Option (am_m)} (hL : am_Lay r) : ∀ (n : Nat) (z1 : Int32) (m : am_m), m_X9_remembers_13 k n z1 m = some res → (∀ (m1 : am_m), k m1 = some res → am_W G mt_X9_remembers 1 none (am_hh res r) 41 [(0, .ref 3261)] [] (am_hh m1 r)) → am_W G mt_X9_remembers 1 none (am_hh res r) 13 [(0, .ref 3261), (1, .int z1)] [] (am_hh m r) := by
  intro n
  induction n with
  | zero => intro z1 m hm K; cases hm
  | succ n ih =>
    intro z1 m hm K
    unfold m_X9_remembers_13 at hm
    refine am_steps ck_X9_remembers 1 (pc' := 14) (lv' := [(0, .ref 3261), (1, .int z1)]) (st' := [.int z1]) rfl ?_
    refine am_ldc (am_fd ck_X9_remembers (pc := 14) rfl) tw_874 ?_
    refine am_icmp (tgt := 41) (am_fd ck_X9_remembers (pc := 16) rfl) rfl (fun hc8 => ?_) (fun hc8 => ?_)
    · replace hm := am_it hm hc8
      refine am_subp [0] rfl ?_
      exact K _ hm
    · replace hm := am_if hm hc8
      refine am_steps ck_X9_remembers 1 (pc' := 20) (lv' := [(0, .ref 3261), (1, .int z1)]) (st' := [.ref 3261]) rfl ?_
      refine ms_getr (ci := 7) (k := 3) (v := 3265) (am_fd ck_X9_remembers (pc := 20) rfl) tw_878 kc_3261 rfl (ly_3261_3 hL) kc_3265 ?_
      refine am_steps ck_X9_remembers 4 (pc' := 29) (lv' := [(0, .ref 3261), (1, .int z1)]) (st' := [.ref 3261, .int (z1 - (am_i 15456)), .ref 3265]) rfl ?_
      refine ms_getr (ci := 7) (k := 3) (v := 3265) (am_fd ck_X9_remembers (pc := 29) rfl) tw_878 kc_3261 rfl (ly_3261_3 hL) kc_3265 ?_
      refine am_steps ck_X9_remembers 1 (pc' := 33) (lv' := [(0, .ref 3261), (1, .int z1)]) (st' := [.int z1, .ref 3265, .int (z1 - (am_i 15456)), .ref 3265]) rfl ?_
      obtain ⟨hb9, hm⟩ := am_gE hm
      refine ms_iald (n := 154560) (am_fd ck_X9_remembers (pc := 33) rfl) kc_3265 hb9 ?_
      obtain ⟨hb10, hm⟩ := am_gE hm
      refine ms_iast (n := 154560) (am_fd ck_X9_remembers (pc := 34) rfl) kc_3265 hb10 (fun m11 em11 => ?_)
      replace hm := am_letE em11 hm
      refine am_steps ck_X9_remembers 2 (pc' := 13) (lv' := [(1, .int (z1 + am_i 1)), (0, .ref 3261)]) (st' := []) rfl ?_
      refine am_subp [1, 0] rfl ?_
      exact ih _ _ hm K
set_option maxRecDepth 100000 in
set_option maxHeartbeats 4000000 in
theorem x_X9_remembers {G : am_G} {m : am_m} {r : am_rr} {res : am_m} (hL : am_Lay r) (hm : m_X9_remembers m  = some res) : am_Met G mt_X9_remembers 1 [.ref 3261] (am_hh m r) none (am_hh res r) := by
  refine am_of (by decide) (Nat.le_of_ble_eq_true rfl) ?_
  unfold m_X9_remembers at hm
  show am_W G mt_X9_remembers 1 _ _ 0 [(0, .ref 3261)] [] (am_hh m r)
  refine am_steps ck_X9_remembers 1 (pc' := 1) (lv' := [(0, .ref 3261)]) (st' := [.ref 3261]) rfl ?_
  refine ms_geti (ci := 7) (k := 4) (am_fd ck_X9_remembers (pc := 1) rfl) tw_879 kc_3261 rfl ?_
  refine am_steps ck_X9_remembers 1 (pc' := 6) (lv' := [(0, .ref 3261)]) (st' := [.int (am_i 10), .int (m 3261 4)]) rfl ?_
  refine am_icmp (tgt := 51) (am_fd ck_X9_remembers (pc := 6) rfl) rfl (fun hc1 => ?_) (fun hc1 => ?_)
  · replace hm := am_it hm hc1
    refine am_steps ck_X9_remembers 2 (pc' := 53) (lv' := [(1, .int (am_i 0)), (0, .ref 3261)]) (st' := []) rfl ?_
    refine am_subp [1, 0] rfl ?_
    refine x_X9_remembers_53 hL am_F _ _ hm (fun m6 hm => ?_)
    refine am_steps ck_X9_remembers 2 (pc' := 89) (lv' := [(0, .ref 3261)]) (st' := [.ref 3261, .ref 3261]) rfl ?_
    refine ms_geti (ci := 7) (k := 4) (am_fd ck_X9_remembers (pc := 89) rfl) tw_879 kc_3261 rfl ?_
    refine am_steps ck_X9_remembers 2 (pc' := 94) (lv' := [(0, .ref 3261)]) (st' := [.int ((m6 3261 4) + (am_i 1)), .ref 3261]) rfl ?_
    refine ms_puti (ci := 7) (k := 4) (am_fd ck_X9_remembers (pc := 94) rfl) tw_879 kc_3261 rfl rfl (fun m7 em7 => ?_)
    replace hm := am_letE em7 hm
    cases hm
    exact am_end (am_fd ck_X9_remembers (pc := 97) rfl) am_rV rfl rfl
  · replace hm := am_if hm hc1
    refine am_steps ck_X9_remembers 2 (pc' := 13) (lv' := [(1, .int (am_i 15456)), (0, .ref 3261)]) (st' := []) rfl ?_
    refine am_subp [1, 0] rfl ?_
    refine x_X9_remembers_13 hL am_F _ _ hm (fun m12 hm => ?_)
    refine am_steps ck_X9_remembers 2 (pc' := 43) (lv' := [(0, .ref 3261)]) (st' := [.ref 3261, .ref 3261]) rfl ?_
    refine ms_geti (ci := 7) (k := 4) (am_fd ck_X9_remembers (pc := 43) rfl) tw_879 kc_3261 rfl ?_
    refine am_steps ck_X9_remembers 2 (pc' := 48) (lv' := [(0, .ref 3261)]) (st' := [.int ((m12 3261 4) - (am_i 1)), .ref 3261]) rfl ?_
    refine ms_puti (ci := 7) (k := 4) (am_fd ck_X9_remembers (pc := 48) rfl) tw_879 kc_3261 rfl rfl (fun m13 em13 => ?_)
    replace hm := am_letE em13 hm
    refine am_steps ck_X9_remembers 2 (pc' := 53) (lv' := [(1, .int (am_i 0)), (0, .ref 3261)]) (st' := []) rfl ?_
    refine am_subp [1, 0] rfl ?_
    refine x_X9_remembers_53 hL am_F _ _ hm (fun m14 hm => ?_)
    refine am_steps ck_X9_remembers 2 (pc' := 89) (lv' := [(0, .ref 3261)]) (st' := [.ref 3261, .ref 3261]) rfl ?_
    refine ms_geti (ci := 7) (k := 4) (am_fd ck_X9_remembers (pc := 89) rfl) tw_879 kc_3261 rfl ?_
    refine am_steps ck_X9_remembers 2 (pc' := 94) (lv' := [(0, .ref 3261)]) (st' := [.int ((m14 3261 4) + (am_i 1)), .ref 3261]) rfl ?_
    refine ms_puti (ci := 7) (k := 4) (am_fd ck_X9_remembers (pc := 94) rfl) tw_879 kc_3261 rfl rfl (fun m15 em15 => ?_)
    replace hm := am_letE em15 hm
    cases hm
    exact am_end (am_fd ck_X9_remembers (pc := 97) rfl) am_rV rfl rfl
set_option maxRecDepth 100000 in
set_option maxHeartbeats 4000000 in
theorem x_X9_undo_21 {G : am_G} {r : am_rr} {res : Int32 × am_m} {k : am_m → Option (Int32 × am_m)} (hL : am_Lay r) : ∀ (n : Nat) (z1 : Int32) (m : am_m), m_X9_undo_21 k n z1 m = some res → (∀ (m1 : am_m), k m1 = some res → am_W G mt_X9_undo 2 (some (.int res.1)) (am_hh res.2 r) 55 [(0, .ref 3261)] [] (am_hh m1 r)) → am_W G mt_X9_undo 2 (some (.int res.1)) (am_hh res.2 r) 21 [(0, .ref 3261), (1, .int z1)] [] (am_hh m r) := by
  intro n
  induction n with
  | zero => intro z1 m hm K; cases hm
  | succ n ih =>
    intro z1 m hm K
    unfold m_X9_undo_21 at hm
    refine am_steps ck_X9_undo 2 (pc' := 25) (lv' := [(0, .ref 3261), (1, .int z1)]) (st' := [.int (am_i 15456), .int z1]) rfl ?_
    refine am_icmp (tgt := 55) (am_fd ck_X9_undo (pc := 25) rfl) rfl (fun hc3 => ?_) (fun hc3 => ?_)
    · replace hm := am_it hm hc3
      refine am_subp [0] rfl ?_
      exact K _ hm
    · replace hm := am_if hm hc3
      refine am_steps ck_X9_undo 1 (pc' := 29) (lv' := [(0, .ref 3261), (1, .int z1)]) (st' := [.ref 3261]) rfl ?_
      refine ms_getr (ci := 7) (k := 0) (v := 3262) (am_fd ck_X9_undo (pc := 29) rfl) tw_875 kc_3261 rfl (ly_3261_0 hL) kc_3262 ?_
      refine am_steps ck_X9_undo 2 (pc' := 34) (lv' := [(0, .ref 3261), (1, .int z1)]) (st' := [.ref 3261, .int z1, .ref 3262]) rfl ?_
      refine ms_getr (ci := 7) (k := 3) (v := 3265) (am_fd ck_X9_undo (pc := 34) rfl) tw_878 kc_3261 rfl (ly_3261_3 hL) kc_3265 ?_
      refine am_steps ck_X9_undo 2 (pc' := 41) (lv' := [(0, .ref 3261), (1, .int z1)]) (st' := [.ref 3261, .int (am_i 15456), .ref 3265, .int z1, .ref 3262]) rfl ?_
      refine ms_geti (ci := 7) (k := 4) (am_fd ck_X9_undo (pc := 41) rfl) tw_879 kc_3261 rfl ?_
      refine am_steps ck_X9_undo 3 (pc' := 47) (lv' := [(0, .ref 3261), (1, .int z1)]) (st' := [.int (((am_i 15456) * (m 3261 4)) + z1), .ref 3265, .int z1, .ref 3262]) rfl ?_
      obtain ⟨hb4, hm⟩ := am_gE hm
      refine ms_iald (n := 154560) (am_fd ck_X9_undo (pc := 47) rfl) kc_3265 hb4 ?_
      obtain ⟨hb5, hm⟩ := am_gE hm
      refine ms_iast (n := 15517) (am_fd ck_X9_undo (pc := 48) rfl) kc_3262 hb5 (fun m6 em6 => ?_)
      replace hm := am_letE em6 hm
      refine am_steps ck_X9_undo 2 (pc' := 21) (lv' := [(1, .int (z1 + am_i 1)), (0, .ref 3261)]) (st' := []) rfl ?_
      refine am_subp [1, 0] rfl ?_
      exact ih _ _ hm K
set_option maxRecDepth 100000 in
set_option maxHeartbeats 4000000 in
theorem x_X9_undo {G : am_G} {m : am_m} {r : am_rr} {res : Int32 × am_m} (hL : am_Lay r) (hm : m_X9_undo m  = some res) : am_Met G mt_X9_undo 2 [.ref 3261] (am_hh m r) (some (.int res.1)) (am_hh res.2 r) := by
  refine am_of (by decide) (Nat.le_of_ble_eq_true rfl) ?_
  unfold m_X9_undo at hm
  show am_W G mt_X9_undo 2 _ _ 0 [(0, .ref 3261)] [] (am_hh m r)
  refine am_steps ck_X9_undo 1 (pc' := 1) (lv' := [(0, .ref 3261)]) (st' := [.ref 3261]) rfl ?_
  refine ms_geti (ci := 7) (k := 4) (am_fd ck_X9_undo (pc := 1) rfl) tw_879 kc_3261 rfl ?_
  refine am_ifc (tgt := 9) (am_fd ck_X9_undo (pc := 4) rfl) rfl (fun hc1 => ?_) (fun hc1 => ?_)
  · replace hm := am_it hm hc1
    refine am_steps ck_X9_undo 2 (pc' := 11) (lv' := [(0, .ref 3261)]) (st' := [.ref 3261, .ref 3261]) rfl ?_
    refine ms_geti (ci := 7) (k := 4) (am_fd ck_X9_undo (pc := 11) rfl) tw_879 kc_3261 rfl ?_
    refine am_steps ck_X9_undo 2 (pc' := 16) (lv' := [(0, .ref 3261)]) (st' := [.int ((m 3261 4) - (am_i 1)), .ref 3261]) rfl ?_
    refine ms_puti (ci := 7) (k := 4) (am_fd ck_X9_undo (pc := 16) rfl) tw_879 kc_3261 rfl rfl (fun m2 em2 => ?_)
    replace hm := am_letE em2 hm
    refine am_steps ck_X9_undo 2 (pc' := 21) (lv' := [(1, .int (am_i 0)), (0, .ref 3261)]) (st' := []) rfl ?_
    refine am_subp [1, 0] rfl ?_
    refine x_X9_undo_21 hL am_F _ _ hm (fun m7 hm => ?_)
    refine am_steps ck_X9_undo 3 (pc' := 59) (lv' := [(0, .ref 3261)]) (st' := [.int (am_i 1), .int (am_i 9), .ref 3261]) rfl ?_
    obtain ⟨q8, hq8, hm⟩ := am_bE hm
    refine ms_callVv (M2 := mt_X9_counts) (d2 := 1) (ci := 7) [.int (am_i 9), .int (am_i 1)] (am_fd ck_X9_undo (pc := 59) rfl) ok_X9_counts tw_941 tw_943 ts_27 (by decide) kc_3261 (Nat.le_of_ble_eq_true rfl) (Nat.le_of_ble_eq_true rfl) (x_X9_counts hL hq8) ?_
    refine am_steps ck_X9_undo 1 (pc' := 63) (lv' := [(0, .ref 3261)]) (st' := [.ref 3261]) rfl ?_
    refine ms_geti (ci := 7) (k := 4) (am_fd ck_X9_undo (pc := 63) rfl) tw_879 kc_3261 rfl ?_
    cases hm
    exact am_end (am_fd ck_X9_undo (pc := 66) rfl) am_rI rfl rfl
  · replace hm := am_if hm hc1
    refine am_steps ck_X9_undo 1 (pc' := 8) (lv' := [(0, .ref 3261)]) (st' := [.int (am_i (-1))]) rfl ?_
    cases hm
    exact am_end (am_fd ck_X9_undo (pc := 8) rfl) am_rI rfl rfl
set_option maxRecDepth 100000 in
set_option maxHeartbeats 4000000 in
theorem x_X9_add {G : am_G} {m : am_m} {r : am_rr} {x1 : Int32} {x2 : Int32} {x3 : Int32} {res : Int32 × am_m} (hL : am_Lay r) (hm : m_X9_add m x1 x2 x3 = some res) : am_Met G mt_X9_add 3 [.ref 3261, .int x1, .int x2, .int x3] (am_hh m r) (some (.int res.1)) (am_hh res.2 r) := by
  refine am_of (by decide) (Nat.le_of_ble_eq_true rfl) ?_
  unfold m_X9_add at hm
  show am_W G mt_X9_add 3 _ _ 0 [(0, .ref 3261), (1, .int x1), (2, .int x2), (3, .int x3)] [] (am_hh m r)
  refine am_steps ck_X9_add 2 (pc' := 2) (lv' := [(0, .ref 3261), (1, .int x1), (2, .int x2), (3, .int x3)]) (st' := [.int x1, .ref 3261]) rfl ?_
  obtain ⟨q1, hq1, hm⟩ := am_bE hm
  refine ms_callV (M2 := mt_X9_isUnit) (d2 := 2) (ci := 7) [.int x1] (am_fd ck_X9_add (pc := 2) rfl) ok_X9_isUnit tw_949 tw_951 ts_28 (by decide) kc_3261 (Nat.le_of_ble_eq_true rfl) (Nat.le_of_ble_eq_true rfl) (x_X9_isUnit hL hq1) ?_
  refine am_ifc (tgt := 32) (am_fd ck_X9_add (pc := 5) rfl) rfl (fun hc2 => ?_) (fun hc2 => ?_)
  · replace hm := am_it hm hc2
    refine am_steps ck_X9_add 1 (pc' := 33) (lv' := [(0, .ref 3261), (1, .int x1), (2, .int x2), (3, .int x3)]) (st' := [.int (am_i (-1))]) rfl ?_
    cases hm
    exact am_end (am_fd ck_X9_add (pc := 33) rfl) am_rI rfl rfl
  · replace hm := am_if hm hc2
    refine am_steps ck_X9_add 1 (pc' := 9) (lv' := [(0, .ref 3261), (1, .int x1), (2, .int x2), (3, .int x3)]) (st' := [.int x2]) rfl ?_
    obtain ⟨q3, hq3, hm⟩ := am_bE hm
    refine ms_callS (M2 := mt_X9_isCategory) (d2 := 2) [.int x2] (am_fd ck_X9_add (pc := 9) rfl) ok_X9_isCategory tw_956 tw_957 (Nat.le_of_ble_eq_true rfl) (Nat.le_of_ble_eq_true rfl) (x_X9_isCategory hL hq3) ?_
    refine am_ifc (tgt := 32) (am_fd ck_X9_add (pc := 12) rfl) rfl (fun hc4 => ?_) (fun hc4 => ?_)
    · replace hm := am_it hm hc4
      refine am_steps ck_X9_add 1 (pc' := 33) (lv' := [(0, .ref 3261), (1, .int x1), (2, .int x2), (3, .int x3)]) (st' := [.int (am_i (-1))]) rfl ?_
      cases hm
      exact am_end (am_fd ck_X9_add (pc := 33) rfl) am_rI rfl rfl
    · replace hm := am_if hm hc4
      refine am_steps ck_X9_add 1 (pc' := 16) (lv' := [(0, .ref 3261), (1, .int x1), (2, .int x2), (3, .int x3)]) (st' := [.int x3]) rfl ?_
      refine am_ifc (tgt := 32) (am_fd ck_X9_add (pc := 16) rfl) rfl (fun hc5 => ?_) (fun hc5 => ?_)
      · replace hm := am_it hm hc5
        refine am_steps ck_X9_add 1 (pc' := 33) (lv' := [(0, .ref 3261), (1, .int x1), (2, .int x2), (3, .int x3)]) (st' := [.int (am_i (-1))]) rfl ?_
        cases hm
        exact am_end (am_fd ck_X9_add (pc := 33) rfl) am_rI rfl rfl
      · replace hm := am_if hm hc5
        refine am_steps ck_X9_add 3 (pc' := 26) (lv' := [(0, .ref 3261), (1, .int x1), (2, .int x2), (3, .int x3)]) (st' := [.int (am_i 9999), .int (am_i (-9999)), .int x3]) rfl ?_
        obtain ⟨q6, hq6, hm⟩ := am_bE hm
        refine ms_callS (M2 := mt_X9_isIn) (d2 := 1) [.int x3, .int (am_i (-9999)), .int (am_i 9999)] (am_fd ck_X9_add (pc := 26) rfl) ok_X9_isIn tw_953 tw_954 (Nat.le_of_ble_eq_true rfl) (Nat.le_of_ble_eq_true rfl) (x_X9_isIn hL hq6) ?_
        refine am_ifc (tgt := 34) (am_fd ck_X9_add (pc := 29) rfl) rfl (fun hc7 => ?_) (fun hc7 => ?_)
        · replace hm := am_it hm hc7
          refine am_steps ck_X9_add 1 (pc' := 35) (lv' := [(0, .ref 3261), (1, .int x1), (2, .int x2), (3, .int x3)]) (st' := [.int x1]) rfl ?_
          obtain ⟨q8, hq8, hm⟩ := am_bE hm
          refine ms_callS (M2 := mt_X9_ownAt) (d2 := 1) [.int x1] (am_fd ck_X9_add (pc := 35) rfl) ok_X9_ownAt tw_959 tw_960 (Nat.le_of_ble_eq_true rfl) (Nat.le_of_ble_eq_true rfl) (x_X9_ownAt hL hq8) ?_
          refine am_steps ck_X9_add 4 (pc' := 43) (lv' := [(4, .int (q8 + x2)), (0, .ref 3261), (1, .int x1), (2, .int x2), (3, .int x3)]) (st' := [.ref 3261]) rfl ?_
          refine ms_getr (ci := 7) (k := 0) (v := 3262) (am_fd ck_X9_add (pc := 43) rfl) tw_875 kc_3261 rfl (ly_3261_0 hL) kc_3262 ?_
          refine am_steps ck_X9_add 1 (pc' := 48) (lv' := [(4, .int (q8 + x2)), (0, .ref 3261), (1, .int x1), (2, .int x2), (3, .int x3)]) (st' := [.int (q8 + x2), .ref 3262]) rfl ?_
          obtain ⟨hb9, hm⟩ := am_gE hm
          refine ms_iald (n := 15517) (am_fd ck_X9_add (pc := 48) rfl) kc_3262 hb9 ?_
          refine am_steps ck_X9_add 4 (pc' := 55) (lv' := [(4, .int (q8 + x2)), (0, .ref 3261), (1, .int x1), (2, .int x2), (3, .int x3)]) (st' := [.int (am_i 9999), .int (am_i 0), .int ((m 3262 (am_ix (q8 + x2))) + x3)]) rfl ?_
          obtain ⟨q10, hq10, hm⟩ := am_bE hm
          refine ms_callS (M2 := mt_X9_isIn) (d2 := 1) [.int ((m 3262 (am_ix (q8 + x2))) + x3), .int (am_i 0), .int (am_i 9999)] (am_fd ck_X9_add (pc := 55) rfl) ok_X9_isIn tw_953 tw_954 (Nat.le_of_ble_eq_true rfl) (Nat.le_of_ble_eq_true rfl) (x_X9_isIn hL hq10) ?_
          refine am_ifc (tgt := 63) (am_fd ck_X9_add (pc := 58) rfl) rfl (fun hc11 => ?_) (fun hc11 => ?_)
          · replace hm := am_it hm hc11
            refine am_steps ck_X9_add 1 (pc' := 64) (lv' := [(4, .int (q8 + x2)), (0, .ref 3261), (1, .int x1), (2, .int x2), (3, .int x3)]) (st' := [.ref 3261]) rfl ?_
            obtain ⟨q12, hq12, hm⟩ := am_bE hm
            refine ms_callVv (M2 := mt_X9_remembers) (d2 := 1) (ci := 7) [] (am_fd ck_X9_add (pc := 64) rfl) ok_X9_remembers tw_962 tw_964 ts_29 (by decide) kc_3261 (Nat.le_of_ble_eq_true rfl) (Nat.le_of_ble_eq_true rfl) (x_X9_remembers hL hq12) ?_
            refine am_steps ck_X9_add 1 (pc' := 68) (lv' := [(4, .int (q8 + x2)), (0, .ref 3261), (1, .int x1), (2, .int x2), (3, .int x3)]) (st' := [.ref 3261]) rfl ?_
            refine ms_getr (ci := 7) (k := 0) (v := 3262) (am_fd ck_X9_add (pc := 68) rfl) tw_875 kc_3261 rfl (ly_3261_0 hL) kc_3262 ?_
            refine am_steps ck_X9_add 2 (pc' := 74) (lv' := [(4, .int (q8 + x2)), (0, .ref 3261), (1, .int x1), (2, .int x2), (3, .int x3)]) (st' := [.int (q8 + x2), .ref 3262, .int (q8 + x2), .ref 3262]) rfl ?_
            obtain ⟨hb13, hm⟩ := am_gE hm
            refine ms_iald (n := 15517) (am_fd ck_X9_add (pc := 74) rfl) kc_3262 hb13 ?_
            refine am_steps ck_X9_add 2 (pc' := 77) (lv' := [(4, .int (q8 + x2)), (0, .ref 3261), (1, .int x1), (2, .int x2), (3, .int x3)]) (st' := [.int ((q12 3262 (am_ix (q8 + x2))) + x3), .int (q8 + x2), .ref 3262]) rfl ?_
            obtain ⟨hb14, hm⟩ := am_gE hm
            refine ms_iast (n := 15517) (am_fd ck_X9_add (pc := 77) rfl) kc_3262 hb14 (fun m15 em15 => ?_)
            replace hm := am_letE em15 hm
            refine am_steps ck_X9_add 2 (pc' := 80) (lv' := [(4, .int (q8 + x2)), (0, .ref 3261), (1, .int x1), (2, .int x2), (3, .int x3)]) (st' := [.int x1, .ref 3261]) rfl ?_
            obtain ⟨q16, hq16, hm⟩ := am_bE hm
            refine ms_callVv (M2 := mt_X9_isStaleFrom) (d2 := 1) (ci := 7) [.int x1] (am_fd ck_X9_add (pc := 80) rfl) ok_X9_isStaleFrom tw_966 tw_968 ts_30 (by decide) kc_3261 (Nat.le_of_ble_eq_true rfl) (Nat.le_of_ble_eq_true rfl) (x_X9_isStaleFrom hL hq16) ?_
            refine am_steps ck_X9_add 1 (pc' := 84) (lv' := [(4, .int (q8 + x2)), (0, .ref 3261), (1, .int x1), (2, .int x2), (3, .int x3)]) (st' := [.ref 3261]) rfl ?_
            refine ms_getr (ci := 7) (k := 0) (v := 3262) (am_fd ck_X9_add (pc := 84) rfl) tw_875 kc_3261 rfl (ly_3261_0 hL) kc_3262 ?_
            refine am_steps ck_X9_add 1 (pc' := 89) (lv' := [(4, .int (q8 + x2)), (0, .ref 3261), (1, .int x1), (2, .int x2), (3, .int x3)]) (st' := [.int (q8 + x2), .ref 3262]) rfl ?_
            obtain ⟨hb17, hm⟩ := am_gE hm
            refine ms_iald (n := 15517) (am_fd ck_X9_add (pc := 89) rfl) kc_3262 hb17 ?_
            cases hm
            exact am_end (am_fd ck_X9_add (pc := 90) rfl) am_rI rfl rfl
          · replace hm := am_if hm hc11
            refine am_steps ck_X9_add 1 (pc' := 62) (lv' := [(4, .int (q8 + x2)), (0, .ref 3261), (1, .int x1), (2, .int x2), (3, .int x3)]) (st' := [.int (am_i (-1))]) rfl ?_
            cases hm
            exact am_end (am_fd ck_X9_add (pc := 62) rfl) am_rI rfl rfl
        · replace hm := am_if hm hc7
          refine am_steps ck_X9_add 1 (pc' := 33) (lv' := [(0, .ref 3261), (1, .int x1), (2, .int x2), (3, .int x3)]) (st' := [.int (am_i (-1))]) rfl ?_
          cases hm
          exact am_end (am_fd ck_X9_add (pc := 33) rfl) am_rI rfl rfl
set_option maxRecDepth 100000 in
set_option maxHeartbeats 4000000 in
theorem x_X9_clears_23 {G : am_G} {x1 : Int32} {r : am_rr} {y1 : Int32} {res : am_m} {k : am_m → Option (am_m)} (hL : am_Lay r) : ∀ (n : Nat) (z2 : Int32) (m : am_m), m_X9_clears_23 x1 y1 k n z2 m = some res → (∀ (m1 : am_m), k m1 = some res → am_W G mt_X9_clears 2 none (am_hh res r) 59 [] [] (am_hh m1 r)) → am_W G mt_X9_clears 2 none (am_hh res r) 23 [(0, .ref 3261), (1, .int y1), (2, .int z2)] [] (am_hh m r) := by
  intro n
  induction n with
  | zero => intro z2 m hm K; cases hm
  | succ n ih =>
    intro z2 m hm K
    unfold m_X9_clears_23 at hm
    refine am_steps ck_X9_clears 2 (pc' := 26) (lv' := [(0, .ref 3261), (1, .int y1), (2, .int z2)]) (st' := [.int (am_i 64), .int z2]) rfl ?_
    refine am_icmp (tgt := 59) (am_fd ck_X9_clears (pc := 26) rfl) rfl (fun hc5 => ?_) (fun hc5 => ?_)
    · replace hm := am_it hm hc5
      refine am_subp [] rfl ?_
      exact K _ hm
    · replace hm := am_if hm hc5
      refine am_steps ck_X9_clears 1 (pc' := 30) (lv' := [(0, .ref 3261), (1, .int y1), (2, .int z2)]) (st' := [.ref 3261]) rfl ?_
      refine ms_getr (ci := 7) (k := 0) (v := 3262) (am_fd ck_X9_clears (pc := 30) rfl) tw_875 kc_3261 rfl (ly_3261_0 hL) kc_3262 ?_
      refine am_steps ck_X9_clears 1 (pc' := 34) (lv' := [(0, .ref 3261), (1, .int y1), (2, .int z2)]) (st' := [.int y1, .ref 3262]) rfl ?_
      obtain ⟨q6, hq6, hm⟩ := am_bE hm
      refine ms_callS (M2 := mt_X9_ownAt) (d2 := 1) [.int y1] (am_fd ck_X9_clears (pc := 34) rfl) ok_X9_ownAt tw_959 tw_960 (Nat.le_of_ble_eq_true rfl) (Nat.le_of_ble_eq_true rfl) (x_X9_ownAt hL hq6) ?_
      refine am_steps ck_X9_clears 3 (pc' := 40) (lv' := [(0, .ref 3261), (1, .int y1), (2, .int z2)]) (st' := [.int (am_i 0), .int (q6 + z2), .ref 3262]) rfl ?_
      obtain ⟨hb7, hm⟩ := am_gE hm
      refine ms_iast (n := 15517) (am_fd ck_X9_clears (pc := 40) rfl) kc_3262 hb7 (fun m8 em8 => ?_)
      replace hm := am_letE em8 hm
      refine am_steps ck_X9_clears 1 (pc' := 42) (lv' := [(0, .ref 3261), (1, .int y1), (2, .int z2)]) (st' := [.ref 3261]) rfl ?_
      refine ms_getr (ci := 7) (k := 0) (v := 3262) (am_fd ck_X9_clears (pc := 42) rfl) tw_875 kc_3261 rfl (ly_3261_0 hL) kc_3262 ?_
      refine am_steps ck_X9_clears 1 (pc' := 46) (lv' := [(0, .ref 3261), (1, .int y1), (2, .int z2)]) (st' := [.int y1, .ref 3262]) rfl ?_
      obtain ⟨q9, hq9, hm⟩ := am_bE hm
      refine ms_callS (M2 := mt_X9_sumAt) (d2 := 1) [.int y1] (am_fd ck_X9_clears (pc := 46) rfl) ok_X9_sumAt tw_982 tw_983 (Nat.le_of_ble_eq_true rfl) (Nat.le_of_ble_eq_true rfl) (x_X9_sumAt hL hq9) ?_
      refine am_steps ck_X9_clears 3 (pc' := 52) (lv' := [(0, .ref 3261), (1, .int y1), (2, .int z2)]) (st' := [.int (am_i 0), .int (q9 + z2), .ref 3262]) rfl ?_
      obtain ⟨hb10, hm⟩ := am_gE hm
      refine ms_iast (n := 15517) (am_fd ck_X9_clears (pc := 52) rfl) kc_3262 hb10 (fun m11 em11 => ?_)
      replace hm := am_letE em11 hm
      refine am_steps ck_X9_clears 2 (pc' := 23) (lv' := [(2, .int (z2 + am_i 1)), (0, .ref 3261), (1, .int y1)]) (st' := []) rfl ?_
      refine am_subp [1, 2, 0] rfl ?_
      exact ih _ _ hm K
set_option maxRecDepth 100000 in
set_option maxHeartbeats 4000000 in
theorem x_X9_clears {G : am_G} {m : am_m} {r : am_rr} {x1 : Int32} {res : am_m} (hL : am_Lay r) (hm : m_X9_clears m x1 = some res) : am_Met G mt_X9_clears 2 [.ref 3261, .int x1] (am_hh m r) none (am_hh res r) := by
  refine am_of (by decide) (Nat.le_of_ble_eq_true rfl) ?_
  unfold m_X9_clears at hm
  show am_W G mt_X9_clears 2 _ _ 0 [(0, .ref 3261), (1, .int x1)] [] (am_hh m r)
  refine am_steps ck_X9_clears 1 (pc' := 1) (lv' := [(0, .ref 3261), (1, .int x1)]) (st' := [.ref 3261]) rfl ?_
  refine ms_getr (ci := 7) (k := 0) (v := 3262) (am_fd ck_X9_clears (pc := 1) rfl) tw_875 kc_3261 rfl (ly_3261_0 hL) kc_3262 ?_
  refine am_steps ck_X9_clears 4 (pc' := 9) (lv' := [(0, .ref 3261), (1, .int x1)]) (st' := [.int (am_i 0), .int ((am_i 48) + x1), .ref 3262]) rfl ?_
  obtain ⟨hb1, hm⟩ := am_gE hm
  refine ms_iast (n := 15517) (am_fd ck_X9_clears (pc := 9) rfl) kc_3262 hb1 (fun m2 em2 => ?_)
  replace hm := am_letE em2 hm
  refine am_steps ck_X9_clears 1 (pc' := 11) (lv' := [(0, .ref 3261), (1, .int x1)]) (st' := [.ref 3261]) rfl ?_
  refine ms_getr (ci := 7) (k := 0) (v := 3262) (am_fd ck_X9_clears (pc := 11) rfl) tw_875 kc_3261 rfl (ly_3261_0 hL) kc_3262 ?_
  refine am_steps ck_X9_clears 4 (pc' := 20) (lv' := [(0, .ref 3261), (1, .int x1)]) (st' := [.int (am_i 0), .int ((am_i 3144) + x1), .ref 3262]) rfl ?_
  obtain ⟨hb3, hm⟩ := am_gE hm
  refine ms_iast (n := 15517) (am_fd ck_X9_clears (pc := 20) rfl) kc_3262 hb3 (fun m4 em4 => ?_)
  replace hm := am_letE em4 hm
  refine am_steps ck_X9_clears 2 (pc' := 23) (lv' := [(2, .int (am_i 0)), (0, .ref 3261), (1, .int x1)]) (st' := []) rfl ?_
  refine am_subp [1, 2, 0] rfl ?_
  refine x_X9_clears_23 hL am_F _ _ hm (fun m12 hm => ?_)
  cases hm
  exact am_end (am_fd ck_X9_clears (pc := 59) rfl) am_rV rfl rfl
set_option maxRecDepth 100000 in
set_option maxHeartbeats 4000000 in
theorem x_X9_comes {G : am_G} {m : am_m} {r : am_rr} {x1 : Int32} {x2 : Int32} {res : Int32 × am_m} (hL : am_Lay r) (hm : m_X9_comes m x1 x2 = some res) : am_Met G mt_X9_comes 3 [.ref 3261, .int x1, .int x2] (am_hh m r) (some (.int res.1)) (am_hh res.2 r) := by
  refine am_of (by decide) (Nat.le_of_ble_eq_true rfl) ?_
  unfold m_X9_comes at hm
  show am_W G mt_X9_comes 3 _ _ 0 [(0, .ref 3261), (1, .int x1), (2, .int x2)] [] (am_hh m r)
  refine am_steps ck_X9_comes 3 (pc' := 4) (lv' := [(0, .ref 3261), (1, .int x1), (2, .int x2)]) (st' := [.int (am_i 23), .int (am_i 0), .int x1]) rfl ?_
  obtain ⟨q1, hq1, hm⟩ := am_bE hm
  refine ms_callS (M2 := mt_X9_isIn) (d2 := 1) [.int x1, .int (am_i 0), .int (am_i 23)] (am_fd ck_X9_comes (pc := 4) rfl) ok_X9_isIn tw_953 tw_954 (Nat.le_of_ble_eq_true rfl) (Nat.le_of_ble_eq_true rfl) (x_X9_isIn hL hq1) ?_
  refine am_ifc (tgt := 36) (am_fd ck_X9_comes (pc := 7) rfl) rfl (fun hc2 => ?_) (fun hc2 => ?_)
  · replace hm := am_it hm hc2
    refine am_steps ck_X9_comes 1 (pc' := 37) (lv' := [(0, .ref 3261), (1, .int x1), (2, .int x2)]) (st' := [.int (am_i 0)]) rfl ?_
    cases hm
    exact am_end (am_fd ck_X9_comes (pc := 37) rfl) am_rZ0 rfl rfl
  · replace hm := am_if hm hc2
    refine am_steps ck_X9_comes 2 (pc' := 12) (lv' := [(0, .ref 3261), (1, .int x1), (2, .int x2)]) (st' := [.int x1, .ref 3261]) rfl ?_
    obtain ⟨q3, hq3, hm⟩ := am_bE hm
    refine ms_callV (M2 := mt_X9_isUnit) (d2 := 2) (ci := 7) [.int x1] (am_fd ck_X9_comes (pc := 12) rfl) ok_X9_isUnit tw_949 tw_951 ts_28 (by decide) kc_3261 (Nat.le_of_ble_eq_true rfl) (Nat.le_of_ble_eq_true rfl) (x_X9_isUnit hL hq3) ?_
    refine am_ifc (tgt := 36) (am_fd ck_X9_comes (pc := 15) rfl) rfl (fun hc4 => ?_) (fun hc4 => ?_)
    · replace hm := am_it hm hc4
      refine am_steps ck_X9_comes 1 (pc' := 37) (lv' := [(0, .ref 3261), (1, .int x1), (2, .int x2)]) (st' := [.int (am_i 0)]) rfl ?_
      cases hm
      exact am_end (am_fd ck_X9_comes (pc := 37) rfl) am_rZ0 rfl rfl
    · replace hm := am_if hm hc4
      refine am_steps ck_X9_comes 2 (pc' := 20) (lv' := [(0, .ref 3261), (1, .int x1), (2, .int x2)]) (st' := [.int x2, .ref 3261]) rfl ?_
      obtain ⟨q5, hq5, hm⟩ := am_bE hm
      refine ms_callV (M2 := mt_X9_isUnit) (d2 := 2) (ci := 7) [.int x2] (am_fd ck_X9_comes (pc := 20) rfl) ok_X9_isUnit tw_949 tw_951 ts_28 (by decide) kc_3261 (Nat.le_of_ble_eq_true rfl) (Nat.le_of_ble_eq_true rfl) (x_X9_isUnit hL hq5) ?_
      refine am_ifc (tgt := 36) (am_fd ck_X9_comes (pc := 23) rfl) rfl (fun hc6 => ?_) (fun hc6 => ?_)
      · replace hm := am_it hm hc6
        refine am_steps ck_X9_comes 1 (pc' := 37) (lv' := [(0, .ref 3261), (1, .int x1), (2, .int x2)]) (st' := [.int (am_i 0)]) rfl ?_
        cases hm
        exact am_end (am_fd ck_X9_comes (pc := 37) rfl) am_rZ0 rfl rfl
      · replace hm := am_if hm hc6
        refine am_steps ck_X9_comes 2 (pc' := 28) (lv' := [(0, .ref 3261), (1, .int x1), (2, .int x2)]) (st' := [.int x2, .ref 3261]) rfl ?_
        obtain ⟨q7, hq7, hm⟩ := am_bE hm
        refine ms_callV (M2 := mt_X9_depth) (d2 := 1) (ci := 7) [.int x2] (am_fd ck_X9_comes (pc := 28) rfl) ok_X9_depth tw_974 tw_976 ts_31 (by decide) kc_3261 (Nat.le_of_ble_eq_true rfl) (Nat.le_of_ble_eq_true rfl) (x_X9_depth hL hq7) ?_
        refine am_steps ck_X9_comes 1 (pc' := 33) (lv' := [(0, .ref 3261), (1, .int x1), (2, .int x2)]) (st' := [.int (am_i 12), .int q7]) rfl ?_
        refine am_icmp (tgt := 38) (am_fd ck_X9_comes (pc := 33) rfl) rfl (fun hc8 => ?_) (fun hc8 => ?_)
        · replace hm := am_it hm hc8
          refine am_steps ck_X9_comes 1 (pc' := 39) (lv' := [(0, .ref 3261), (1, .int x1), (2, .int x2)]) (st' := [.ref 3261]) rfl ?_
          obtain ⟨q9, hq9, hm⟩ := am_bE hm
          refine ms_callVv (M2 := mt_X9_remembers) (d2 := 1) (ci := 7) [] (am_fd ck_X9_comes (pc := 39) rfl) ok_X9_remembers tw_962 tw_964 ts_29 (by decide) kc_3261 (Nat.le_of_ble_eq_true rfl) (Nat.le_of_ble_eq_true rfl) (x_X9_remembers hL hq9) ?_
          refine am_steps ck_X9_comes 1 (pc' := 43) (lv' := [(0, .ref 3261), (1, .int x1), (2, .int x2)]) (st' := [.ref 3261]) rfl ?_
          refine ms_getr (ci := 7) (k := 0) (v := 3262) (am_fd ck_X9_comes (pc := 43) rfl) tw_875 kc_3261 rfl (ly_3261_0 hL) kc_3262 ?_
          refine am_steps ck_X9_comes 4 (pc' := 50) (lv' := [(0, .ref 3261), (1, .int x1), (2, .int x2)]) (st' := [.int (am_i 1), .int ((am_i 0) + x1), .ref 3262]) rfl ?_
          obtain ⟨hb10, hm⟩ := am_gE hm
          refine ms_iast (n := 15517) (am_fd ck_X9_comes (pc := 50) rfl) kc_3262 hb10 (fun m11 em11 => ?_)
          replace hm := am_letE em11 hm
          refine am_steps ck_X9_comes 1 (pc' := 52) (lv' := [(0, .ref 3261), (1, .int x1), (2, .int x2)]) (st' := [.ref 3261]) rfl ?_
          refine ms_getr (ci := 7) (k := 0) (v := 3262) (am_fd ck_X9_comes (pc := 52) rfl) tw_875 kc_3261 rfl (ly_3261_0 hL) kc_3262 ?_
          refine am_steps ck_X9_comes 4 (pc' := 60) (lv' := [(0, .ref 3261), (1, .int x1), (2, .int x2)]) (st' := [.int x2, .int ((am_i 24) + x1), .ref 3262]) rfl ?_
          obtain ⟨hb12, hm⟩ := am_gE hm
          refine ms_iast (n := 15517) (am_fd ck_X9_comes (pc := 60) rfl) kc_3262 hb12 (fun m13 em13 => ?_)
          replace hm := am_letE em13 hm
          refine am_steps ck_X9_comes 2 (pc' := 63) (lv' := [(0, .ref 3261), (1, .int x1), (2, .int x2)]) (st' := [.int x1, .ref 3261]) rfl ?_
          obtain ⟨q14, hq14, hm⟩ := am_bE hm
          refine ms_callVv (M2 := mt_X9_clears) (d2 := 2) (ci := 7) [.int x1] (am_fd ck_X9_comes (pc := 63) rfl) ok_X9_clears tw_978 tw_980 ts_32 (by decide) kc_3261 (Nat.le_of_ble_eq_true rfl) (Nat.le_of_ble_eq_true rfl) (x_X9_clears hL hq14) ?_
          refine am_steps ck_X9_comes 3 (pc' := 70) (lv' := [(0, .ref 3261), (1, .int x1), (2, .int x2)]) (st' := [.int (am_i 1), .int (am_i 6), .ref 3261]) rfl ?_
          obtain ⟨q15, hq15, hm⟩ := am_bE hm
          refine ms_callVv (M2 := mt_X9_counts) (d2 := 1) (ci := 7) [.int (am_i 6), .int (am_i 1)] (am_fd ck_X9_comes (pc := 70) rfl) ok_X9_counts tw_941 tw_943 ts_27 (by decide) kc_3261 (Nat.le_of_ble_eq_true rfl) (Nat.le_of_ble_eq_true rfl) (x_X9_counts hL hq15) ?_
          refine am_steps ck_X9_comes 1 (pc' := 74) (lv' := [(0, .ref 3261), (1, .int x1), (2, .int x2)]) (st' := [.int (am_i 1)]) rfl ?_
          cases hm
          exact am_end (am_fd ck_X9_comes (pc := 74) rfl) am_rZ1 rfl rfl
        · replace hm := am_if hm hc8
          refine am_steps ck_X9_comes 1 (pc' := 37) (lv' := [(0, .ref 3261), (1, .int x1), (2, .int x2)]) (st' := [.int (am_i 0)]) rfl ?_
          cases hm
          exact am_end (am_fd ck_X9_comes (pc := 37) rfl) am_rZ0 rfl rfl
set_option maxRecDepth 100000 in
set_option maxHeartbeats 4000000 in
theorem x_X9_canTake_3 {G : am_G} {x1 : Int32} {x2 : Int32} {x3 : Int32} {x4 : Int32} {m : am_m} {r : am_rr} {y1 : Int32} {y2 : Int32} {y4 : Int32} {res : Int32} {k : Option (Int32)} (hL : am_Lay r) : ∀ (n : Nat) (z5 : Int32), m_X9_canTake_3 x1 x2 x3 x4 m y1 y2 y4 k n z5 = some res → (k = some res → am_W G mt_X9_canTake 2 (some (.int res)) (am_hh m r) 49 [] [] (am_hh m r)) → am_W G mt_X9_canTake 2 (some (.int res)) (am_hh m r) 3 [(0, .ref 3261), (1, .int y1), (2, .int y2), (4, .int y4), (5, .int z5)] [] (am_hh m r) := by
  intro n
  induction n with
  | zero => intro z5 hm K; cases hm
  | succ n ih =>
    intro z5 hm K
    unfold m_X9_canTake_3 at hm
    refine am_steps ck_X9_canTake 2 (pc' := 7) (lv' := [(0, .ref 3261), (1, .int y1), (2, .int y2), (4, .int y4), (5, .int z5)]) (st' := [.int y4, .int z5]) rfl ?_
    refine am_icmp (tgt := 49) (am_fd ck_X9_canTake (pc := 7) rfl) rfl (fun hc1 => ?_) (fun hc1 => ?_)
    · replace hm := am_it hm hc1
      refine am_subp [] rfl ?_
      exact K hm
    · replace hm := am_if hm hc1
      refine am_steps ck_X9_canTake 1 (pc' := 11) (lv' := [(0, .ref 3261), (1, .int y1), (2, .int y2), (4, .int y4), (5, .int z5)]) (st' := [.ref 3261]) rfl ?_
      refine ms_getr (ci := 7) (k := 0) (v := 3262) (am_fd ck_X9_canTake (pc := 11) rfl) tw_875 kc_3261 rfl (ly_3261_0 hL) kc_3262 ?_
      refine am_steps ck_X9_canTake 1 (pc' := 15) (lv' := [(0, .ref 3261), (1, .int y1), (2, .int y2), (4, .int y4), (5, .int z5)]) (st' := [.int y1, .ref 3262]) rfl ?_
      obtain ⟨q2, hq2, hm⟩ := am_bE hm
      refine ms_callS (M2 := mt_X9_ownAt) (d2 := 1) [.int y1] (am_fd ck_X9_canTake (pc := 15) rfl) ok_X9_ownAt tw_959 tw_960 (Nat.le_of_ble_eq_true rfl) (Nat.le_of_ble_eq_true rfl) (x_X9_ownAt hL hq2) ?_
      refine am_steps ck_X9_canTake 2 (pc' := 21) (lv' := [(0, .ref 3261), (1, .int y1), (2, .int y2), (4, .int y4), (5, .int z5)]) (st' := [.int (q2 + z5), .ref 3262]) rfl ?_
      obtain ⟨hb3, hm⟩ := am_gE hm
      refine ms_iald (n := 15517) (am_fd ck_X9_canTake (pc := 21) rfl) kc_3262 hb3 ?_
      refine am_steps ck_X9_canTake 1 (pc' := 23) (lv' := [(0, .ref 3261), (1, .int y1), (2, .int y2), (4, .int y4), (5, .int z5)]) (st' := [.ref 3261, .int (m 3262 (am_ix (q2 + z5)))]) rfl ?_
      refine ms_getr (ci := 7) (k := 0) (v := 3262) (am_fd ck_X9_canTake (pc := 23) rfl) tw_875 kc_3261 rfl (ly_3261_0 hL) kc_3262 ?_
      refine am_steps ck_X9_canTake 1 (pc' := 27) (lv' := [(0, .ref 3261), (1, .int y1), (2, .int y2), (4, .int y4), (5, .int z5)]) (st' := [.int y2, .ref 3262, .int (m 3262 (am_ix (q2 + z5)))]) rfl ?_
      obtain ⟨q4, hq4, hm⟩ := am_bE hm
      refine ms_callS (M2 := mt_X9_ownAt) (d2 := 1) [.int y2] (am_fd ck_X9_canTake (pc := 27) rfl) ok_X9_ownAt tw_959 tw_960 (Nat.le_of_ble_eq_true rfl) (Nat.le_of_ble_eq_true rfl) (x_X9_ownAt hL hq4) ?_
      refine am_steps ck_X9_canTake 2 (pc' := 33) (lv' := [(0, .ref 3261), (1, .int y1), (2, .int y2), (4, .int y4), (5, .int z5)]) (st' := [.int (q4 + z5), .ref 3262, .int (m 3262 (am_ix (q2 + z5)))]) rfl ?_
      obtain ⟨hb5, hm⟩ := am_gE hm
      refine ms_iald (n := 15517) (am_fd ck_X9_canTake (pc := 33) rfl) kc_3262 hb5 ?_
      refine am_steps ck_X9_canTake 2 (pc' := 38) (lv' := [(0, .ref 3261), (1, .int y1), (2, .int y2), (4, .int y4), (5, .int z5)]) (st' := [.int (am_i 9999), .int ((m 3262 (am_ix (q2 + z5))) + (m 3262 (am_ix (q4 + z5))))]) rfl ?_
      refine am_icmp (tgt := 43) (am_fd ck_X9_canTake (pc := 38) rfl) rfl (fun hc6 => ?_) (fun hc6 => ?_)
      · replace hm := am_it hm hc6
        refine am_steps ck_X9_canTake 2 (pc' := 3) (lv' := [(5, .int (z5 + am_i 1)), (0, .ref 3261), (1, .int y1), (2, .int y2), (4, .int y4)]) (st' := []) rfl ?_
        refine am_subp [1, 2, 3, 4, 0] rfl ?_
        exact ih _ hm K
      · replace hm := am_if hm hc6
        refine am_steps ck_X9_canTake 1 (pc' := 42) (lv' := [(0, .ref 3261), (1, .int y1), (2, .int y2), (4, .int y4), (5, .int z5)]) (st' := [.int (am_i 0)]) rfl ?_
        cases hm
        exact am_end (am_fd ck_X9_canTake (pc := 42) rfl) am_rZ0 rfl rfl
set_option maxRecDepth 100000 in
set_option maxHeartbeats 4000000 in
theorem x_X9_canTake {G : am_G} {m : am_m} {r : am_rr} {x1 : Int32} {x2 : Int32} {x3 : Int32} {x4 : Int32} {res : Int32} (hL : am_Lay r) (hm : m_X9_canTake m x1 x2 x3 x4 = some res) : am_Met G mt_X9_canTake 2 [.ref 3261, .int x1, .int x2, .int x3, .int x4] (am_hh m r) (some (.int res)) (am_hh m r) := by
  refine am_of (by decide) (Nat.le_of_ble_eq_true rfl) ?_
  unfold m_X9_canTake at hm
  show am_W G mt_X9_canTake 2 _ _ 0 [(0, .ref 3261), (1, .int x1), (2, .int x2), (3, .int x3), (4, .int x4)] [] (am_hh m r)
  refine am_steps ck_X9_canTake 2 (pc' := 3) (lv' := [(5, .int x3), (0, .ref 3261), (1, .int x1), (2, .int x2), (3, .int x3), (4, .int x4)]) (st' := []) rfl ?_
  refine am_subp [1, 2, 3, 5, 0] rfl ?_
  refine x_X9_canTake_3 hL am_F _ hm (fun hm => ?_)
  refine am_steps ck_X9_canTake 1 (pc' := 50) (lv' := []) (st' := [.int (am_i 1)]) rfl ?_
  cases hm
  exact am_end (am_fd ck_X9_canTake (pc := 50) rfl) am_rZ1 rfl rfl
set_option maxRecDepth 100000 in
set_option maxHeartbeats 4000000 in
theorem x_X9_takes_3 {G : am_G} {x1 : Int32} {x2 : Int32} {x3 : Int32} {x4 : Int32} {r : am_rr} {y1 : Int32} {y2 : Int32} {y3 : Int32} {y4 : Int32} {res : Int32 × am_m} {k : am_m → Option (Int32 × am_m)} (hL : am_Lay r) : ∀ (n : Nat) (z5 : Int32) (m : am_m), m_X9_takes_3 x1 x2 x3 x4 y1 y2 y3 y4 k n z5 m = some res → (∀ (m1 : am_m), k m1 = some res → am_W G mt_X9_takes 3 (some (.int res.1)) (am_hh res.2 r) 50 [(0, .ref 3261), (1, .int y1), (2, .int y2)] [] (am_hh m1 r)) → am_W G mt_X9_takes 3 (some (.int res.1)) (am_hh res.2 r) 3 [(0, .ref 3261), (1, .int y1), (2, .int y2), (3, .int y3), (4, .int y4), (5, .int z5)] [] (am_hh m r) := by
  intro n
  induction n with
  | zero => intro z5 m hm K; cases hm
  | succ n ih =>
    intro z5 m hm K
    unfold m_X9_takes_3 at hm
    refine am_steps ck_X9_takes 2 (pc' := 7) (lv' := [(0, .ref 3261), (1, .int y1), (2, .int y2), (3, .int y3), (4, .int y4), (5, .int z5)]) (st' := [.int (am_i 64), .int z5]) rfl ?_
    refine am_icmp (tgt := 50) (am_fd ck_X9_takes (pc := 7) rfl) rfl (fun hc1 => ?_) (fun hc1 => ?_)
    · replace hm := am_it hm hc1
      refine am_subp [0, 1, 2] rfl ?_
      exact K _ hm
    · replace hm := am_if hm hc1
      refine am_steps ck_X9_takes 1 (pc' := 11) (lv' := [(0, .ref 3261), (1, .int y1), (2, .int y2), (3, .int y3), (4, .int y4), (5, .int z5)]) (st' := [.ref 3261]) rfl ?_
      refine ms_getr (ci := 7) (k := 6) (v := 3266) (am_fd ck_X9_takes (pc := 11) rfl) tw_881 kc_3261 rfl (ly_3261_6 hL) kc_3266 ?_
      refine am_steps ck_X9_takes 4 (pc' := 21) (lv' := [(0, .ref 3261), (1, .int y1), (2, .int y2), (3, .int y3), (4, .int y4), (5, .int z5)]) (st' := [.int y4, .int y3, .int z5, .int z5, .ref 3266]) rfl ?_
      obtain ⟨q2, hq2, hm⟩ := am_bE hm
      refine ms_callS (M2 := mt_X9_isIn) (d2 := 1) [.int z5, .int y3, .int y4] (am_fd ck_X9_takes (pc := 21) rfl) ok_X9_isIn tw_953 tw_954 (Nat.le_of_ble_eq_true rfl) (Nat.le_of_ble_eq_true rfl) (x_X9_isIn hL hq2) ?_
      refine am_ifc (tgt := 42) (am_fd ck_X9_takes (pc := 24) rfl) rfl (fun hc3 => ?_) (fun hc3 => ?_)
      · replace hm := am_it hm hc3
        refine am_steps ck_X9_takes 1 (pc' := 43) (lv' := [(0, .ref 3261), (1, .int y1), (2, .int y2), (3, .int y3), (4, .int y4), (5, .int z5)]) (st' := [.int (am_i 0), .int z5, .ref 3266]) rfl ?_
        obtain ⟨hb4, hm⟩ := am_gE hm
        refine ms_iast (n := 64) (am_fd ck_X9_takes (pc := 43) rfl) kc_3266 hb4 (fun m5 em5 => ?_)
        replace hm := am_letE em5 hm
        refine am_steps ck_X9_takes 2 (pc' := 3) (lv' := [(5, .int (z5 + am_i 1)), (0, .ref 3261), (1, .int y1), (2, .int y2), (3, .int y3), (4, .int y4)]) (st' := []) rfl ?_
        refine am_subp [1, 2, 3, 4, 5, 0] rfl ?_
        exact ih _ _ hm K
      · replace hm := am_if hm hc3
        refine am_steps ck_X9_takes 1 (pc' := 28) (lv' := [(0, .ref 3261), (1, .int y1), (2, .int y2), (3, .int y3), (4, .int y4), (5, .int z5)]) (st' := [.ref 3261, .int z5, .ref 3266]) rfl ?_
        refine ms_getr (ci := 7) (k := 0) (v := 3262) (am_fd ck_X9_takes (pc := 28) rfl) tw_875 kc_3261 rfl (ly_3261_0 hL) kc_3262 ?_
        refine am_steps ck_X9_takes 1 (pc' := 32) (lv' := [(0, .ref 3261), (1, .int y1), (2, .int y2), (3, .int y3), (4, .int y4), (5, .int z5)]) (st' := [.int y1, .ref 3262, .int z5, .ref 3266]) rfl ?_
        obtain ⟨q6, hq6, hm⟩ := am_bE hm
        refine ms_callS (M2 := mt_X9_ownAt) (d2 := 1) [.int y1] (am_fd ck_X9_takes (pc := 32) rfl) ok_X9_ownAt tw_959 tw_960 (Nat.le_of_ble_eq_true rfl) (Nat.le_of_ble_eq_true rfl) (x_X9_ownAt hL hq6) ?_
        refine am_steps ck_X9_takes 2 (pc' := 38) (lv' := [(0, .ref 3261), (1, .int y1), (2, .int y2), (3, .int y3), (4, .int y4), (5, .int z5)]) (st' := [.int (q6 + z5), .ref 3262, .int z5, .ref 3266]) rfl ?_
        obtain ⟨hb7, hm⟩ := am_gE hm
        refine ms_iald (n := 15517) (am_fd ck_X9_takes (pc := 38) rfl) kc_3262 hb7 ?_
        refine am_steps ck_X9_takes 1 (pc' := 43) (lv' := [(0, .ref 3261), (1, .int y1), (2, .int y2), (3, .int y3), (4, .int y4), (5, .int z5)]) (st' := [.int (m 3262 (am_ix (q6 + z5))), .int z5, .ref 3266]) rfl ?_
        obtain ⟨hb8, hm⟩ := am_gE hm
        refine ms_iast (n := 64) (am_fd ck_X9_takes (pc := 43) rfl) kc_3266 hb8 (fun m9 em9 => ?_)
        replace hm := am_letE em9 hm
        refine am_steps ck_X9_takes 2 (pc' := 3) (lv' := [(5, .int (z5 + am_i 1)), (0, .ref 3261), (1, .int y1), (2, .int y2), (3, .int y3), (4, .int y4)]) (st' := []) rfl ?_
        refine am_subp [1, 2, 3, 4, 5, 0] rfl ?_
        exact ih _ _ hm K
set_option maxRecDepth 100000 in
set_option maxHeartbeats 4000000 in
theorem x_X9_takes_78 {G : am_G} {x1 : Int32} {x2 : Int32} {x3 : Int32} {x4 : Int32} {r : am_rr} {y1 : Int32} {y2 : Int32} {y5 : Int32} {res : Int32 × am_m} {k : am_m → Option (Int32 × am_m)} (hL : am_Lay r) : ∀ (n : Nat) (z6 : Int32) (m : am_m), m_X9_takes_78 x1 x2 x3 x4 y1 y2 y5 k n z6 m = some res → (∀ (m1 : am_m), k m1 = some res → am_W G mt_X9_takes 3 (some (.int res.1)) (am_hh res.2 r) 135 [(0, .ref 3261), (5, .int y5)] [] (am_hh m1 r)) → am_W G mt_X9_takes 3 (some (.int res.1)) (am_hh res.2 r) 78 [(0, .ref 3261), (1, .int y1), (2, .int y2), (5, .int y5), (6, .int z6)] [] (am_hh m r) := by
  intro n
  induction n with
  | zero => intro z6 m hm K; cases hm
  | succ n ih =>
    intro z6 m hm K
    unfold m_X9_takes_78 at hm
    refine am_steps ck_X9_takes 2 (pc' := 82) (lv' := [(0, .ref 3261), (1, .int y1), (2, .int y2), (5, .int y5), (6, .int z6)]) (st' := [.int (am_i 64), .int z6]) rfl ?_
    refine am_icmp (tgt := 135) (am_fd ck_X9_takes (pc := 82) rfl) rfl (fun hc14 => ?_) (fun hc14 => ?_)
    · replace hm := am_it hm hc14
      refine am_subp [0, 3] rfl ?_
      exact K _ hm
    · replace hm := am_if hm hc14
      refine am_steps ck_X9_takes 1 (pc' := 86) (lv' := [(0, .ref 3261), (1, .int y1), (2, .int y2), (5, .int y5), (6, .int z6)]) (st' := [.ref 3261]) rfl ?_
      refine ms_getr (ci := 7) (k := 0) (v := 3262) (am_fd ck_X9_takes (pc := 86) rfl) tw_875 kc_3261 rfl (ly_3261_0 hL) kc_3262 ?_
      refine am_steps ck_X9_takes 1 (pc' := 90) (lv' := [(0, .ref 3261), (1, .int y1), (2, .int y2), (5, .int y5), (6, .int z6)]) (st' := [.int y2, .ref 3262]) rfl ?_
      obtain ⟨q15, hq15, hm⟩ := am_bE hm
      refine ms_callS (M2 := mt_X9_ownAt) (d2 := 1) [.int y2] (am_fd ck_X9_takes (pc := 90) rfl) ok_X9_ownAt tw_959 tw_960 (Nat.le_of_ble_eq_true rfl) (Nat.le_of_ble_eq_true rfl) (x_X9_ownAt hL hq15) ?_
      refine am_steps ck_X9_takes 3 (pc' := 97) (lv' := [(0, .ref 3261), (1, .int y1), (2, .int y2), (5, .int y5), (6, .int z6)]) (st' := [.int (q15 + z6), .ref 3262, .int (q15 + z6), .ref 3262]) rfl ?_
      obtain ⟨hb16, hm⟩ := am_gE hm
      refine ms_iald (n := 15517) (am_fd ck_X9_takes (pc := 97) rfl) kc_3262 hb16 ?_
      refine am_steps ck_X9_takes 1 (pc' := 99) (lv' := [(0, .ref 3261), (1, .int y1), (2, .int y2), (5, .int y5), (6, .int z6)]) (st' := [.ref 3261, .int (m 3262 (am_ix (q15 + z6))), .int (q15 + z6), .ref 3262]) rfl ?_
      refine ms_getr (ci := 7) (k := 6) (v := 3266) (am_fd ck_X9_takes (pc := 99) rfl) tw_881 kc_3261 rfl (ly_3261_6 hL) kc_3266 ?_
      refine am_steps ck_X9_takes 1 (pc' := 104) (lv' := [(0, .ref 3261), (1, .int y1), (2, .int y2), (5, .int y5), (6, .int z6)]) (st' := [.int z6, .ref 3266, .int (m 3262 (am_ix (q15 + z6))), .int (q15 + z6), .ref 3262]) rfl ?_
      obtain ⟨hb17, hm⟩ := am_gE hm
      refine ms_iald (n := 64) (am_fd ck_X9_takes (pc := 104) rfl) kc_3266 hb17 ?_
      refine am_steps ck_X9_takes 1 (pc' := 106) (lv' := [(0, .ref 3261), (1, .int y1), (2, .int y2), (5, .int y5), (6, .int z6)]) (st' := [.int ((m 3262 (am_ix (q15 + z6))) + (m 3266 (am_ix z6))), .int (q15 + z6), .ref 3262]) rfl ?_
      obtain ⟨hb18, hm⟩ := am_gE hm
      refine ms_iast (n := 15517) (am_fd ck_X9_takes (pc := 106) rfl) kc_3262 hb18 (fun m19 em19 => ?_)
      replace hm := am_letE em19 hm
      refine am_steps ck_X9_takes 1 (pc' := 108) (lv' := [(0, .ref 3261), (1, .int y1), (2, .int y2), (5, .int y5), (6, .int z6)]) (st' := [.ref 3261]) rfl ?_
      refine ms_getr (ci := 7) (k := 0) (v := 3262) (am_fd ck_X9_takes (pc := 108) rfl) tw_875 kc_3261 rfl (ly_3261_0 hL) kc_3262 ?_
      refine am_steps ck_X9_takes 1 (pc' := 112) (lv' := [(0, .ref 3261), (1, .int y1), (2, .int y2), (5, .int y5), (6, .int z6)]) (st' := [.int y1, .ref 3262]) rfl ?_
      obtain ⟨q20, hq20, hm⟩ := am_bE hm
      refine ms_callS (M2 := mt_X9_ownAt) (d2 := 1) [.int y1] (am_fd ck_X9_takes (pc := 112) rfl) ok_X9_ownAt tw_959 tw_960 (Nat.le_of_ble_eq_true rfl) (Nat.le_of_ble_eq_true rfl) (x_X9_ownAt hL hq20) ?_
      refine am_steps ck_X9_takes 3 (pc' := 119) (lv' := [(0, .ref 3261), (1, .int y1), (2, .int y2), (5, .int y5), (6, .int z6)]) (st' := [.int (q20 + z6), .ref 3262, .int (q20 + z6), .ref 3262]) rfl ?_
      obtain ⟨hb21, hm⟩ := am_gE hm
      refine ms_iald (n := 15517) (am_fd ck_X9_takes (pc := 119) rfl) kc_3262 hb21 ?_
      refine am_steps ck_X9_takes 1 (pc' := 121) (lv' := [(0, .ref 3261), (1, .int y1), (2, .int y2), (5, .int y5), (6, .int z6)]) (st' := [.ref 3261, .int (m19 3262 (am_ix (q20 + z6))), .int (q20 + z6), .ref 3262]) rfl ?_
      refine ms_getr (ci := 7) (k := 6) (v := 3266) (am_fd ck_X9_takes (pc := 121) rfl) tw_881 kc_3261 rfl (ly_3261_6 hL) kc_3266 ?_
      refine am_steps ck_X9_takes 1 (pc' := 126) (lv' := [(0, .ref 3261), (1, .int y1), (2, .int y2), (5, .int y5), (6, .int z6)]) (st' := [.int z6, .ref 3266, .int (m19 3262 (am_ix (q20 + z6))), .int (q20 + z6), .ref 3262]) rfl ?_
      obtain ⟨hb22, hm⟩ := am_gE hm
      refine ms_iald (n := 64) (am_fd ck_X9_takes (pc := 126) rfl) kc_3266 hb22 ?_
      refine am_steps ck_X9_takes 1 (pc' := 128) (lv' := [(0, .ref 3261), (1, .int y1), (2, .int y2), (5, .int y5), (6, .int z6)]) (st' := [.int ((m19 3262 (am_ix (q20 + z6))) - (m19 3266 (am_ix z6))), .int (q20 + z6), .ref 3262]) rfl ?_
      obtain ⟨hb23, hm⟩ := am_gE hm
      refine ms_iast (n := 15517) (am_fd ck_X9_takes (pc := 128) rfl) kc_3262 hb23 (fun m24 em24 => ?_)
      replace hm := am_letE em24 hm
      refine am_steps ck_X9_takes 2 (pc' := 78) (lv' := [(6, .int (z6 + am_i 1)), (0, .ref 3261), (1, .int y1), (2, .int y2), (5, .int y5)]) (st' := []) rfl ?_
      refine am_subp [1, 2, 3, 4, 0] rfl ?_
      exact ih _ _ hm K
set_option maxRecDepth 100000 in
set_option maxHeartbeats 4000000 in
theorem x_X9_takes {G : am_G} {m : am_m} {r : am_rr} {x1 : Int32} {x2 : Int32} {x3 : Int32} {x4 : Int32} {res : Int32 × am_m} (hL : am_Lay r) (hm : m_X9_takes m x1 x2 x3 x4 = some res) : am_Met G mt_X9_takes 3 [.ref 3261, .int x1, .int x2, .int x3, .int x4] (am_hh m r) (some (.int res.1)) (am_hh res.2 r) := by
  refine am_of (by decide) (Nat.le_of_ble_eq_true rfl) ?_
  unfold m_X9_takes at hm
  show am_W G mt_X9_takes 3 _ _ 0 [(0, .ref 3261), (1, .int x1), (2, .int x2), (3, .int x3), (4, .int x4)] [] (am_hh m r)
  refine am_steps ck_X9_takes 2 (pc' := 3) (lv' := [(5, .int (am_i 0)), (0, .ref 3261), (1, .int x1), (2, .int x2), (3, .int x3), (4, .int x4)]) (st' := []) rfl ?_
  refine am_subp [1, 2, 3, 4, 5, 0] rfl ?_
  refine x_X9_takes_3 hL am_F _ _ hm (fun m10 hm => ?_)
  refine am_steps ck_X9_takes 2 (pc' := 52) (lv' := [(0, .ref 3261), (1, .int x1), (2, .int x2)]) (st' := [.int x2, .ref 3261]) rfl ?_
  obtain ⟨q11, hq11, hm⟩ := am_bE hm
  refine ms_callS (M2 := mt_X9_ownAt) (d2 := 1) [.int x2] (am_fd ck_X9_takes (pc := 52) rfl) ok_X9_ownAt tw_959 tw_960 (Nat.le_of_ble_eq_true rfl) (Nat.le_of_ble_eq_true rfl) (x_X9_ownAt hL hq11) ?_
  refine am_steps ck_X9_takes 1 (pc' := 56) (lv' := [(0, .ref 3261), (1, .int x1), (2, .int x2)]) (st' := [.ref 3261, .int q11, .ref 3261]) rfl ?_
  refine ms_getr (ci := 7) (k := 7) (v := 3267) (am_fd ck_X9_takes (pc := 56) rfl) tw_882 kc_3261 rfl (ly_3261_7 hL) kc_3267 ?_
  obtain ⟨q12, hq12, hm⟩ := am_bE hm
  refine ms_callVv (M2 := mt_X9_lays) (d2 := 1) (ci := 7) [.int q11, .ref 3267] (am_fd ck_X9_takes (pc := 59) rfl) ok_X9_lays tw_1001 tw_1003 ts_36 (by decide) kc_3261 (Nat.le_of_ble_eq_true rfl) (Nat.le_of_ble_eq_true rfl) (x_X9_lays hL kc_3267 hq12) ?_
  refine am_steps ck_X9_takes 1 (pc' := 63) (lv' := [(0, .ref 3261), (1, .int x1), (2, .int x2)]) (st' := [.ref 3261]) rfl ?_
  refine ms_getr (ci := 7) (k := 6) (v := 3266) (am_fd ck_X9_takes (pc := 63) rfl) tw_881 kc_3261 rfl (ly_3261_6 hL) kc_3266 ?_
  refine am_steps ck_X9_takes 1 (pc' := 67) (lv' := [(0, .ref 3261), (1, .int x1), (2, .int x2)]) (st' := [.ref 3261, .ref 3266]) rfl ?_
  refine ms_getr (ci := 7) (k := 7) (v := 3267) (am_fd ck_X9_takes (pc := 67) rfl) tw_882 kc_3261 rfl (ly_3261_7 hL) kc_3267 ?_
  obtain ⟨q13, hq13, hm⟩ := am_bE hm
  refine ms_callS (M2 := mt_X9_common) (d2 := 2) [.ref 3266, .ref 3267] (am_fd ck_X9_takes (pc := 70) rfl) ok_X9_common tw_1005 tw_1006 (Nat.le_of_ble_eq_true rfl) (Nat.le_of_ble_eq_true rfl) (x_X9_common hL kc_3266 kc_3267 hq13) ?_
  refine am_steps ck_X9_takes 3 (pc' := 78) (lv' := [(6, .int (am_i 0)), (5, .int q13), (0, .ref 3261), (1, .int x1), (2, .int x2)]) (st' := []) rfl ?_
  refine am_subp [2, 3, 4, 1, 0] rfl ?_
  refine x_X9_takes_78 hL am_F _ _ hm (fun m25 hm => ?_)
  refine am_steps ck_X9_takes 3 (pc' := 139) (lv' := [(0, .ref 3261), (5, .int q13)]) (st' := [.int q13, .int (am_i 0), .ref 3261]) rfl ?_
  obtain ⟨q26, hq26, hm⟩ := am_bE hm
  refine ms_callVv (M2 := mt_X9_counts) (d2 := 1) (ci := 7) [.int (am_i 0), .int q13] (am_fd ck_X9_takes (pc := 139) rfl) ok_X9_counts tw_941 tw_943 ts_27 (by decide) kc_3261 (Nat.le_of_ble_eq_true rfl) (Nat.le_of_ble_eq_true rfl) (x_X9_counts hL hq26) ?_
  refine am_steps ck_X9_takes 3 (pc' := 145) (lv' := [(0, .ref 3261), (5, .int q13)]) (st' := [.int (am_i 1), .int (am_i 2), .ref 3261]) rfl ?_
  obtain ⟨q27, hq27, hm⟩ := am_bE hm
  refine ms_callVv (M2 := mt_X9_counts) (d2 := 1) (ci := 7) [.int (am_i 2), .int (am_i 1)] (am_fd ck_X9_takes (pc := 145) rfl) ok_X9_counts tw_941 tw_943 ts_27 (by decide) kc_3261 (Nat.le_of_ble_eq_true rfl) (Nat.le_of_ble_eq_true rfl) (x_X9_counts hL hq27) ?_
  refine am_steps ck_X9_takes 1 (pc' := 150) (lv' := [(0, .ref 3261), (5, .int q13)]) (st' := [.int q13]) rfl ?_
  cases hm
  exact am_end (am_fd ck_X9_takes (pc := 150) rfl) am_rI rfl rfl
set_option maxRecDepth 100000 in
set_option maxHeartbeats 4000000 in
theorem x_X9_goes {G : am_G} {m : am_m} {r : am_rr} {x1 : Int32} {res : Int32 × am_m} (hL : am_Lay r) (hm : m_X9_goes m x1 = some res) : am_Met G mt_X9_goes 4 [.ref 3261, .int x1] (am_hh m r) (some (.int res.1)) (am_hh res.2 r) := by
  refine am_of (by decide) (Nat.le_of_ble_eq_true rfl) ?_
  unfold m_X9_goes at hm
  show am_W G mt_X9_goes 4 _ _ 0 [(0, .ref 3261), (1, .int x1)] [] (am_hh m r)
  refine am_steps ck_X9_goes 2 (pc' := 2) (lv' := [(0, .ref 3261), (1, .int x1)]) (st' := [.int x1, .ref 3261]) rfl ?_
  obtain ⟨q1, hq1, hm⟩ := am_bE hm
  refine ms_callV (M2 := mt_X9_isUnit) (d2 := 2) (ci := 7) [.int x1] (am_fd ck_X9_goes (pc := 2) rfl) ok_X9_isUnit tw_949 tw_951 ts_28 (by decide) kc_3261 (Nat.le_of_ble_eq_true rfl) (Nat.le_of_ble_eq_true rfl) (x_X9_isUnit hL hq1) ?_
  refine am_ifc (tgt := 40) (am_fd ck_X9_goes (pc := 5) rfl) rfl (fun hc2 => ?_) (fun hc2 => ?_)
  · replace hm := am_it hm hc2
    refine am_steps ck_X9_goes 1 (pc' := 41) (lv' := [(0, .ref 3261), (1, .int x1)]) (st' := [.int (am_i (-1))]) rfl ?_
    cases hm
    exact am_end (am_fd ck_X9_goes (pc := 41) rfl) am_rI rfl rfl
  · replace hm := am_if hm hc2
    refine am_steps ck_X9_goes 1 (pc' := 9) (lv' := [(0, .ref 3261), (1, .int x1)]) (st' := [.int x1]) rfl ?_
    refine am_ifc (tgt := 40) (am_fd ck_X9_goes (pc := 9) rfl) rfl (fun hc3 => ?_) (fun hc3 => ?_)
    · replace hm := am_it hm hc3
      refine am_steps ck_X9_goes 1 (pc' := 41) (lv' := [(0, .ref 3261), (1, .int x1)]) (st' := [.int (am_i (-1))]) rfl ?_
      cases hm
      exact am_end (am_fd ck_X9_goes (pc := 41) rfl) am_rI rfl rfl
    · replace hm := am_if hm hc3
      refine am_steps ck_X9_goes 2 (pc' := 14) (lv' := [(0, .ref 3261), (1, .int x1)]) (st' := [.int x1, .ref 3261]) rfl ?_
      obtain ⟨q4, hq4, hm⟩ := am_bE hm
      refine ms_callV (M2 := mt_X9_belowMany) (d2 := 3) (ci := 7) [.int x1] (am_fd ck_X9_goes (pc := 14) rfl) ok_X9_belowMany tw_989 tw_991 ts_33 (by decide) kc_3261 (Nat.le_of_ble_eq_true rfl) (Nat.le_of_ble_eq_true rfl) (x_X9_belowMany hL hq4) ?_
      refine am_ifc (tgt := 40) (am_fd ck_X9_goes (pc := 17) rfl) rfl (fun hc5 => ?_) (fun hc5 => ?_)
      · replace hm := am_it hm hc5
        refine am_steps ck_X9_goes 1 (pc' := 41) (lv' := [(0, .ref 3261), (1, .int x1)]) (st' := [.int (am_i (-1))]) rfl ?_
        cases hm
        exact am_end (am_fd ck_X9_goes (pc := 41) rfl) am_rI rfl rfl
      · replace hm := am_if hm hc5
        refine am_steps ck_X9_goes 3 (pc' := 23) (lv' := [(0, .ref 3261), (1, .int x1)]) (st' := [.ref 3261, .int x1, .ref 3261]) rfl ?_
        refine ms_getr (ci := 7) (k := 0) (v := 3262) (am_fd ck_X9_goes (pc := 23) rfl) tw_875 kc_3261 rfl (ly_3261_0 hL) kc_3262 ?_
        refine am_steps ck_X9_goes 3 (pc' := 30) (lv' := [(0, .ref 3261), (1, .int x1)]) (st' := [.int ((am_i 24) + x1), .ref 3262, .int x1, .ref 3261]) rfl ?_
        obtain ⟨hb6, hm⟩ := am_gE hm
        refine ms_iald (n := 15517) (am_fd ck_X9_goes (pc := 30) rfl) kc_3262 hb6 ?_
        refine am_steps ck_X9_goes 2 (pc' := 34) (lv' := [(0, .ref 3261), (1, .int x1)]) (st' := [.int (am_i 63), .int (am_i 0), .int (m 3262 (am_ix ((am_i 24) + x1))), .int x1, .ref 3261]) rfl ?_
        obtain ⟨q7, hq7, hm⟩ := am_bE hm
        refine ms_callV (M2 := mt_X9_canTake) (d2 := 2) (ci := 7) [.int x1, .int (m 3262 (am_ix ((am_i 24) + x1))), .int (am_i 0), .int (am_i 63)] (am_fd ck_X9_goes (pc := 34) rfl) ok_X9_canTake tw_993 tw_995 ts_34 (by decide) kc_3261 (Nat.le_of_ble_eq_true rfl) (Nat.le_of_ble_eq_true rfl) (x_X9_canTake hL hq7) ?_
        refine am_ifc (tgt := 42) (am_fd ck_X9_goes (pc := 37) rfl) rfl (fun hc8 => ?_) (fun hc8 => ?_)
        · replace hm := am_it hm hc8
          refine am_steps ck_X9_goes 1 (pc' := 43) (lv' := [(0, .ref 3261), (1, .int x1)]) (st' := [.ref 3261]) rfl ?_
          obtain ⟨q9, hq9, hm⟩ := am_bE hm
          refine ms_callVv (M2 := mt_X9_remembers) (d2 := 1) (ci := 7) [] (am_fd ck_X9_goes (pc := 43) rfl) ok_X9_remembers tw_962 tw_964 ts_29 (by decide) kc_3261 (Nat.le_of_ble_eq_true rfl) (Nat.le_of_ble_eq_true rfl) (x_X9_remembers hL hq9) ?_
          refine am_steps ck_X9_goes 1 (pc' := 47) (lv' := [(0, .ref 3261), (1, .int x1)]) (st' := [.ref 3261]) rfl ?_
          refine ms_getr (ci := 7) (k := 0) (v := 3262) (am_fd ck_X9_goes (pc := 47) rfl) tw_875 kc_3261 rfl (ly_3261_0 hL) kc_3262 ?_
          refine am_steps ck_X9_goes 3 (pc' := 54) (lv' := [(0, .ref 3261), (1, .int x1)]) (st' := [.int ((am_i 24) + x1), .ref 3262]) rfl ?_
          obtain ⟨hb10, hm⟩ := am_gE hm
          refine ms_iald (n := 15517) (am_fd ck_X9_goes (pc := 54) rfl) kc_3262 hb10 ?_
          refine am_steps ck_X9_goes 6 (pc' := 62) (lv' := [(2, .int (q9 3262 (am_ix ((am_i 24) + x1)))), (0, .ref 3261), (1, .int x1)]) (st' := [.int (am_i 63), .int (am_i 0), .int (q9 3262 (am_ix ((am_i 24) + x1))), .int x1, .ref 3261]) rfl ?_
          obtain ⟨q11, hq11, hm⟩ := am_bE hm
          refine ms_callV (M2 := mt_X9_takes) (d2 := 3) (ci := 7) [.int x1, .int (q9 3262 (am_ix ((am_i 24) + x1))), .int (am_i 0), .int (am_i 63)] (am_fd ck_X9_goes (pc := 62) rfl) ok_X9_takes tw_997 tw_999 ts_35 (by decide) kc_3261 (Nat.le_of_ble_eq_true rfl) (Nat.le_of_ble_eq_true rfl) (x_X9_takes hL hq11) ?_
          refine am_steps ck_X9_goes 2 (pc' := 67) (lv' := [(3, .int q11.1), (2, .int (q9 3262 (am_ix ((am_i 24) + x1)))), (0, .ref 3261), (1, .int x1)]) (st' := [.ref 3261]) rfl ?_
          refine ms_getr (ci := 7) (k := 0) (v := 3262) (am_fd ck_X9_goes (pc := 67) rfl) tw_875 kc_3261 rfl (ly_3261_0 hL) kc_3262 ?_
          refine am_steps ck_X9_goes 4 (pc' := 74) (lv' := [(3, .int q11.1), (2, .int (q9 3262 (am_ix ((am_i 24) + x1)))), (0, .ref 3261), (1, .int x1)]) (st' := [.int (am_i 0), .int ((am_i 0) + x1), .ref 3262]) rfl ?_
          obtain ⟨hb12, hm⟩ := am_gE hm
          refine ms_iast (n := 15517) (am_fd ck_X9_goes (pc := 74) rfl) kc_3262 hb12 (fun m13 em13 => ?_)
          replace hm := am_letE em13 hm
          refine am_steps ck_X9_goes 2 (pc' := 77) (lv' := [(3, .int q11.1), (2, .int (q9 3262 (am_ix ((am_i 24) + x1)))), (0, .ref 3261), (1, .int x1)]) (st' := [.int x1, .ref 3261]) rfl ?_
          obtain ⟨q14, hq14, hm⟩ := am_bE hm
          refine ms_callVv (M2 := mt_X9_clears) (d2 := 2) (ci := 7) [.int x1] (am_fd ck_X9_goes (pc := 77) rfl) ok_X9_clears tw_978 tw_980 ts_32 (by decide) kc_3261 (Nat.le_of_ble_eq_true rfl) (Nat.le_of_ble_eq_true rfl) (x_X9_clears hL hq14) ?_
          refine am_steps ck_X9_goes 2 (pc' := 82) (lv' := [(3, .int q11.1), (2, .int (q9 3262 (am_ix ((am_i 24) + x1)))), (0, .ref 3261), (1, .int x1)]) (st' := [.int (q9 3262 (am_ix ((am_i 24) + x1))), .ref 3261]) rfl ?_
          obtain ⟨q15, hq15, hm⟩ := am_bE hm
          refine ms_callVv (M2 := mt_X9_isStaleFrom) (d2 := 1) (ci := 7) [.int (q9 3262 (am_ix ((am_i 24) + x1)))] (am_fd ck_X9_goes (pc := 82) rfl) ok_X9_isStaleFrom tw_966 tw_968 ts_30 (by decide) kc_3261 (Nat.le_of_ble_eq_true rfl) (Nat.le_of_ble_eq_true rfl) (x_X9_isStaleFrom hL hq15) ?_
          refine am_steps ck_X9_goes 3 (pc' := 89) (lv' := [(3, .int q11.1), (2, .int (q9 3262 (am_ix ((am_i 24) + x1)))), (0, .ref 3261), (1, .int x1)]) (st' := [.int (am_i 1), .int (am_i 7), .ref 3261]) rfl ?_
          obtain ⟨q16, hq16, hm⟩ := am_bE hm
          refine ms_callVv (M2 := mt_X9_counts) (d2 := 1) (ci := 7) [.int (am_i 7), .int (am_i 1)] (am_fd ck_X9_goes (pc := 89) rfl) ok_X9_counts tw_941 tw_943 ts_27 (by decide) kc_3261 (Nat.le_of_ble_eq_true rfl) (Nat.le_of_ble_eq_true rfl) (x_X9_counts hL hq16) ?_
          refine am_steps ck_X9_goes 1 (pc' := 93) (lv' := [(3, .int q11.1), (2, .int (q9 3262 (am_ix ((am_i 24) + x1)))), (0, .ref 3261), (1, .int x1)]) (st' := [.int q11.1]) rfl ?_
          cases hm
          exact am_end (am_fd ck_X9_goes (pc := 93) rfl) am_rI rfl rfl
        · replace hm := am_if hm hc8
          refine am_steps ck_X9_goes 1 (pc' := 41) (lv' := [(0, .ref 3261), (1, .int x1)]) (st' := [.int (am_i (-1))]) rfl ?_
          cases hm
          exact am_end (am_fd ck_X9_goes (pc := 41) rfl) am_rI rfl rfl
set_option maxRecDepth 100000 in
set_option maxHeartbeats 4000000 in
theorem x_X9_height_4 {G : am_G} {x1 : Int32} {m : am_m} {r : am_rr} {y1 : Int32} {res : Int32} {k : Int32 → Option (Int32)} (hL : am_Lay r) : ∀ (n : Nat) (z2 : Int32) (z3 : Int32), m_X9_height_4 x1 m y1 k n z2 z3 = some res → (∀ (u2 : Int32), k u2 = some res → am_W G mt_X9_height 3 (some (.int res)) (am_hh m r) 60 [(2, .int u2)] [] (am_hh m r)) → am_W G mt_X9_height 3 (some (.int res)) (am_hh m r) 4 [(0, .ref 3261), (1, .int y1), (2, .int z2), (3, .int z3)] [] (am_hh m r) := by
  intro n
  induction n with
  | zero => intro z2 z3 hm K; cases hm
  | succ n ih =>
    intro z2 z3 hm K
    unfold m_X9_height_4 at hm
    refine am_steps ck_X9_height 2 (pc' := 7) (lv' := [(0, .ref 3261), (1, .int y1), (2, .int z2), (3, .int z3)]) (st' := [.int (am_i 24), .int z3]) rfl ?_
    refine am_icmp (tgt := 60) (am_fd ck_X9_height (pc := 7) rfl) rfl (fun hc1 => ?_) (fun hc1 => ?_)
    · replace hm := am_it hm hc1
      refine am_subp [2] rfl ?_
      exact K _ hm
    · replace hm := am_if hm hc1
      refine am_steps ck_X9_height 2 (pc' := 12) (lv' := [(0, .ref 3261), (1, .int y1), (2, .int z2), (3, .int z3)]) (st' := [.int z3, .ref 3261]) rfl ?_
      obtain ⟨q2, hq2, hm⟩ := am_bE hm
      refine ms_callV (M2 := mt_X9_isUnit) (d2 := 2) (ci := 7) [.int z3] (am_fd ck_X9_height (pc := 12) rfl) ok_X9_isUnit tw_949 tw_951 ts_28 (by decide) kc_3261 (Nat.le_of_ble_eq_true rfl) (Nat.le_of_ble_eq_true rfl) (x_X9_isUnit hL hq2) ?_
      refine am_ifc (tgt := 54) (am_fd ck_X9_height (pc := 15) rfl) rfl (fun hc3 => ?_) (fun hc3 => ?_)
      · replace hm := am_it hm hc3
        refine am_steps ck_X9_height 2 (pc' := 4) (lv' := [(3, .int (z3 + am_i 1)), (0, .ref 3261), (1, .int y1), (2, .int z2)]) (st' := []) rfl ?_
        refine am_subp [1, 2, 3, 0] rfl ?_
        exact ih _ _ hm K
      · replace hm := am_if hm hc3
        refine am_steps ck_X9_height 3 (pc' := 21) (lv' := [(0, .ref 3261), (1, .int y1), (2, .int z2), (3, .int z3)]) (st' := [.int y1, .int z3, .ref 3261]) rfl ?_
        obtain ⟨q4, hq4, hm⟩ := am_bE hm
        refine ms_callV (M2 := mt_X9_isIn_) (d2 := 1) (ci := 7) [.int z3, .int y1] (am_fd ck_X9_height (pc := 21) rfl) ok_X9_isIn_ tw_1019 tw_1021 ts_38 (by decide) kc_3261 (Nat.le_of_ble_eq_true rfl) (Nat.le_of_ble_eq_true rfl) (x_X9_isIn_ hL hq4) ?_
        refine am_ifc (tgt := 54) (am_fd ck_X9_height (pc := 24) rfl) rfl (fun hc5 => ?_) (fun hc5 => ?_)
        · replace hm := am_it hm hc5
          refine am_steps ck_X9_height 2 (pc' := 4) (lv' := [(3, .int (z3 + am_i 1)), (0, .ref 3261), (1, .int y1), (2, .int z2)]) (st' := []) rfl ?_
          refine am_subp [1, 2, 3, 0] rfl ?_
          exact ih _ _ hm K
        · replace hm := am_if hm hc5
          refine am_steps ck_X9_height 2 (pc' := 29) (lv' := [(0, .ref 3261), (1, .int y1), (2, .int z2), (3, .int z3)]) (st' := [.int z3, .ref 3261]) rfl ?_
          obtain ⟨q6, hq6, hm⟩ := am_bE hm
          refine ms_callV (M2 := mt_X9_depth) (d2 := 1) (ci := 7) [.int z3] (am_fd ck_X9_height (pc := 29) rfl) ok_X9_depth tw_974 tw_976 ts_31 (by decide) kc_3261 (Nat.le_of_ble_eq_true rfl) (Nat.le_of_ble_eq_true rfl) (x_X9_depth hL hq6) ?_
          refine am_steps ck_X9_height 2 (pc' := 34) (lv' := [(0, .ref 3261), (1, .int y1), (2, .int z2), (3, .int z3)]) (st' := [.int y1, .ref 3261, .int q6]) rfl ?_
          obtain ⟨q7, hq7, hm⟩ := am_bE hm
          refine ms_callV (M2 := mt_X9_depth) (d2 := 1) (ci := 7) [.int y1] (am_fd ck_X9_height (pc := 34) rfl) ok_X9_depth tw_974 tw_976 ts_31 (by decide) kc_3261 (Nat.le_of_ble_eq_true rfl) (Nat.le_of_ble_eq_true rfl) (x_X9_depth hL hq7) ?_
          refine am_steps ck_X9_height 2 (pc' := 39) (lv' := [(0, .ref 3261), (1, .int y1), (2, .int z2), (3, .int z3)]) (st' := [.int z2, .int (q6 - q7)]) rfl ?_
          refine am_icmp (tgt := 54) (am_fd ck_X9_height (pc := 39) rfl) rfl (fun hc8 => ?_) (fun hc8 => ?_)
          · replace hm := am_it hm hc8
            refine am_steps ck_X9_height 2 (pc' := 4) (lv' := [(3, .int (z3 + am_i 1)), (0, .ref 3261), (1, .int y1), (2, .int z2)]) (st' := []) rfl ?_
            refine am_subp [1, 2, 3, 0] rfl ?_
            exact ih _ _ hm K
          · replace hm := am_if hm hc8
            refine am_steps ck_X9_height 2 (pc' := 44) (lv' := [(0, .ref 3261), (1, .int y1), (2, .int z2), (3, .int z3)]) (st' := [.int z3, .ref 3261]) rfl ?_
            obtain ⟨q9, hq9, hm⟩ := am_bE hm
            refine ms_callV (M2 := mt_X9_depth) (d2 := 1) (ci := 7) [.int z3] (am_fd ck_X9_height (pc := 44) rfl) ok_X9_depth tw_974 tw_976 ts_31 (by decide) kc_3261 (Nat.le_of_ble_eq_true rfl) (Nat.le_of_ble_eq_true rfl) (x_X9_depth hL hq9) ?_
            refine am_steps ck_X9_height 2 (pc' := 49) (lv' := [(0, .ref 3261), (1, .int y1), (2, .int z2), (3, .int z3)]) (st' := [.int y1, .ref 3261, .int q9]) rfl ?_
            obtain ⟨q10, hq10, hm⟩ := am_bE hm
            refine ms_callV (M2 := mt_X9_depth) (d2 := 1) (ci := 7) [.int y1] (am_fd ck_X9_height (pc := 49) rfl) ok_X9_depth tw_974 tw_976 ts_31 (by decide) kc_3261 (Nat.le_of_ble_eq_true rfl) (Nat.le_of_ble_eq_true rfl) (x_X9_depth hL hq10) ?_
            refine am_steps ck_X9_height 4 (pc' := 4) (lv' := [(3, .int (z3 + am_i 1)), (2, .int (q9 - q10)), (0, .ref 3261), (1, .int y1)]) (st' := []) rfl ?_
            refine am_subp [2, 3, 1, 0] rfl ?_
            exact ih _ _ hm K
set_option maxRecDepth 100000 in
set_option maxHeartbeats 4000000 in
theorem x_X9_height {G : am_G} {m : am_m} {r : am_rr} {x1 : Int32} {res : Int32} (hL : am_Lay r) (hm : m_X9_height m x1 = some res) : am_Met G mt_X9_height 3 [.ref 3261, .int x1] (am_hh m r) (some (.int res)) (am_hh m r) := by
  refine am_of (by decide) (Nat.le_of_ble_eq_true rfl) ?_
  unfold m_X9_height at hm
  show am_W G mt_X9_height 3 _ _ 0 [(0, .ref 3261), (1, .int x1)] [] (am_hh m r)
  refine am_steps ck_X9_height 4 (pc' := 4) (lv' := [(3, .int (am_i 0)), (2, .int (am_i 0)), (0, .ref 3261), (1, .int x1)]) (st' := []) rfl ?_
  refine am_subp [2, 3, 1, 0] rfl ?_
  refine x_X9_height_4 hL am_F _ _ hm (fun u11 hm => ?_)
  refine am_steps ck_X9_height 1 (pc' := 61) (lv' := [(2, .int u11)]) (st' := [.int u11]) rfl ?_
  cases hm
  exact am_end (am_fd ck_X9_height (pc := 61) rfl) am_rI rfl rfl
set_option maxRecDepth 100000 in
set_option maxHeartbeats 4000000 in
theorem x_X9_canMove {G : am_G} {m : am_m} {r : am_rr} {x1 : Int32} {x2 : Int32} {res : Int32} (hL : am_Lay r) (hm : m_X9_canMove m x1 x2 = some res) : am_Met G mt_X9_canMove 4 [.ref 3261, .int x1, .int x2] (am_hh m r) (some (.int res)) (am_hh m r) := by
  refine am_of (by decide) (Nat.le_of_ble_eq_true rfl) ?_
  unfold m_X9_canMove at hm
  show am_W G mt_X9_canMove 4 _ _ 0 [(0, .ref 3261), (1, .int x1), (2, .int x2)] [] (am_hh m r)
  refine am_steps ck_X9_canMove 2 (pc' := 2) (lv' := [(0, .ref 3261), (1, .int x1), (2, .int x2)]) (st' := [.int x1, .ref 3261]) rfl ?_
  obtain ⟨q1, hq1, hm⟩ := am_bE hm
  refine ms_callV (M2 := mt_X9_isUnit) (d2 := 2) (ci := 7) [.int x1] (am_fd ck_X9_canMove (pc := 2) rfl) ok_X9_isUnit tw_949 tw_951 ts_28 (by decide) kc_3261 (Nat.le_of_ble_eq_true rfl) (Nat.le_of_ble_eq_true rfl) (x_X9_isUnit hL hq1) ?_
  refine am_ifc (tgt := 42) (am_fd ck_X9_canMove (pc := 5) rfl) rfl (fun hc2 => ?_) (fun hc2 => ?_)
  · replace hm := am_it hm hc2
    refine am_steps ck_X9_canMove 1 (pc' := 43) (lv' := [(0, .ref 3261), (1, .int x1), (2, .int x2)]) (st' := [.int (am_i 0)]) rfl ?_
    cases hm
    exact am_end (am_fd ck_X9_canMove (pc := 43) rfl) am_rZ0 rfl rfl
  · replace hm := am_if hm hc2
    refine am_steps ck_X9_canMove 2 (pc' := 10) (lv' := [(0, .ref 3261), (1, .int x1), (2, .int x2)]) (st' := [.int x2, .ref 3261]) rfl ?_
    obtain ⟨q3, hq3, hm⟩ := am_bE hm
    refine ms_callV (M2 := mt_X9_isUnit) (d2 := 2) (ci := 7) [.int x2] (am_fd ck_X9_canMove (pc := 10) rfl) ok_X9_isUnit tw_949 tw_951 ts_28 (by decide) kc_3261 (Nat.le_of_ble_eq_true rfl) (Nat.le_of_ble_eq_true rfl) (x_X9_isUnit hL hq3) ?_
    refine am_ifc (tgt := 42) (am_fd ck_X9_canMove (pc := 13) rfl) rfl (fun hc4 => ?_) (fun hc4 => ?_)
    · replace hm := am_it hm hc4
      refine am_steps ck_X9_canMove 1 (pc' := 43) (lv' := [(0, .ref 3261), (1, .int x1), (2, .int x2)]) (st' := [.int (am_i 0)]) rfl ?_
      cases hm
      exact am_end (am_fd ck_X9_canMove (pc := 43) rfl) am_rZ0 rfl rfl
    · replace hm := am_if hm hc4
      refine am_steps ck_X9_canMove 1 (pc' := 17) (lv' := [(0, .ref 3261), (1, .int x1), (2, .int x2)]) (st' := [.int x1]) rfl ?_
      refine am_ifc (tgt := 42) (am_fd ck_X9_canMove (pc := 17) rfl) rfl (fun hc5 => ?_) (fun hc5 => ?_)
      · replace hm := am_it hm hc5
        refine am_steps ck_X9_canMove 1 (pc' := 43) (lv' := [(0, .ref 3261), (1, .int x1), (2, .int x2)]) (st' := [.int (am_i 0)]) rfl ?_
        cases hm
        exact am_end (am_fd ck_X9_canMove (pc := 43) rfl) am_rZ0 rfl rfl
      · replace hm := am_if hm hc5
        refine am_steps ck_X9_canMove 3 (pc' := 23) (lv' := [(0, .ref 3261), (1, .int x1), (2, .int x2)]) (st' := [.int x1, .int x2, .ref 3261]) rfl ?_
        obtain ⟨q6, hq6, hm⟩ := am_bE hm
        refine ms_callV (M2 := mt_X9_isIn_) (d2 := 1) (ci := 7) [.int x2, .int x1] (am_fd ck_X9_canMove (pc := 23) rfl) ok_X9_isIn_ tw_1019 tw_1021 ts_38 (by decide) kc_3261 (Nat.le_of_ble_eq_true rfl) (Nat.le_of_ble_eq_true rfl) (x_X9_isIn_ hL hq6) ?_
        refine am_ifc (tgt := 42) (am_fd ck_X9_canMove (pc := 26) rfl) rfl (fun hc7 => ?_) (fun hc7 => ?_)
        · replace hm := am_it hm hc7
          refine am_steps ck_X9_canMove 1 (pc' := 43) (lv' := [(0, .ref 3261), (1, .int x1), (2, .int x2)]) (st' := [.int (am_i 0)]) rfl ?_
          cases hm
          exact am_end (am_fd ck_X9_canMove (pc := 43) rfl) am_rZ0 rfl rfl
        · replace hm := am_if hm hc7
          refine am_steps ck_X9_canMove 1 (pc' := 30) (lv' := [(0, .ref 3261), (1, .int x1), (2, .int x2)]) (st' := [.ref 3261]) rfl ?_
          refine ms_getr (ci := 7) (k := 0) (v := 3262) (am_fd ck_X9_canMove (pc := 30) rfl) tw_875 kc_3261 rfl (ly_3261_0 hL) kc_3262 ?_
          refine am_steps ck_X9_canMove 3 (pc' := 37) (lv' := [(0, .ref 3261), (1, .int x1), (2, .int x2)]) (st' := [.int ((am_i 24) + x1), .ref 3262]) rfl ?_
          obtain ⟨hb8, hm⟩ := am_gE hm
          refine ms_iald (n := 15517) (am_fd ck_X9_canMove (pc := 37) rfl) kc_3262 hb8 ?_
          refine am_steps ck_X9_canMove 1 (pc' := 39) (lv' := [(0, .ref 3261), (1, .int x1), (2, .int x2)]) (st' := [.int x2, .int (m 3262 (am_ix ((am_i 24) + x1)))]) rfl ?_
          refine am_icmp (tgt := 44) (am_fd ck_X9_canMove (pc := 39) rfl) rfl (fun hc9 => ?_) (fun hc9 => ?_)
          · replace hm := am_it hm hc9
            refine am_steps ck_X9_canMove 2 (pc' := 46) (lv' := [(0, .ref 3261), (1, .int x1), (2, .int x2)]) (st' := [.int x2, .ref 3261]) rfl ?_
            obtain ⟨q10, hq10, hm⟩ := am_bE hm
            refine ms_callV (M2 := mt_X9_depth) (d2 := 1) (ci := 7) [.int x2] (am_fd ck_X9_canMove (pc := 46) rfl) ok_X9_depth tw_974 tw_976 ts_31 (by decide) kc_3261 (Nat.le_of_ble_eq_true rfl) (Nat.le_of_ble_eq_true rfl) (x_X9_depth hL hq10) ?_
            refine am_steps ck_X9_canMove 4 (pc' := 53) (lv' := [(0, .ref 3261), (1, .int x1), (2, .int x2)]) (st' := [.int x1, .ref 3261, .int (q10 + (am_i 1))]) rfl ?_
            obtain ⟨q11, hq11, hm⟩ := am_bE hm
            refine ms_callV (M2 := mt_X9_height) (d2 := 3) (ci := 7) [.int x1] (am_fd ck_X9_canMove (pc := 53) rfl) ok_X9_height tw_1023 tw_1025 ts_39 (by decide) kc_3261 (Nat.le_of_ble_eq_true rfl) (Nat.le_of_ble_eq_true rfl) (x_X9_height hL hq11) ?_
            refine am_steps ck_X9_canMove 2 (pc' := 59) (lv' := [(0, .ref 3261), (1, .int x1), (2, .int x2)]) (st' := [.int (am_i 12), .int ((q10 + (am_i 1)) + q11)]) rfl ?_
            refine am_icmp (tgt := 66) (am_fd ck_X9_canMove (pc := 59) rfl) rfl (fun hc12 => ?_) (fun hc12 => ?_)
            · replace hm := am_it hm hc12
              refine am_steps ck_X9_canMove 1 (pc' := 67) (lv' := [(0, .ref 3261), (1, .int x1), (2, .int x2)]) (st' := [.int (am_i 0)]) rfl ?_
              cases hm
              exact am_end (am_fd ck_X9_canMove (pc := 67) rfl) am_rZ0 rfl rfl
            · replace hm := am_if hm hc12
              refine am_steps ck_X9_canMove 2 (pc' := 67) (lv' := [(0, .ref 3261), (1, .int x1), (2, .int x2)]) (st' := [.int (am_i 1)]) rfl ?_
              cases hm
              exact am_end (am_fd ck_X9_canMove (pc := 67) rfl) am_rZ1 rfl rfl
          · replace hm := am_if hm hc9
            refine am_steps ck_X9_canMove 1 (pc' := 43) (lv' := [(0, .ref 3261), (1, .int x1), (2, .int x2)]) (st' := [.int (am_i 0)]) rfl ?_
            cases hm
            exact am_end (am_fd ck_X9_canMove (pc := 43) rfl) am_rZ0 rfl rfl
set_option maxRecDepth 100000 in
set_option maxHeartbeats 4000000 in
theorem x_X9_moves {G : am_G} {m : am_m} {r : am_rr} {x1 : Int32} {x2 : Int32} {res : am_m} (hL : am_Lay r) (hm : m_X9_moves m x1 x2 = some res) : am_Met G mt_X9_moves 2 [.ref 3261, .int x1, .int x2] (am_hh m r) none (am_hh res r) := by
  refine am_of (by decide) (Nat.le_of_ble_eq_true rfl) ?_
  unfold m_X9_moves at hm
  show am_W G mt_X9_moves 2 _ _ 0 [(0, .ref 3261), (1, .int x1), (2, .int x2)] [] (am_hh m r)
  refine am_steps ck_X9_moves 2 (pc' := 2) (lv' := [(0, .ref 3261), (1, .int x1), (2, .int x2)]) (st' := [.ref 3261, .ref 3261]) rfl ?_
  refine ms_getr (ci := 7) (k := 0) (v := 3262) (am_fd ck_X9_moves (pc := 2) rfl) tw_875 kc_3261 rfl (ly_3261_0 hL) kc_3262 ?_
  refine am_steps ck_X9_moves 3 (pc' := 9) (lv' := [(0, .ref 3261), (1, .int x1), (2, .int x2)]) (st' := [.int ((am_i 24) + x1), .ref 3262, .ref 3261]) rfl ?_
  obtain ⟨hb1, hm⟩ := am_gE hm
  refine ms_iald (n := 15517) (am_fd ck_X9_moves (pc := 9) rfl) kc_3262 hb1 ?_
  obtain ⟨q2, hq2, hm⟩ := am_bE hm
  refine ms_callVv (M2 := mt_X9_isStaleFrom) (d2 := 1) (ci := 7) [.int (m 3262 (am_ix ((am_i 24) + x1)))] (am_fd ck_X9_moves (pc := 10) rfl) ok_X9_isStaleFrom tw_966 tw_968 ts_30 (by decide) kc_3261 (Nat.le_of_ble_eq_true rfl) (Nat.le_of_ble_eq_true rfl) (x_X9_isStaleFrom hL hq2) ?_
  refine am_steps ck_X9_moves 1 (pc' := 14) (lv' := [(0, .ref 3261), (1, .int x1), (2, .int x2)]) (st' := [.ref 3261]) rfl ?_
  refine ms_getr (ci := 7) (k := 0) (v := 3262) (am_fd ck_X9_moves (pc := 14) rfl) tw_875 kc_3261 rfl (ly_3261_0 hL) kc_3262 ?_
  refine am_steps ck_X9_moves 4 (pc' := 22) (lv' := [(0, .ref 3261), (1, .int x1), (2, .int x2)]) (st' := [.int x2, .int ((am_i 24) + x1), .ref 3262]) rfl ?_
  obtain ⟨hb3, hm⟩ := am_gE hm
  refine ms_iast (n := 15517) (am_fd ck_X9_moves (pc := 22) rfl) kc_3262 hb3 (fun m4 em4 => ?_)
  replace hm := am_letE em4 hm
  refine am_steps ck_X9_moves 2 (pc' := 25) (lv' := [(0, .ref 3261), (1, .int x1), (2, .int x2)]) (st' := [.int x2, .ref 3261]) rfl ?_
  obtain ⟨q5, hq5, hm⟩ := am_bE hm
  refine ms_callVv (M2 := mt_X9_isStaleFrom) (d2 := 1) (ci := 7) [.int x2] (am_fd ck_X9_moves (pc := 25) rfl) ok_X9_isStaleFrom tw_966 tw_968 ts_30 (by decide) kc_3261 (Nat.le_of_ble_eq_true rfl) (Nat.le_of_ble_eq_true rfl) (x_X9_isStaleFrom hL hq5) ?_
  refine am_steps ck_X9_moves 3 (pc' := 31) (lv' := [(0, .ref 3261), (1, .int x1), (2, .int x2)]) (st' := [.int (am_i 1), .int (am_i 5), .ref 3261]) rfl ?_
  obtain ⟨q6, hq6, hm⟩ := am_bE hm
  refine ms_callVv (M2 := mt_X9_counts) (d2 := 1) (ci := 7) [.int (am_i 5), .int (am_i 1)] (am_fd ck_X9_moves (pc := 31) rfl) ok_X9_counts tw_941 tw_943 ts_27 (by decide) kc_3261 (Nat.le_of_ble_eq_true rfl) (Nat.le_of_ble_eq_true rfl) (x_X9_counts hL hq6) ?_
  cases hm
  exact am_end (am_fd ck_X9_moves (pc := 34) rfl) am_rV rfl rfl
set_option maxRecDepth 100000 in
set_option maxHeartbeats 4000000 in
theorem x_X9_move {G : am_G} {m : am_m} {r : am_rr} {x1 : Int32} {x2 : Int32} {res : Int32 × am_m} (hL : am_Lay r) (hm : m_X9_move m x1 x2 = some res) : am_Met G mt_X9_move 5 [.ref 3261, .int x1, .int x2] (am_hh m r) (some (.int res.1)) (am_hh res.2 r) := by
  refine am_of (by decide) (Nat.le_of_ble_eq_true rfl) ?_
  unfold m_X9_move at hm
  show am_W G mt_X9_move 5 _ _ 0 [(0, .ref 3261), (1, .int x1), (2, .int x2)] [] (am_hh m r)
  refine am_steps ck_X9_move 3 (pc' := 3) (lv' := [(0, .ref 3261), (1, .int x1), (2, .int x2)]) (st' := [.int x2, .int x1, .ref 3261]) rfl ?_
  obtain ⟨q1, hq1, hm⟩ := am_bE hm
  refine ms_callV (M2 := mt_X9_canMove) (d2 := 4) (ci := 7) [.int x1, .int x2] (am_fd ck_X9_move (pc := 3) rfl) ok_X9_canMove tw_1015 tw_1017 ts_37 (by decide) kc_3261 (Nat.le_of_ble_eq_true rfl) (Nat.le_of_ble_eq_true rfl) (x_X9_canMove hL hq1) ?_
  refine am_ifc (tgt := 11) (am_fd ck_X9_move (pc := 6) rfl) rfl (fun hc2 => ?_) (fun hc2 => ?_)
  · replace hm := am_it hm hc2
    refine am_steps ck_X9_move 1 (pc' := 12) (lv' := [(0, .ref 3261), (1, .int x1), (2, .int x2)]) (st' := [.ref 3261]) rfl ?_
    obtain ⟨q3, hq3, hm⟩ := am_bE hm
    refine ms_callVv (M2 := mt_X9_remembers) (d2 := 1) (ci := 7) [] (am_fd ck_X9_move (pc := 12) rfl) ok_X9_remembers tw_962 tw_964 ts_29 (by decide) kc_3261 (Nat.le_of_ble_eq_true rfl) (Nat.le_of_ble_eq_true rfl) (x_X9_remembers hL hq3) ?_
    refine am_steps ck_X9_move 3 (pc' := 18) (lv' := [(0, .ref 3261), (1, .int x1), (2, .int x2)]) (st' := [.int x2, .int x1, .ref 3261]) rfl ?_
    obtain ⟨q4, hq4, hm⟩ := am_bE hm
    refine ms_callVv (M2 := mt_X9_moves) (d2 := 2) (ci := 7) [.int x1, .int x2] (am_fd ck_X9_move (pc := 18) rfl) ok_X9_moves tw_1027 tw_1029 ts_40 (by decide) kc_3261 (Nat.le_of_ble_eq_true rfl) (Nat.le_of_ble_eq_true rfl) (x_X9_moves hL hq4) ?_
    refine am_steps ck_X9_move 2 (pc' := 23) (lv' := [(0, .ref 3261), (1, .int x1), (2, .int x2)]) (st' := [.int x1, .ref 3261]) rfl ?_
    obtain ⟨q5, hq5, hm⟩ := am_bE hm
    refine ms_callV (M2 := mt_X9_branchMany) (d2 := 3) (ci := 7) [.int x1] (am_fd ck_X9_move (pc := 23) rfl) ok_X9_branchMany tw_1031 tw_1033 ts_41 (by decide) kc_3261 (Nat.le_of_ble_eq_true rfl) (Nat.le_of_ble_eq_true rfl) (x_X9_branchMany hL hq5) ?_
    cases hm
    exact am_end (am_fd ck_X9_move (pc := 26) rfl) am_rI rfl rfl
  · replace hm := am_if hm hc2
    refine am_steps ck_X9_move 1 (pc' := 10) (lv' := [(0, .ref 3261), (1, .int x1), (2, .int x2)]) (st' := [.int (am_i (-1))]) rfl ?_
    cases hm
    exact am_end (am_fd ck_X9_move (pc := 10) rfl) am_rI rfl rfl
set_option maxRecDepth 100000 in
set_option maxHeartbeats 4000000 in
theorem x_X9_parted_3 {G : am_G} {x1 : Int32} {x2 : Int32} {x3 : Int32} {r : am_rr} {y1 : Int32} {y2 : Int32} {y3 : Int32} {res : Int32 × am_m} {k : am_m → Option (Int32 × am_m)} (hL : am_Lay r) : ∀ (n : Nat) (z4 : Int32) (m : am_m), m_X9_parted_3 x1 x2 x3 y1 y2 y3 k n z4 m = some res → (∀ (m1 : am_m), k m1 = some res → am_W G mt_X9_parted 3 (some (.int res.1)) (am_hh res.2 r) 75 [(0, .ref 3261)] [] (am_hh m1 r)) → am_W G mt_X9_parted 3 (some (.int res.1)) (am_hh res.2 r) 3 [(0, .ref 3261), (1, .int y1), (2, .int y2), (3, .int y3), (4, .int z4)] [] (am_hh m r) := by
  intro n
  induction n with
  | zero => intro z4 m hm K; cases hm
  | succ n ih =>
    intro z4 m hm K
    unfold m_X9_parted_3 at hm
    refine am_steps ck_X9_parted 2 (pc' := 7) (lv' := [(0, .ref 3261), (1, .int y1), (2, .int y2), (3, .int y3), (4, .int z4)]) (st' := [.int (am_i 64), .int z4]) rfl ?_
    refine am_icmp (tgt := 75) (am_fd ck_X9_parted (pc := 7) rfl) rfl (fun hc1 => ?_) (fun hc1 => ?_)
    · replace hm := am_it hm hc1
      refine am_subp [0] rfl ?_
      exact K _ hm
    · replace hm := am_if hm hc1
      refine am_steps ck_X9_parted 3 (pc' := 14) (lv' := [(0, .ref 3261), (1, .int y1), (2, .int y2), (3, .int y3), (4, .int z4)]) (st' := [.int y3, .int y2, .int z4]) rfl ?_
      obtain ⟨q2, hq2, hm⟩ := am_bE hm
      refine ms_callS (M2 := mt_X9_isIn) (d2 := 1) [.int z4, .int y2, .int y3] (am_fd ck_X9_parted (pc := 14) rfl) ok_X9_isIn tw_953 tw_954 (Nat.le_of_ble_eq_true rfl) (Nat.le_of_ble_eq_true rfl) (x_X9_isIn hL hq2) ?_
      refine am_steps ck_X9_parted 2 (pc' := 20) (lv' := [(5, .int q2), (0, .ref 3261), (1, .int y1), (2, .int y2), (3, .int y3), (4, .int z4)]) (st' := [.ref 3261]) rfl ?_
      refine ms_getr (ci := 7) (k := 6) (v := 3266) (am_fd ck_X9_parted (pc := 20) rfl) tw_881 kc_3261 rfl (ly_3261_6 hL) kc_3266 ?_
      refine am_steps ck_X9_parted 2 (pc' := 27) (lv' := [(5, .int q2), (0, .ref 3261), (1, .int y1), (2, .int y2), (3, .int y3), (4, .int z4)]) (st' := [.int q2, .int z4, .ref 3266]) rfl ?_
      refine am_ifc (tgt := 42) (am_fd ck_X9_parted (pc := 27) rfl) rfl (fun hc3 => ?_) (fun hc3 => ?_)
      · replace hm := am_it hm hc3
        refine am_steps ck_X9_parted 1 (pc' := 43) (lv' := [(5, .int q2), (0, .ref 3261), (1, .int y1), (2, .int y2), (3, .int y3), (4, .int z4)]) (st' := [.int (am_i 0), .int z4, .ref 3266]) rfl ?_
        obtain ⟨hb4, hm⟩ := am_gE hm
        refine ms_iast (n := 64) (am_fd ck_X9_parted (pc := 43) rfl) kc_3266 hb4 (fun m5 em5 => ?_)
        replace hm := am_letE em5 hm
        refine am_steps ck_X9_parted 1 (pc' := 45) (lv' := [(5, .int q2), (0, .ref 3261), (1, .int y1), (2, .int y2), (3, .int y3), (4, .int z4)]) (st' := [.ref 3261]) rfl ?_
        refine ms_getr (ci := 7) (k := 7) (v := 3267) (am_fd ck_X9_parted (pc := 45) rfl) tw_882 kc_3261 rfl (ly_3261_7 hL) kc_3267 ?_
        refine am_steps ck_X9_parted 2 (pc' := 52) (lv' := [(5, .int q2), (0, .ref 3261), (1, .int y1), (2, .int y2), (3, .int y3), (4, .int z4)]) (st' := [.int q2, .int z4, .ref 3267]) rfl ?_
        refine am_ifc (tgt := 59) (am_fd ck_X9_parted (pc := 52) rfl) rfl (fun hc6 => ?_) (fun hc6 => ?_)
        · replace hm := am_it hm hc6
          refine am_steps ck_X9_parted 1 (pc' := 60) (lv' := [(5, .int q2), (0, .ref 3261), (1, .int y1), (2, .int y2), (3, .int y3), (4, .int z4)]) (st' := [.ref 3261, .int z4, .ref 3267]) rfl ?_
          refine ms_getr (ci := 7) (k := 0) (v := 3262) (am_fd ck_X9_parted (pc := 60) rfl) tw_875 kc_3261 rfl (ly_3261_0 hL) kc_3262 ?_
          refine am_steps ck_X9_parted 3 (pc' := 67) (lv' := [(5, .int q2), (0, .ref 3261), (1, .int y1), (2, .int y2), (3, .int y3), (4, .int z4)]) (st' := [.int (y1 + z4), .ref 3262, .int z4, .ref 3267]) rfl ?_
          obtain ⟨hb7, hm⟩ := am_gE hm
          refine ms_iald (n := 15517) (am_fd ck_X9_parted (pc := 67) rfl) kc_3262 hb7 ?_
          obtain ⟨hb8, hm⟩ := am_gE hm
          refine ms_iast (n := 64) (am_fd ck_X9_parted (pc := 68) rfl) kc_3267 hb8 (fun m9 em9 => ?_)
          replace hm := am_letE em9 hm
          refine am_steps ck_X9_parted 2 (pc' := 3) (lv' := [(4, .int (z4 + am_i 1)), (5, .int q2), (0, .ref 3261), (1, .int y1), (2, .int y2), (3, .int y3)]) (st' := []) rfl ?_
          refine am_subp [2, 3, 4, 5, 0] rfl ?_
          exact ih _ _ hm K
        · replace hm := am_if hm hc6
          refine am_steps ck_X9_parted 2 (pc' := 68) (lv' := [(5, .int q2), (0, .ref 3261), (1, .int y1), (2, .int y2), (3, .int y3), (4, .int z4)]) (st' := [.int (am_i 0), .int z4, .ref 3267]) rfl ?_
          obtain ⟨hb10, hm⟩ := am_gE hm
          refine ms_iast (n := 64) (am_fd ck_X9_parted (pc := 68) rfl) kc_3267 hb10 (fun m11 em11 => ?_)
          replace hm := am_letE em11 hm
          refine am_steps ck_X9_parted 2 (pc' := 3) (lv' := [(4, .int (z4 + am_i 1)), (5, .int q2), (0, .ref 3261), (1, .int y1), (2, .int y2), (3, .int y3)]) (st' := []) rfl ?_
          refine am_subp [2, 3, 4, 5, 0] rfl ?_
          exact ih _ _ hm K
      · replace hm := am_if hm hc3
        refine am_steps ck_X9_parted 1 (pc' := 31) (lv' := [(5, .int q2), (0, .ref 3261), (1, .int y1), (2, .int y2), (3, .int y3), (4, .int z4)]) (st' := [.ref 3261, .int z4, .ref 3266]) rfl ?_
        refine ms_getr (ci := 7) (k := 0) (v := 3262) (am_fd ck_X9_parted (pc := 31) rfl) tw_875 kc_3261 rfl (ly_3261_0 hL) kc_3262 ?_
        refine am_steps ck_X9_parted 3 (pc' := 38) (lv' := [(5, .int q2), (0, .ref 3261), (1, .int y1), (2, .int y2), (3, .int y3), (4, .int z4)]) (st' := [.int (y1 + z4), .ref 3262, .int z4, .ref 3266]) rfl ?_
        obtain ⟨hb12, hm⟩ := am_gE hm
        refine ms_iald (n := 15517) (am_fd ck_X9_parted (pc := 38) rfl) kc_3262 hb12 ?_
        refine am_steps ck_X9_parted 1 (pc' := 43) (lv' := [(5, .int q2), (0, .ref 3261), (1, .int y1), (2, .int y2), (3, .int y3), (4, .int z4)]) (st' := [.int (m 3262 (am_ix (y1 + z4))), .int z4, .ref 3266]) rfl ?_
        obtain ⟨hb13, hm⟩ := am_gE hm
        refine ms_iast (n := 64) (am_fd ck_X9_parted (pc := 43) rfl) kc_3266 hb13 (fun m14 em14 => ?_)
        replace hm := am_letE em14 hm
        refine am_steps ck_X9_parted 1 (pc' := 45) (lv' := [(5, .int q2), (0, .ref 3261), (1, .int y1), (2, .int y2), (3, .int y3), (4, .int z4)]) (st' := [.ref 3261]) rfl ?_
        refine ms_getr (ci := 7) (k := 7) (v := 3267) (am_fd ck_X9_parted (pc := 45) rfl) tw_882 kc_3261 rfl (ly_3261_7 hL) kc_3267 ?_
        refine am_steps ck_X9_parted 2 (pc' := 52) (lv' := [(5, .int q2), (0, .ref 3261), (1, .int y1), (2, .int y2), (3, .int y3), (4, .int z4)]) (st' := [.int q2, .int z4, .ref 3267]) rfl ?_
        refine am_ifc (tgt := 59) (am_fd ck_X9_parted (pc := 52) rfl) rfl (fun hc15 => ?_) (fun hc15 => ?_)
        · replace hm := am_it hm hc15
          refine am_steps ck_X9_parted 1 (pc' := 60) (lv' := [(5, .int q2), (0, .ref 3261), (1, .int y1), (2, .int y2), (3, .int y3), (4, .int z4)]) (st' := [.ref 3261, .int z4, .ref 3267]) rfl ?_
          refine ms_getr (ci := 7) (k := 0) (v := 3262) (am_fd ck_X9_parted (pc := 60) rfl) tw_875 kc_3261 rfl (ly_3261_0 hL) kc_3262 ?_
          refine am_steps ck_X9_parted 3 (pc' := 67) (lv' := [(5, .int q2), (0, .ref 3261), (1, .int y1), (2, .int y2), (3, .int y3), (4, .int z4)]) (st' := [.int (y1 + z4), .ref 3262, .int z4, .ref 3267]) rfl ?_
          obtain ⟨hb16, hm⟩ := am_gE hm
          refine ms_iald (n := 15517) (am_fd ck_X9_parted (pc := 67) rfl) kc_3262 hb16 ?_
          obtain ⟨hb17, hm⟩ := am_gE hm
          refine ms_iast (n := 64) (am_fd ck_X9_parted (pc := 68) rfl) kc_3267 hb17 (fun m18 em18 => ?_)
          replace hm := am_letE em18 hm
          refine am_steps ck_X9_parted 2 (pc' := 3) (lv' := [(4, .int (z4 + am_i 1)), (5, .int q2), (0, .ref 3261), (1, .int y1), (2, .int y2), (3, .int y3)]) (st' := []) rfl ?_
          refine am_subp [2, 3, 4, 5, 0] rfl ?_
          exact ih _ _ hm K
        · replace hm := am_if hm hc15
          refine am_steps ck_X9_parted 2 (pc' := 68) (lv' := [(5, .int q2), (0, .ref 3261), (1, .int y1), (2, .int y2), (3, .int y3), (4, .int z4)]) (st' := [.int (am_i 0), .int z4, .ref 3267]) rfl ?_
          obtain ⟨hb19, hm⟩ := am_gE hm
          refine ms_iast (n := 64) (am_fd ck_X9_parted (pc := 68) rfl) kc_3267 hb19 (fun m20 em20 => ?_)
          replace hm := am_letE em20 hm
          refine am_steps ck_X9_parted 2 (pc' := 3) (lv' := [(4, .int (z4 + am_i 1)), (5, .int q2), (0, .ref 3261), (1, .int y1), (2, .int y2), (3, .int y3)]) (st' := []) rfl ?_
          refine am_subp [2, 3, 4, 5, 0] rfl ?_
          exact ih _ _ hm K
set_option maxRecDepth 100000 in
set_option maxHeartbeats 4000000 in
theorem x_X9_parted {G : am_G} {m : am_m} {r : am_rr} {x1 : Int32} {x2 : Int32} {x3 : Int32} {res : Int32 × am_m} (hL : am_Lay r) (hm : m_X9_parted m x1 x2 x3 = some res) : am_Met G mt_X9_parted 3 [.ref 3261, .int x1, .int x2, .int x3] (am_hh m r) (some (.int res.1)) (am_hh res.2 r) := by
  refine am_of (by decide) (Nat.le_of_ble_eq_true rfl) ?_
  unfold m_X9_parted at hm
  show am_W G mt_X9_parted 3 _ _ 0 [(0, .ref 3261), (1, .int x1), (2, .int x2), (3, .int x3)] [] (am_hh m r)
  refine am_steps ck_X9_parted 2 (pc' := 3) (lv' := [(4, .int (am_i 0)), (0, .ref 3261), (1, .int x1), (2, .int x2), (3, .int x3)]) (st' := []) rfl ?_
  refine am_subp [1, 2, 3, 4, 0] rfl ?_
  refine x_X9_parted_3 hL am_F _ _ hm (fun m21 hm => ?_)
  refine am_steps ck_X9_parted 1 (pc' := 76) (lv' := [(0, .ref 3261)]) (st' := [.ref 3261]) rfl ?_
  refine ms_getr (ci := 7) (k := 6) (v := 3266) (am_fd ck_X9_parted (pc := 76) rfl) tw_881 kc_3261 rfl (ly_3261_6 hL) kc_3266 ?_
  refine am_steps ck_X9_parted 1 (pc' := 80) (lv' := [(0, .ref 3261)]) (st' := [.ref 3261, .ref 3266]) rfl ?_
  refine ms_getr (ci := 7) (k := 7) (v := 3267) (am_fd ck_X9_parted (pc := 80) rfl) tw_882 kc_3261 rfl (ly_3261_7 hL) kc_3267 ?_
  obtain ⟨q22, hq22, hm⟩ := am_bE hm
  refine ms_callS (M2 := mt_X9_common) (d2 := 2) [.ref 3266, .ref 3267] (am_fd ck_X9_parted (pc := 83) rfl) ok_X9_common tw_1005 tw_1006 (Nat.le_of_ble_eq_true rfl) (Nat.le_of_ble_eq_true rfl) (x_X9_common hL kc_3266 kc_3267 hq22) ?_
  cases hm
  exact am_end (am_fd ck_X9_parted (pc := 86) rfl) am_rI rfl rfl
set_option maxRecDepth 100000 in
set_option maxHeartbeats 4000000 in
theorem x_X9_give {G : am_G} {m : am_m} {r : am_rr} {x1 : Int32} {x2 : Int32} {x3 : Int32} {x4 : Int32} {res : Int32 × am_m} (hL : am_Lay r) (hm : m_X9_give m x1 x2 x3 x4 = some res) : am_Met G mt_X9_give 4 [.ref 3261, .int x1, .int x2, .int x3, .int x4] (am_hh m r) (some (.int res.1)) (am_hh res.2 r) := by
  refine am_of (by decide) (Nat.le_of_ble_eq_true rfl) ?_
  unfold m_X9_give at hm
  show am_W G mt_X9_give 4 _ _ 0 [(0, .ref 3261), (1, .int x1), (2, .int x2), (3, .int x3), (4, .int x4)] [] (am_hh m r)
  refine am_steps ck_X9_give 2 (pc' := 2) (lv' := [(0, .ref 3261), (1, .int x1), (2, .int x2), (3, .int x3), (4, .int x4)]) (st' := [.int x1, .ref 3261]) rfl ?_
  obtain ⟨q1, hq1, hm⟩ := am_bE hm
  refine ms_callV (M2 := mt_X9_isUnit) (d2 := 2) (ci := 7) [.int x1] (am_fd ck_X9_give (pc := 2) rfl) ok_X9_isUnit tw_949 tw_951 ts_28 (by decide) kc_3261 (Nat.le_of_ble_eq_true rfl) (Nat.le_of_ble_eq_true rfl) (x_X9_isUnit hL hq1) ?_
  refine am_ifc (tgt := 54) (am_fd ck_X9_give (pc := 5) rfl) rfl (fun hc2 => ?_) (fun hc2 => ?_)
  · replace hm := am_it hm hc2
    refine am_steps ck_X9_give 1 (pc' := 55) (lv' := [(0, .ref 3261), (1, .int x1), (2, .int x2), (3, .int x3), (4, .int x4)]) (st' := [.int (am_i (-1))]) rfl ?_
    cases hm
    exact am_end (am_fd ck_X9_give (pc := 55) rfl) am_rI rfl rfl
  · replace hm := am_if hm hc2
    refine am_steps ck_X9_give 2 (pc' := 10) (lv' := [(0, .ref 3261), (1, .int x1), (2, .int x2), (3, .int x3), (4, .int x4)]) (st' := [.int x2, .ref 3261]) rfl ?_
    obtain ⟨q3, hq3, hm⟩ := am_bE hm
    refine ms_callV (M2 := mt_X9_isUnit) (d2 := 2) (ci := 7) [.int x2] (am_fd ck_X9_give (pc := 10) rfl) ok_X9_isUnit tw_949 tw_951 ts_28 (by decide) kc_3261 (Nat.le_of_ble_eq_true rfl) (Nat.le_of_ble_eq_true rfl) (x_X9_isUnit hL hq3) ?_
    refine am_ifc (tgt := 54) (am_fd ck_X9_give (pc := 13) rfl) rfl (fun hc4 => ?_) (fun hc4 => ?_)
    · replace hm := am_it hm hc4
      refine am_steps ck_X9_give 1 (pc' := 55) (lv' := [(0, .ref 3261), (1, .int x1), (2, .int x2), (3, .int x3), (4, .int x4)]) (st' := [.int (am_i (-1))]) rfl ?_
      cases hm
      exact am_end (am_fd ck_X9_give (pc := 55) rfl) am_rI rfl rfl
    · replace hm := am_if hm hc4
      refine am_steps ck_X9_give 2 (pc' := 18) (lv' := [(0, .ref 3261), (1, .int x1), (2, .int x2), (3, .int x3), (4, .int x4)]) (st' := [.int x2, .int x1]) rfl ?_
      refine am_icmp (tgt := 54) (am_fd ck_X9_give (pc := 18) rfl) rfl (fun hc5 => ?_) (fun hc5 => ?_)
      · replace hm := am_it hm hc5
        refine am_steps ck_X9_give 1 (pc' := 55) (lv' := [(0, .ref 3261), (1, .int x1), (2, .int x2), (3, .int x3), (4, .int x4)]) (st' := [.int (am_i (-1))]) rfl ?_
        cases hm
        exact am_end (am_fd ck_X9_give (pc := 55) rfl) am_rI rfl rfl
      · replace hm := am_if hm hc5
        refine am_steps ck_X9_give 1 (pc' := 22) (lv' := [(0, .ref 3261), (1, .int x1), (2, .int x2), (3, .int x3), (4, .int x4)]) (st' := [.int x3]) rfl ?_
        obtain ⟨q6, hq6, hm⟩ := am_bE hm
        refine ms_callS (M2 := mt_X9_isCategory) (d2 := 2) [.int x3] (am_fd ck_X9_give (pc := 22) rfl) ok_X9_isCategory tw_956 tw_957 (Nat.le_of_ble_eq_true rfl) (Nat.le_of_ble_eq_true rfl) (x_X9_isCategory hL hq6) ?_
        refine am_ifc (tgt := 54) (am_fd ck_X9_give (pc := 25) rfl) rfl (fun hc7 => ?_) (fun hc7 => ?_)
        · replace hm := am_it hm hc7
          refine am_steps ck_X9_give 1 (pc' := 55) (lv' := [(0, .ref 3261), (1, .int x1), (2, .int x2), (3, .int x3), (4, .int x4)]) (st' := [.int (am_i (-1))]) rfl ?_
          cases hm
          exact am_end (am_fd ck_X9_give (pc := 55) rfl) am_rI rfl rfl
        · replace hm := am_if hm hc7
          refine am_steps ck_X9_give 1 (pc' := 30) (lv' := [(0, .ref 3261), (1, .int x1), (2, .int x2), (3, .int x3), (4, .int x4)]) (st' := [.int x4]) rfl ?_
          obtain ⟨q8, hq8, hm⟩ := am_bE hm
          refine ms_callS (M2 := mt_X9_isCategory) (d2 := 2) [.int x4] (am_fd ck_X9_give (pc := 30) rfl) ok_X9_isCategory tw_956 tw_957 (Nat.le_of_ble_eq_true rfl) (Nat.le_of_ble_eq_true rfl) (x_X9_isCategory hL hq8) ?_
          refine am_ifc (tgt := 54) (am_fd ck_X9_give (pc := 33) rfl) rfl (fun hc9 => ?_) (fun hc9 => ?_)
          · replace hm := am_it hm hc9
            refine am_steps ck_X9_give 1 (pc' := 55) (lv' := [(0, .ref 3261), (1, .int x1), (2, .int x2), (3, .int x3), (4, .int x4)]) (st' := [.int (am_i (-1))]) rfl ?_
            cases hm
            exact am_end (am_fd ck_X9_give (pc := 55) rfl) am_rI rfl rfl
          · replace hm := am_if hm hc9
            refine am_steps ck_X9_give 2 (pc' := 39) (lv' := [(0, .ref 3261), (1, .int x1), (2, .int x2), (3, .int x3), (4, .int x4)]) (st' := [.int x4, .int x3]) rfl ?_
            refine am_icmp (tgt := 54) (am_fd ck_X9_give (pc := 39) rfl) rfl (fun hc10 => ?_) (fun hc10 => ?_)
            · replace hm := am_it hm hc10
              refine am_steps ck_X9_give 1 (pc' := 55) (lv' := [(0, .ref 3261), (1, .int x1), (2, .int x2), (3, .int x3), (4, .int x4)]) (st' := [.int (am_i (-1))]) rfl ?_
              cases hm
              exact am_end (am_fd ck_X9_give (pc := 55) rfl) am_rI rfl rfl
            · replace hm := am_if hm hc10
              refine am_steps ck_X9_give 5 (pc' := 48) (lv' := [(0, .ref 3261), (1, .int x1), (2, .int x2), (3, .int x3), (4, .int x4)]) (st' := [.int x4, .int x3, .int x2, .int x1, .ref 3261]) rfl ?_
              obtain ⟨q11, hq11, hm⟩ := am_bE hm
              refine ms_callV (M2 := mt_X9_canTake) (d2 := 2) (ci := 7) [.int x1, .int x2, .int x3, .int x4] (am_fd ck_X9_give (pc := 48) rfl) ok_X9_canTake tw_993 tw_995 ts_34 (by decide) kc_3261 (Nat.le_of_ble_eq_true rfl) (Nat.le_of_ble_eq_true rfl) (x_X9_canTake hL hq11) ?_
              refine am_ifc (tgt := 56) (am_fd ck_X9_give (pc := 51) rfl) rfl (fun hc12 => ?_) (fun hc12 => ?_)
              · replace hm := am_it hm hc12
                refine am_steps ck_X9_give 1 (pc' := 57) (lv' := [(0, .ref 3261), (1, .int x1), (2, .int x2), (3, .int x3), (4, .int x4)]) (st' := [.ref 3261]) rfl ?_
                obtain ⟨q13, hq13, hm⟩ := am_bE hm
                refine ms_callVv (M2 := mt_X9_remembers) (d2 := 1) (ci := 7) [] (am_fd ck_X9_give (pc := 57) rfl) ok_X9_remembers tw_962 tw_964 ts_29 (by decide) kc_3261 (Nat.le_of_ble_eq_true rfl) (Nat.le_of_ble_eq_true rfl) (x_X9_remembers hL hq13) ?_
                refine am_steps ck_X9_give 2 (pc' := 62) (lv' := [(0, .ref 3261), (1, .int x1), (2, .int x2), (3, .int x3), (4, .int x4)]) (st' := [.int x1, .ref 3261]) rfl ?_
                obtain ⟨q14, hq14, hm⟩ := am_bE hm
                refine ms_callS (M2 := mt_X9_ownAt) (d2 := 1) [.int x1] (am_fd ck_X9_give (pc := 62) rfl) ok_X9_ownAt tw_959 tw_960 (Nat.le_of_ble_eq_true rfl) (Nat.le_of_ble_eq_true rfl) (x_X9_ownAt hL hq14) ?_
                refine am_steps ck_X9_give 2 (pc' := 68) (lv' := [(0, .ref 3261), (1, .int x1), (2, .int x2), (3, .int x3), (4, .int x4)]) (st' := [.int x4, .int x3, .int q14, .ref 3261]) rfl ?_
                obtain ⟨q15, hq15, hm⟩ := am_bE hm
                refine ms_callV (M2 := mt_X9_parted) (d2 := 3) (ci := 7) [.int q14, .int x3, .int x4] (am_fd ck_X9_give (pc := 68) rfl) ok_X9_parted tw_1039 tw_1041 ts_42 (by decide) kc_3261 (Nat.le_of_ble_eq_true rfl) (Nat.le_of_ble_eq_true rfl) (x_X9_parted hL hq15) ?_
                refine am_steps ck_X9_give 2 (pc' := 74) (lv' := [(5, .int q15.1), (0, .ref 3261), (1, .int x1), (2, .int x2), (3, .int x3), (4, .int x4)]) (st' := [.ref 3261]) rfl ?_
                refine ms_getr (ci := 7) (k := 6) (v := 3266) (am_fd ck_X9_give (pc := 74) rfl) tw_881 kc_3261 rfl (ly_3261_6 hL) kc_3266 ?_
                obtain ⟨q16, hq16, hm⟩ := am_bE hm
                refine ms_callS (M2 := mt_X9_all) (d2 := 1) [.ref 3266] (am_fd ck_X9_give (pc := 77) rfl) ok_X9_all tw_1043 tw_1044 (Nat.le_of_ble_eq_true rfl) (Nat.le_of_ble_eq_true rfl) (x_X9_all hL kc_3266 hq16) ?_
                refine am_steps ck_X9_give 4 (pc' := 86) (lv' := [(6, .int q16), (5, .int q15.1), (0, .ref 3261), (1, .int x1), (2, .int x2), (3, .int x3), (4, .int x4)]) (st' := [.int q15.1, .int (am_i 1), .ref 3261]) rfl ?_
                obtain ⟨q17, hq17, hm⟩ := am_bE hm
                refine ms_callVv (M2 := mt_X9_counts) (d2 := 1) (ci := 7) [.int (am_i 1), .int q15.1] (am_fd ck_X9_give (pc := 86) rfl) ok_X9_counts tw_941 tw_943 ts_27 (by decide) kc_3261 (Nat.le_of_ble_eq_true rfl) (Nat.le_of_ble_eq_true rfl) (x_X9_counts hL hq17) ?_
                refine am_steps ck_X9_give 3 (pc' := 92) (lv' := [(6, .int q16), (5, .int q15.1), (0, .ref 3261), (1, .int x1), (2, .int x2), (3, .int x3), (4, .int x4)]) (st' := [.int (am_i 1), .int (am_i 3), .ref 3261]) rfl ?_
                obtain ⟨q18, hq18, hm⟩ := am_bE hm
                refine ms_callVv (M2 := mt_X9_counts) (d2 := 1) (ci := 7) [.int (am_i 3), .int (am_i 1)] (am_fd ck_X9_give (pc := 92) rfl) ok_X9_counts tw_941 tw_943 ts_27 (by decide) kc_3261 (Nat.le_of_ble_eq_true rfl) (Nat.le_of_ble_eq_true rfl) (x_X9_counts hL hq18) ?_
                refine am_steps ck_X9_give 3 (pc' := 100) (lv' := [(6, .int q16), (5, .int q15.1), (0, .ref 3261), (1, .int x1), (2, .int x2), (3, .int x3), (4, .int x4)]) (st' := [.int q16, .int (am_i 8), .ref 3261]) rfl ?_
                obtain ⟨q19, hq19, hm⟩ := am_bE hm
                refine ms_callVv (M2 := mt_X9_counts) (d2 := 1) (ci := 7) [.int (am_i 8), .int q16] (am_fd ck_X9_give (pc := 100) rfl) ok_X9_counts tw_941 tw_943 ts_27 (by decide) kc_3261 (Nat.le_of_ble_eq_true rfl) (Nat.le_of_ble_eq_true rfl) (x_X9_counts hL hq19) ?_
                refine am_steps ck_X9_give 5 (pc' := 109) (lv' := [(6, .int q16), (5, .int q15.1), (0, .ref 3261), (1, .int x1), (2, .int x2), (3, .int x3), (4, .int x4)]) (st' := [.int x4, .int x3, .int x2, .int x1, .ref 3261]) rfl ?_
                obtain ⟨q20, hq20, hm⟩ := am_bE hm
                refine ms_callV (M2 := mt_X9_takes) (d2 := 3) (ci := 7) [.int x1, .int x2, .int x3, .int x4] (am_fd ck_X9_give (pc := 109) rfl) ok_X9_takes tw_997 tw_999 ts_35 (by decide) kc_3261 (Nat.le_of_ble_eq_true rfl) (Nat.le_of_ble_eq_true rfl) (x_X9_takes hL hq20) ?_
                refine am_steps ck_X9_give 3 (pc' := 116) (lv' := [(7, .int q20.1), (6, .int q16), (5, .int q15.1), (0, .ref 3261), (1, .int x1), (2, .int x2), (3, .int x3), (4, .int x4)]) (st' := [.int x1, .ref 3261]) rfl ?_
                obtain ⟨q21, hq21, hm⟩ := am_bE hm
                refine ms_callVv (M2 := mt_X9_isStaleFrom) (d2 := 1) (ci := 7) [.int x1] (am_fd ck_X9_give (pc := 116) rfl) ok_X9_isStaleFrom tw_966 tw_968 ts_30 (by decide) kc_3261 (Nat.le_of_ble_eq_true rfl) (Nat.le_of_ble_eq_true rfl) (x_X9_isStaleFrom hL hq21) ?_
                refine am_steps ck_X9_give 2 (pc' := 121) (lv' := [(7, .int q20.1), (6, .int q16), (5, .int q15.1), (0, .ref 3261), (1, .int x1), (2, .int x2), (3, .int x3), (4, .int x4)]) (st' := [.int x2, .ref 3261]) rfl ?_
                obtain ⟨q22, hq22, hm⟩ := am_bE hm
                refine ms_callVv (M2 := mt_X9_isStaleFrom) (d2 := 1) (ci := 7) [.int x2] (am_fd ck_X9_give (pc := 121) rfl) ok_X9_isStaleFrom tw_966 tw_968 ts_30 (by decide) kc_3261 (Nat.le_of_ble_eq_true rfl) (Nat.le_of_ble_eq_true rfl) (x_X9_isStaleFrom hL hq22) ?_
                refine am_steps ck_X9_give 1 (pc' := 126) (lv' := [(7, .int q20.1), (6, .int q16), (5, .int q15.1), (0, .ref 3261), (1, .int x1), (2, .int x2), (3, .int x3), (4, .int x4)]) (st' := [.int q20.1]) rfl ?_
                refine am_ifc (tgt := 133) (am_fd ck_X9_give (pc := 126) rfl) rfl (fun hc23 => ?_) (fun hc23 => ?_)
                · replace hm := am_it hm hc23
                  refine am_steps ck_X9_give 1 (pc' := 135) (lv' := [(7, .int q20.1), (6, .int q16), (5, .int q15.1), (0, .ref 3261), (1, .int x1), (2, .int x2), (3, .int x3), (4, .int x4)]) (st' := [.int q16]) rfl ?_
                  cases hm
                  exact am_end (am_fd ck_X9_give (pc := 135) rfl) am_rI rfl rfl
                · replace hm := am_if hm hc23
                  refine am_steps ck_X9_give 2 (pc' := 135) (lv' := [(7, .int q20.1), (6, .int q16), (5, .int q15.1), (0, .ref 3261), (1, .int x1), (2, .int x2), (3, .int x3), (4, .int x4)]) (st' := [.int (am_i (-1))]) rfl ?_
                  cases hm
                  exact am_end (am_fd ck_X9_give (pc := 135) rfl) am_rI rfl rfl
              · replace hm := am_if hm hc12
                refine am_steps ck_X9_give 1 (pc' := 55) (lv' := [(0, .ref 3261), (1, .int x1), (2, .int x2), (3, .int x3), (4, .int x4)]) (st' := [.int (am_i (-1))]) rfl ?_
                cases hm
                exact am_end (am_fd ck_X9_give (pc := 55) rfl) am_rI rfl rfl
set_option maxRecDepth 100000 in
set_option maxHeartbeats 4000000 in
theorem x_X9_roll {G : am_G} {m : am_m} {r : am_rr} {x1 : Int32} {res : Int32 × am_m} (hL : am_Lay r) (hm : m_X9_roll m x1 = some res) : am_Met G mt_X9_roll 27 [.ref 3261, .int x1] (am_hh m r) (some (.int res.1)) (am_hh res.2 r) := by
  refine am_of (by decide) (Nat.le_of_ble_eq_true rfl) ?_
  unfold m_X9_roll at hm
  show am_W G mt_X9_roll 27 _ _ 0 [(0, .ref 3261), (1, .int x1)] [] (am_hh m r)
  refine am_steps ck_X9_roll 2 (pc' := 2) (lv' := [(0, .ref 3261), (1, .int x1)]) (st' := [.int x1, .ref 3261]) rfl ?_
  obtain ⟨q1, hq1, hm⟩ := am_bE hm
  refine ms_callV (M2 := mt_X9_isUnit) (d2 := 2) (ci := 7) [.int x1] (am_fd ck_X9_roll (pc := 2) rfl) ok_X9_isUnit tw_949 tw_951 ts_28 (by decide) kc_3261 (Nat.le_of_ble_eq_true rfl) (Nat.le_of_ble_eq_true rfl) (x_X9_isUnit hL hq1) ?_
  refine am_ifc (tgt := 20) (am_fd ck_X9_roll (pc := 5) rfl) rfl (fun hc2 => ?_) (fun hc2 => ?_)
  · replace hm := am_it hm hc2
    refine am_steps ck_X9_roll 1 (pc' := 21) (lv' := [(0, .ref 3261), (1, .int x1)]) (st' := [.int (am_i (-1))]) rfl ?_
    cases hm
    exact am_end (am_fd ck_X9_roll (pc := 21) rfl) am_rI rfl rfl
  · replace hm := am_if hm hc2
    refine am_steps ck_X9_roll 1 (pc' := 9) (lv' := [(0, .ref 3261), (1, .int x1)]) (st' := [.ref 3261]) rfl ?_
    refine ms_getr (ci := 7) (k := 0) (v := 3262) (am_fd ck_X9_roll (pc := 9) rfl) tw_875 kc_3261 rfl (ly_3261_0 hL) kc_3262 ?_
    refine am_steps ck_X9_roll 3 (pc' := 16) (lv' := [(0, .ref 3261), (1, .int x1)]) (st' := [.int ((am_i 48) + x1), .ref 3262]) rfl ?_
    obtain ⟨hb3, hm⟩ := am_gE hm
    refine ms_iald (n := 15517) (am_fd ck_X9_roll (pc := 16) rfl) kc_3262 hb3 ?_
    refine am_ifc (tgt := 22) (am_fd ck_X9_roll (pc := 17) rfl) rfl (fun hc4 => ?_) (fun hc4 => ?_)
    · replace hm := am_it hm hc4
      refine am_steps ck_X9_roll 1 (pc' := 23) (lv' := [(0, .ref 3261), (1, .int x1)]) (st' := [.ref 3261]) rfl ?_
      obtain ⟨q5, hq5, hm⟩ := am_bE hm
      refine ms_callVv (M2 := mt_X9_remembers) (d2 := 1) (ci := 7) [] (am_fd ck_X9_roll (pc := 23) rfl) ok_X9_remembers tw_962 tw_964 ts_29 (by decide) kc_3261 (Nat.le_of_ble_eq_true rfl) (Nat.le_of_ble_eq_true rfl) (x_X9_remembers hL hq5) ?_
      refine am_steps ck_X9_roll 2 (pc' := 28) (lv' := [(0, .ref 3261), (1, .int x1)]) (st' := [.int x1, .ref 3261]) rfl ?_
      obtain ⟨q6, hq6, hm⟩ := am_bE hm
      refine ms_callV (M2 := mt_X9_rolls) (d2 := 26) (ci := 7) [.int x1] (am_fd ck_X9_roll (pc := 28) rfl) ok_X9_rolls tw_1050 tw_1052 ts_43 (by decide) kc_3261 (Nat.le_of_ble_eq_true rfl) (Nat.le_of_ble_eq_true rfl) (x_X9_rolls 20 hL hq6) ?_
      cases hm
      exact am_end (am_fd ck_X9_roll (pc := 31) rfl) am_rI rfl rfl
    · replace hm := am_if hm hc4
      refine am_steps ck_X9_roll 1 (pc' := 21) (lv' := [(0, .ref 3261), (1, .int x1)]) (st' := [.int (am_i (-1))]) rfl ?_
      cases hm
      exact am_end (am_fd ck_X9_roll (pc := 21) rfl) am_rI rfl rfl
set_option maxRecDepth 100000 in
set_option maxHeartbeats 4000000 in
theorem x_X9_recodes {G : am_G} {m : am_m} {r : am_rr} {x1 : Int32} {x2 : Int32} {x3 : Int32} {res : Int32 × am_m} (hL : am_Lay r) (hm : m_X9_recodes m x1 x2 x3 = some res) : am_Met G mt_X9_recodes 4 [.ref 3261, .int x1, .int x2, .int x3] (am_hh m r) (some (.int res.1)) (am_hh res.2 r) := by
  refine am_of (by decide) (Nat.le_of_ble_eq_true rfl) ?_
  unfold m_X9_recodes at hm
  show am_W G mt_X9_recodes 4 _ _ 0 [(0, .ref 3261), (1, .int x1), (2, .int x2), (3, .int x3)] [] (am_hh m r)
  refine am_steps ck_X9_recodes 2 (pc' := 2) (lv' := [(0, .ref 3261), (1, .int x1), (2, .int x2), (3, .int x3)]) (st' := [.int x1, .ref 3261]) rfl ?_
  obtain ⟨q1, hq1, hm⟩ := am_bE hm
  refine ms_callS (M2 := mt_X9_ownAt) (d2 := 1) [.int x1] (am_fd ck_X9_recodes (pc := 2) rfl) ok_X9_ownAt tw_959 tw_960 (Nat.le_of_ble_eq_true rfl) (Nat.le_of_ble_eq_true rfl) (x_X9_ownAt hL hq1) ?_
  refine am_steps ck_X9_recodes 2 (pc' := 7) (lv' := [(0, .ref 3261), (1, .int x1), (2, .int x2), (3, .int x3)]) (st' := [.int x2, .int x2, .int q1, .ref 3261]) rfl ?_
  obtain ⟨q2, hq2, hm⟩ := am_bE hm
  refine ms_callV (M2 := mt_X9_parted) (d2 := 3) (ci := 7) [.int q1, .int x2, .int x2] (am_fd ck_X9_recodes (pc := 7) rfl) ok_X9_parted tw_1039 tw_1041 ts_42 (by decide) kc_3261 (Nat.le_of_ble_eq_true rfl) (Nat.le_of_ble_eq_true rfl) (x_X9_parted hL hq2) ?_
  refine am_steps ck_X9_recodes 2 (pc' := 13) (lv' := [(4, .int q2.1), (0, .ref 3261), (1, .int x1), (2, .int x2), (3, .int x3)]) (st' := [.ref 3261]) rfl ?_
  refine ms_getr (ci := 7) (k := 6) (v := 3266) (am_fd ck_X9_recodes (pc := 13) rfl) tw_881 kc_3261 rfl (ly_3261_6 hL) kc_3266 ?_
  refine am_steps ck_X9_recodes 1 (pc' := 17) (lv' := [(4, .int q2.1), (0, .ref 3261), (1, .int x1), (2, .int x2), (3, .int x3)]) (st' := [.int x2, .ref 3266]) rfl ?_
  obtain ⟨hb3, hm⟩ := am_gE hm
  refine ms_iald (n := 64) (am_fd ck_X9_recodes (pc := 17) rfl) kc_3266 hb3 ?_
  refine am_steps ck_X9_recodes 4 (pc' := 24) (lv' := [(5, .int (q2.2 3266 (am_ix x2))), (4, .int q2.1), (0, .ref 3261), (1, .int x1), (2, .int x2), (3, .int x3)]) (st' := [.int q2.1, .int (am_i 1), .ref 3261]) rfl ?_
  obtain ⟨q4, hq4, hm⟩ := am_bE hm
  refine ms_callVv (M2 := mt_X9_counts) (d2 := 1) (ci := 7) [.int (am_i 1), .int q2.1] (am_fd ck_X9_recodes (pc := 24) rfl) ok_X9_counts tw_941 tw_943 ts_27 (by decide) kc_3261 (Nat.le_of_ble_eq_true rfl) (Nat.le_of_ble_eq_true rfl) (x_X9_counts hL hq4) ?_
  refine am_steps ck_X9_recodes 3 (pc' := 30) (lv' := [(5, .int (q2.2 3266 (am_ix x2))), (4, .int q2.1), (0, .ref 3261), (1, .int x1), (2, .int x2), (3, .int x3)]) (st' := [.int (am_i 1), .int (am_i 3), .ref 3261]) rfl ?_
  obtain ⟨q5, hq5, hm⟩ := am_bE hm
  refine ms_callVv (M2 := mt_X9_counts) (d2 := 1) (ci := 7) [.int (am_i 3), .int (am_i 1)] (am_fd ck_X9_recodes (pc := 30) rfl) ok_X9_counts tw_941 tw_943 ts_27 (by decide) kc_3261 (Nat.le_of_ble_eq_true rfl) (Nat.le_of_ble_eq_true rfl) (x_X9_counts hL hq5) ?_
  refine am_steps ck_X9_recodes 1 (pc' := 34) (lv' := [(5, .int (q2.2 3266 (am_ix x2))), (4, .int q2.1), (0, .ref 3261), (1, .int x1), (2, .int x2), (3, .int x3)]) (st' := [.ref 3261]) rfl ?_
  refine ms_getr (ci := 7) (k := 6) (v := 3266) (am_fd ck_X9_recodes (pc := 34) rfl) tw_881 kc_3261 rfl (ly_3261_6 hL) kc_3266 ?_
  refine am_steps ck_X9_recodes 2 (pc' := 39) (lv' := [(5, .int (q2.2 3266 (am_ix x2))), (4, .int q2.1), (0, .ref 3261), (1, .int x1), (2, .int x2), (3, .int x3)]) (st' := [.int (am_i 0), .int x2, .ref 3266]) rfl ?_
  obtain ⟨hb6, hm⟩ := am_gE hm
  refine ms_iast (n := 64) (am_fd ck_X9_recodes (pc := 39) rfl) kc_3266 hb6 (fun m7 em7 => ?_)
  replace hm := am_letE em7 hm
  refine am_steps ck_X9_recodes 1 (pc' := 41) (lv' := [(5, .int (q2.2 3266 (am_ix x2))), (4, .int q2.1), (0, .ref 3261), (1, .int x1), (2, .int x2), (3, .int x3)]) (st' := [.ref 3261]) rfl ?_
  refine ms_getr (ci := 7) (k := 6) (v := 3266) (am_fd ck_X9_recodes (pc := 41) rfl) tw_881 kc_3261 rfl (ly_3261_6 hL) kc_3266 ?_
  refine am_steps ck_X9_recodes 2 (pc' := 47) (lv' := [(5, .int (q2.2 3266 (am_ix x2))), (4, .int q2.1), (0, .ref 3261), (1, .int x1), (2, .int x2), (3, .int x3)]) (st' := [.int (q2.2 3266 (am_ix x2)), .int x3, .ref 3266]) rfl ?_
  obtain ⟨hb8, hm⟩ := am_gE hm
  refine ms_iast (n := 64) (am_fd ck_X9_recodes (pc := 47) rfl) kc_3266 hb8 (fun m9 em9 => ?_)
  replace hm := am_letE em9 hm
  refine am_steps ck_X9_recodes 3 (pc' := 51) (lv' := [(5, .int (q2.2 3266 (am_ix x2))), (4, .int q2.1), (0, .ref 3261), (1, .int x1), (2, .int x2), (3, .int x3)]) (st' := [.ref 3261, .int (am_i 0), .ref 3261]) rfl ?_
  refine ms_getr (ci := 7) (k := 6) (v := 3266) (am_fd ck_X9_recodes (pc := 51) rfl) tw_881 kc_3261 rfl (ly_3261_6 hL) kc_3266 ?_
  refine am_steps ck_X9_recodes 1 (pc' := 55) (lv' := [(5, .int (q2.2 3266 (am_ix x2))), (4, .int q2.1), (0, .ref 3261), (1, .int x1), (2, .int x2), (3, .int x3)]) (st' := [.ref 3261, .ref 3266, .int (am_i 0), .ref 3261]) rfl ?_
  refine ms_getr (ci := 7) (k := 7) (v := 3267) (am_fd ck_X9_recodes (pc := 55) rfl) tw_882 kc_3261 rfl (ly_3261_7 hL) kc_3267 ?_
  obtain ⟨q10, hq10, hm⟩ := am_bE hm
  refine ms_callS (M2 := mt_X9_common) (d2 := 2) [.ref 3266, .ref 3267] (am_fd ck_X9_recodes (pc := 58) rfl) ok_X9_common tw_1005 tw_1006 (Nat.le_of_ble_eq_true rfl) (Nat.le_of_ble_eq_true rfl) (x_X9_common hL kc_3266 kc_3267 hq10) ?_
  obtain ⟨q11, hq11, hm⟩ := am_bE hm
  refine ms_callVv (M2 := mt_X9_counts) (d2 := 1) (ci := 7) [.int (am_i 0), .int q10] (am_fd ck_X9_recodes (pc := 61) rfl) ok_X9_counts tw_941 tw_943 ts_27 (by decide) kc_3261 (Nat.le_of_ble_eq_true rfl) (Nat.le_of_ble_eq_true rfl) (x_X9_counts hL hq11) ?_
  refine am_steps ck_X9_recodes 3 (pc' := 67) (lv' := [(5, .int (q2.2 3266 (am_ix x2))), (4, .int q2.1), (0, .ref 3261), (1, .int x1), (2, .int x2), (3, .int x3)]) (st' := [.int (am_i 1), .int (am_i 2), .ref 3261]) rfl ?_
  obtain ⟨q12, hq12, hm⟩ := am_bE hm
  refine ms_callVv (M2 := mt_X9_counts) (d2 := 1) (ci := 7) [.int (am_i 2), .int (am_i 1)] (am_fd ck_X9_recodes (pc := 67) rfl) ok_X9_counts tw_941 tw_943 ts_27 (by decide) kc_3261 (Nat.le_of_ble_eq_true rfl) (Nat.le_of_ble_eq_true rfl) (x_X9_counts hL hq12) ?_
  refine am_steps ck_X9_recodes 1 (pc' := 71) (lv' := [(5, .int (q2.2 3266 (am_ix x2))), (4, .int q2.1), (0, .ref 3261), (1, .int x1), (2, .int x2), (3, .int x3)]) (st' := [.ref 3261]) rfl ?_
  refine ms_getr (ci := 7) (k := 0) (v := 3262) (am_fd ck_X9_recodes (pc := 71) rfl) tw_875 kc_3261 rfl (ly_3261_0 hL) kc_3262 ?_
  refine am_steps ck_X9_recodes 1 (pc' := 75) (lv' := [(5, .int (q2.2 3266 (am_ix x2))), (4, .int q2.1), (0, .ref 3261), (1, .int x1), (2, .int x2), (3, .int x3)]) (st' := [.int x1, .ref 3262]) rfl ?_
  obtain ⟨q13, hq13, hm⟩ := am_bE hm
  refine ms_callS (M2 := mt_X9_ownAt) (d2 := 1) [.int x1] (am_fd ck_X9_recodes (pc := 75) rfl) ok_X9_ownAt tw_959 tw_960 (Nat.le_of_ble_eq_true rfl) (Nat.le_of_ble_eq_true rfl) (x_X9_ownAt hL hq13) ?_
  refine am_steps ck_X9_recodes 3 (pc' := 81) (lv' := [(5, .int (q2.2 3266 (am_ix x2))), (4, .int q2.1), (0, .ref 3261), (1, .int x1), (2, .int x2), (3, .int x3)]) (st' := [.int (am_i 0), .int (q13 + x2), .ref 3262]) rfl ?_
  obtain ⟨hb14, hm⟩ := am_gE hm
  refine ms_iast (n := 15517) (am_fd ck_X9_recodes (pc := 81) rfl) kc_3262 hb14 (fun m15 em15 => ?_)
  replace hm := am_letE em15 hm
  refine am_steps ck_X9_recodes 1 (pc' := 83) (lv' := [(5, .int (q2.2 3266 (am_ix x2))), (4, .int q2.1), (0, .ref 3261), (1, .int x1), (2, .int x2), (3, .int x3)]) (st' := [.ref 3261]) rfl ?_
  refine ms_getr (ci := 7) (k := 0) (v := 3262) (am_fd ck_X9_recodes (pc := 83) rfl) tw_875 kc_3261 rfl (ly_3261_0 hL) kc_3262 ?_
  refine am_steps ck_X9_recodes 1 (pc' := 87) (lv' := [(5, .int (q2.2 3266 (am_ix x2))), (4, .int q2.1), (0, .ref 3261), (1, .int x1), (2, .int x2), (3, .int x3)]) (st' := [.int x1, .ref 3262]) rfl ?_
  obtain ⟨q16, hq16, hm⟩ := am_bE hm
  refine ms_callS (M2 := mt_X9_ownAt) (d2 := 1) [.int x1] (am_fd ck_X9_recodes (pc := 87) rfl) ok_X9_ownAt tw_959 tw_960 (Nat.le_of_ble_eq_true rfl) (Nat.le_of_ble_eq_true rfl) (x_X9_ownAt hL hq16) ?_
  refine am_steps ck_X9_recodes 3 (pc' := 93) (lv' := [(5, .int (q2.2 3266 (am_ix x2))), (4, .int q2.1), (0, .ref 3261), (1, .int x1), (2, .int x2), (3, .int x3)]) (st' := [.int (q16 + x3), .ref 3262, .int (q16 + x3), .ref 3262]) rfl ?_
  obtain ⟨hb17, hm⟩ := am_gE hm
  refine ms_iald (n := 15517) (am_fd ck_X9_recodes (pc := 93) rfl) kc_3262 hb17 ?_
  refine am_steps ck_X9_recodes 2 (pc' := 97) (lv' := [(5, .int (q2.2 3266 (am_ix x2))), (4, .int q2.1), (0, .ref 3261), (1, .int x1), (2, .int x2), (3, .int x3)]) (st' := [.int ((m15 3262 (am_ix (q16 + x3))) + (q2.2 3266 (am_ix x2))), .int (q16 + x3), .ref 3262]) rfl ?_
  obtain ⟨hb18, hm⟩ := am_gE hm
  refine ms_iast (n := 15517) (am_fd ck_X9_recodes (pc := 97) rfl) kc_3262 hb18 (fun m19 em19 => ?_)
  replace hm := am_letE em19 hm
  refine am_steps ck_X9_recodes 2 (pc' := 100) (lv' := [(5, .int (q2.2 3266 (am_ix x2))), (4, .int q2.1), (0, .ref 3261), (1, .int x1), (2, .int x2), (3, .int x3)]) (st' := [.int x1, .ref 3261]) rfl ?_
  obtain ⟨q20, hq20, hm⟩ := am_bE hm
  refine ms_callVv (M2 := mt_X9_isStaleFrom) (d2 := 1) (ci := 7) [.int x1] (am_fd ck_X9_recodes (pc := 100) rfl) ok_X9_isStaleFrom tw_966 tw_968 ts_30 (by decide) kc_3261 (Nat.le_of_ble_eq_true rfl) (Nat.le_of_ble_eq_true rfl) (x_X9_isStaleFrom hL hq20) ?_
  refine am_steps ck_X9_recodes 1 (pc' := 105) (lv' := [(5, .int (q2.2 3266 (am_ix x2))), (4, .int q2.1), (0, .ref 3261), (1, .int x1), (2, .int x2), (3, .int x3)]) (st' := [.int (q2.2 3266 (am_ix x2))]) rfl ?_
  cases hm
  exact am_end (am_fd ck_X9_recodes (pc := 105) rfl) am_rI rfl rfl
set_option maxRecDepth 100000 in
set_option maxHeartbeats 4000000 in
theorem x_X9_recode_26 {G : am_G} {x1 : Int32} {x2 : Int32} {m : am_m} {r : am_rr} {y1 : Int32} {y2 : Int32} {res : Int32 × am_m} {k : Int32 → Option (Int32 × am_m)} (hL : am_Lay r) : ∀ (n : Nat) (z3 : Int32) (z4 : Int32), m_X9_recode_26 x1 x2 m y1 y2 k n z3 z4 = some res → (∀ (u3 : Int32), k u3 = some res → am_W G mt_X9_recode 5 (some (.int res.1)) (am_hh res.2 r) 101 [(0, .ref 3261), (1, .int y1), (2, .int y2), (3, .int u3)] [] (am_hh m r)) → am_W G mt_X9_recode 5 (some (.int res.1)) (am_hh res.2 r) 26 [(0, .ref 3261), (1, .int y1), (2, .int y2), (3, .int z3), (4, .int z4)] [] (am_hh m r) := by
  intro n
  induction n with
  | zero => intro z3 z4 hm K; cases hm
  | succ n ih =>
    intro z3 z4 hm K
    unfold m_X9_recode_26 at hm
    refine am_steps ck_X9_recode 2 (pc' := 30) (lv' := [(0, .ref 3261), (1, .int y1), (2, .int y2), (3, .int z3), (4, .int z4)]) (st' := [.int (am_i 24), .int z4]) rfl ?_
    refine am_icmp (tgt := 101) (am_fd ck_X9_recode (pc := 30) rfl) rfl (fun hc6 => ?_) (fun hc6 => ?_)
    · replace hm := am_it hm hc6
      refine am_subp [0, 1, 2, 3] rfl ?_
      exact K _ hm
    · replace hm := am_if hm hc6
      refine am_steps ck_X9_recode 2 (pc' := 36) (lv' := [(0, .ref 3261), (1, .int y1), (2, .int y2), (3, .int z3), (4, .int z4)]) (st' := [.int z4, .ref 3261]) rfl ?_
      obtain ⟨q7, hq7, hm⟩ := am_bE hm
      refine ms_callV (M2 := mt_X9_isUnit) (d2 := 2) (ci := 7) [.int z4] (am_fd ck_X9_recode (pc := 36) rfl) ok_X9_isUnit tw_949 tw_951 ts_28 (by decide) kc_3261 (Nat.le_of_ble_eq_true rfl) (Nat.le_of_ble_eq_true rfl) (x_X9_isUnit hL hq7) ?_
      refine am_ifc (tgt := 95) (am_fd ck_X9_recode (pc := 39) rfl) rfl (fun hc8 => ?_) (fun hc8 => ?_)
      · replace hm := am_it hm hc8
        refine am_steps ck_X9_recode 2 (pc' := 26) (lv' := [(4, .int (z4 + am_i 1)), (0, .ref 3261), (1, .int y1), (2, .int y2), (3, .int z3)]) (st' := []) rfl ?_
        refine am_subp [1, 2, 3, 4, 0] rfl ?_
        exact ih _ _ hm K
      · replace hm := am_if hm hc8
        refine am_steps ck_X9_recode 1 (pc' := 43) (lv' := [(0, .ref 3261), (1, .int y1), (2, .int y2), (3, .int z3), (4, .int z4)]) (st' := [.ref 3261]) rfl ?_
        refine ms_getr (ci := 7) (k := 0) (v := 3262) (am_fd ck_X9_recode (pc := 43) rfl) tw_875 kc_3261 rfl (ly_3261_0 hL) kc_3262 ?_
        refine am_steps ck_X9_recode 1 (pc' := 48) (lv' := [(0, .ref 3261), (1, .int y1), (2, .int y2), (3, .int z3), (4, .int z4)]) (st' := [.int z4, .ref 3262]) rfl ?_
        obtain ⟨q9, hq9, hm⟩ := am_bE hm
        refine ms_callS (M2 := mt_X9_ownAt) (d2 := 1) [.int z4] (am_fd ck_X9_recode (pc := 48) rfl) ok_X9_ownAt tw_959 tw_960 (Nat.le_of_ble_eq_true rfl) (Nat.le_of_ble_eq_true rfl) (x_X9_ownAt hL hq9) ?_
        refine am_steps ck_X9_recode 2 (pc' := 53) (lv' := [(0, .ref 3261), (1, .int y1), (2, .int y2), (3, .int z3), (4, .int z4)]) (st' := [.int (q9 + y1), .ref 3262]) rfl ?_
        obtain ⟨hb10, hm⟩ := am_gE hm
        refine ms_iald (n := 15517) (am_fd ck_X9_recode (pc := 53) rfl) kc_3262 hb10 ?_
        refine am_ifc (tgt := 60) (am_fd ck_X9_recode (pc := 54) rfl) rfl (fun hc11 => ?_) (fun hc11 => ?_)
        · replace hm := am_it hm hc11
          refine am_steps ck_X9_recode 3 (pc' := 63) (lv' := [(3, .int (am_i 1)), (0, .ref 3261), (1, .int y1), (2, .int y2), (4, .int z4)]) (st' := [.ref 3261]) rfl ?_
          refine ms_getr (ci := 7) (k := 0) (v := 3262) (am_fd ck_X9_recode (pc := 63) rfl) tw_875 kc_3261 rfl (ly_3261_0 hL) kc_3262 ?_
          refine am_steps ck_X9_recode 1 (pc' := 68) (lv' := [(3, .int (am_i 1)), (0, .ref 3261), (1, .int y1), (2, .int y2), (4, .int z4)]) (st' := [.int z4, .ref 3262]) rfl ?_
          obtain ⟨q12, hq12, hm⟩ := am_bE hm
          refine ms_callS (M2 := mt_X9_ownAt) (d2 := 1) [.int z4] (am_fd ck_X9_recode (pc := 68) rfl) ok_X9_ownAt tw_959 tw_960 (Nat.le_of_ble_eq_true rfl) (Nat.le_of_ble_eq_true rfl) (x_X9_ownAt hL hq12) ?_
          refine am_steps ck_X9_recode 2 (pc' := 73) (lv' := [(3, .int (am_i 1)), (0, .ref 3261), (1, .int y1), (2, .int y2), (4, .int z4)]) (st' := [.int (q12 + y1), .ref 3262]) rfl ?_
          obtain ⟨hb13, hm⟩ := am_gE hm
          refine ms_iald (n := 15517) (am_fd ck_X9_recode (pc := 73) rfl) kc_3262 hb13 ?_
          refine am_steps ck_X9_recode 1 (pc' := 75) (lv' := [(3, .int (am_i 1)), (0, .ref 3261), (1, .int y1), (2, .int y2), (4, .int z4)]) (st' := [.ref 3261, .int (m 3262 (am_ix (q12 + y1)))]) rfl ?_
          refine ms_getr (ci := 7) (k := 0) (v := 3262) (am_fd ck_X9_recode (pc := 75) rfl) tw_875 kc_3261 rfl (ly_3261_0 hL) kc_3262 ?_
          refine am_steps ck_X9_recode 1 (pc' := 80) (lv' := [(3, .int (am_i 1)), (0, .ref 3261), (1, .int y1), (2, .int y2), (4, .int z4)]) (st' := [.int z4, .ref 3262, .int (m 3262 (am_ix (q12 + y1)))]) rfl ?_
          obtain ⟨q14, hq14, hm⟩ := am_bE hm
          refine ms_callS (M2 := mt_X9_ownAt) (d2 := 1) [.int z4] (am_fd ck_X9_recode (pc := 80) rfl) ok_X9_ownAt tw_959 tw_960 (Nat.le_of_ble_eq_true rfl) (Nat.le_of_ble_eq_true rfl) (x_X9_ownAt hL hq14) ?_
          refine am_steps ck_X9_recode 2 (pc' := 85) (lv' := [(3, .int (am_i 1)), (0, .ref 3261), (1, .int y1), (2, .int y2), (4, .int z4)]) (st' := [.int (q14 + y2), .ref 3262, .int (m 3262 (am_ix (q12 + y1)))]) rfl ?_
          obtain ⟨hb15, hm⟩ := am_gE hm
          refine ms_iald (n := 15517) (am_fd ck_X9_recode (pc := 85) rfl) kc_3262 hb15 ?_
          refine am_steps ck_X9_recode 2 (pc' := 90) (lv' := [(3, .int (am_i 1)), (0, .ref 3261), (1, .int y1), (2, .int y2), (4, .int z4)]) (st' := [.int (am_i 9999), .int ((m 3262 (am_ix (q12 + y1))) + (m 3262 (am_ix (q14 + y2))))]) rfl ?_
          refine am_icmp (tgt := 95) (am_fd ck_X9_recode (pc := 90) rfl) rfl (fun hc16 => ?_) (fun hc16 => ?_)
          · replace hm := am_it hm hc16
            refine am_steps ck_X9_recode 2 (pc' := 26) (lv' := [(4, .int (z4 + am_i 1)), (3, .int (am_i 1)), (0, .ref 3261), (1, .int y1), (2, .int y2)]) (st' := []) rfl ?_
            refine am_subp [2, 3, 4, 1, 0] rfl ?_
            exact ih _ _ hm K
          · replace hm := am_if hm hc16
            refine am_steps ck_X9_recode 1 (pc' := 94) (lv' := [(3, .int (am_i 1)), (0, .ref 3261), (1, .int y1), (2, .int y2), (4, .int z4)]) (st' := [.int (am_i (-1))]) rfl ?_
            cases hm
            exact am_end (am_fd ck_X9_recode (pc := 94) rfl) am_rI rfl rfl
        · replace hm := am_if hm hc11
          refine am_steps ck_X9_recode 3 (pc' := 26) (lv' := [(4, .int (z4 + am_i 1)), (0, .ref 3261), (1, .int y1), (2, .int y2), (3, .int z3)]) (st' := []) rfl ?_
          refine am_subp [1, 2, 3, 4, 0] rfl ?_
          exact ih _ _ hm K
set_option maxRecDepth 100000 in
set_option maxHeartbeats 4000000 in
theorem x_X9_recode_117 {G : am_G} {x1 : Int32} {x2 : Int32} {r : am_rr} {y1 : Int32} {y2 : Int32} {res : Int32 × am_m} {k : Int32 → am_m → Option (Int32 × am_m)} (hL : am_Lay r) : ∀ (n : Nat) (z4 : Int32) (z5 : Int32) (m : am_m), m_X9_recode_117 x1 x2 y1 y2 k n z4 z5 m = some res → (∀ (u4 : Int32) (m1 : am_m), k u4 m1 = some res → am_W G mt_X9_recode 5 (some (.int res.1)) (am_hh res.2 r) 167 [(0, .ref 3261), (4, .int u4)] [] (am_hh m1 r)) → am_W G mt_X9_recode 5 (some (.int res.1)) (am_hh res.2 r) 117 [(0, .ref 3261), (1, .int y1), (2, .int y2), (4, .int z4), (5, .int z5)] [] (am_hh m r) := by
  intro n
  induction n with
  | zero => intro z4 z5 m hm K; cases hm
  | succ n ih =>
    intro z4 z5 m hm K
    unfold m_X9_recode_117 at hm
    refine am_steps ck_X9_recode 2 (pc' := 121) (lv' := [(0, .ref 3261), (1, .int y1), (2, .int y2), (4, .int z4), (5, .int z5)]) (st' := [.int (am_i 24), .int z5]) rfl ?_
    refine am_icmp (tgt := 167) (am_fd ck_X9_recode (pc := 121) rfl) rfl (fun hc20 => ?_) (fun hc20 => ?_)
    · replace hm := am_it hm hc20
      refine am_subp [0, 3] rfl ?_
      exact K _ _ hm
    · replace hm := am_if hm hc20
      refine am_steps ck_X9_recode 2 (pc' := 127) (lv' := [(0, .ref 3261), (1, .int y1), (2, .int y2), (4, .int z4), (5, .int z5)]) (st' := [.int z5, .ref 3261]) rfl ?_
      obtain ⟨q21, hq21, hm⟩ := am_bE hm
      refine ms_callV (M2 := mt_X9_isUnit) (d2 := 2) (ci := 7) [.int z5] (am_fd ck_X9_recode (pc := 127) rfl) ok_X9_isUnit tw_949 tw_951 ts_28 (by decide) kc_3261 (Nat.le_of_ble_eq_true rfl) (Nat.le_of_ble_eq_true rfl) (x_X9_isUnit hL hq21) ?_
      refine am_ifc (tgt := 161) (am_fd ck_X9_recode (pc := 130) rfl) rfl (fun hc22 => ?_) (fun hc22 => ?_)
      · replace hm := am_it hm hc22
        refine am_steps ck_X9_recode 2 (pc' := 117) (lv' := [(5, .int (z5 + am_i 1)), (0, .ref 3261), (1, .int y1), (2, .int y2), (4, .int z4)]) (st' := []) rfl ?_
        refine am_subp [1, 2, 3, 4, 0] rfl ?_
        exact ih _ _ _ hm K
      · replace hm := am_if hm hc22
        refine am_steps ck_X9_recode 1 (pc' := 134) (lv' := [(0, .ref 3261), (1, .int y1), (2, .int y2), (4, .int z4), (5, .int z5)]) (st' := [.ref 3261]) rfl ?_
        refine ms_getr (ci := 7) (k := 0) (v := 3262) (am_fd ck_X9_recode (pc := 134) rfl) tw_875 kc_3261 rfl (ly_3261_0 hL) kc_3262 ?_
        refine am_steps ck_X9_recode 1 (pc' := 139) (lv' := [(0, .ref 3261), (1, .int y1), (2, .int y2), (4, .int z4), (5, .int z5)]) (st' := [.int z5, .ref 3262]) rfl ?_
        obtain ⟨q23, hq23, hm⟩ := am_bE hm
        refine ms_callS (M2 := mt_X9_ownAt) (d2 := 1) [.int z5] (am_fd ck_X9_recode (pc := 139) rfl) ok_X9_ownAt tw_959 tw_960 (Nat.le_of_ble_eq_true rfl) (Nat.le_of_ble_eq_true rfl) (x_X9_ownAt hL hq23) ?_
        refine am_steps ck_X9_recode 2 (pc' := 144) (lv' := [(0, .ref 3261), (1, .int y1), (2, .int y2), (4, .int z4), (5, .int z5)]) (st' := [.int (q23 + y1), .ref 3262]) rfl ?_
        obtain ⟨hb24, hm⟩ := am_gE hm
        refine ms_iald (n := 15517) (am_fd ck_X9_recode (pc := 144) rfl) kc_3262 hb24 ?_
        refine am_ifc (tgt := 161) (am_fd ck_X9_recode (pc := 145) rfl) rfl (fun hc25 => ?_) (fun hc25 => ?_)
        · replace hm := am_it hm hc25
          refine am_steps ck_X9_recode 2 (pc' := 117) (lv' := [(5, .int (z5 + am_i 1)), (0, .ref 3261), (1, .int y1), (2, .int y2), (4, .int z4)]) (st' := []) rfl ?_
          refine am_subp [1, 2, 3, 4, 0] rfl ?_
          exact ih _ _ _ hm K
        · replace hm := am_if hm hc25
          refine am_steps ck_X9_recode 5 (pc' := 155) (lv' := [(0, .ref 3261), (1, .int y1), (2, .int y2), (4, .int z4), (5, .int z5)]) (st' := [.int y2, .int y1, .int z5, .ref 3261, .int z4]) rfl ?_
          obtain ⟨q26, hq26, hm⟩ := am_bE hm
          refine ms_callV (M2 := mt_X9_recodes) (d2 := 4) (ci := 7) [.int z5, .int y1, .int y2] (am_fd ck_X9_recode (pc := 155) rfl) ok_X9_recodes tw_1080 tw_1082 ts_48 (by decide) kc_3261 (Nat.le_of_ble_eq_true rfl) (Nat.le_of_ble_eq_true rfl) (x_X9_recodes hL hq26) ?_
          refine am_steps ck_X9_recode 4 (pc' := 117) (lv' := [(5, .int (z5 + am_i 1)), (4, .int (z4 + q26.1)), (0, .ref 3261), (1, .int y1), (2, .int y2)]) (st' := []) rfl ?_
          refine am_subp [2, 3, 4, 1, 0] rfl ?_
          exact ih _ _ _ hm K
set_option maxRecDepth 100000 in
set_option maxHeartbeats 4000000 in
theorem x_X9_recode {G : am_G} {m : am_m} {r : am_rr} {x1 : Int32} {x2 : Int32} {res : Int32 × am_m} (hL : am_Lay r) (hm : m_X9_recode m x1 x2 = some res) : am_Met G mt_X9_recode 5 [.ref 3261, .int x1, .int x2] (am_hh m r) (some (.int res.1)) (am_hh res.2 r) := by
  refine am_of (by decide) (Nat.le_of_ble_eq_true rfl) ?_
  unfold m_X9_recode at hm
  show am_W G mt_X9_recode 5 _ _ 0 [(0, .ref 3261), (1, .int x1), (2, .int x2)] [] (am_hh m r)
  refine am_steps ck_X9_recode 1 (pc' := 1) (lv' := [(0, .ref 3261), (1, .int x1), (2, .int x2)]) (st' := [.int x1]) rfl ?_
  obtain ⟨q1, hq1, hm⟩ := am_bE hm
  refine ms_callS (M2 := mt_X9_isCategory) (d2 := 2) [.int x1] (am_fd ck_X9_recode (pc := 1) rfl) ok_X9_isCategory tw_956 tw_957 (Nat.le_of_ble_eq_true rfl) (Nat.le_of_ble_eq_true rfl) (x_X9_isCategory hL hq1) ?_
  refine am_ifc (tgt := 19) (am_fd ck_X9_recode (pc := 4) rfl) rfl (fun hc2 => ?_) (fun hc2 => ?_)
  · replace hm := am_it hm hc2
    refine am_steps ck_X9_recode 1 (pc' := 20) (lv' := [(0, .ref 3261), (1, .int x1), (2, .int x2)]) (st' := [.int (am_i (-1))]) rfl ?_
    cases hm
    exact am_end (am_fd ck_X9_recode (pc := 20) rfl) am_rI rfl rfl
  · replace hm := am_if hm hc2
    refine am_steps ck_X9_recode 1 (pc' := 8) (lv' := [(0, .ref 3261), (1, .int x1), (2, .int x2)]) (st' := [.int x2]) rfl ?_
    obtain ⟨q3, hq3, hm⟩ := am_bE hm
    refine ms_callS (M2 := mt_X9_isCategory) (d2 := 2) [.int x2] (am_fd ck_X9_recode (pc := 8) rfl) ok_X9_isCategory tw_956 tw_957 (Nat.le_of_ble_eq_true rfl) (Nat.le_of_ble_eq_true rfl) (x_X9_isCategory hL hq3) ?_
    refine am_ifc (tgt := 19) (am_fd ck_X9_recode (pc := 11) rfl) rfl (fun hc4 => ?_) (fun hc4 => ?_)
    · replace hm := am_it hm hc4
      refine am_steps ck_X9_recode 1 (pc' := 20) (lv' := [(0, .ref 3261), (1, .int x1), (2, .int x2)]) (st' := [.int (am_i (-1))]) rfl ?_
      cases hm
      exact am_end (am_fd ck_X9_recode (pc := 20) rfl) am_rI rfl rfl
    · replace hm := am_if hm hc4
      refine am_steps ck_X9_recode 2 (pc' := 16) (lv' := [(0, .ref 3261), (1, .int x1), (2, .int x2)]) (st' := [.int x2, .int x1]) rfl ?_
      refine am_icmp (tgt := 21) (am_fd ck_X9_recode (pc := 16) rfl) rfl (fun hc5 => ?_) (fun hc5 => ?_)
      · replace hm := am_it hm hc5
        refine am_steps ck_X9_recode 4 (pc' := 26) (lv' := [(4, .int (am_i 0)), (3, .int (am_i 0)), (0, .ref 3261), (1, .int x1), (2, .int x2)]) (st' := []) rfl ?_
        refine am_subp [2, 3, 4, 1, 0] rfl ?_
        refine x_X9_recode_26 hL am_F _ _ hm (fun u17 hm => ?_)
        refine am_steps ck_X9_recode 1 (pc' := 102) (lv' := [(0, .ref 3261), (1, .int x1), (2, .int x2), (3, .int u17)]) (st' := [.int u17]) rfl ?_
        refine am_ifc (tgt := 107) (am_fd ck_X9_recode (pc := 102) rfl) rfl (fun hc18 => ?_) (fun hc18 => ?_)
        · replace hm := am_it hm hc18
          refine am_steps ck_X9_recode 1 (pc' := 108) (lv' := [(0, .ref 3261), (1, .int x1), (2, .int x2), (3, .int u17)]) (st' := [.ref 3261]) rfl ?_
          obtain ⟨q19, hq19, hm⟩ := am_bE hm
          refine ms_callVv (M2 := mt_X9_remembers) (d2 := 1) (ci := 7) [] (am_fd ck_X9_recode (pc := 108) rfl) ok_X9_remembers tw_962 tw_964 ts_29 (by decide) kc_3261 (Nat.le_of_ble_eq_true rfl) (Nat.le_of_ble_eq_true rfl) (x_X9_remembers hL hq19) ?_
          refine am_steps ck_X9_recode 4 (pc' := 117) (lv' := [(5, .int (am_i 0)), (4, .int (am_i 0)), (0, .ref 3261), (1, .int x1), (2, .int x2), (3, .int u17)]) (st' := []) rfl ?_
          refine am_subp [2, 3, 4, 1, 0] rfl ?_
          refine x_X9_recode_117 hL am_F _ _ _ hm (fun u27 m28 hm => ?_)
          refine am_steps ck_X9_recode 3 (pc' := 172) (lv' := [(0, .ref 3261), (4, .int u27)]) (st' := [.int u27, .int (am_i 10), .ref 3261]) rfl ?_
          obtain ⟨q29, hq29, hm⟩ := am_bE hm
          refine ms_callVv (M2 := mt_X9_counts) (d2 := 1) (ci := 7) [.int (am_i 10), .int u27] (am_fd ck_X9_recode (pc := 172) rfl) ok_X9_counts tw_941 tw_943 ts_27 (by decide) kc_3261 (Nat.le_of_ble_eq_true rfl) (Nat.le_of_ble_eq_true rfl) (x_X9_counts hL hq29) ?_
          refine am_steps ck_X9_recode 1 (pc' := 177) (lv' := [(0, .ref 3261), (4, .int u27)]) (st' := [.int u27]) rfl ?_
          cases hm
          exact am_end (am_fd ck_X9_recode (pc := 177) rfl) am_rI rfl rfl
        · replace hm := am_if hm hc18
          refine am_steps ck_X9_recode 1 (pc' := 106) (lv' := [(0, .ref 3261), (1, .int x1), (2, .int x2), (3, .int u17)]) (st' := [.int (am_i (-1))]) rfl ?_
          cases hm
          exact am_end (am_fd ck_X9_recode (pc := 106) rfl) am_rI rfl rfl
      · replace hm := am_if hm hc5
        refine am_steps ck_X9_recode 1 (pc' := 20) (lv' := [(0, .ref 3261), (1, .int x1), (2, .int x2)]) (st' := [.int (am_i (-1))]) rfl ?_
        cases hm
        exact am_end (am_fd ck_X9_recode (pc := 20) rfl) am_rI rfl rfl
set_option maxRecDepth 100000 in
set_option maxHeartbeats 4000000 in
theorem x_X9_limit_55 {G : am_G} {x1 : Int32} {x2 : Int32} {x3 : Int32} {x4 : Int32} {m : am_m} {r : am_rr} {y1 : Int32} {y2 : Int32} {y3 : Int32} {y4 : Int32} {y5 : Int32} {res : Int32 × am_m} {k : Int32 → Option (Int32 × am_m)} (hL : am_Lay r) : ∀ (n : Nat) (z6 : Int32), m_X9_limit_55 x1 x2 x3 x4 m y1 y2 y3 y4 y5 k n z6 = some res → (∀ (u6 : Int32), k u6 = some res → am_W G mt_X9_limit 3 (some (.int res.1)) (am_hh res.2 r) 123 [(0, .ref 3261), (1, .int y1), (2, .int y2), (3, .int y3), (4, .int y4), (5, .int y5), (6, .int u6)] [] (am_hh m r)) → am_W G mt_X9_limit 3 (some (.int res.1)) (am_hh res.2 r) 55 [(0, .ref 3261), (1, .int y1), (2, .int y2), (3, .int y3), (4, .int y4), (5, .int y5), (6, .int z6)] [] (am_hh m r) := by
  intro n
  induction n with
  | zero => intro z6 hm K; cases hm
  | succ n ih =>
    intro z6 hm K
    unfold m_X9_limit_55 at hm
    refine am_steps ck_X9_limit 2 (pc' := 59) (lv' := [(0, .ref 3261), (1, .int y1), (2, .int y2), (3, .int y3), (4, .int y4), (5, .int y5), (6, .int z6)]) (st' := [.int y5, .int z6]) rfl ?_
    refine am_icmp (tgt := 123) (am_fd ck_X9_limit (pc := 59) rfl) rfl (fun hc11 => ?_) (fun hc11 => ?_)
    · replace hm := am_it hm hc11
      exact K _ hm
    · replace hm := am_if hm hc11
      refine am_steps ck_X9_limit 1 (pc' := 63) (lv' := [(0, .ref 3261), (1, .int y1), (2, .int y2), (3, .int y3), (4, .int y4), (5, .int y5), (6, .int z6)]) (st' := [.ref 3261]) rfl ?_
      refine ms_getr (ci := 7) (k := 0) (v := 3262) (am_fd ck_X9_limit (pc := 63) rfl) tw_875 kc_3261 rfl (ly_3261_0 hL) kc_3262 ?_
      refine am_steps ck_X9_limit 5 (pc' := 74) (lv' := [(0, .ref 3261), (1, .int y1), (2, .int y2), (3, .int y3), (4, .int y4), (5, .int y5), (6, .int z6)]) (st' := [.int ((am_i 15468) + ((am_i 4) * z6)), .ref 3262]) rfl ?_
      obtain ⟨hb12, hm⟩ := am_gE hm
      refine ms_iald (n := 15517) (am_fd ck_X9_limit (pc := 74) rfl) kc_3262 hb12 ?_
      refine am_steps ck_X9_limit 1 (pc' := 76) (lv' := [(0, .ref 3261), (1, .int y1), (2, .int y2), (3, .int y3), (4, .int y4), (5, .int y5), (6, .int z6)]) (st' := [.int y1, .int (m 3262 (am_ix ((am_i 15468) + ((am_i 4) * z6))))]) rfl ?_
      refine am_icmp (tgt := 117) (am_fd ck_X9_limit (pc := 76) rfl) rfl (fun hc13 => ?_) (fun hc13 => ?_)
      · replace hm := am_it hm hc13
        refine am_steps ck_X9_limit 2 (pc' := 55) (lv' := [(6, .int (z6 + am_i 1)), (0, .ref 3261), (1, .int y1), (2, .int y2), (3, .int y3), (4, .int y4), (5, .int y5)]) (st' := []) rfl ?_
        refine am_subp [1, 2, 3, 4, 5, 6, 0] rfl ?_
        exact ih _ hm K
      · replace hm := am_if hm hc13
        refine am_steps ck_X9_limit 1 (pc' := 80) (lv' := [(0, .ref 3261), (1, .int y1), (2, .int y2), (3, .int y3), (4, .int y4), (5, .int y5), (6, .int z6)]) (st' := [.ref 3261]) rfl ?_
        refine ms_getr (ci := 7) (k := 0) (v := 3262) (am_fd ck_X9_limit (pc := 80) rfl) tw_875 kc_3261 rfl (ly_3261_0 hL) kc_3262 ?_
        refine am_steps ck_X9_limit 7 (pc' := 93) (lv' := [(0, .ref 3261), (1, .int y1), (2, .int y2), (3, .int y3), (4, .int y4), (5, .int y5), (6, .int z6)]) (st' := [.int (((am_i 15468) + ((am_i 4) * z6)) + (am_i 1)), .ref 3262]) rfl ?_
        obtain ⟨hb14, hm⟩ := am_gE hm
        refine ms_iald (n := 15517) (am_fd ck_X9_limit (pc := 93) rfl) kc_3262 hb14 ?_
        refine am_steps ck_X9_limit 1 (pc' := 95) (lv' := [(0, .ref 3261), (1, .int y1), (2, .int y2), (3, .int y3), (4, .int y4), (5, .int y5), (6, .int z6)]) (st' := [.int y2, .int (m 3262 (am_ix (((am_i 15468) + ((am_i 4) * z6)) + (am_i 1))))]) rfl ?_
        refine am_icmp (tgt := 117) (am_fd ck_X9_limit (pc := 95) rfl) rfl (fun hc15 => ?_) (fun hc15 => ?_)
        · replace hm := am_it hm hc15
          refine am_steps ck_X9_limit 2 (pc' := 55) (lv' := [(6, .int (z6 + am_i 1)), (0, .ref 3261), (1, .int y1), (2, .int y2), (3, .int y3), (4, .int y4), (5, .int y5)]) (st' := []) rfl ?_
          refine am_subp [1, 2, 3, 4, 5, 6, 0] rfl ?_
          exact ih _ hm K
        · replace hm := am_if hm hc15
          refine am_steps ck_X9_limit 1 (pc' := 99) (lv' := [(0, .ref 3261), (1, .int y1), (2, .int y2), (3, .int y3), (4, .int y4), (5, .int y5), (6, .int z6)]) (st' := [.ref 3261]) rfl ?_
          refine ms_getr (ci := 7) (k := 0) (v := 3262) (am_fd ck_X9_limit (pc := 99) rfl) tw_875 kc_3261 rfl (ly_3261_0 hL) kc_3262 ?_
          refine am_steps ck_X9_limit 7 (pc' := 112) (lv' := [(0, .ref 3261), (1, .int y1), (2, .int y2), (3, .int y3), (4, .int y4), (5, .int y5), (6, .int z6)]) (st' := [.int (((am_i 15468) + ((am_i 4) * z6)) + (am_i 2)), .ref 3262]) rfl ?_
          obtain ⟨hb16, hm⟩ := am_gE hm
          refine ms_iald (n := 15517) (am_fd ck_X9_limit (pc := 112) rfl) kc_3262 hb16 ?_
          refine am_steps ck_X9_limit 1 (pc' := 114) (lv' := [(0, .ref 3261), (1, .int y1), (2, .int y2), (3, .int y3), (4, .int y4), (5, .int y5), (6, .int z6)]) (st' := [.int y3, .int (m 3262 (am_ix (((am_i 15468) + ((am_i 4) * z6)) + (am_i 2))))]) rfl ?_
          refine am_icmp (tgt := 123) (am_fd ck_X9_limit (pc := 114) rfl) rfl (fun hc17 => ?_) (fun hc17 => ?_)
          · replace hm := am_it hm hc17
            exact K _ hm
          · replace hm := am_if hm hc17
            refine am_steps ck_X9_limit 2 (pc' := 55) (lv' := [(6, .int (z6 + am_i 1)), (0, .ref 3261), (1, .int y1), (2, .int y2), (3, .int y3), (4, .int y4), (5, .int y5)]) (st' := []) rfl ?_
            refine am_subp [1, 2, 3, 4, 5, 6, 0] rfl ?_
            exact ih _ hm K
set_option maxRecDepth 100000 in
set_option maxHeartbeats 4000000 in
theorem x_X9_limit_144 {G : am_G} {x1 : Int32} {x2 : Int32} {x3 : Int32} {x4 : Int32} {r : am_rr} {y5 : Int32} {res : Int32 × am_m} {k : am_m → Option (Int32 × am_m)} (hL : am_Lay r) : ∀ (n : Nat) (z7 : Int32) (m : am_m), m_X9_limit_144 x1 x2 x3 x4 y5 k n z7 m = some res → (∀ (m1 : am_m), k m1 = some res → am_W G mt_X9_limit 3 (some (.int res.1)) (am_hh res.2 r) 185 [(0, .ref 3261)] [] (am_hh m1 r)) → am_W G mt_X9_limit 3 (some (.int res.1)) (am_hh res.2 r) 144 [(0, .ref 3261), (5, .int y5), (7, .int z7)] [] (am_hh m r) := by
  intro n
  induction n with
  | zero => intro z7 m hm K; cases hm
  | succ n ih =>
    intro z7 m hm K
    unfold m_X9_limit_144 at hm
    refine am_steps ck_X9_limit 6 (pc' := 152) (lv' := [(0, .ref 3261), (5, .int y5), (7, .int z7)]) (st' := [.int (((am_i 4) * y5) - (am_i 4)), .int z7]) rfl ?_
    refine am_icmp (tgt := 185) (am_fd ck_X9_limit (pc := 152) rfl) rfl (fun hc37 => ?_) (fun hc37 => ?_)
    · replace hm := am_it hm hc37
      refine am_subp [0] rfl ?_
      exact K _ hm
    · replace hm := am_if hm hc37
      refine am_steps ck_X9_limit 1 (pc' := 156) (lv' := [(0, .ref 3261), (5, .int y5), (7, .int z7)]) (st' := [.ref 3261]) rfl ?_
      refine ms_getr (ci := 7) (k := 0) (v := 3262) (am_fd ck_X9_limit (pc := 156) rfl) tw_875 kc_3261 rfl (ly_3261_0 hL) kc_3262 ?_
      refine am_steps ck_X9_limit 4 (pc' := 166) (lv' := [(0, .ref 3261), (5, .int y5), (7, .int z7)]) (st' := [.ref 3261, .int ((am_i 15468) + z7), .ref 3262]) rfl ?_
      refine ms_getr (ci := 7) (k := 0) (v := 3262) (am_fd ck_X9_limit (pc := 166) rfl) tw_875 kc_3261 rfl (ly_3261_0 hL) kc_3262 ?_
      refine am_steps ck_X9_limit 5 (pc' := 177) (lv' := [(0, .ref 3261), (5, .int y5), (7, .int z7)]) (st' := [.int (((am_i 15468) + z7) + (am_i 4)), .ref 3262, .int ((am_i 15468) + z7), .ref 3262]) rfl ?_
      obtain ⟨hb38, hm⟩ := am_gE hm
      refine ms_iald (n := 15517) (am_fd ck_X9_limit (pc := 177) rfl) kc_3262 hb38 ?_
      obtain ⟨hb39, hm⟩ := am_gE hm
      refine ms_iast (n := 15517) (am_fd ck_X9_limit (pc := 178) rfl) kc_3262 hb39 (fun m40 em40 => ?_)
      replace hm := am_letE em40 hm
      refine am_steps ck_X9_limit 2 (pc' := 144) (lv' := [(7, .int (z7 + am_i 1)), (0, .ref 3261), (5, .int y5)]) (st' := []) rfl ?_
      refine am_subp [1, 2, 0] rfl ?_
      exact ih _ _ hm K
set_option maxRecDepth 100000 in
set_option maxHeartbeats 4000000 in
theorem x_X9_limit {G : am_G} {m : am_m} {r : am_rr} {x1 : Int32} {x2 : Int32} {x3 : Int32} {x4 : Int32} {res : Int32 × am_m} (hL : am_Lay r) (hm : m_X9_limit m x1 x2 x3 x4 = some res) : am_Met G mt_X9_limit 3 [.ref 3261, .int x1, .int x2, .int x3, .int x4] (am_hh m r) (some (.int res.1)) (am_hh res.2 r) := by
  refine am_of (by decide) (Nat.le_of_ble_eq_true rfl) ?_
  unfold m_X9_limit at hm
  show am_W G mt_X9_limit 3 _ _ 0 [(0, .ref 3261), (1, .int x1), (2, .int x2), (3, .int x3), (4, .int x4)] [] (am_hh m r)
  refine am_steps ck_X9_limit 3 (pc' := 4) (lv' := [(0, .ref 3261), (1, .int x1), (2, .int x2), (3, .int x3), (4, .int x4)]) (st' := [.int (am_i 23), .int (am_i 0), .int x1]) rfl ?_
  obtain ⟨q1, hq1, hm⟩ := am_bE hm
  refine ms_callS (M2 := mt_X9_isIn) (d2 := 1) [.int x1, .int (am_i 0), .int (am_i 23)] (am_fd ck_X9_limit (pc := 4) rfl) ok_X9_isIn tw_953 tw_954 (Nat.le_of_ble_eq_true rfl) (Nat.le_of_ble_eq_true rfl) (x_X9_isIn hL hq1) ?_
  refine am_ifc (tgt := 40) (am_fd ck_X9_limit (pc := 7) rfl) rfl (fun hc2 => ?_) (fun hc2 => ?_)
  · replace hm := am_it hm hc2
    refine am_steps ck_X9_limit 1 (pc' := 41) (lv' := [(0, .ref 3261), (1, .int x1), (2, .int x2), (3, .int x3), (4, .int x4)]) (st' := [.int (am_i (-1))]) rfl ?_
    cases hm
    exact am_end (am_fd ck_X9_limit (pc := 41) rfl) am_rI rfl rfl
  · replace hm := am_if hm hc2
    refine am_steps ck_X9_limit 1 (pc' := 11) (lv' := [(0, .ref 3261), (1, .int x1), (2, .int x2), (3, .int x3), (4, .int x4)]) (st' := [.int x2]) rfl ?_
    obtain ⟨q3, hq3, hm⟩ := am_bE hm
    refine ms_callS (M2 := mt_X9_isCategory) (d2 := 2) [.int x2] (am_fd ck_X9_limit (pc := 11) rfl) ok_X9_isCategory tw_956 tw_957 (Nat.le_of_ble_eq_true rfl) (Nat.le_of_ble_eq_true rfl) (x_X9_isCategory hL hq3) ?_
    refine am_ifc (tgt := 40) (am_fd ck_X9_limit (pc := 14) rfl) rfl (fun hc4 => ?_) (fun hc4 => ?_)
    · replace hm := am_it hm hc4
      refine am_steps ck_X9_limit 1 (pc' := 41) (lv' := [(0, .ref 3261), (1, .int x1), (2, .int x2), (3, .int x3), (4, .int x4)]) (st' := [.int (am_i (-1))]) rfl ?_
      cases hm
      exact am_end (am_fd ck_X9_limit (pc := 41) rfl) am_rI rfl rfl
    · replace hm := am_if hm hc4
      refine am_steps ck_X9_limit 1 (pc' := 18) (lv' := [(0, .ref 3261), (1, .int x1), (2, .int x2), (3, .int x3), (4, .int x4)]) (st' := [.int x3]) rfl ?_
      obtain ⟨q5, hq5, hm⟩ := am_bE hm
      refine ms_callS (M2 := mt_X9_isCategory) (d2 := 2) [.int x3] (am_fd ck_X9_limit (pc := 18) rfl) ok_X9_isCategory tw_956 tw_957 (Nat.le_of_ble_eq_true rfl) (Nat.le_of_ble_eq_true rfl) (x_X9_isCategory hL hq5) ?_
      refine am_ifc (tgt := 40) (am_fd ck_X9_limit (pc := 21) rfl) rfl (fun hc6 => ?_) (fun hc6 => ?_)
      · replace hm := am_it hm hc6
        refine am_steps ck_X9_limit 1 (pc' := 41) (lv' := [(0, .ref 3261), (1, .int x1), (2, .int x2), (3, .int x3), (4, .int x4)]) (st' := [.int (am_i (-1))]) rfl ?_
        cases hm
        exact am_end (am_fd ck_X9_limit (pc := 41) rfl) am_rI rfl rfl
      · replace hm := am_if hm hc6
        refine am_steps ck_X9_limit 2 (pc' := 26) (lv' := [(0, .ref 3261), (1, .int x1), (2, .int x2), (3, .int x3), (4, .int x4)]) (st' := [.int x3, .int x2]) rfl ?_
        refine am_icmp (tgt := 40) (am_fd ck_X9_limit (pc := 26) rfl) rfl (fun hc7 => ?_) (fun hc7 => ?_)
        · replace hm := am_it hm hc7
          refine am_steps ck_X9_limit 1 (pc' := 41) (lv' := [(0, .ref 3261), (1, .int x1), (2, .int x2), (3, .int x3), (4, .int x4)]) (st' := [.int (am_i (-1))]) rfl ?_
          cases hm
          exact am_end (am_fd ck_X9_limit (pc := 41) rfl) am_rI rfl rfl
        · replace hm := am_if hm hc7
          refine am_steps ck_X9_limit 2 (pc' := 32) (lv' := [(0, .ref 3261), (1, .int x1), (2, .int x2), (3, .int x3), (4, .int x4)]) (st' := [.int (am_i (-1)), .int x4]) rfl ?_
          refine am_ldc (am_fd ck_X9_limit (pc := 32) rfl) tw_1088 ?_
          obtain ⟨q8, hq8, hm⟩ := am_bE hm
          refine ms_callS (M2 := mt_X9_isIn) (d2 := 1) [.int x4, .int (am_i (-1)), .int (am_i 999999)] (am_fd ck_X9_limit (pc := 34) rfl) ok_X9_isIn tw_953 tw_954 (Nat.le_of_ble_eq_true rfl) (Nat.le_of_ble_eq_true rfl) (x_X9_isIn hL hq8) ?_
          refine am_ifc (tgt := 42) (am_fd ck_X9_limit (pc := 37) rfl) rfl (fun hc9 => ?_) (fun hc9 => ?_)
          · replace hm := am_it hm hc9
            refine am_steps ck_X9_limit 1 (pc' := 43) (lv' := [(0, .ref 3261), (1, .int x1), (2, .int x2), (3, .int x3), (4, .int x4)]) (st' := [.ref 3261]) rfl ?_
            refine ms_getr (ci := 7) (k := 0) (v := 3262) (am_fd ck_X9_limit (pc := 43) rfl) tw_875 kc_3261 rfl (ly_3261_0 hL) kc_3262 ?_
            refine am_steps ck_X9_limit 1 (pc' := 49) (lv' := [(0, .ref 3261), (1, .int x1), (2, .int x2), (3, .int x3), (4, .int x4)]) (st' := [.int (am_i 15467), .ref 3262]) rfl ?_
            obtain ⟨hb10, hm⟩ := am_gE hm
            refine ms_iald (n := 15517) (am_fd ck_X9_limit (pc := 49) rfl) kc_3262 hb10 ?_
            refine am_steps ck_X9_limit 3 (pc' := 55) (lv' := [(6, .int (am_i 0)), (5, .int (m 3262 (am_ix (am_i 15467)))), (0, .ref 3261), (1, .int x1), (2, .int x2), (3, .int x3), (4, .int x4)]) (st' := []) rfl ?_
            refine am_subp [2, 3, 4, 5, 6, 1, 0] rfl ?_
            refine x_X9_limit_55 hL am_F _ hm (fun u18 hm => ?_)
            refine am_steps ck_X9_limit 2 (pc' := 126) (lv' := [(0, .ref 3261), (1, .int x1), (2, .int x2), (3, .int x3), (4, .int x4), (5, .int (m 3262 (am_ix (am_i 15467)))), (6, .int u18)]) (st' := [.int (am_i (-1)), .int x4]) rfl ?_
            refine am_icmp (tgt := 206) (am_fd ck_X9_limit (pc := 126) rfl) rfl (fun hc19 => ?_) (fun hc19 => ?_)
            · replace hm := am_it hm hc19
              refine am_steps ck_X9_limit 2 (pc' := 210) (lv' := [(0, .ref 3261), (1, .int x1), (2, .int x2), (3, .int x3), (4, .int x4), (5, .int (m 3262 (am_ix (am_i 15467)))), (6, .int u18)]) (st' := [.int (am_i 12), .int u18]) rfl ?_
              refine am_icmp (tgt := 215) (am_fd ck_X9_limit (pc := 210) rfl) rfl (fun hc20 => ?_) (fun hc20 => ?_)
              · replace hm := am_it hm hc20
                refine am_steps ck_X9_limit 1 (pc' := 216) (lv' := [(0, .ref 3261), (1, .int x1), (2, .int x2), (3, .int x3), (4, .int x4), (5, .int (m 3262 (am_ix (am_i 15467)))), (6, .int u18)]) (st' := [.ref 3261]) rfl ?_
                refine ms_getr (ci := 7) (k := 0) (v := 3262) (am_fd ck_X9_limit (pc := 216) rfl) tw_875 kc_3261 rfl (ly_3261_0 hL) kc_3262 ?_
                refine am_steps ck_X9_limit 6 (pc' := 228) (lv' := [(0, .ref 3261), (1, .int x1), (2, .int x2), (3, .int x3), (4, .int x4), (5, .int (m 3262 (am_ix (am_i 15467)))), (6, .int u18)]) (st' := [.int x1, .int ((am_i 15468) + ((am_i 4) * u18)), .ref 3262]) rfl ?_
                obtain ⟨hb21, hm⟩ := am_gE hm
                refine ms_iast (n := 15517) (am_fd ck_X9_limit (pc := 228) rfl) kc_3262 hb21 (fun m22 em22 => ?_)
                replace hm := am_letE em22 hm
                refine am_steps ck_X9_limit 1 (pc' := 230) (lv' := [(0, .ref 3261), (1, .int x1), (2, .int x2), (3, .int x3), (4, .int x4), (5, .int (m 3262 (am_ix (am_i 15467)))), (6, .int u18)]) (st' := [.ref 3261]) rfl ?_
                refine ms_getr (ci := 7) (k := 0) (v := 3262) (am_fd ck_X9_limit (pc := 230) rfl) tw_875 kc_3261 rfl (ly_3261_0 hL) kc_3262 ?_
                refine am_steps ck_X9_limit 8 (pc' := 244) (lv' := [(0, .ref 3261), (1, .int x1), (2, .int x2), (3, .int x3), (4, .int x4), (5, .int (m 3262 (am_ix (am_i 15467)))), (6, .int u18)]) (st' := [.int x2, .int (((am_i 15468) + ((am_i 4) * u18)) + (am_i 1)), .ref 3262]) rfl ?_
                obtain ⟨hb23, hm⟩ := am_gE hm
                refine ms_iast (n := 15517) (am_fd ck_X9_limit (pc := 244) rfl) kc_3262 hb23 (fun m24 em24 => ?_)
                replace hm := am_letE em24 hm
                refine am_steps ck_X9_limit 1 (pc' := 246) (lv' := [(0, .ref 3261), (1, .int x1), (2, .int x2), (3, .int x3), (4, .int x4), (5, .int (m 3262 (am_ix (am_i 15467)))), (6, .int u18)]) (st' := [.ref 3261]) rfl ?_
                refine ms_getr (ci := 7) (k := 0) (v := 3262) (am_fd ck_X9_limit (pc := 246) rfl) tw_875 kc_3261 rfl (ly_3261_0 hL) kc_3262 ?_
                refine am_steps ck_X9_limit 8 (pc' := 260) (lv' := [(0, .ref 3261), (1, .int x1), (2, .int x2), (3, .int x3), (4, .int x4), (5, .int (m 3262 (am_ix (am_i 15467)))), (6, .int u18)]) (st' := [.int x3, .int (((am_i 15468) + ((am_i 4) * u18)) + (am_i 2)), .ref 3262]) rfl ?_
                obtain ⟨hb25, hm⟩ := am_gE hm
                refine ms_iast (n := 15517) (am_fd ck_X9_limit (pc := 260) rfl) kc_3262 hb25 (fun m26 em26 => ?_)
                replace hm := am_letE em26 hm
                refine am_steps ck_X9_limit 1 (pc' := 262) (lv' := [(0, .ref 3261), (1, .int x1), (2, .int x2), (3, .int x3), (4, .int x4), (5, .int (m 3262 (am_ix (am_i 15467)))), (6, .int u18)]) (st' := [.ref 3261]) rfl ?_
                refine ms_getr (ci := 7) (k := 0) (v := 3262) (am_fd ck_X9_limit (pc := 262) rfl) tw_875 kc_3261 rfl (ly_3261_0 hL) kc_3262 ?_
                refine am_steps ck_X9_limit 8 (pc' := 277) (lv' := [(0, .ref 3261), (1, .int x1), (2, .int x2), (3, .int x3), (4, .int x4), (5, .int (m 3262 (am_ix (am_i 15467)))), (6, .int u18)]) (st' := [.int x4, .int (((am_i 15468) + ((am_i 4) * u18)) + (am_i 3)), .ref 3262]) rfl ?_
                obtain ⟨hb27, hm⟩ := am_gE hm
                refine ms_iast (n := 15517) (am_fd ck_X9_limit (pc := 277) rfl) kc_3262 hb27 (fun m28 em28 => ?_)
                replace hm := am_letE em28 hm
                refine am_steps ck_X9_limit 1 (pc' := 279) (lv' := [(0, .ref 3261), (1, .int x1), (2, .int x2), (3, .int x3), (4, .int x4), (5, .int (m 3262 (am_ix (am_i 15467)))), (6, .int u18)]) (st' := [.ref 3261]) rfl ?_
                refine ms_getr (ci := 7) (k := 0) (v := 3262) (am_fd ck_X9_limit (pc := 279) rfl) tw_875 kc_3261 rfl (ly_3261_0 hL) kc_3262 ?_
                refine am_steps ck_X9_limit 3 (pc' := 289) (lv' := [(0, .ref 3261), (1, .int x1), (2, .int x2), (3, .int x3), (4, .int x4), (5, .int (m 3262 (am_ix (am_i 15467)))), (6, .int u18)]) (st' := [.int (m 3262 (am_ix (am_i 15467))), .int u18, .int (am_i 15467), .ref 3262]) rfl ?_
                refine am_icmp (tgt := 299) (am_fd ck_X9_limit (pc := 289) rfl) rfl (fun hc29 => ?_) (fun hc29 => ?_)
                · replace hm := am_it hm hc29
                  refine am_steps ck_X9_limit 1 (pc' := 301) (lv' := [(0, .ref 3261), (1, .int x1), (2, .int x2), (3, .int x3), (4, .int x4), (5, .int (m 3262 (am_ix (am_i 15467)))), (6, .int u18)]) (st' := [.int (m 3262 (am_ix (am_i 15467))), .int (am_i 15467), .ref 3262]) rfl ?_
                  obtain ⟨hb30, hm⟩ := am_gE hm
                  refine ms_iast (n := 15517) (am_fd ck_X9_limit (pc := 301) rfl) kc_3262 hb30 (fun m31 em31 => ?_)
                  replace hm := am_letE em31 hm
                  refine am_steps ck_X9_limit 1 (pc' := 303) (lv' := [(0, .ref 3261), (1, .int x1), (2, .int x2), (3, .int x3), (4, .int x4), (5, .int (m 3262 (am_ix (am_i 15467)))), (6, .int u18)]) (st' := [.ref 3261]) rfl ?_
                  refine ms_getr (ci := 7) (k := 0) (v := 3262) (am_fd ck_X9_limit (pc := 303) rfl) tw_875 kc_3261 rfl (ly_3261_0 hL) kc_3262 ?_
                  refine am_steps ck_X9_limit 1 (pc' := 309) (lv' := [(0, .ref 3261), (1, .int x1), (2, .int x2), (3, .int x3), (4, .int x4), (5, .int (m 3262 (am_ix (am_i 15467)))), (6, .int u18)]) (st' := [.int (am_i 15467), .ref 3262]) rfl ?_
                  obtain ⟨hb32, hm⟩ := am_gE hm
                  refine ms_iald (n := 15517) (am_fd ck_X9_limit (pc := 309) rfl) kc_3262 hb32 ?_
                  cases hm
                  exact am_end (am_fd ck_X9_limit (pc := 310) rfl) am_rI rfl rfl
                · replace hm := am_if hm hc29
                  refine am_steps ck_X9_limit 4 (pc' := 301) (lv' := [(0, .ref 3261), (1, .int x1), (2, .int x2), (3, .int x3), (4, .int x4), (5, .int (m 3262 (am_ix (am_i 15467)))), (6, .int u18)]) (st' := [.int ((m 3262 (am_ix (am_i 15467))) + (am_i 1)), .int (am_i 15467), .ref 3262]) rfl ?_
                  obtain ⟨hb33, hm⟩ := am_gE hm
                  refine ms_iast (n := 15517) (am_fd ck_X9_limit (pc := 301) rfl) kc_3262 hb33 (fun m34 em34 => ?_)
                  replace hm := am_letE em34 hm
                  refine am_steps ck_X9_limit 1 (pc' := 303) (lv' := [(0, .ref 3261), (1, .int x1), (2, .int x2), (3, .int x3), (4, .int x4), (5, .int (m 3262 (am_ix (am_i 15467)))), (6, .int u18)]) (st' := [.ref 3261]) rfl ?_
                  refine ms_getr (ci := 7) (k := 0) (v := 3262) (am_fd ck_X9_limit (pc := 303) rfl) tw_875 kc_3261 rfl (ly_3261_0 hL) kc_3262 ?_
                  refine am_steps ck_X9_limit 1 (pc' := 309) (lv' := [(0, .ref 3261), (1, .int x1), (2, .int x2), (3, .int x3), (4, .int x4), (5, .int (m 3262 (am_ix (am_i 15467)))), (6, .int u18)]) (st' := [.int (am_i 15467), .ref 3262]) rfl ?_
                  obtain ⟨hb35, hm⟩ := am_gE hm
                  refine ms_iald (n := 15517) (am_fd ck_X9_limit (pc := 309) rfl) kc_3262 hb35 ?_
                  cases hm
                  exact am_end (am_fd ck_X9_limit (pc := 310) rfl) am_rI rfl rfl
              · replace hm := am_if hm hc20
                refine am_steps ck_X9_limit 1 (pc' := 214) (lv' := [(0, .ref 3261), (1, .int x1), (2, .int x2), (3, .int x3), (4, .int x4), (5, .int (m 3262 (am_ix (am_i 15467)))), (6, .int u18)]) (st' := [.int (am_i (-1))]) rfl ?_
                cases hm
                exact am_end (am_fd ck_X9_limit (pc := 214) rfl) am_rI rfl rfl
            · replace hm := am_if hm hc19
              refine am_steps ck_X9_limit 2 (pc' := 133) (lv' := [(0, .ref 3261), (1, .int x1), (2, .int x2), (3, .int x3), (4, .int x4), (5, .int (m 3262 (am_ix (am_i 15467)))), (6, .int u18)]) (st' := [.int (m 3262 (am_ix (am_i 15467))), .int u18]) rfl ?_
              refine am_icmp (tgt := 138) (am_fd ck_X9_limit (pc := 133) rfl) rfl (fun hc36 => ?_) (fun hc36 => ?_)
              · replace hm := am_it hm hc36
                refine am_steps ck_X9_limit 4 (pc' := 144) (lv' := [(7, .int ((am_i 4) * u18)), (0, .ref 3261), (1, .int x1), (2, .int x2), (3, .int x3), (4, .int x4), (5, .int (m 3262 (am_ix (am_i 15467)))), (6, .int u18)]) (st' := []) rfl ?_
                refine am_subp [1, 6, 0] rfl ?_
                refine x_X9_limit_144 hL am_F _ _ hm (fun m41 hm => ?_)
                refine am_steps ck_X9_limit 1 (pc' := 186) (lv' := [(0, .ref 3261)]) (st' := [.ref 3261]) rfl ?_
                refine ms_getr (ci := 7) (k := 0) (v := 3262) (am_fd ck_X9_limit (pc := 186) rfl) tw_875 kc_3261 rfl (ly_3261_0 hL) kc_3262 ?_
                refine am_steps ck_X9_limit 2 (pc' := 193) (lv' := [(0, .ref 3261)]) (st' := [.int (am_i 15467), .ref 3262, .int (am_i 15467), .ref 3262]) rfl ?_
                obtain ⟨hb42, hm⟩ := am_gE hm
                refine ms_iald (n := 15517) (am_fd ck_X9_limit (pc := 193) rfl) kc_3262 hb42 ?_
                refine am_steps ck_X9_limit 2 (pc' := 196) (lv' := [(0, .ref 3261)]) (st' := [.int ((m41 3262 (am_ix (am_i 15467))) - (am_i 1)), .int (am_i 15467), .ref 3262]) rfl ?_
                obtain ⟨hb43, hm⟩ := am_gE hm
                refine ms_iast (n := 15517) (am_fd ck_X9_limit (pc := 196) rfl) kc_3262 hb43 (fun m44 em44 => ?_)
                replace hm := am_letE em44 hm
                refine am_steps ck_X9_limit 1 (pc' := 198) (lv' := [(0, .ref 3261)]) (st' := [.ref 3261]) rfl ?_
                refine ms_getr (ci := 7) (k := 0) (v := 3262) (am_fd ck_X9_limit (pc := 198) rfl) tw_875 kc_3261 rfl (ly_3261_0 hL) kc_3262 ?_
                refine am_steps ck_X9_limit 1 (pc' := 204) (lv' := [(0, .ref 3261)]) (st' := [.int (am_i 15467), .ref 3262]) rfl ?_
                obtain ⟨hb45, hm⟩ := am_gE hm
                refine ms_iald (n := 15517) (am_fd ck_X9_limit (pc := 204) rfl) kc_3262 hb45 ?_
                cases hm
                exact am_end (am_fd ck_X9_limit (pc := 205) rfl) am_rI rfl rfl
              · replace hm := am_if hm hc36
                refine am_steps ck_X9_limit 1 (pc' := 137) (lv' := [(0, .ref 3261), (1, .int x1), (2, .int x2), (3, .int x3), (4, .int x4), (5, .int (m 3262 (am_ix (am_i 15467)))), (6, .int u18)]) (st' := [.int (am_i (-1))]) rfl ?_
                cases hm
                exact am_end (am_fd ck_X9_limit (pc := 137) rfl) am_rI rfl rfl
          · replace hm := am_if hm hc9
            refine am_steps ck_X9_limit 1 (pc' := 41) (lv' := [(0, .ref 3261), (1, .int x1), (2, .int x2), (3, .int x3), (4, .int x4)]) (st' := [.int (am_i (-1))]) rfl ?_
            cases hm
            exact am_end (am_fd ck_X9_limit (pc := 41) rfl) am_rI rfl rfl
set_option maxRecDepth 100000 in
set_option maxHeartbeats 4000000 in
theorem x_X9_over_41 {G : am_G} {x1 : Int32} {m : am_m} {r : am_rr} {y1 : Int32} {y2 : Int32} {res : Int32} {k : Int32 → Option (Int32)} (hL : am_Lay r) : ∀ (n : Nat) (z3 : Int32) (z4 : Int32), m_X9_over_41 x1 m y1 y2 k n z3 z4 = some res → (∀ (u3 : Int32), k u3 = some res → am_W G mt_X9_over 3 (some (.int res)) (am_hh m r) 81 [(0, .ref 3261), (1, .int y1), (3, .int u3)] [] (am_hh m r)) → am_W G mt_X9_over 3 (some (.int res)) (am_hh m r) 41 [(0, .ref 3261), (1, .int y1), (2, .int y2), (3, .int z3), (4, .int z4)] [] (am_hh m r) := by
  intro n
  induction n with
  | zero => intro z3 z4 hm K; cases hm
  | succ n ih =>
    intro z3 z4 hm K
    unfold m_X9_over_41 at hm
    refine am_steps ck_X9_over 2 (pc' := 44) (lv' := [(0, .ref 3261), (1, .int y1), (2, .int y2), (3, .int z3), (4, .int z4)]) (st' := [.ref 3261, .int z4]) rfl ?_
    refine ms_getr (ci := 7) (k := 0) (v := 3262) (am_fd ck_X9_over (pc := 44) rfl) tw_875 kc_3261 rfl (ly_3261_0 hL) kc_3262 ?_
    refine am_steps ck_X9_over 7 (pc' := 56) (lv' := [(0, .ref 3261), (1, .int y1), (2, .int y2), (3, .int z3), (4, .int z4)]) (st' := [.int (((am_i 15468) + ((am_i 4) * y1)) + (am_i 2)), .ref 3262, .int z4]) rfl ?_
    obtain ⟨hb5, hm⟩ := am_gE hm
    refine ms_iald (n := 15517) (am_fd ck_X9_over (pc := 56) rfl) kc_3262 hb5 ?_
    refine am_icmp (tgt := 81) (am_fd ck_X9_over (pc := 57) rfl) rfl (fun hc6 => ?_) (fun hc6 => ?_)
    · replace hm := am_it hm hc6
      refine am_subp [0, 1, 3] rfl ?_
      exact K _ hm
    · replace hm := am_if hm hc6
      refine am_steps ck_X9_over 2 (pc' := 62) (lv' := [(0, .ref 3261), (1, .int y1), (2, .int y2), (3, .int z3), (4, .int z4)]) (st' := [.ref 3261, .int z3]) rfl ?_
      refine ms_getr (ci := 7) (k := 0) (v := 3262) (am_fd ck_X9_over (pc := 62) rfl) tw_875 kc_3261 rfl (ly_3261_0 hL) kc_3262 ?_
      refine am_steps ck_X9_over 1 (pc' := 66) (lv' := [(0, .ref 3261), (1, .int y1), (2, .int y2), (3, .int z3), (4, .int z4)]) (st' := [.int y2, .ref 3262, .int z3]) rfl ?_
      obtain ⟨q7, hq7, hm⟩ := am_bE hm
      refine ms_callS (M2 := mt_X9_sumAt) (d2 := 1) [.int y2] (am_fd ck_X9_over (pc := 66) rfl) ok_X9_sumAt tw_982 tw_983 (Nat.le_of_ble_eq_true rfl) (Nat.le_of_ble_eq_true rfl) (x_X9_sumAt hL hq7) ?_
      refine am_steps ck_X9_over 2 (pc' := 72) (lv' := [(0, .ref 3261), (1, .int y1), (2, .int y2), (3, .int z3), (4, .int z4)]) (st' := [.int (q7 + z4), .ref 3262, .int z3]) rfl ?_
      obtain ⟨hb8, hm⟩ := am_gE hm
      refine ms_iald (n := 15517) (am_fd ck_X9_over (pc := 72) rfl) kc_3262 hb8 ?_
      refine am_steps ck_X9_over 4 (pc' := 41) (lv' := [(4, .int (z4 + am_i 1)), (3, .int (z3 + (m 3262 (am_ix (q7 + z4))))), (0, .ref 3261), (1, .int y1), (2, .int y2)]) (st' := []) rfl ?_
      refine am_subp [2, 3, 4, 1, 0] rfl ?_
      exact ih _ _ hm K
set_option maxRecDepth 100000 in
set_option maxHeartbeats 4000000 in
theorem x_X9_over {G : am_G} {m : am_m} {r : am_rr} {x1 : Int32} {res : Int32} (hL : am_Lay r) (hm : m_X9_over m x1 = some res) : am_Met G mt_X9_over 3 [.ref 3261, .int x1] (am_hh m r) (some (.int res)) (am_hh m r) := by
  refine am_of (by decide) (Nat.le_of_ble_eq_true rfl) ?_
  unfold m_X9_over at hm
  show am_W G mt_X9_over 3 _ _ 0 [(0, .ref 3261), (1, .int x1)] [] (am_hh m r)
  refine am_steps ck_X9_over 1 (pc' := 1) (lv' := [(0, .ref 3261), (1, .int x1)]) (st' := [.ref 3261]) rfl ?_
  refine ms_getr (ci := 7) (k := 0) (v := 3262) (am_fd ck_X9_over (pc := 1) rfl) tw_875 kc_3261 rfl (ly_3261_0 hL) kc_3262 ?_
  refine am_steps ck_X9_over 5 (pc' := 11) (lv' := [(0, .ref 3261), (1, .int x1)]) (st' := [.int ((am_i 15468) + ((am_i 4) * x1)), .ref 3262]) rfl ?_
  obtain ⟨hb1, hm⟩ := am_gE hm
  refine ms_iald (n := 15517) (am_fd ck_X9_over (pc := 11) rfl) kc_3262 hb1 ?_
  refine am_steps ck_X9_over 3 (pc' := 15) (lv' := [(2, .int (m 3262 (am_ix ((am_i 15468) + ((am_i 4) * x1))))), (0, .ref 3261), (1, .int x1)]) (st' := [.int (m 3262 (am_ix ((am_i 15468) + ((am_i 4) * x1)))), .ref 3261]) rfl ?_
  obtain ⟨q2, hq2, hm⟩ := am_bE hm
  refine ms_callV (M2 := mt_X9_isUnit) (d2 := 2) (ci := 7) [.int (m 3262 (am_ix ((am_i 15468) + ((am_i 4) * x1))))] (am_fd ck_X9_over (pc := 15) rfl) ok_X9_isUnit tw_949 tw_951 ts_28 (by decide) kc_3261 (Nat.le_of_ble_eq_true rfl) (Nat.le_of_ble_eq_true rfl) (x_X9_isUnit hL hq2) ?_
  refine am_ifc (tgt := 23) (am_fd ck_X9_over (pc := 18) rfl) rfl (fun hc3 => ?_) (fun hc3 => ?_)
  · replace hm := am_it hm hc3
    refine am_steps ck_X9_over 3 (pc' := 26) (lv' := [(3, .int (am_i 0)), (2, .int (m 3262 (am_ix ((am_i 15468) + ((am_i 4) * x1))))), (0, .ref 3261), (1, .int x1)]) (st' := [.ref 3261]) rfl ?_
    refine ms_getr (ci := 7) (k := 0) (v := 3262) (am_fd ck_X9_over (pc := 26) rfl) tw_875 kc_3261 rfl (ly_3261_0 hL) kc_3262 ?_
    refine am_steps ck_X9_over 7 (pc' := 38) (lv' := [(3, .int (am_i 0)), (2, .int (m 3262 (am_ix ((am_i 15468) + ((am_i 4) * x1))))), (0, .ref 3261), (1, .int x1)]) (st' := [.int (((am_i 15468) + ((am_i 4) * x1)) + (am_i 1)), .ref 3262]) rfl ?_
    obtain ⟨hb4, hm⟩ := am_gE hm
    refine ms_iald (n := 15517) (am_fd ck_X9_over (pc := 38) rfl) kc_3262 hb4 ?_
    refine am_steps ck_X9_over 1 (pc' := 41) (lv' := [(4, .int (m 3262 (am_ix (((am_i 15468) + ((am_i 4) * x1)) + (am_i 1))))), (3, .int (am_i 0)), (2, .int (m 3262 (am_ix ((am_i 15468) + ((am_i 4) * x1))))), (0, .ref 3261), (1, .int x1)]) (st' := []) rfl ?_
    refine am_subp [3, 4, 2, 1, 0] rfl ?_
    refine x_X9_over_41 hL am_F _ _ hm (fun u9 hm => ?_)
    refine am_steps ck_X9_over 2 (pc' := 83) (lv' := [(0, .ref 3261), (1, .int x1), (3, .int u9)]) (st' := [.ref 3261, .int u9]) rfl ?_
    refine ms_getr (ci := 7) (k := 0) (v := 3262) (am_fd ck_X9_over (pc := 83) rfl) tw_875 kc_3261 rfl (ly_3261_0 hL) kc_3262 ?_
    refine am_steps ck_X9_over 7 (pc' := 95) (lv' := [(0, .ref 3261), (1, .int x1), (3, .int u9)]) (st' := [.int (((am_i 15468) + ((am_i 4) * x1)) + (am_i 3)), .ref 3262, .int u9]) rfl ?_
    obtain ⟨hb10, hm⟩ := am_gE hm
    refine ms_iald (n := 15517) (am_fd ck_X9_over (pc := 95) rfl) kc_3262 hb10 ?_
    refine am_steps ck_X9_over 1 (pc' := 97) (lv' := [(0, .ref 3261), (1, .int x1), (3, .int u9)]) (st' := [.int (u9 - (m 3262 (am_ix (((am_i 15468) + ((am_i 4) * x1)) + (am_i 3)))))]) rfl ?_
    cases hm
    exact am_end (am_fd ck_X9_over (pc := 97) rfl) am_rI rfl rfl
  · replace hm := am_if hm hc3
    refine am_steps ck_X9_over 1 (pc' := 22) (lv' := [(2, .int (m 3262 (am_ix ((am_i 15468) + ((am_i 4) * x1))))), (0, .ref 3261), (1, .int x1)]) (st' := [.int (am_i 0)]) rfl ?_
    cases hm
    exact am_end (am_fd ck_X9_over (pc := 22) rfl) am_rI rfl rfl
set_option maxRecDepth 100000 in
set_option maxHeartbeats 4000000 in
theorem x_X9_broken_5 {G : am_G} {x1 : Int32} {x2 : Int32} {m : am_m} {r : am_rr} {y1 : Int32} {y2 : Int32} {res : Int32} {k : Int32 → Option (Int32)} (hL : am_Lay r) : ∀ (n : Nat) (z3 : Int32) (z4 : Int32), m_X9_broken_5 x1 x2 m y1 y2 k n z3 z4 = some res → (∀ (u3 : Int32), k u3 = some res → am_W G mt_X9_broken 4 (some (.int res)) (am_hh m r) 80 [(1, .int y1), (3, .int u3)] [] (am_hh m r)) → am_W G mt_X9_broken 4 (some (.int res)) (am_hh m r) 5 [(0, .ref 3261), (1, .int y1), (2, .int y2), (3, .int z3), (4, .int z4)] [] (am_hh m r) := by
  intro n
  induction n with
  | zero => intro z3 z4 hm K; cases hm
  | succ n ih =>
    intro z3 z4 hm K
    unfold m_X9_broken_5 at hm
    refine am_steps ck_X9_broken 2 (pc' := 8) (lv' := [(0, .ref 3261), (1, .int y1), (2, .int y2), (3, .int z3), (4, .int z4)]) (st' := [.ref 3261, .int z4]) rfl ?_
    refine ms_getr (ci := 7) (k := 0) (v := 3262) (am_fd ck_X9_broken (pc := 8) rfl) tw_875 kc_3261 rfl (ly_3261_0 hL) kc_3262 ?_
    refine am_steps ck_X9_broken 1 (pc' := 14) (lv' := [(0, .ref 3261), (1, .int y1), (2, .int y2), (3, .int z3), (4, .int z4)]) (st' := [.int (am_i 15467), .ref 3262, .int z4]) rfl ?_
    obtain ⟨hb1, hm⟩ := am_gE hm
    refine ms_iald (n := 15517) (am_fd ck_X9_broken (pc := 14) rfl) kc_3262 hb1 ?_
    refine am_icmp (tgt := 80) (am_fd ck_X9_broken (pc := 15) rfl) rfl (fun hc2 => ?_) (fun hc2 => ?_)
    · replace hm := am_it hm hc2
      refine am_subp [1, 3] rfl ?_
      exact K _ hm
    · replace hm := am_if hm hc2
      refine am_steps ck_X9_broken 2 (pc' := 21) (lv' := [(0, .ref 3261), (1, .int y1), (2, .int y2), (3, .int z3), (4, .int z4)]) (st' := [.int z4, .ref 3261]) rfl ?_
      obtain ⟨q3, hq3, hm⟩ := am_bE hm
      refine ms_callV (M2 := mt_X9_over) (d2 := 3) (ci := 7) [.int z4] (am_fd ck_X9_broken (pc := 21) rfl) ok_X9_over tw_1093 tw_1095 ts_49 (by decide) kc_3261 (Nat.le_of_ble_eq_true rfl) (Nat.le_of_ble_eq_true rfl) (x_X9_over hL hq3) ?_
      refine am_ifc (tgt := 30) (am_fd ck_X9_broken (pc := 24) rfl) rfl (fun hc4 => ?_) (fun hc4 => ?_)
      · replace hm := am_it hm hc4
        refine am_steps ck_X9_broken 2 (pc' := 32) (lv' := [(0, .ref 3261), (1, .int y1), (2, .int y2), (3, .int z3), (4, .int z4)]) (st' := [.int y1, .int z3]) rfl ?_
        refine am_icmp (tgt := 71) (am_fd ck_X9_broken (pc := 32) rfl) rfl (fun hc5 => ?_) (fun hc5 => ?_)
        · replace hm := am_it hm hc5
          refine am_steps ck_X9_broken 3 (pc' := 5) (lv' := [(4, .int (z4 + am_i 1)), (3, .int (z3 + am_i 1)), (0, .ref 3261), (1, .int y1), (2, .int y2)]) (st' := []) rfl ?_
          refine am_subp [2, 3, 4, 1, 0] rfl ?_
          exact ih _ _ hm K
        · replace hm := am_if hm hc5
          refine am_steps ck_X9_broken 1 (pc' := 36) (lv' := [(0, .ref 3261), (1, .int y1), (2, .int y2), (3, .int z3), (4, .int z4)]) (st' := [.int y2]) rfl ?_
          refine am_ifc (tgt := 55) (am_fd ck_X9_broken (pc := 36) rfl) rfl (fun hc6 => ?_) (fun hc6 => ?_)
          · replace hm := am_it hm hc6
            refine am_steps ck_X9_broken 2 (pc' := 57) (lv' := [(0, .ref 3261), (1, .int y1), (2, .int y2), (3, .int z3), (4, .int z4)]) (st' := [.int (am_i 1), .int y2]) rfl ?_
            refine am_icmp (tgt := 69) (am_fd ck_X9_broken (pc := 57) rfl) rfl (fun hc7 => ?_) (fun hc7 => ?_)
            · replace hm := am_it hm hc7
              refine am_steps ck_X9_broken 1 (pc' := 70) (lv' := [(0, .ref 3261), (1, .int y1), (2, .int y2), (3, .int z3), (4, .int z4)]) (st' := [.int (am_i (-1))]) rfl ?_
              cases hm
              exact am_end (am_fd ck_X9_broken (pc := 70) rfl) am_rI rfl rfl
            · replace hm := am_if hm hc7
              refine am_steps ck_X9_broken 2 (pc' := 63) (lv' := [(0, .ref 3261), (1, .int y1), (2, .int y2), (3, .int z3), (4, .int z4)]) (st' := [.int z4, .ref 3261]) rfl ?_
              obtain ⟨q8, hq8, hm⟩ := am_bE hm
              refine ms_callV (M2 := mt_X9_over) (d2 := 3) (ci := 7) [.int z4] (am_fd ck_X9_broken (pc := 63) rfl) ok_X9_over tw_1093 tw_1095 ts_49 (by decide) kc_3261 (Nat.le_of_ble_eq_true rfl) (Nat.le_of_ble_eq_true rfl) (x_X9_over hL hq8) ?_
              refine am_steps ck_X9_broken 1 (pc' := 70) (lv' := [(0, .ref 3261), (1, .int y1), (2, .int y2), (3, .int z3), (4, .int z4)]) (st' := [.int q8]) rfl ?_
              cases hm
              exact am_end (am_fd ck_X9_broken (pc := 70) rfl) am_rI rfl rfl
          · replace hm := am_if hm hc6
            refine am_steps ck_X9_broken 1 (pc' := 40) (lv' := [(0, .ref 3261), (1, .int y1), (2, .int y2), (3, .int z3), (4, .int z4)]) (st' := [.ref 3261]) rfl ?_
            refine ms_getr (ci := 7) (k := 0) (v := 3262) (am_fd ck_X9_broken (pc := 40) rfl) tw_875 kc_3261 rfl (ly_3261_0 hL) kc_3262 ?_
            refine am_steps ck_X9_broken 5 (pc' := 51) (lv' := [(0, .ref 3261), (1, .int y1), (2, .int y2), (3, .int z3), (4, .int z4)]) (st' := [.int ((am_i 15468) + ((am_i 4) * z4)), .ref 3262]) rfl ?_
            obtain ⟨hb9, hm⟩ := am_gE hm
            refine ms_iald (n := 15517) (am_fd ck_X9_broken (pc := 51) rfl) kc_3262 hb9 ?_
            refine am_steps ck_X9_broken 1 (pc' := 70) (lv' := [(0, .ref 3261), (1, .int y1), (2, .int y2), (3, .int z3), (4, .int z4)]) (st' := [.int (m 3262 (am_ix ((am_i 15468) + ((am_i 4) * z4))))]) rfl ?_
            cases hm
            exact am_end (am_fd ck_X9_broken (pc := 70) rfl) am_rI rfl rfl
      · replace hm := am_if hm hc4
        refine am_steps ck_X9_broken 3 (pc' := 5) (lv' := [(4, .int (z4 + am_i 1)), (0, .ref 3261), (1, .int y1), (2, .int y2), (3, .int z3)]) (st' := []) rfl ?_
        refine am_subp [1, 2, 3, 4, 0] rfl ?_
        exact ih _ _ hm K
set_option maxRecDepth 100000 in
set_option maxHeartbeats 4000000 in
theorem x_X9_broken {G : am_G} {m : am_m} {r : am_rr} {x1 : Int32} {x2 : Int32} {res : Int32} (hL : am_Lay r) (hm : m_X9_broken m x1 x2 = some res) : am_Met G mt_X9_broken 4 [.ref 3261, .int x1, .int x2] (am_hh m r) (some (.int res)) (am_hh m r) := by
  refine am_of (by decide) (Nat.le_of_ble_eq_true rfl) ?_
  unfold m_X9_broken at hm
  show am_W G mt_X9_broken 4 _ _ 0 [(0, .ref 3261), (1, .int x1), (2, .int x2)] [] (am_hh m r)
  refine am_steps ck_X9_broken 4 (pc' := 5) (lv' := [(4, .int (am_i 0)), (3, .int (am_i 0)), (0, .ref 3261), (1, .int x1), (2, .int x2)]) (st' := []) rfl ?_
  refine am_subp [2, 3, 4, 1, 0] rfl ?_
  refine x_X9_broken_5 hL am_F _ _ hm (fun u10 hm => ?_)
  refine am_steps ck_X9_broken 2 (pc' := 82) (lv' := [(1, .int x1), (3, .int u10)]) (st' := [.int (am_i (-1)), .int x1]) rfl ?_
  refine am_icmp (tgt := 89) (am_fd ck_X9_broken (pc := 82) rfl) rfl (fun hc11 => ?_) (fun hc11 => ?_)
  · replace hm := am_it hm hc11
    refine am_steps ck_X9_broken 1 (pc' := 90) (lv' := [(1, .int x1), (3, .int u10)]) (st' := [.int (am_i (-1))]) rfl ?_
    cases hm
    exact am_end (am_fd ck_X9_broken (pc := 90) rfl) am_rI rfl rfl
  · replace hm := am_if hm hc11
    refine am_steps ck_X9_broken 2 (pc' := 90) (lv' := [(1, .int x1), (3, .int u10)]) (st' := [.int u10]) rfl ?_
    cases hm
    exact am_end (am_fd ck_X9_broken (pc := 90) rfl) am_rI rfl rfl
set_option maxRecDepth 100000 in
set_option maxHeartbeats 4000000 in
theorem x_X9_state {G : am_G} {m : am_m} {r : am_rr} {x1 : Int32} {res : Int32 × am_m} (hL : am_Lay r) (hm : m_X9_state m x1 = some res) : am_Met G mt_X9_state 1 [.ref 3261, .int x1] (am_hh m r) (some (.int res.1)) (am_hh res.2 r) := by
  refine am_of (by decide) (Nat.le_of_ble_eq_true rfl) ?_
  unfold m_X9_state at hm
  show am_W G mt_X9_state 1 _ _ 0 [(0, .ref 3261), (1, .int x1)] [] (am_hh m r)
  refine am_steps ck_X9_state 1 (pc' := 1) (lv' := [(0, .ref 3261), (1, .int x1)]) (st' := [.ref 3261]) rfl ?_
  refine ms_getr (ci := 7) (k := 0) (v := 3262) (am_fd ck_X9_state (pc := 1) rfl) tw_875 kc_3261 rfl (ly_3261_0 hL) kc_3262 ?_
  refine am_steps ck_X9_state 1 (pc' := 7) (lv' := [(0, .ref 3261), (1, .int x1)]) (st' := [.int (am_i 15516), .ref 3262]) rfl ?_
  obtain ⟨hb1, hm⟩ := am_gE hm
  refine ms_iald (n := 15517) (am_fd ck_X9_state (pc := 7) rfl) kc_3262 hb1 ?_
  refine am_steps ck_X9_state 2 (pc' := 10) (lv' := [(2, .int (m 3262 (am_ix (am_i 15516)))), (0, .ref 3261), (1, .int x1)]) (st' := [.ref 3261]) rfl ?_
  refine ms_getr (ci := 7) (k := 0) (v := 3262) (am_fd ck_X9_state (pc := 10) rfl) tw_875 kc_3261 rfl (ly_3261_0 hL) kc_3262 ?_
  refine am_steps ck_X9_state 2 (pc' := 17) (lv' := [(2, .int (m 3262 (am_ix (am_i 15516)))), (0, .ref 3261), (1, .int x1)]) (st' := [.int x1, .int (am_i 15516), .ref 3262]) rfl ?_
  obtain ⟨hb2, hm⟩ := am_gE hm
  refine ms_iast (n := 15517) (am_fd ck_X9_state (pc := 17) rfl) kc_3262 hb2 (fun m3 em3 => ?_)
  replace hm := am_letE em3 hm
  refine am_steps ck_X9_state 1 (pc' := 19) (lv' := [(2, .int (m 3262 (am_ix (am_i 15516)))), (0, .ref 3261), (1, .int x1)]) (st' := [.int (m 3262 (am_ix (am_i 15516)))]) rfl ?_
  cases hm
  exact am_end (am_fd ck_X9_state (pc := 19) rfl) am_rI rfl rfl
set_option maxRecDepth 100000 in
set_option maxHeartbeats 4000000 in
theorem x_X9_draw {G : am_G} {m : am_m} {r : am_rr} {x1 : Int32} {res : Int32 × am_m} (hL : am_Lay r) (hm : m_X9_draw m x1 = some res) : am_Met G mt_X9_draw 1 [.ref 3261, .int x1] (am_hh m r) (some (.int res.1)) (am_hh res.2 r) := by
  refine am_of (by decide) (Nat.le_of_ble_eq_true rfl) ?_
  unfold m_X9_draw at hm
  show am_W G mt_X9_draw 1 _ _ 0 [(0, .ref 3261), (1, .int x1)] [] (am_hh m r)
  refine am_steps ck_X9_draw 1 (pc' := 1) (lv' := [(0, .ref 3261), (1, .int x1)]) (st' := [.ref 3261]) rfl ?_
  refine ms_getr (ci := 7) (k := 0) (v := 3262) (am_fd ck_X9_draw (pc := 1) rfl) tw_875 kc_3261 rfl (ly_3261_0 hL) kc_3262 ?_
  refine am_steps ck_X9_draw 1 (pc' := 7) (lv' := [(0, .ref 3261), (1, .int x1)]) (st' := [.int (am_i 15516), .ref 3262]) rfl ?_
  refine am_ldc (am_fd ck_X9_draw (pc := 7) rfl) tw_1282 ?_
  refine am_steps ck_X9_draw 1 (pc' := 10) (lv' := [(0, .ref 3261), (1, .int x1)]) (st' := [.ref 3261, .int (am_i 1664525), .int (am_i 15516), .ref 3262]) rfl ?_
  refine ms_getr (ci := 7) (k := 0) (v := 3262) (am_fd ck_X9_draw (pc := 10) rfl) tw_875 kc_3261 rfl (ly_3261_0 hL) kc_3262 ?_
  refine am_steps ck_X9_draw 1 (pc' := 16) (lv' := [(0, .ref 3261), (1, .int x1)]) (st' := [.int (am_i 15516), .ref 3262, .int (am_i 1664525), .int (am_i 15516), .ref 3262]) rfl ?_
  obtain ⟨hb1, hm⟩ := am_gE hm
  refine ms_iald (n := 15517) (am_fd ck_X9_draw (pc := 16) rfl) kc_3262 hb1 ?_
  refine am_steps ck_X9_draw 1 (pc' := 18) (lv' := [(0, .ref 3261), (1, .int x1)]) (st' := [.int ((am_i 1664525) * (m 3262 (am_ix (am_i 15516)))), .int (am_i 15516), .ref 3262]) rfl ?_
  refine am_ldc (am_fd ck_X9_draw (pc := 18) rfl) tw_1283 ?_
  refine am_steps ck_X9_draw 1 (pc' := 21) (lv' := [(0, .ref 3261), (1, .int x1)]) (st' := [.int (((am_i 1664525) * (m 3262 (am_ix (am_i 15516)))) + (am_i 1013904223)), .int (am_i 15516), .ref 3262]) rfl ?_
  obtain ⟨hb2, hm⟩ := am_gE hm
  refine ms_iast (n := 15517) (am_fd ck_X9_draw (pc := 21) rfl) kc_3262 hb2 (fun m3 em3 => ?_)
  replace hm := am_letE em3 hm
  refine am_steps ck_X9_draw 1 (pc' := 23) (lv' := [(0, .ref 3261), (1, .int x1)]) (st' := [.ref 3261]) rfl ?_
  refine ms_getr (ci := 7) (k := 0) (v := 3262) (am_fd ck_X9_draw (pc := 23) rfl) tw_875 kc_3261 rfl (ly_3261_0 hL) kc_3262 ?_
  refine am_steps ck_X9_draw 1 (pc' := 29) (lv' := [(0, .ref 3261), (1, .int x1)]) (st' := [.int (am_i 15516), .ref 3262]) rfl ?_
  obtain ⟨hb4, hm⟩ := am_gE hm
  refine ms_iald (n := 15517) (am_fd ck_X9_draw (pc := 29) rfl) kc_3262 hb4 ?_
  refine am_steps ck_X9_draw 3 (pc' := 34) (lv' := [(0, .ref 3261), (1, .int x1)]) (st' := [.int x1, .int (((m3 3262 (am_ix (am_i 15516))).toUInt32 >>> ((am_i 8).toUInt32 &&& Int32.toUInt32 31)).toInt32)]) rfl ?_
  obtain ⟨hb5, hm⟩ := am_gE hm
  refine am_irem (am_fd ck_X9_draw (pc := 34) rfl) (am_nzE hb5) ?_
  cases hm
  exact am_end (am_fd ck_X9_draw (pc := 35) rfl) am_rI rfl rfl
set_option maxRecDepth 100000 in
set_option maxHeartbeats 4000000 in
theorem x_X9_comes__3 {G : am_G} {x1 : Int32} {r : am_rr} {y1 : Int32} {res : am_m} {k : am_m → Option (am_m)} (hL : am_Lay r) : ∀ (n : Nat) (z2 : Int32) (m : am_m), m_X9_comes__3 x1 y1 k n z2 m = some res → (∀ (m1 : am_m), k m1 = some res → am_W G mt_X9_comes_ 1 none (am_hh res r) 36 [] [] (am_hh m1 r)) → am_W G mt_X9_comes_ 1 none (am_hh res r) 3 [(0, .ref 3261), (1, .int y1), (2, .int z2)] [] (am_hh m r) := by
  intro n
  induction n with
  | zero => intro z2 m hm K; cases hm
  | succ n ih =>
    intro z2 m hm K
    unfold m_X9_comes__3 at hm
    refine am_steps ck_X9_comes_ 1 (pc' := 4) (lv' := [(0, .ref 3261), (1, .int y1), (2, .int z2)]) (st' := [.int z2]) rfl ?_
    refine am_ifc (tgt := 36) (am_fd ck_X9_comes_ (pc := 4) rfl) rfl (fun hc1 => ?_) (fun hc1 => ?_)
    · replace hm := am_it hm hc1
      refine am_subp [] rfl ?_
      exact K _ hm
    · replace hm := am_if hm hc1
      refine am_steps ck_X9_comes_ 1 (pc' := 8) (lv' := [(0, .ref 3261), (1, .int y1), (2, .int z2)]) (st' := [.ref 3261]) rfl ?_
      refine ms_getr (ci := 7) (k := 8) (v := 3268) (am_fd ck_X9_comes_ (pc := 8) rfl) tw_883 kc_3261 rfl (ly_3261_8 hL) kc_3268 ?_
      refine am_steps ck_X9_comes_ 1 (pc' := 12) (lv' := [(0, .ref 3261), (1, .int y1), (2, .int z2)]) (st' := [.ref 3261, .ref 3268]) rfl ?_
      refine ms_geti (ci := 7) (k := 9) (am_fd ck_X9_comes_ (pc := 12) rfl) tw_884 kc_3261 rfl ?_
      refine am_steps ck_X9_comes_ 4 (pc' := 19) (lv' := [(0, .ref 3261), (1, .int y1), (2, .int z2)]) (st' := [.int ((y1.toUInt32 >>> (z2.toUInt32 &&& Int32.toUInt32 31)).toInt32).toInt8.toInt32, .int (m 3261 9), .ref 3268]) rfl ?_
      obtain ⟨hb2, hm⟩ := am_gE hm
      refine ms_bast (n := 400) (am_fd ck_X9_comes_ (pc := 19) rfl) kc_3268 hb2 (fun m3 em3 => ?_)
      replace hm := am_letE em3 hm
      refine am_steps ck_X9_comes_ 2 (pc' := 22) (lv' := [(0, .ref 3261), (1, .int y1), (2, .int z2)]) (st' := [.ref 3261, .ref 3261]) rfl ?_
      refine ms_geti (ci := 7) (k := 9) (am_fd ck_X9_comes_ (pc := 22) rfl) tw_884 kc_3261 rfl ?_
      refine am_steps ck_X9_comes_ 2 (pc' := 27) (lv' := [(0, .ref 3261), (1, .int y1), (2, .int z2)]) (st' := [.int ((m3 3261 9) + (am_i 1)), .ref 3261]) rfl ?_
      refine ms_puti (ci := 7) (k := 9) (am_fd ck_X9_comes_ (pc := 27) rfl) tw_884 kc_3261 rfl rfl (fun m4 em4 => ?_)
      replace hm := am_letE em4 hm
      refine am_steps ck_X9_comes_ 2 (pc' := 3) (lv' := [(2, .int (z2 + am_i (-8))), (0, .ref 3261), (1, .int y1)]) (st' := []) rfl ?_
      refine am_subp [1, 2, 0] rfl ?_
      exact ih _ _ hm K
set_option maxRecDepth 100000 in
set_option maxHeartbeats 4000000 in
theorem x_X9_comes_ {G : am_G} {m : am_m} {r : am_rr} {x1 : Int32} {res : am_m} (hL : am_Lay r) (hm : m_X9_comes_ m x1 = some res) : am_Met G mt_X9_comes_ 1 [.ref 3261, .int x1] (am_hh m r) none (am_hh res r) := by
  refine am_of (by decide) (Nat.le_of_ble_eq_true rfl) ?_
  unfold m_X9_comes_ at hm
  show am_W G mt_X9_comes_ 1 _ _ 0 [(0, .ref 3261), (1, .int x1)] [] (am_hh m r)
  refine am_steps ck_X9_comes_ 2 (pc' := 3) (lv' := [(2, .int (am_i 24)), (0, .ref 3261), (1, .int x1)]) (st' := []) rfl ?_
  refine am_subp [1, 2, 0] rfl ?_
  refine x_X9_comes__3 hL am_F _ _ hm (fun m5 hm => ?_)
  cases hm
  exact am_end (am_fd ck_X9_comes_ (pc := 36) rfl) am_rV rfl rfl
set_option maxRecDepth 100000 in
set_option maxHeartbeats 4000000 in
theorem x_X9_feed {G : am_G} {m : am_m} {r : am_rr} {x1 : Int32} {x2 : Int32} {x3 : Int32} {x4 : Int32} {x5 : Int32} {res : Int32 × am_m} (hL : am_Lay r) (hm : m_X9_feed m x1 x2 x3 x4 x5 = some res) : am_Met G mt_X9_feed 2 [.ref 3261, .int x1, .int x2, .int x3, .int x4, .int x5] (am_hh m r) (some (.int res.1)) (am_hh res.2 r) := by
  refine am_of (by decide) (Nat.le_of_ble_eq_true rfl) ?_
  unfold m_X9_feed at hm
  show am_W G mt_X9_feed 2 _ _ 0 [(0, .ref 3261), (1, .int x1), (2, .int x2), (3, .int x3), (4, .int x4), (5, .int x5)] [] (am_hh m r)
  refine am_steps ck_X9_feed 1 (pc' := 1) (lv' := [(0, .ref 3261), (1, .int x1), (2, .int x2), (3, .int x3), (4, .int x4), (5, .int x5)]) (st' := [.ref 3261]) rfl ?_
  refine ms_geti (ci := 7) (k := 9) (am_fd ck_X9_feed (pc := 1) rfl) tw_884 kc_3261 rfl ?_
  refine am_steps ck_X9_feed 3 (pc' := 10) (lv' := [(0, .ref 3261), (1, .int x1), (2, .int x2), (3, .int x3), (4, .int x4), (5, .int x5)]) (st' := [.int (am_i 400), .int ((m 3261 9) + (am_i 20))]) rfl ?_
  refine am_icmp (tgt := 15) (am_fd ck_X9_feed (pc := 10) rfl) rfl (fun hc1 => ?_) (fun hc1 => ?_)
  · replace hm := am_it hm hc1
    refine am_steps ck_X9_feed 2 (pc' := 17) (lv' := [(0, .ref 3261), (1, .int x1), (2, .int x2), (3, .int x3), (4, .int x4), (5, .int x5)]) (st' := [.int x1, .ref 3261]) rfl ?_
    obtain ⟨q2, hq2, hm⟩ := am_bE hm
    refine ms_callVv (M2 := mt_X9_comes_) (d2 := 1) (ci := 7) [.int x1] (am_fd ck_X9_feed (pc := 17) rfl) ok_X9_comes_ tw_1105 tw_1107 ts_50 (by decide) kc_3261 (Nat.le_of_ble_eq_true rfl) (Nat.le_of_ble_eq_true rfl) (x_X9_comes_ hL hq2) ?_
    refine am_steps ck_X9_feed 2 (pc' := 22) (lv' := [(0, .ref 3261), (1, .int x1), (2, .int x2), (3, .int x3), (4, .int x4), (5, .int x5)]) (st' := [.int x2, .ref 3261]) rfl ?_
    obtain ⟨q3, hq3, hm⟩ := am_bE hm
    refine ms_callVv (M2 := mt_X9_comes_) (d2 := 1) (ci := 7) [.int x2] (am_fd ck_X9_feed (pc := 22) rfl) ok_X9_comes_ tw_1105 tw_1107 ts_50 (by decide) kc_3261 (Nat.le_of_ble_eq_true rfl) (Nat.le_of_ble_eq_true rfl) (x_X9_comes_ hL hq3) ?_
    refine am_steps ck_X9_feed 2 (pc' := 27) (lv' := [(0, .ref 3261), (1, .int x1), (2, .int x2), (3, .int x3), (4, .int x4), (5, .int x5)]) (st' := [.int x3, .ref 3261]) rfl ?_
    obtain ⟨q4, hq4, hm⟩ := am_bE hm
    refine ms_callVv (M2 := mt_X9_comes_) (d2 := 1) (ci := 7) [.int x3] (am_fd ck_X9_feed (pc := 27) rfl) ok_X9_comes_ tw_1105 tw_1107 ts_50 (by decide) kc_3261 (Nat.le_of_ble_eq_true rfl) (Nat.le_of_ble_eq_true rfl) (x_X9_comes_ hL hq4) ?_
    refine am_steps ck_X9_feed 2 (pc' := 33) (lv' := [(0, .ref 3261), (1, .int x1), (2, .int x2), (3, .int x3), (4, .int x4), (5, .int x5)]) (st' := [.int x4, .ref 3261]) rfl ?_
    obtain ⟨q5, hq5, hm⟩ := am_bE hm
    refine ms_callVv (M2 := mt_X9_comes_) (d2 := 1) (ci := 7) [.int x4] (am_fd ck_X9_feed (pc := 33) rfl) ok_X9_comes_ tw_1105 tw_1107 ts_50 (by decide) kc_3261 (Nat.le_of_ble_eq_true rfl) (Nat.le_of_ble_eq_true rfl) (x_X9_comes_ hL hq5) ?_
    refine am_steps ck_X9_feed 2 (pc' := 39) (lv' := [(0, .ref 3261), (1, .int x1), (2, .int x2), (3, .int x3), (4, .int x4), (5, .int x5)]) (st' := [.int x5, .ref 3261]) rfl ?_
    obtain ⟨q6, hq6, hm⟩ := am_bE hm
    refine ms_callVv (M2 := mt_X9_comes_) (d2 := 1) (ci := 7) [.int x5] (am_fd ck_X9_feed (pc := 39) rfl) ok_X9_comes_ tw_1105 tw_1107 ts_50 (by decide) kc_3261 (Nat.le_of_ble_eq_true rfl) (Nat.le_of_ble_eq_true rfl) (x_X9_comes_ hL hq6) ?_
    refine am_steps ck_X9_feed 1 (pc' := 43) (lv' := [(0, .ref 3261), (1, .int x1), (2, .int x2), (3, .int x3), (4, .int x4), (5, .int x5)]) (st' := [.ref 3261]) rfl ?_
    refine ms_geti (ci := 7) (k := 9) (am_fd ck_X9_feed (pc := 43) rfl) tw_884 kc_3261 rfl ?_
    cases hm
    exact am_end (am_fd ck_X9_feed (pc := 46) rfl) am_rI rfl rfl
  · replace hm := am_if hm hc1
    refine am_steps ck_X9_feed 1 (pc' := 14) (lv' := [(0, .ref 3261), (1, .int x1), (2, .int x2), (3, .int x3), (4, .int x4), (5, .int x5)]) (st' := [.int (am_i (-1))]) rfl ?_
    cases hm
    exact am_end (am_fd ck_X9_feed (pc := 14) rfl) am_rI rfl rfl
set_option maxRecDepth 100000 in
set_option maxHeartbeats 4000000 in
theorem x_X9_end {G : am_G} {m : am_m} {r : am_rr} {x1 : Int32} {res : Int32 × am_m} (hL : am_Lay r) (hm : m_X9_end m x1 = some res) : am_Met G mt_X9_end 2 [.ref 3261, .int x1] (am_hh m r) (some (.int res.1)) (am_hh res.2 r) := by
  refine am_of (by decide) (Nat.le_of_ble_eq_true rfl) ?_
  unfold m_X9_end at hm
  show am_W G mt_X9_end 2 _ _ 0 [(0, .ref 3261), (1, .int x1)] [] (am_hh m r)
  refine am_steps ck_X9_end 3 (pc' := 3) (lv' := [(0, .ref 3261), (1, .int x1)]) (st' := [.ref 3261, .int (am_i 0), .int x1]) rfl ?_
  refine ms_geti (ci := 7) (k := 9) (am_fd ck_X9_end (pc := 3) rfl) tw_884 kc_3261 rfl ?_
  obtain ⟨q1, hq1, hm⟩ := am_bE hm
  refine ms_callS (M2 := mt_X9_isIn) (d2 := 1) [.int x1, .int (am_i 0), .int (m 3261 9)] (am_fd ck_X9_end (pc := 6) rfl) ok_X9_isIn tw_953 tw_954 (Nat.le_of_ble_eq_true rfl) (Nat.le_of_ble_eq_true rfl) (x_X9_isIn hL hq1) ?_
  refine am_ifc (tgt := 14) (am_fd ck_X9_end (pc := 9) rfl) rfl (fun hc2 => ?_) (fun hc2 => ?_)
  · replace hm := am_it hm hc2
    refine am_steps ck_X9_end 2 (pc' := 16) (lv' := [(0, .ref 3261), (1, .int x1)]) (st' := [.int x1, .ref 3261]) rfl ?_
    refine ms_puti (ci := 7) (k := 9) (am_fd ck_X9_end (pc := 16) rfl) tw_884 kc_3261 rfl rfl (fun m3 em3 => ?_)
    replace hm := am_letE em3 hm
    refine am_steps ck_X9_end 1 (pc' := 20) (lv' := [(0, .ref 3261), (1, .int x1)]) (st' := [.int (am_i 1)]) rfl ?_
    cases hm
    exact am_end (am_fd ck_X9_end (pc := 20) rfl) am_rZ1 rfl rfl
  · replace hm := am_if hm hc2
    refine am_steps ck_X9_end 1 (pc' := 13) (lv' := [(0, .ref 3261), (1, .int x1)]) (st' := [.int (am_i 0)]) rfl ?_
    cases hm
    exact am_end (am_fd ck_X9_end (pc := 13) rfl) am_rZ0 rfl rfl
set_option maxRecDepth 100000 in
set_option maxHeartbeats 4000000 in
theorem x_X9_fault {G : am_G} {m : am_m} {r : am_rr} {x1 : Int32} {res : Int32} (hL : am_Lay r) (hm : m_X9_fault m x1 = some res) : am_Met G mt_X9_fault 1 [.ref 3261, .int x1] (am_hh m r) (some (.int res)) (am_hh m r) := by
  refine am_of (by decide) (Nat.le_of_ble_eq_true rfl) ?_
  unfold m_X9_fault at hm
  show am_W G mt_X9_fault 1 _ _ 0 [(0, .ref 3261), (1, .int x1)] [] (am_hh m r)
  refine am_steps ck_X9_fault 1 (pc' := 1) (lv' := [(0, .ref 3261), (1, .int x1)]) (st' := [.int x1]) rfl ?_
  refine am_ifc (tgt := 11) (am_fd ck_X9_fault (pc := 1) rfl) rfl (fun hc1 => ?_) (fun hc1 => ?_)
  · replace hm := am_it hm hc1
    refine am_steps ck_X9_fault 2 (pc' := 13) (lv' := [(0, .ref 3261), (1, .int x1)]) (st' := [.int (am_i 1), .int x1]) rfl ?_
    refine am_icmp (tgt := 23) (am_fd ck_X9_fault (pc := 13) rfl) rfl (fun hc2 => ?_) (fun hc2 => ?_)
    · replace hm := am_it hm hc2
      refine am_steps ck_X9_fault 1 (pc' := 24) (lv' := [(0, .ref 3261), (1, .int x1)]) (st' := [.int (am_i (-1))]) rfl ?_
      cases hm
      exact am_end (am_fd ck_X9_fault (pc := 24) rfl) am_rI rfl rfl
    · replace hm := am_if hm hc2
      refine am_steps ck_X9_fault 1 (pc' := 17) (lv' := [(0, .ref 3261), (1, .int x1)]) (st' := [.ref 3261]) rfl ?_
      refine ms_geti (ci := 7) (k := 12) (am_fd ck_X9_fault (pc := 17) rfl) tw_887 kc_3261 rfl ?_
      refine am_steps ck_X9_fault 1 (pc' := 24) (lv' := [(0, .ref 3261), (1, .int x1)]) (st' := [.int (m 3261 12)]) rfl ?_
      cases hm
      exact am_end (am_fd ck_X9_fault (pc := 24) rfl) am_rI rfl rfl
  · replace hm := am_if hm hc1
    refine am_steps ck_X9_fault 1 (pc' := 5) (lv' := [(0, .ref 3261), (1, .int x1)]) (st' := [.ref 3261]) rfl ?_
    refine ms_geti (ci := 7) (k := 11) (am_fd ck_X9_fault (pc := 5) rfl) tw_886 kc_3261 rfl ?_
    refine am_steps ck_X9_fault 1 (pc' := 24) (lv' := [(0, .ref 3261), (1, .int x1)]) (st' := [.int (m 3261 11)]) rfl ?_
    cases hm
    exact am_end (am_fd ck_X9_fault (pc := 24) rfl) am_rI rfl rfl
set_option maxRecDepth 100000 in
set_option maxHeartbeats 4000000 in
theorem x_X9_wrong {G : am_G} {m : am_m} {r : am_rr} {x1 : Int32} {x2 : Int32} {res : am_m} (hL : am_Lay r) (hm : m_X9_wrong m x1 x2 = some res) : am_Met G mt_X9_wrong 1 [.ref 3261, .int x1, .int x2] (am_hh m r) none (am_hh res r) := by
  refine am_of (by decide) (Nat.le_of_ble_eq_true rfl) ?_
  unfold m_X9_wrong at hm
  show am_W G mt_X9_wrong 1 _ _ 0 [(0, .ref 3261), (1, .int x1), (2, .int x2)] [] (am_hh m r)
  refine am_steps ck_X9_wrong 1 (pc' := 1) (lv' := [(0, .ref 3261), (1, .int x1), (2, .int x2)]) (st' := [.ref 3261]) rfl ?_
  refine ms_geti (ci := 7) (k := 13) (am_fd ck_X9_wrong (pc := 1) rfl) tw_888 kc_3261 rfl ?_
  refine am_ifc (tgt := 8) (am_fd ck_X9_wrong (pc := 4) rfl) rfl (fun hc1 => ?_) (fun hc1 => ?_)
  · replace hm := am_it hm hc1
    refine am_steps ck_X9_wrong 2 (pc' := 10) (lv' := [(0, .ref 3261), (1, .int x1), (2, .int x2)]) (st' := [.int (am_i 1), .ref 3261]) rfl ?_
    refine ms_putz (ci := 7) (k := 13) (am_fd ck_X9_wrong (pc := 10) rfl) tw_888 kc_3261 rfl rfl (Or.inr am_i1) (fun m2 em2 => ?_)
    replace hm := am_letE em2 hm
    refine am_steps ck_X9_wrong 2 (pc' := 15) (lv' := [(0, .ref 3261), (1, .int x1), (2, .int x2)]) (st' := [.int x1, .ref 3261]) rfl ?_
    refine ms_puti (ci := 7) (k := 11) (am_fd ck_X9_wrong (pc := 15) rfl) tw_886 kc_3261 rfl rfl (fun m3 em3 => ?_)
    replace hm := am_letE em3 hm
    refine am_steps ck_X9_wrong 2 (pc' := 20) (lv' := [(0, .ref 3261), (1, .int x1), (2, .int x2)]) (st' := [.int x2, .ref 3261]) rfl ?_
    refine ms_puti (ci := 7) (k := 12) (am_fd ck_X9_wrong (pc := 20) rfl) tw_887 kc_3261 rfl rfl (fun m4 em4 => ?_)
    replace hm := am_letE em4 hm
    cases hm
    exact am_end (am_fd ck_X9_wrong (pc := 23) rfl) am_rV rfl rfl
  · replace hm := am_if hm hc1
    cases hm
    exact am_end (am_fd ck_X9_wrong (pc := 7) rfl) am_rV rfl rfl
set_option maxRecDepth 100000 in
set_option maxHeartbeats 4000000 in
theorem x_X9_isNext_0 {G : am_G} {x1 : Int32} {r : am_rr} {y1 : Int32} {res : Int32 × am_m} {k : am_m → Option (Int32 × am_m)} (hL : am_Lay r) : ∀ (n : Nat) (m : am_m), m_X9_isNext_0 x1 y1 k n m = some res → (∀ (m1 : am_m), k m1 = some res → am_W G mt_X9_isNext 1 (some (.int res.1)) (am_hh res.2 r) 38 [(0, .ref 3261), (1, .int y1)] [] (am_hh m1 r)) → am_W G mt_X9_isNext 1 (some (.int res.1)) (am_hh res.2 r) 0 [(0, .ref 3261), (1, .int y1)] [] (am_hh m r) := by
  intro n
  induction n with
  | zero => intro m hm K; cases hm
  | succ n ih =>
    intro m hm K
    unfold m_X9_isNext_0 at hm
    refine am_steps ck_X9_isNext 1 (pc' := 1) (lv' := [(0, .ref 3261), (1, .int y1)]) (st' := [.ref 3261]) rfl ?_
    refine ms_geti (ci := 7) (k := 10) (am_fd ck_X9_isNext (pc := 1) rfl) tw_885 kc_3261 rfl ?_
    refine am_steps ck_X9_isNext 1 (pc' := 5) (lv' := [(0, .ref 3261), (1, .int y1)]) (st' := [.ref 3261, .int (m 3261 10)]) rfl ?_
    refine ms_geti (ci := 7) (k := 9) (am_fd ck_X9_isNext (pc := 5) rfl) tw_884 kc_3261 rfl ?_
    refine am_icmp (tgt := 38) (am_fd ck_X9_isNext (pc := 8) rfl) rfl (fun hc1 => ?_) (fun hc1 => ?_)
    · replace hm := am_it hm hc1
      exact K _ hm
    · replace hm := am_if hm hc1
      refine am_steps ck_X9_isNext 1 (pc' := 12) (lv' := [(0, .ref 3261), (1, .int y1)]) (st' := [.ref 3261]) rfl ?_
      refine ms_getr (ci := 7) (k := 8) (v := 3268) (am_fd ck_X9_isNext (pc := 12) rfl) tw_883 kc_3261 rfl (ly_3261_8 hL) kc_3268 ?_
      refine am_steps ck_X9_isNext 1 (pc' := 16) (lv' := [(0, .ref 3261), (1, .int y1)]) (st' := [.ref 3261, .ref 3268]) rfl ?_
      refine ms_geti (ci := 7) (k := 10) (am_fd ck_X9_isNext (pc := 16) rfl) tw_885 kc_3261 rfl ?_
      obtain ⟨hb2, hm⟩ := am_gE hm
      refine ms_bald (n := 400) (am_fd ck_X9_isNext (pc := 19) rfl) kc_3268 hb2 ?_
      refine am_steps ck_X9_isNext 1 (pc' := 22) (lv' := [(0, .ref 3261), (1, .int y1)]) (st' := [.int (am_i 32), .int (m 3268 (am_ix (m 3261 10)))]) rfl ?_
      refine am_icmp (tgt := 38) (am_fd ck_X9_isNext (pc := 22) rfl) rfl (fun hc3 => ?_) (fun hc3 => ?_)
      · replace hm := am_it hm hc3
        exact K _ hm
      · replace hm := am_if hm hc3
        refine am_steps ck_X9_isNext 2 (pc' := 27) (lv' := [(0, .ref 3261), (1, .int y1)]) (st' := [.ref 3261, .ref 3261]) rfl ?_
        refine ms_geti (ci := 7) (k := 10) (am_fd ck_X9_isNext (pc := 27) rfl) tw_885 kc_3261 rfl ?_
        refine am_steps ck_X9_isNext 2 (pc' := 32) (lv' := [(0, .ref 3261), (1, .int y1)]) (st' := [.int ((m 3261 10) + (am_i 1)), .ref 3261]) rfl ?_
        refine ms_puti (ci := 7) (k := 10) (am_fd ck_X9_isNext (pc := 32) rfl) tw_885 kc_3261 rfl rfl (fun m4 em4 => ?_)
        replace hm := am_letE em4 hm
        refine am_steps ck_X9_isNext 1 (pc' := 0) (lv' := [(0, .ref 3261), (1, .int y1)]) (st' := []) rfl ?_
        exact ih _ hm K
set_option maxRecDepth 100000 in
set_option maxHeartbeats 4000000 in
theorem x_X9_isNext {G : am_G} {m : am_m} {r : am_rr} {x1 : Int32} {res : Int32 × am_m} (hL : am_Lay r) (hm : m_X9_isNext m x1 = some res) : am_Met G mt_X9_isNext 1 [.ref 3261, .int x1] (am_hh m r) (some (.int res.1)) (am_hh res.2 r) := by
  refine am_of (by decide) (Nat.le_of_ble_eq_true rfl) ?_
  unfold m_X9_isNext at hm
  show am_W G mt_X9_isNext 1 _ _ 0 [(0, .ref 3261), (1, .int x1)] [] (am_hh m r)
  refine x_X9_isNext_0 hL am_F _ hm (fun m5 hm => ?_)
  refine am_steps ck_X9_isNext 1 (pc' := 39) (lv' := [(0, .ref 3261), (1, .int x1)]) (st' := [.ref 3261]) rfl ?_
  refine ms_geti (ci := 7) (k := 10) (am_fd ck_X9_isNext (pc := 39) rfl) tw_885 kc_3261 rfl ?_
  refine am_steps ck_X9_isNext 1 (pc' := 43) (lv' := [(0, .ref 3261), (1, .int x1)]) (st' := [.ref 3261, .int (m5 3261 10)]) rfl ?_
  refine ms_geti (ci := 7) (k := 9) (am_fd ck_X9_isNext (pc := 43) rfl) tw_884 kc_3261 rfl ?_
  refine am_icmp (tgt := 66) (am_fd ck_X9_isNext (pc := 46) rfl) rfl (fun hc6 => ?_) (fun hc6 => ?_)
  · replace hm := am_it hm hc6
    refine am_steps ck_X9_isNext 1 (pc' := 67) (lv' := [(0, .ref 3261), (1, .int x1)]) (st' := [.int (am_i 0)]) rfl ?_
    cases hm
    exact am_end (am_fd ck_X9_isNext (pc := 67) rfl) am_rZ0 rfl rfl
  · replace hm := am_if hm hc6
    refine am_steps ck_X9_isNext 1 (pc' := 50) (lv' := [(0, .ref 3261), (1, .int x1)]) (st' := [.ref 3261]) rfl ?_
    refine ms_getr (ci := 7) (k := 8) (v := 3268) (am_fd ck_X9_isNext (pc := 50) rfl) tw_883 kc_3261 rfl (ly_3261_8 hL) kc_3268 ?_
    refine am_steps ck_X9_isNext 1 (pc' := 54) (lv' := [(0, .ref 3261), (1, .int x1)]) (st' := [.ref 3261, .ref 3268]) rfl ?_
    refine ms_geti (ci := 7) (k := 10) (am_fd ck_X9_isNext (pc := 54) rfl) tw_885 kc_3261 rfl ?_
    obtain ⟨hb7, hm⟩ := am_gE hm
    refine ms_bald (n := 400) (am_fd ck_X9_isNext (pc := 57) rfl) kc_3268 hb7 ?_
    refine am_steps ck_X9_isNext 1 (pc' := 59) (lv' := [(0, .ref 3261), (1, .int x1)]) (st' := [.int x1, .int (m5 3268 (am_ix (m5 3261 10)))]) rfl ?_
    refine am_icmp (tgt := 66) (am_fd ck_X9_isNext (pc := 59) rfl) rfl (fun hc8 => ?_) (fun hc8 => ?_)
    · replace hm := am_it hm hc8
      refine am_steps ck_X9_isNext 1 (pc' := 67) (lv' := [(0, .ref 3261), (1, .int x1)]) (st' := [.int (am_i 0)]) rfl ?_
      cases hm
      exact am_end (am_fd ck_X9_isNext (pc := 67) rfl) am_rZ0 rfl rfl
    · replace hm := am_if hm hc8
      refine am_steps ck_X9_isNext 2 (pc' := 67) (lv' := [(0, .ref 3261), (1, .int x1)]) (st' := [.int (am_i 1)]) rfl ?_
      cases hm
      exact am_end (am_fd ck_X9_isNext (pc := 67) rfl) am_rZ1 rfl rfl
set_option maxRecDepth 100000 in
set_option maxHeartbeats 4000000 in
theorem x_X9_isDigitNext {G : am_G} {m : am_m} {r : am_rr} {res : Int32 × am_m} (hL : am_Lay r) (hm : m_X9_isDigitNext m  = some res) : am_Met G mt_X9_isDigitNext 2 [.ref 3261] (am_hh m r) (some (.int res.1)) (am_hh res.2 r) := by
  refine am_of (by decide) (Nat.le_of_ble_eq_true rfl) ?_
  unfold m_X9_isDigitNext at hm
  show am_W G mt_X9_isDigitNext 2 _ _ 0 [(0, .ref 3261)] [] (am_hh m r)
  refine am_steps ck_X9_isDigitNext 2 (pc' := 3) (lv' := [(0, .ref 3261)]) (st' := [.int (am_i 32), .ref 3261]) rfl ?_
  obtain ⟨q1, hq1, hm⟩ := am_bE hm
  refine ms_callV (M2 := mt_X9_isNext) (d2 := 1) (ci := 7) [.int (am_i 32)] (am_fd ck_X9_isDigitNext (pc := 3) rfl) ok_X9_isNext tw_1133 tw_1135 ts_54 (by decide) kc_3261 (Nat.le_of_ble_eq_true rfl) (Nat.le_of_ble_eq_true rfl) (x_X9_isNext hL hq1) ?_
  refine am_steps ck_X9_isDigitNext 2 (pc' := 8) (lv' := [(1, .int q1.1), (0, .ref 3261)]) (st' := [.int q1.1]) rfl ?_
  refine am_ifc (tgt := 45) (am_fd ck_X9_isDigitNext (pc := 8) rfl) rfl (fun hc2 => ?_) (fun hc2 => ?_)
  · replace hm := am_it hm hc2
    refine am_steps ck_X9_isDigitNext 1 (pc' := 46) (lv' := [(1, .int q1.1), (0, .ref 3261)]) (st' := [.int (am_i 0)]) rfl ?_
    cases hm
    exact am_end (am_fd ck_X9_isDigitNext (pc := 46) rfl) am_rZ0 rfl rfl
  · replace hm := am_if hm hc2
    refine am_steps ck_X9_isDigitNext 1 (pc' := 12) (lv' := [(1, .int q1.1), (0, .ref 3261)]) (st' := [.ref 3261]) rfl ?_
    refine ms_geti (ci := 7) (k := 10) (am_fd ck_X9_isDigitNext (pc := 12) rfl) tw_885 kc_3261 rfl ?_
    refine am_steps ck_X9_isDigitNext 1 (pc' := 16) (lv' := [(1, .int q1.1), (0, .ref 3261)]) (st' := [.ref 3261, .int (q1.2 3261 10)]) rfl ?_
    refine ms_geti (ci := 7) (k := 9) (am_fd ck_X9_isDigitNext (pc := 16) rfl) tw_884 kc_3261 rfl ?_
    refine am_icmp (tgt := 45) (am_fd ck_X9_isDigitNext (pc := 19) rfl) rfl (fun hc3 => ?_) (fun hc3 => ?_)
    · replace hm := am_it hm hc3
      refine am_steps ck_X9_isDigitNext 1 (pc' := 46) (lv' := [(1, .int q1.1), (0, .ref 3261)]) (st' := [.int (am_i 0)]) rfl ?_
      cases hm
      exact am_end (am_fd ck_X9_isDigitNext (pc := 46) rfl) am_rZ0 rfl rfl
    · replace hm := am_if hm hc3
      refine am_steps ck_X9_isDigitNext 1 (pc' := 23) (lv' := [(1, .int q1.1), (0, .ref 3261)]) (st' := [.ref 3261]) rfl ?_
      refine ms_getr (ci := 7) (k := 8) (v := 3268) (am_fd ck_X9_isDigitNext (pc := 23) rfl) tw_883 kc_3261 rfl (ly_3261_8 hL) kc_3268 ?_
      refine am_steps ck_X9_isDigitNext 1 (pc' := 27) (lv' := [(1, .int q1.1), (0, .ref 3261)]) (st' := [.ref 3261, .ref 3268]) rfl ?_
      refine ms_geti (ci := 7) (k := 10) (am_fd ck_X9_isDigitNext (pc := 27) rfl) tw_885 kc_3261 rfl ?_
      obtain ⟨hb4, hm⟩ := am_gE hm
      refine ms_bald (n := 400) (am_fd ck_X9_isDigitNext (pc := 30) rfl) kc_3268 hb4 ?_
      refine am_steps ck_X9_isDigitNext 2 (pc' := 35) (lv' := [(1, .int q1.1), (0, .ref 3261)]) (st' := [.int (am_i 57), .int (am_i 48), .int (q1.2 3268 (am_ix (q1.2 3261 10)))]) rfl ?_
      obtain ⟨q5, hq5, hm⟩ := am_bE hm
      refine ms_callS (M2 := mt_X9_isIn) (d2 := 1) [.int (q1.2 3268 (am_ix (q1.2 3261 10))), .int (am_i 48), .int (am_i 57)] (am_fd ck_X9_isDigitNext (pc := 35) rfl) ok_X9_isIn tw_953 tw_954 (Nat.le_of_ble_eq_true rfl) (Nat.le_of_ble_eq_true rfl) (x_X9_isIn hL hq5) ?_
      refine am_ifc (tgt := 45) (am_fd ck_X9_isDigitNext (pc := 38) rfl) rfl (fun hc6 => ?_) (fun hc6 => ?_)
      · replace hm := am_it hm hc6
        refine am_steps ck_X9_isDigitNext 1 (pc' := 46) (lv' := [(1, .int q1.1), (0, .ref 3261)]) (st' := [.int (am_i 0)]) rfl ?_
        cases hm
        exact am_end (am_fd ck_X9_isDigitNext (pc := 46) rfl) am_rZ0 rfl rfl
      · replace hm := am_if hm hc6
        refine am_steps ck_X9_isDigitNext 2 (pc' := 46) (lv' := [(1, .int q1.1), (0, .ref 3261)]) (st' := [.int (am_i 1)]) rfl ?_
        cases hm
        exact am_end (am_fd ck_X9_isDigitNext (pc := 46) rfl) am_rZ1 rfl rfl
set_option maxRecDepth 100000 in
set_option maxHeartbeats 4000000 in
theorem x_X9_must {G : am_G} {m : am_m} {r : am_rr} {x1 : Int32} {res : am_m} (hL : am_Lay r) (hm : m_X9_must m x1 = some res) : am_Met G mt_X9_must 2 [.ref 3261, .int x1] (am_hh m r) none (am_hh res r) := by
  refine am_of (by decide) (Nat.le_of_ble_eq_true rfl) ?_
  unfold m_X9_must at hm
  show am_W G mt_X9_must 2 _ _ 0 [(0, .ref 3261), (1, .int x1)] [] (am_hh m r)
  refine am_steps ck_X9_must 2 (pc' := 2) (lv' := [(0, .ref 3261), (1, .int x1)]) (st' := [.int x1, .ref 3261]) rfl ?_
  obtain ⟨q1, hq1, hm⟩ := am_bE hm
  refine ms_callV (M2 := mt_X9_isNext) (d2 := 1) (ci := 7) [.int x1] (am_fd ck_X9_must (pc := 2) rfl) ok_X9_isNext tw_1133 tw_1135 ts_54 (by decide) kc_3261 (Nat.le_of_ble_eq_true rfl) (Nat.le_of_ble_eq_true rfl) (x_X9_isNext hL hq1) ?_
  refine am_ifc (tgt := 21) (am_fd ck_X9_must (pc := 5) rfl) rfl (fun hc2 => ?_) (fun hc2 => ?_)
  · replace hm := am_it hm hc2
    refine am_steps ck_X9_must 3 (pc' := 24) (lv' := [(0, .ref 3261), (1, .int x1)]) (st' := [.ref 3261, .int (am_i 1), .ref 3261]) rfl ?_
    refine ms_geti (ci := 7) (k := 10) (am_fd ck_X9_must (pc := 24) rfl) tw_885 kc_3261 rfl ?_
    obtain ⟨q3, hq3, hm⟩ := am_bE hm
    refine ms_callVv (M2 := mt_X9_wrong) (d2 := 1) (ci := 7) [.int (am_i 1), .int (q1.2 3261 10)] (am_fd ck_X9_must (pc := 27) rfl) ok_X9_wrong tw_1137 tw_1139 ts_55 (by decide) kc_3261 (Nat.le_of_ble_eq_true rfl) (Nat.le_of_ble_eq_true rfl) (x_X9_wrong hL hq3) ?_
    cases hm
    exact am_end (am_fd ck_X9_must (pc := 30) rfl) am_rV rfl rfl
  · replace hm := am_if hm hc2
    refine am_steps ck_X9_must 2 (pc' := 10) (lv' := [(0, .ref 3261), (1, .int x1)]) (st' := [.ref 3261, .ref 3261]) rfl ?_
    refine ms_geti (ci := 7) (k := 10) (am_fd ck_X9_must (pc := 10) rfl) tw_885 kc_3261 rfl ?_
    refine am_steps ck_X9_must 2 (pc' := 15) (lv' := [(0, .ref 3261), (1, .int x1)]) (st' := [.int ((q1.2 3261 10) + (am_i 1)), .ref 3261]) rfl ?_
    refine ms_puti (ci := 7) (k := 10) (am_fd ck_X9_must (pc := 15) rfl) tw_885 kc_3261 rfl rfl (fun m4 em4 => ?_)
    replace hm := am_letE em4 hm
    refine am_steps ck_X9_must 1 (pc' := 30) (lv' := [(0, .ref 3261), (1, .int x1)]) (st' := []) rfl ?_
    cases hm
    exact am_end (am_fd ck_X9_must (pc := 30) rfl) am_rV rfl rfl
set_option maxRecDepth 100000 in
set_option maxHeartbeats 4000000 in
theorem x_X9_number_38 {G : am_G} {x1 : Int32} {x2 : Int32} {r : am_rr} {y1 : Int32} {y2 : Int32} {res : Int32 × am_m} {k : Int32 → am_m → Option (Int32 × am_m)} (hL : am_Lay r) : ∀ (n : Nat) (z4 : Int32) (m : am_m), m_X9_number_38 x1 x2 y1 y2 k n z4 m = some res → (∀ (u4 : Int32) (m1 : am_m), k u4 m1 = some res → am_W G mt_X9_number 3 (some (.int res.1)) (am_hh res.2 r) 114 [(0, .ref 3261), (1, .int y1), (2, .int y2), (4, .int u4)] [] (am_hh m1 r)) → am_W G mt_X9_number 3 (some (.int res.1)) (am_hh res.2 r) 38 [(0, .ref 3261), (1, .int y1), (2, .int y2), (4, .int z4)] [] (am_hh m r) := by
  intro n
  induction n with
  | zero => intro z4 m hm K; cases hm
  | succ n ih =>
    intro z4 m hm K
    unfold m_X9_number_38 at hm
    refine am_steps ck_X9_number 1 (pc' := 39) (lv' := [(0, .ref 3261), (1, .int y1), (2, .int y2), (4, .int z4)]) (st' := [.ref 3261]) rfl ?_
    refine ms_geti (ci := 7) (k := 10) (am_fd ck_X9_number (pc := 39) rfl) tw_885 kc_3261 rfl ?_
    refine am_steps ck_X9_number 1 (pc' := 43) (lv' := [(0, .ref 3261), (1, .int y1), (2, .int y2), (4, .int z4)]) (st' := [.ref 3261, .int (m 3261 10)]) rfl ?_
    refine ms_geti (ci := 7) (k := 9) (am_fd ck_X9_number (pc := 43) rfl) tw_884 kc_3261 rfl ?_
    refine am_icmp (tgt := 114) (am_fd ck_X9_number (pc := 46) rfl) rfl (fun hc5 => ?_) (fun hc5 => ?_)
    · replace hm := am_it hm hc5
      exact K _ _ hm
    · replace hm := am_if hm hc5
      refine am_steps ck_X9_number 1 (pc' := 50) (lv' := [(0, .ref 3261), (1, .int y1), (2, .int y2), (4, .int z4)]) (st' := [.ref 3261]) rfl ?_
      refine ms_getr (ci := 7) (k := 8) (v := 3268) (am_fd ck_X9_number (pc := 50) rfl) tw_883 kc_3261 rfl (ly_3261_8 hL) kc_3268 ?_
      refine am_steps ck_X9_number 1 (pc' := 54) (lv' := [(0, .ref 3261), (1, .int y1), (2, .int y2), (4, .int z4)]) (st' := [.ref 3261, .ref 3268]) rfl ?_
      refine ms_geti (ci := 7) (k := 10) (am_fd ck_X9_number (pc := 54) rfl) tw_885 kc_3261 rfl ?_
      obtain ⟨hb6, hm⟩ := am_gE hm
      refine ms_bald (n := 400) (am_fd ck_X9_number (pc := 57) rfl) kc_3268 hb6 ?_
      refine am_steps ck_X9_number 2 (pc' := 62) (lv' := [(0, .ref 3261), (1, .int y1), (2, .int y2), (4, .int z4)]) (st' := [.int (am_i 57), .int (am_i 48), .int (m 3268 (am_ix (m 3261 10)))]) rfl ?_
      obtain ⟨q7, hq7, hm⟩ := am_bE hm
      refine ms_callS (M2 := mt_X9_isIn) (d2 := 1) [.int (m 3268 (am_ix (m 3261 10))), .int (am_i 48), .int (am_i 57)] (am_fd ck_X9_number (pc := 62) rfl) ok_X9_isIn tw_953 tw_954 (Nat.le_of_ble_eq_true rfl) (Nat.le_of_ble_eq_true rfl) (x_X9_isIn hL hq7) ?_
      refine am_ifc (tgt := 114) (am_fd ck_X9_number (pc := 65) rfl) rfl (fun hc8 => ?_) (fun hc8 => ?_)
      · replace hm := am_it hm hc8
        exact K _ _ hm
      · replace hm := am_if hm hc8
        refine am_steps ck_X9_number 2 (pc' := 73) (lv' := [(0, .ref 3261), (1, .int y1), (2, .int y2), (4, .int z4)]) (st' := [.int (am_i 9999), .int z4]) rfl ?_
        refine am_icmp (tgt := 81) (am_fd ck_X9_number (pc := 73) rfl) rfl (fun hc9 => ?_) (fun hc9 => ?_)
        · replace hm := am_it hm hc9
          refine am_steps ck_X9_number 4 (pc' := 87) (lv' := [(0, .ref 3261), (1, .int y1), (2, .int y2), (4, .int z4)]) (st' := [.ref 3261, .int ((am_i 10) * z4)]) rfl ?_
          refine ms_getr (ci := 7) (k := 8) (v := 3268) (am_fd ck_X9_number (pc := 87) rfl) tw_883 kc_3261 rfl (ly_3261_8 hL) kc_3268 ?_
          refine am_steps ck_X9_number 1 (pc' := 91) (lv' := [(0, .ref 3261), (1, .int y1), (2, .int y2), (4, .int z4)]) (st' := [.ref 3261, .ref 3268, .int ((am_i 10) * z4)]) rfl ?_
          refine ms_geti (ci := 7) (k := 10) (am_fd ck_X9_number (pc := 91) rfl) tw_885 kc_3261 rfl ?_
          obtain ⟨hb10, hm⟩ := am_gE hm
          refine ms_bald (n := 400) (am_fd ck_X9_number (pc := 94) rfl) kc_3268 hb10 ?_
          refine am_steps ck_X9_number 6 (pc' := 103) (lv' := [(4, .int ((((am_i 10) * z4) + (m 3268 (am_ix (m 3261 10)))) - (am_i 48))), (0, .ref 3261), (1, .int y1), (2, .int y2)]) (st' := [.ref 3261, .ref 3261]) rfl ?_
          refine ms_geti (ci := 7) (k := 10) (am_fd ck_X9_number (pc := 103) rfl) tw_885 kc_3261 rfl ?_
          refine am_steps ck_X9_number 2 (pc' := 108) (lv' := [(4, .int ((((am_i 10) * z4) + (m 3268 (am_ix (m 3261 10)))) - (am_i 48))), (0, .ref 3261), (1, .int y1), (2, .int y2)]) (st' := [.int ((m 3261 10) + (am_i 1)), .ref 3261]) rfl ?_
          refine ms_puti (ci := 7) (k := 10) (am_fd ck_X9_number (pc := 108) rfl) tw_885 kc_3261 rfl rfl (fun m11 em11 => ?_)
          replace hm := am_letE em11 hm
          refine am_steps ck_X9_number 1 (pc' := 38) (lv' := [(4, .int ((((am_i 10) * z4) + (m 3268 (am_ix (m 3261 10)))) - (am_i 48))), (0, .ref 3261), (1, .int y1), (2, .int y2)]) (st' := []) rfl ?_
          refine am_subp [1, 2, 3, 0] rfl ?_
          exact ih _ _ hm K
        · replace hm := am_if hm hc9
          refine am_steps ck_X9_number 5 (pc' := 103) (lv' := [(4, .int z4), (0, .ref 3261), (1, .int y1), (2, .int y2)]) (st' := [.ref 3261, .ref 3261]) rfl ?_
          refine ms_geti (ci := 7) (k := 10) (am_fd ck_X9_number (pc := 103) rfl) tw_885 kc_3261 rfl ?_
          refine am_steps ck_X9_number 2 (pc' := 108) (lv' := [(4, .int z4), (0, .ref 3261), (1, .int y1), (2, .int y2)]) (st' := [.int ((m 3261 10) + (am_i 1)), .ref 3261]) rfl ?_
          refine ms_puti (ci := 7) (k := 10) (am_fd ck_X9_number (pc := 108) rfl) tw_885 kc_3261 rfl rfl (fun m12 em12 => ?_)
          replace hm := am_letE em12 hm
          refine am_steps ck_X9_number 1 (pc' := 38) (lv' := [(4, .int z4), (0, .ref 3261), (1, .int y1), (2, .int y2)]) (st' := []) rfl ?_
          refine am_subp [1, 2, 3, 0] rfl ?_
          exact ih _ _ hm K
set_option maxRecDepth 100000 in
set_option maxHeartbeats 4000000 in
theorem x_X9_number {G : am_G} {m : am_m} {r : am_rr} {x1 : Int32} {x2 : Int32} {res : Int32 × am_m} (hL : am_Lay r) (hm : m_X9_number m x1 x2 = some res) : am_Met G mt_X9_number 3 [.ref 3261, .int x1, .int x2] (am_hh m r) (some (.int res.1)) (am_hh res.2 r) := by
  refine am_of (by decide) (Nat.le_of_ble_eq_true rfl) ?_
  unfold m_X9_number at hm
  show am_W G mt_X9_number 3 _ _ 0 [(0, .ref 3261), (1, .int x1), (2, .int x2)] [] (am_hh m r)
  refine am_steps ck_X9_number 1 (pc' := 1) (lv' := [(0, .ref 3261), (1, .int x1), (2, .int x2)]) (st' := [.ref 3261]) rfl ?_
  refine ms_geti (ci := 7) (k := 13) (am_fd ck_X9_number (pc := 1) rfl) tw_888 kc_3261 rfl ?_
  refine am_ifc (tgt := 9) (am_fd ck_X9_number (pc := 4) rfl) rfl (fun hc1 => ?_) (fun hc1 => ?_)
  · replace hm := am_it hm hc1
    refine am_steps ck_X9_number 1 (pc' := 10) (lv' := [(0, .ref 3261), (1, .int x1), (2, .int x2)]) (st' := [.ref 3261]) rfl ?_
    obtain ⟨q2, hq2, hm⟩ := am_bE hm
    refine ms_callV (M2 := mt_X9_isDigitNext) (d2 := 2) (ci := 7) [] (am_fd ck_X9_number (pc := 10) rfl) ok_X9_isDigitNext tw_1129 tw_1131 ts_53 (by decide) kc_3261 (Nat.le_of_ble_eq_true rfl) (Nat.le_of_ble_eq_true rfl) (x_X9_isDigitNext hL hq2) ?_
    refine am_steps ck_X9_number 3 (pc' := 16) (lv' := [(3, .int q2.1), (0, .ref 3261), (1, .int x1), (2, .int x2)]) (st' := [.ref 3261, .ref 3261]) rfl ?_
    refine ms_geti (ci := 7) (k := 10) (am_fd ck_X9_number (pc := 16) rfl) tw_885 kc_3261 rfl ?_
    refine ms_puti (ci := 7) (k := 14) (am_fd ck_X9_number (pc := 19) rfl) tw_889 kc_3261 rfl rfl (fun m3 em3 => ?_)
    replace hm := am_letE em3 hm
    refine am_steps ck_X9_number 1 (pc' := 23) (lv' := [(3, .int q2.1), (0, .ref 3261), (1, .int x1), (2, .int x2)]) (st' := [.int q2.1]) rfl ?_
    refine am_ifc (tgt := 35) (am_fd ck_X9_number (pc := 23) rfl) rfl (fun hc4 => ?_) (fun hc4 => ?_)
    · replace hm := am_it hm hc4
      refine am_steps ck_X9_number 2 (pc' := 38) (lv' := [(4, .int (am_i 0)), (3, .int q2.1), (0, .ref 3261), (1, .int x1), (2, .int x2)]) (st' := []) rfl ?_
      refine am_subp [2, 3, 4, 0] rfl ?_
      refine x_X9_number_38 hL am_F _ _ hm (fun u13 m14 hm => ?_)
      refine am_steps ck_X9_number 1 (pc' := 115) (lv' := [(0, .ref 3261), (1, .int x1), (2, .int x2), (4, .int u13)]) (st' := [.ref 3261]) rfl ?_
      refine ms_geti (ci := 7) (k := 13) (am_fd ck_X9_number (pc := 115) rfl) tw_888 kc_3261 rfl ?_
      refine am_ifc (tgt := 140) (am_fd ck_X9_number (pc := 118) rfl) rfl (fun hc15 => ?_) (fun hc15 => ?_)
      · replace hm := am_it hm hc15
        refine am_steps ck_X9_number 1 (pc' := 141) (lv' := [(0, .ref 3261), (1, .int x1), (2, .int x2), (4, .int u13)]) (st' := [.ref 3261]) rfl ?_
        refine ms_geti (ci := 7) (k := 13) (am_fd ck_X9_number (pc := 141) rfl) tw_888 kc_3261 rfl ?_
        refine am_ifc (tgt := 151) (am_fd ck_X9_number (pc := 144) rfl) rfl (fun hc16 => ?_) (fun hc16 => ?_)
        · replace hm := am_it hm hc16
          refine am_steps ck_X9_number 1 (pc' := 153) (lv' := [(0, .ref 3261), (1, .int x1), (2, .int x2), (4, .int u13)]) (st' := [.int u13]) rfl ?_
          cases hm
          exact am_end (am_fd ck_X9_number (pc := 153) rfl) am_rI rfl rfl
        · replace hm := am_if hm hc16
          refine am_steps ck_X9_number 2 (pc' := 153) (lv' := [(0, .ref 3261), (1, .int x1), (2, .int x2), (4, .int u13)]) (st' := [.int (am_i 0)]) rfl ?_
          cases hm
          exact am_end (am_fd ck_X9_number (pc := 153) rfl) am_rI rfl rfl
      · replace hm := am_if hm hc15
        refine am_steps ck_X9_number 3 (pc' := 125) (lv' := [(0, .ref 3261), (1, .int x1), (2, .int x2), (4, .int u13)]) (st' := [.int x2, .int x1, .int u13]) rfl ?_
        obtain ⟨q17, hq17, hm⟩ := am_bE hm
        refine ms_callS (M2 := mt_X9_isIn) (d2 := 1) [.int u13, .int x1, .int x2] (am_fd ck_X9_number (pc := 125) rfl) ok_X9_isIn tw_953 tw_954 (Nat.le_of_ble_eq_true rfl) (Nat.le_of_ble_eq_true rfl) (x_X9_isIn hL hq17) ?_
        refine am_ifc (tgt := 140) (am_fd ck_X9_number (pc := 128) rfl) rfl (fun hc18 => ?_) (fun hc18 => ?_)
        · replace hm := am_it hm hc18
          refine am_steps ck_X9_number 1 (pc' := 141) (lv' := [(0, .ref 3261), (1, .int x1), (2, .int x2), (4, .int u13)]) (st' := [.ref 3261]) rfl ?_
          refine ms_geti (ci := 7) (k := 13) (am_fd ck_X9_number (pc := 141) rfl) tw_888 kc_3261 rfl ?_
          refine am_ifc (tgt := 151) (am_fd ck_X9_number (pc := 144) rfl) rfl (fun hc19 => ?_) (fun hc19 => ?_)
          · replace hm := am_it hm hc19
            refine am_steps ck_X9_number 1 (pc' := 153) (lv' := [(0, .ref 3261), (1, .int x1), (2, .int x2), (4, .int u13)]) (st' := [.int u13]) rfl ?_
            cases hm
            exact am_end (am_fd ck_X9_number (pc := 153) rfl) am_rI rfl rfl
          · replace hm := am_if hm hc19
            refine am_steps ck_X9_number 2 (pc' := 153) (lv' := [(0, .ref 3261), (1, .int x1), (2, .int x2), (4, .int u13)]) (st' := [.int (am_i 0)]) rfl ?_
            cases hm
            exact am_end (am_fd ck_X9_number (pc := 153) rfl) am_rI rfl rfl
        · replace hm := am_if hm hc18
          refine am_steps ck_X9_number 3 (pc' := 134) (lv' := [(0, .ref 3261), (1, .int x1), (2, .int x2), (4, .int u13)]) (st' := [.ref 3261, .int (am_i 2), .ref 3261]) rfl ?_
          refine ms_geti (ci := 7) (k := 14) (am_fd ck_X9_number (pc := 134) rfl) tw_889 kc_3261 rfl ?_
          obtain ⟨q20, hq20, hm⟩ := am_bE hm
          refine ms_callVv (M2 := mt_X9_wrong) (d2 := 1) (ci := 7) [.int (am_i 2), .int (m14 3261 14)] (am_fd ck_X9_number (pc := 137) rfl) ok_X9_wrong tw_1137 tw_1139 ts_55 (by decide) kc_3261 (Nat.le_of_ble_eq_true rfl) (Nat.le_of_ble_eq_true rfl) (x_X9_wrong hL hq20) ?_
          refine am_steps ck_X9_number 1 (pc' := 141) (lv' := [(0, .ref 3261), (1, .int x1), (2, .int x2), (4, .int u13)]) (st' := [.ref 3261]) rfl ?_
          refine ms_geti (ci := 7) (k := 13) (am_fd ck_X9_number (pc := 141) rfl) tw_888 kc_3261 rfl ?_
          refine am_ifc (tgt := 151) (am_fd ck_X9_number (pc := 144) rfl) rfl (fun hc21 => ?_) (fun hc21 => ?_)
          · replace hm := am_it hm hc21
            refine am_steps ck_X9_number 1 (pc' := 153) (lv' := [(0, .ref 3261), (1, .int x1), (2, .int x2), (4, .int u13)]) (st' := [.int u13]) rfl ?_
            cases hm
            exact am_end (am_fd ck_X9_number (pc := 153) rfl) am_rI rfl rfl
          · replace hm := am_if hm hc21
            refine am_steps ck_X9_number 2 (pc' := 153) (lv' := [(0, .ref 3261), (1, .int x1), (2, .int x2), (4, .int u13)]) (st' := [.int (am_i 0)]) rfl ?_
            cases hm
            exact am_end (am_fd ck_X9_number (pc := 153) rfl) am_rI rfl rfl
    · replace hm := am_if hm hc4
      refine am_steps ck_X9_number 3 (pc' := 29) (lv' := [(3, .int q2.1), (0, .ref 3261), (1, .int x1), (2, .int x2)]) (st' := [.ref 3261, .int (am_i 1), .ref 3261]) rfl ?_
      refine ms_geti (ci := 7) (k := 10) (am_fd ck_X9_number (pc := 29) rfl) tw_885 kc_3261 rfl ?_
      obtain ⟨q22, hq22, hm⟩ := am_bE hm
      refine ms_callVv (M2 := mt_X9_wrong) (d2 := 1) (ci := 7) [.int (am_i 1), .int (m3 3261 10)] (am_fd ck_X9_number (pc := 32) rfl) ok_X9_wrong tw_1137 tw_1139 ts_55 (by decide) kc_3261 (Nat.le_of_ble_eq_true rfl) (Nat.le_of_ble_eq_true rfl) (x_X9_wrong hL hq22) ?_
      refine am_steps ck_X9_number 2 (pc' := 38) (lv' := [(4, .int (am_i 0)), (3, .int q2.1), (0, .ref 3261), (1, .int x1), (2, .int x2)]) (st' := []) rfl ?_
      refine am_subp [2, 3, 4, 0] rfl ?_
      refine x_X9_number_38 hL am_F _ _ hm (fun u23 m24 hm => ?_)
      refine am_steps ck_X9_number 1 (pc' := 115) (lv' := [(0, .ref 3261), (1, .int x1), (2, .int x2), (4, .int u23)]) (st' := [.ref 3261]) rfl ?_
      refine ms_geti (ci := 7) (k := 13) (am_fd ck_X9_number (pc := 115) rfl) tw_888 kc_3261 rfl ?_
      refine am_ifc (tgt := 140) (am_fd ck_X9_number (pc := 118) rfl) rfl (fun hc25 => ?_) (fun hc25 => ?_)
      · replace hm := am_it hm hc25
        refine am_steps ck_X9_number 1 (pc' := 141) (lv' := [(0, .ref 3261), (1, .int x1), (2, .int x2), (4, .int u23)]) (st' := [.ref 3261]) rfl ?_
        refine ms_geti (ci := 7) (k := 13) (am_fd ck_X9_number (pc := 141) rfl) tw_888 kc_3261 rfl ?_
        refine am_ifc (tgt := 151) (am_fd ck_X9_number (pc := 144) rfl) rfl (fun hc26 => ?_) (fun hc26 => ?_)
        · replace hm := am_it hm hc26
          refine am_steps ck_X9_number 1 (pc' := 153) (lv' := [(0, .ref 3261), (1, .int x1), (2, .int x2), (4, .int u23)]) (st' := [.int u23]) rfl ?_
          cases hm
          exact am_end (am_fd ck_X9_number (pc := 153) rfl) am_rI rfl rfl
        · replace hm := am_if hm hc26
          refine am_steps ck_X9_number 2 (pc' := 153) (lv' := [(0, .ref 3261), (1, .int x1), (2, .int x2), (4, .int u23)]) (st' := [.int (am_i 0)]) rfl ?_
          cases hm
          exact am_end (am_fd ck_X9_number (pc := 153) rfl) am_rI rfl rfl
      · replace hm := am_if hm hc25
        refine am_steps ck_X9_number 3 (pc' := 125) (lv' := [(0, .ref 3261), (1, .int x1), (2, .int x2), (4, .int u23)]) (st' := [.int x2, .int x1, .int u23]) rfl ?_
        obtain ⟨q27, hq27, hm⟩ := am_bE hm
        refine ms_callS (M2 := mt_X9_isIn) (d2 := 1) [.int u23, .int x1, .int x2] (am_fd ck_X9_number (pc := 125) rfl) ok_X9_isIn tw_953 tw_954 (Nat.le_of_ble_eq_true rfl) (Nat.le_of_ble_eq_true rfl) (x_X9_isIn hL hq27) ?_
        refine am_ifc (tgt := 140) (am_fd ck_X9_number (pc := 128) rfl) rfl (fun hc28 => ?_) (fun hc28 => ?_)
        · replace hm := am_it hm hc28
          refine am_steps ck_X9_number 1 (pc' := 141) (lv' := [(0, .ref 3261), (1, .int x1), (2, .int x2), (4, .int u23)]) (st' := [.ref 3261]) rfl ?_
          refine ms_geti (ci := 7) (k := 13) (am_fd ck_X9_number (pc := 141) rfl) tw_888 kc_3261 rfl ?_
          refine am_ifc (tgt := 151) (am_fd ck_X9_number (pc := 144) rfl) rfl (fun hc29 => ?_) (fun hc29 => ?_)
          · replace hm := am_it hm hc29
            refine am_steps ck_X9_number 1 (pc' := 153) (lv' := [(0, .ref 3261), (1, .int x1), (2, .int x2), (4, .int u23)]) (st' := [.int u23]) rfl ?_
            cases hm
            exact am_end (am_fd ck_X9_number (pc := 153) rfl) am_rI rfl rfl
          · replace hm := am_if hm hc29
            refine am_steps ck_X9_number 2 (pc' := 153) (lv' := [(0, .ref 3261), (1, .int x1), (2, .int x2), (4, .int u23)]) (st' := [.int (am_i 0)]) rfl ?_
            cases hm
            exact am_end (am_fd ck_X9_number (pc := 153) rfl) am_rI rfl rfl
        · replace hm := am_if hm hc28
          refine am_steps ck_X9_number 3 (pc' := 134) (lv' := [(0, .ref 3261), (1, .int x1), (2, .int x2), (4, .int u23)]) (st' := [.ref 3261, .int (am_i 2), .ref 3261]) rfl ?_
          refine ms_geti (ci := 7) (k := 14) (am_fd ck_X9_number (pc := 134) rfl) tw_889 kc_3261 rfl ?_
          obtain ⟨q30, hq30, hm⟩ := am_bE hm
          refine ms_callVv (M2 := mt_X9_wrong) (d2 := 1) (ci := 7) [.int (am_i 2), .int (m24 3261 14)] (am_fd ck_X9_number (pc := 137) rfl) ok_X9_wrong tw_1137 tw_1139 ts_55 (by decide) kc_3261 (Nat.le_of_ble_eq_true rfl) (Nat.le_of_ble_eq_true rfl) (x_X9_wrong hL hq30) ?_
          refine am_steps ck_X9_number 1 (pc' := 141) (lv' := [(0, .ref 3261), (1, .int x1), (2, .int x2), (4, .int u23)]) (st' := [.ref 3261]) rfl ?_
          refine ms_geti (ci := 7) (k := 13) (am_fd ck_X9_number (pc := 141) rfl) tw_888 kc_3261 rfl ?_
          refine am_ifc (tgt := 151) (am_fd ck_X9_number (pc := 144) rfl) rfl (fun hc31 => ?_) (fun hc31 => ?_)
          · replace hm := am_it hm hc31
            refine am_steps ck_X9_number 1 (pc' := 153) (lv' := [(0, .ref 3261), (1, .int x1), (2, .int x2), (4, .int u23)]) (st' := [.int u23]) rfl ?_
            cases hm
            exact am_end (am_fd ck_X9_number (pc := 153) rfl) am_rI rfl rfl
          · replace hm := am_if hm hc31
            refine am_steps ck_X9_number 2 (pc' := 153) (lv' := [(0, .ref 3261), (1, .int x1), (2, .int x2), (4, .int u23)]) (st' := [.int (am_i 0)]) rfl ?_
            cases hm
            exact am_end (am_fd ck_X9_number (pc := 153) rfl) am_rI rfl rfl
  · replace hm := am_if hm hc1
    refine am_steps ck_X9_number 1 (pc' := 8) (lv' := [(0, .ref 3261), (1, .int x1), (2, .int x2)]) (st' := [.int (am_i 0)]) rfl ?_
    cases hm
    exact am_end (am_fd ck_X9_number (pc := 8) rfl) am_rI rfl rfl
