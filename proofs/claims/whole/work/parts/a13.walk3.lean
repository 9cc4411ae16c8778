/-! ===== the walks, 3 ===== -/
set_option maxRecDepth 100000 in
set_option maxHeartbeats 4000000 in
theorem x_X8_grew_63 {G : am_G} {x1 : Int32} {x2 : Int32} {x3 : Int32} {m : am_m} {r : am_rr} {y3 : Int32} {w4 : Nat} {w5 : Nat} {res : Int32} {k : Int32 → Int32 → Int32 → Option (Int32)} (hL : am_Lay r) (hw4 : am_k w4 11 64) (hw5 : am_k w5 11 64) : ∀ (n : Nat) (z6 : Int32) (z7 : Int32) (z8 : Int32) (z9 : Int32), m_X8_grew_63 x1 x2 x3 m r y3 w4 w5 k n z6 z7 z8 z9 = some res → (∀ (u6 : Int32) (u7 : Int32) (u8 : Int32), k u6 u7 u8 = some res → am_W G mt_X8_grew 3 (some (.int res)) (am_hh m r) 137 [(3, .int y3), (4, .ref w4), (5, .ref w5), (6, .int u6), (7, .int u7), (8, .int u8)] [] (am_hh m r)) → am_W G mt_X8_grew 3 (some (.int res)) (am_hh m r) 63 [(3, .int y3), (4, .ref w4), (5, .ref w5), (6, .int z6), (7, .int z7), (8, .int z8), (9, .int z9)] [] (am_hh m r) := by
  intro n
  induction n with
  | zero => intro z6 z7 z8 z9 hm K; cases hm
  | succ n ih =>
    intro z6 z7 z8 z9 hm K
    unfold m_X8_grew_63 at hm
    refine am_steps ck_X8_grew 2 (pc' := 67) (lv' := [(3, .int y3), (4, .ref w4), (5, .ref w5), (6, .int z6), (7, .int z7), (8, .int z8), (9, .int z9)]) (st' := [.int (am_i 64), .int z9]) rfl ?_
    refine am_icmp (tgt := 137) (am_fd ck_X8_grew (pc := 67) rfl) rfl (fun hc8 => ?_) (fun hc8 => ?_)
    · replace hm := am_it hm hc8
      refine am_subp [0, 1, 2, 3, 4, 5] rfl ?_
      exact K _ _ _ hm
    · replace hm := am_if hm hc8
      refine am_steps ck_X8_grew 2 (pc' := 74) (lv' := [(3, .int y3), (4, .ref w4), (5, .ref w5), (6, .int z6), (7, .int z7), (8, .int z8), (9, .int z9)]) (st' := [.int z9, .ref w4]) rfl ?_
      obtain ⟨hb9, hm⟩ := am_gE hm
      refine ms_iald (n := 64) (am_fd ck_X8_grew (pc := 74) rfl) hw4 hb9 ?_
      refine am_steps ck_X8_grew 2 (pc' := 79) (lv' := [(3, .int y3), (4, .ref w4), (5, .ref w5), (6, .int z6), (7, .int z7), (8, .int z8), (9, .int z9)]) (st' := [.int z9, .ref w5, .int (m w4 (am_ix z9))]) rfl ?_
      obtain ⟨hb10, hm⟩ := am_gE hm
      refine ms_iald (n := 64) (am_fd ck_X8_grew (pc := 79) rfl) hw5 hb10 ?_
      refine am_steps ck_X8_grew 3 (pc' := 85) (lv' := [(10, .int ((m w4 (am_ix z9)) - (m w5 (am_ix z9)))), (3, .int y3), (4, .ref w4), (5, .ref w5), (6, .int z6), (7, .int z7), (8, .int z8), (9, .int z9)]) (st' := [.int ((m w4 (am_ix z9)) - (m w5 (am_ix z9)))]) rfl ?_
      refine am_ifc (tgt := 91) (am_fd ck_X8_grew (pc := 85) rfl) rfl (fun hc11 => ?_) (fun hc11 => ?_)
      · replace hm := am_it hm hc11
        refine am_steps ck_X8_grew 3 (pc' := 97) (lv' := [(10, .int ((m w4 (am_ix z9)) - (m w5 (am_ix z9)))), (3, .int y3), (4, .ref w4), (5, .ref w5), (6, .int z6), (7, .int z7), (8, .int z8), (9, .int z9)]) (st' := [.int z6, .ref w4, .int ((m w4 (am_ix z9)) - (m w5 (am_ix z9)))]) rfl ?_
        obtain ⟨hb12, hm⟩ := am_gE hm
        refine ms_iald (n := 64) (am_fd ck_X8_grew (pc := 97) rfl) hw4 hb12 ?_
        refine am_steps ck_X8_grew 2 (pc' := 102) (lv' := [(10, .int ((m w4 (am_ix z9)) - (m w5 (am_ix z9)))), (3, .int y3), (4, .ref w4), (5, .ref w5), (6, .int z6), (7, .int z7), (8, .int z8), (9, .int z9)]) (st' := [.int z6, .ref w5, .int (m w4 (am_ix z6)), .int ((m w4 (am_ix z9)) - (m w5 (am_ix z9)))]) rfl ?_
        obtain ⟨hb13, hm⟩ := am_gE hm
        refine ms_iald (n := 64) (am_fd ck_X8_grew (pc := 102) rfl) hw5 hb13 ?_
        refine am_steps ck_X8_grew 1 (pc' := 104) (lv' := [(10, .int ((m w4 (am_ix z9)) - (m w5 (am_ix z9)))), (3, .int y3), (4, .ref w4), (5, .ref w5), (6, .int z6), (7, .int z7), (8, .int z8), (9, .int z9)]) (st' := [.int ((m w4 (am_ix z6)) - (m w5 (am_ix z6))), .int ((m w4 (am_ix z9)) - (m w5 (am_ix z9)))]) rfl ?_
        refine am_icmp (tgt := 111) (am_fd ck_X8_grew (pc := 104) rfl) rfl (fun hc14 => ?_) (fun hc14 => ?_)
        · replace hm := am_it hm hc14
          refine am_steps ck_X8_grew 3 (pc' := 117) (lv' := [(10, .int ((m w4 (am_ix z9)) - (m w5 (am_ix z9)))), (3, .int y3), (4, .ref w4), (5, .ref w5), (6, .int z6), (7, .int z7), (8, .int z8), (9, .int z9)]) (st' := [.int z7, .ref w4, .int ((m w4 (am_ix z9)) - (m w5 (am_ix z9)))]) rfl ?_
          obtain ⟨hb15, hm⟩ := am_gE hm
          refine ms_iald (n := 64) (am_fd ck_X8_grew (pc := 117) rfl) hw4 hb15 ?_
          refine am_steps ck_X8_grew 2 (pc' := 122) (lv' := [(10, .int ((m w4 (am_ix z9)) - (m w5 (am_ix z9)))), (3, .int y3), (4, .ref w4), (5, .ref w5), (6, .int z6), (7, .int z7), (8, .int z8), (9, .int z9)]) (st' := [.int z7, .ref w5, .int (m w4 (am_ix z7)), .int ((m w4 (am_ix z9)) - (m w5 (am_ix z9)))]) rfl ?_
          obtain ⟨hb16, hm⟩ := am_gE hm
          refine ms_iald (n := 64) (am_fd ck_X8_grew (pc := 122) rfl) hw5 hb16 ?_
          refine am_steps ck_X8_grew 1 (pc' := 124) (lv' := [(10, .int ((m w4 (am_ix z9)) - (m w5 (am_ix z9)))), (3, .int y3), (4, .ref w4), (5, .ref w5), (6, .int z6), (7, .int z7), (8, .int z8), (9, .int z9)]) (st' := [.int ((m w4 (am_ix z7)) - (m w5 (am_ix z7))), .int ((m w4 (am_ix z9)) - (m w5 (am_ix z9)))]) rfl ?_
          refine am_icmp (tgt := 131) (am_fd ck_X8_grew (pc := 124) rfl) rfl (fun hc17 => ?_) (fun hc17 => ?_)
          · replace hm := am_it hm hc17
            refine am_steps ck_X8_grew 2 (pc' := 63) (lv' := [(9, .int (z9 + am_i 1)), (10, .int ((m w4 (am_ix z9)) - (m w5 (am_ix z9)))), (3, .int y3), (4, .ref w4), (5, .ref w5), (6, .int z6), (7, .int z7), (8, .int z8)]) (st' := []) rfl ?_
            refine am_subp [2, 3, 4, 5, 6, 7, 0] rfl ?_
            exact ih _ _ _ _ hm K
          · replace hm := am_if hm hc17
            refine am_steps ck_X8_grew 4 (pc' := 63) (lv' := [(9, .int (z9 + am_i 1)), (7, .int z9), (10, .int ((m w4 (am_ix z9)) - (m w5 (am_ix z9)))), (3, .int y3), (4, .ref w4), (5, .ref w5), (6, .int z6), (8, .int z8)]) (st' := []) rfl ?_
            refine am_subp [3, 4, 5, 6, 1, 7, 0] rfl ?_
            exact ih _ _ _ _ hm K
        · replace hm := am_if hm hc14
          refine am_steps ck_X8_grew 5 (pc' := 117) (lv' := [(6, .int z9), (10, .int ((m w4 (am_ix z9)) - (m w5 (am_ix z9)))), (3, .int y3), (4, .ref w4), (5, .ref w5), (7, .int z7), (8, .int z8), (9, .int z9)]) (st' := [.int z7, .ref w4, .int ((m w4 (am_ix z9)) - (m w5 (am_ix z9)))]) rfl ?_
          obtain ⟨hb18, hm⟩ := am_gE hm
          refine ms_iald (n := 64) (am_fd ck_X8_grew (pc := 117) rfl) hw4 hb18 ?_
          refine am_steps ck_X8_grew 2 (pc' := 122) (lv' := [(6, .int z9), (10, .int ((m w4 (am_ix z9)) - (m w5 (am_ix z9)))), (3, .int y3), (4, .ref w4), (5, .ref w5), (7, .int z7), (8, .int z8), (9, .int z9)]) (st' := [.int z7, .ref w5, .int (m w4 (am_ix z7)), .int ((m w4 (am_ix z9)) - (m w5 (am_ix z9)))]) rfl ?_
          obtain ⟨hb19, hm⟩ := am_gE hm
          refine ms_iald (n := 64) (am_fd ck_X8_grew (pc := 122) rfl) hw5 hb19 ?_
          refine am_steps ck_X8_grew 1 (pc' := 124) (lv' := [(6, .int z9), (10, .int ((m w4 (am_ix z9)) - (m w5 (am_ix z9)))), (3, .int y3), (4, .ref w4), (5, .ref w5), (7, .int z7), (8, .int z8), (9, .int z9)]) (st' := [.int ((m w4 (am_ix z7)) - (m w5 (am_ix z7))), .int ((m w4 (am_ix z9)) - (m w5 (am_ix z9)))]) rfl ?_
          refine am_icmp (tgt := 131) (am_fd ck_X8_grew (pc := 124) rfl) rfl (fun hc20 => ?_) (fun hc20 => ?_)
          · replace hm := am_it hm hc20
            refine am_steps ck_X8_grew 2 (pc' := 63) (lv' := [(9, .int (z9 + am_i 1)), (6, .int z9), (10, .int ((m w4 (am_ix z9)) - (m w5 (am_ix z9)))), (3, .int y3), (4, .ref w4), (5, .ref w5), (7, .int z7), (8, .int z8)]) (st' := []) rfl ?_
            refine am_subp [3, 4, 5, 1, 6, 7, 0] rfl ?_
            exact ih _ _ _ _ hm K
          · replace hm := am_if hm hc20
            refine am_steps ck_X8_grew 4 (pc' := 63) (lv' := [(9, .int (z9 + am_i 1)), (7, .int z9), (6, .int z9), (10, .int ((m w4 (am_ix z9)) - (m w5 (am_ix z9)))), (3, .int y3), (4, .ref w4), (5, .ref w5), (8, .int z8)]) (st' := []) rfl ?_
            refine am_subp [4, 5, 6, 2, 1, 7, 0] rfl ?_
            exact ih _ _ _ _ hm K
      · replace hm := am_if hm hc11
        refine am_steps ck_X8_grew 4 (pc' := 97) (lv' := [(8, .int (z8 + am_i 1)), (10, .int ((m w4 (am_ix z9)) - (m w5 (am_ix z9)))), (3, .int y3), (4, .ref w4), (5, .ref w5), (6, .int z6), (7, .int z7), (9, .int z9)]) (st' := [.int z6, .ref w4, .int ((m w4 (am_ix z9)) - (m w5 (am_ix z9)))]) rfl ?_
        obtain ⟨hb21, hm⟩ := am_gE hm
        refine ms_iald (n := 64) (am_fd ck_X8_grew (pc := 97) rfl) hw4 hb21 ?_
        refine am_steps ck_X8_grew 2 (pc' := 102) (lv' := [(8, .int (z8 + am_i 1)), (10, .int ((m w4 (am_ix z9)) - (m w5 (am_ix z9)))), (3, .int y3), (4, .ref w4), (5, .ref w5), (6, .int z6), (7, .int z7), (9, .int z9)]) (st' := [.int z6, .ref w5, .int (m w4 (am_ix z6)), .int ((m w4 (am_ix z9)) - (m w5 (am_ix z9)))]) rfl ?_
        obtain ⟨hb22, hm⟩ := am_gE hm
        refine ms_iald (n := 64) (am_fd ck_X8_grew (pc := 102) rfl) hw5 hb22 ?_
        refine am_steps ck_X8_grew 1 (pc' := 104) (lv' := [(8, .int (z8 + am_i 1)), (10, .int ((m w4 (am_ix z9)) - (m w5 (am_ix z9)))), (3, .int y3), (4, .ref w4), (5, .ref w5), (6, .int z6), (7, .int z7), (9, .int z9)]) (st' := [.int ((m w4 (am_ix z6)) - (m w5 (am_ix z6))), .int ((m w4 (am_ix z9)) - (m w5 (am_ix z9)))]) rfl ?_
        refine am_icmp (tgt := 111) (am_fd ck_X8_grew (pc := 104) rfl) rfl (fun hc23 => ?_) (fun hc23 => ?_)
        · replace hm := am_it hm hc23
          refine am_steps ck_X8_grew 3 (pc' := 117) (lv' := [(8, .int (z8 + am_i 1)), (10, .int ((m w4 (am_ix z9)) - (m w5 (am_ix z9)))), (3, .int y3), (4, .ref w4), (5, .ref w5), (6, .int z6), (7, .int z7), (9, .int z9)]) (st' := [.int z7, .ref w4, .int ((m w4 (am_ix z9)) - (m w5 (am_ix z9)))]) rfl ?_
          obtain ⟨hb24, hm⟩ := am_gE hm
          refine ms_iald (n := 64) (am_fd ck_X8_grew (pc := 117) rfl) hw4 hb24 ?_
          refine am_steps ck_X8_grew 2 (pc' := 122) (lv' := [(8, .int (z8 + am_i 1)), (10, .int ((m w4 (am_ix z9)) - (m w5 (am_ix z9)))), (3, .int y3), (4, .ref w4), (5, .ref w5), (6, .int z6), (7, .int z7), (9, .int z9)]) (st' := [.int z7, .ref w5, .int (m w4 (am_ix z7)), .int ((m w4 (am_ix z9)) - (m w5 (am_ix z9)))]) rfl ?_
          obtain ⟨hb25, hm⟩ := am_gE hm
          refine ms_iald (n := 64) (am_fd ck_X8_grew (pc := 122) rfl) hw5 hb25 ?_
          refine am_steps ck_X8_grew 1 (pc' := 124) (lv' := [(8, .int (z8 + am_i 1)), (10, .int ((m w4 (am_ix z9)) - (m w5 (am_ix z9)))), (3, .int y3), (4, .ref w4), (5, .ref w5), (6, .int z6), (7, .int z7), (9, .int z9)]) (st' := [.int ((m w4 (am_ix z7)) - (m w5 (am_ix z7))), .int ((m w4 (am_ix z9)) - (m w5 (am_ix z9)))]) rfl ?_
          refine am_icmp (tgt := 131) (am_fd ck_X8_grew (pc := 124) rfl) rfl (fun hc26 => ?_) (fun hc26 => ?_)
          · replace hm := am_it hm hc26
            refine am_steps ck_X8_grew 2 (pc' := 63) (lv' := [(9, .int (z9 + am_i 1)), (8, .int (z8 + am_i 1)), (10, .int ((m w4 (am_ix z9)) - (m w5 (am_ix z9)))), (3, .int y3), (4, .ref w4), (5, .ref w5), (6, .int z6), (7, .int z7)]) (st' := []) rfl ?_
            refine am_subp [3, 4, 5, 6, 7, 1, 0] rfl ?_
            exact ih _ _ _ _ hm K
          · replace hm := am_if hm hc26
            refine am_steps ck_X8_grew 4 (pc' := 63) (lv' := [(9, .int (z9 + am_i 1)), (7, .int z9), (8, .int (z8 + am_i 1)), (10, .int ((m w4 (am_ix z9)) - (m w5 (am_ix z9)))), (3, .int y3), (4, .ref w4), (5, .ref w5), (6, .int z6)]) (st' := []) rfl ?_
            refine am_subp [4, 5, 6, 7, 1, 2, 0] rfl ?_
            exact ih _ _ _ _ hm K
        · replace hm := am_if hm hc23
          refine am_steps ck_X8_grew 5 (pc' := 117) (lv' := [(6, .int z9), (8, .int (z8 + am_i 1)), (10, .int ((m w4 (am_ix z9)) - (m w5 (am_ix z9)))), (3, .int y3), (4, .ref w4), (5, .ref w5), (7, .int z7), (9, .int z9)]) (st' := [.int z7, .ref w4, .int ((m w4 (am_ix z9)) - (m w5 (am_ix z9)))]) rfl ?_
          obtain ⟨hb27, hm⟩ := am_gE hm
          refine ms_iald (n := 64) (am_fd ck_X8_grew (pc := 117) rfl) hw4 hb27 ?_
          refine am_steps ck_X8_grew 2 (pc' := 122) (lv' := [(6, .int z9), (8, .int (z8 + am_i 1)), (10, .int ((m w4 (am_ix z9)) - (m w5 (am_ix z9)))), (3, .int y3), (4, .ref w4), (5, .ref w5), (7, .int z7), (9, .int z9)]) (st' := [.int z7, .ref w5, .int (m w4 (am_ix z7)), .int ((m w4 (am_ix z9)) - (m w5 (am_ix z9)))]) rfl ?_
          obtain ⟨hb28, hm⟩ := am_gE hm
          refine ms_iald (n := 64) (am_fd ck_X8_grew (pc := 122) rfl) hw5 hb28 ?_
          refine am_steps ck_X8_grew 1 (pc' := 124) (lv' := [(6, .int z9), (8, .int (z8 + am_i 1)), (10, .int ((m w4 (am_ix z9)) - (m w5 (am_ix z9)))), (3, .int y3), (4, .ref w4), (5, .ref w5), (7, .int z7), (9, .int z9)]) (st' := [.int ((m w4 (am_ix z7)) - (m w5 (am_ix z7))), .int ((m w4 (am_ix z9)) - (m w5 (am_ix z9)))]) rfl ?_
          refine am_icmp (tgt := 131) (am_fd ck_X8_grew (pc := 124) rfl) rfl (fun hc29 => ?_) (fun hc29 => ?_)
          · replace hm := am_it hm hc29
            refine am_steps ck_X8_grew 2 (pc' := 63) (lv' := [(9, .int (z9 + am_i 1)), (6, .int z9), (8, .int (z8 + am_i 1)), (10, .int ((m w4 (am_ix z9)) - (m w5 (am_ix z9)))), (3, .int y3), (4, .ref w4), (5, .ref w5), (7, .int z7)]) (st' := []) rfl ?_
            refine am_subp [4, 5, 6, 1, 7, 2, 0] rfl ?_
            exact ih _ _ _ _ hm K
          · replace hm := am_if hm hc29
            refine am_steps ck_X8_grew 4 (pc' := 63) (lv' := [(9, .int (z9 + am_i 1)), (7, .int z9), (6, .int z9), (8, .int (z8 + am_i 1)), (10, .int ((m w4 (am_ix z9)) - (m w5 (am_ix z9)))), (3, .int y3), (4, .ref w4), (5, .ref w5)]) (st' := []) rfl ?_
            refine am_subp [5, 6, 7, 2, 1, 3, 0] rfl ?_
            exact ih _ _ _ _ hm K
theorem sw_X8_grew_138 : decode mt_X8_grew.2.1 138 = .ok (.tableswitch 67 0 4 #[34, 37, 49, 52, 64], 34) := by decide +kernel
set_option maxRecDepth 100000 in
set_option maxHeartbeats 4000000 in
theorem x_X8_grew {G : am_G} {m : am_m} {r : am_rr} {x1 : Int32} {x2 : Int32} {x3 : Int32} {res : Int32} (hL : am_Lay r) (hm : m_X8_grew m r x1 x2 x3 = some res) : am_Met G mt_X8_grew 3 [.ref 3, .int x1, .int x2, .int x3] (am_hh m r) (some (.int res)) (am_hh m r) := by
  refine am_of (by decide) (Nat.le_of_ble_eq_true rfl) ?_
  unfold m_X8_grew at hm
  show am_W G mt_X8_grew 3 _ _ 0 [(0, .ref 3), (1, .int x1), (2, .int x2), (3, .int x3)] [] (am_hh m r)
  refine am_steps ck_X8_grew 2 (pc' := 2) (lv' := [(0, .ref 3), (1, .int x1), (2, .int x2), (3, .int x3)]) (st' := [.int (am_i 1), .int x2]) rfl ?_
  refine am_icmp (tgt := 17) (am_fd ck_X8_grew (pc := 2) rfl) rfl (fun hc1 => ?_) (fun hc1 => ?_)
  · replace hm := am_it hm hc1
    refine am_ldcw (am_fd ck_X8_grew (pc := 17) rfl) tw_774 ?_
    cases hm
    exact am_end (am_fd ck_X8_grew (pc := 20) rfl) am_rI rfl rfl
  · replace hm := am_if hm hc1
    refine am_steps ck_X8_grew 1 (pc' := 6) (lv' := [(0, .ref 3), (1, .int x1), (2, .int x2), (3, .int x3)]) (st' := [.ref 3]) rfl ?_
    refine ms_getr (ci := 6) (k := 0) (v := 4) (am_fd ck_X8_grew (pc := 6) rfl) tw_190 kc_3 rfl (ly_3_0 hL) (kO og4) ?_
    refine am_steps ck_X8_grew 2 (pc' := 11) (lv' := [(0, .ref 3), (1, .int x1), (2, .int x2), (3, .int x3)]) (st' := [.int x2, .int x1, .ref 4]) rfl ?_
    obtain ⟨q2, hq2, hm⟩ := am_bE hm
    refine ms_callV (M2 := mt_X1_hasVersion) (d2 := 2) (ci := 1) [.int x1, .int x2] (am_fd ck_X8_grew (pc := 11) rfl) ok_X1_hasVersion tw_766 tw_767 tw_768 (by decide) (kO og4) (Nat.le_of_ble_eq_true rfl) (Nat.le_of_ble_eq_true rfl) (x_X1_hasVersion hL og4 hq2) ?_
    refine am_ifc (tgt := 21) (am_fd ck_X8_grew (pc := 14) rfl) rfl (fun hc3 => ?_) (fun hc3 => ?_)
    · replace hm := am_it hm hc3
      refine am_steps ck_X8_grew 1 (pc' := 22) (lv' := [(0, .ref 3), (1, .int x1), (2, .int x2), (3, .int x3)]) (st' := [.ref 3]) rfl ?_
      refine ms_getr (ci := 6) (k := 0) (v := 4) (am_fd ck_X8_grew (pc := 22) rfl) tw_190 kc_3 rfl (ly_3_0 hL) (kO og4) ?_
      refine ms_getr (ci := 1) (k := 5) (v := (4 + 54)) (am_fd ck_X8_grew (pc := 25) rfl) tw_52 (kO og4) rfl (lyO5 hL og4) (kVo og4) ?_
      refine am_steps ck_X8_grew 3 (pc' := 32) (lv' := [(0, .ref 3), (1, .int x1), (2, .int x2), (3, .int x3)]) (st' := [.int (x1 * (am_i 8)), .ref (4 + 54)]) rfl ?_
      obtain ⟨hb4, hm⟩ := am_gE hm
      obtain ⟨hx5, hx5k⟩ : (∃ w, w < 192 ∧ (r (4 + 54) (am_ix (x1 * (am_i 8)))) = 4 + 55 + w) ∧ am_k (r (4 + 54) (am_ix (x1 * (am_i 8)))) 11 64 := ⟨hL.vx og4 (am_ixl hb4), hL.v og4 (am_ixl hb4)⟩
      refine ms_rald (n := 192) (v := (r (4 + 54) (am_ix (x1 * (am_i 8))))) (am_fd ck_X8_grew (pc := 32) rfl) (kVo og4) hb4 rfl hx5k ?_
      refine am_steps ck_X8_grew 2 (pc' := 36) (lv' := [(4, .ref (r (4 + 54) (am_ix (x1 * (am_i 8))))), (0, .ref 3), (1, .int x1), (2, .int x2), (3, .int x3)]) (st' := [.ref 3]) rfl ?_
      refine ms_getr (ci := 6) (k := 0) (v := 4) (am_fd ck_X8_grew (pc := 36) rfl) tw_190 kc_3 rfl (ly_3_0 hL) (kO og4) ?_
      refine ms_getr (ci := 1) (k := 5) (v := (4 + 54)) (am_fd ck_X8_grew (pc := 39) rfl) tw_52 (kO og4) rfl (lyO5 hL og4) (kVo og4) ?_
      refine am_steps ck_X8_grew 5 (pc' := 48) (lv' := [(4, .ref (r (4 + 54) (am_ix (x1 * (am_i 8))))), (0, .ref 3), (1, .int x1), (2, .int x2), (3, .int x3)]) (st' := [.int ((x1 * (am_i 8)) + x2), .ref (4 + 54)]) rfl ?_
      obtain ⟨hb6, hm⟩ := am_gE hm
      obtain ⟨hx7, hx7k⟩ : (∃ w, w < 192 ∧ (r (4 + 54) (am_ix ((x1 * (am_i 8)) + x2))) = 4 + 55 + w) ∧ am_k (r (4 + 54) (am_ix ((x1 * (am_i 8)) + x2))) 11 64 := ⟨hL.vx og4 (am_ixl hb6), hL.v og4 (am_ixl hb6)⟩
      refine ms_rald (n := 192) (v := (r (4 + 54) (am_ix ((x1 * (am_i 8)) + x2)))) (am_fd ck_X8_grew (pc := 48) rfl) (kVo og4) hb6 rfl hx7k ?_
      refine am_steps ck_X8_grew 9 (pc' := 63) (lv' := [(9, .int (am_i 0)), (8, .int (am_i 0)), (7, .int (am_i 0)), (6, .int (am_i 0)), (5, .ref (r (4 + 54) (am_ix ((x1 * (am_i 8)) + x2)))), (4, .ref (r (4 + 54) (am_ix (x1 * (am_i 8))))), (0, .ref 3), (1, .int x1), (2, .int x2), (3, .int x3)]) (st' := []) rfl ?_
      refine am_subp [9, 5, 4, 3, 2, 1, 0] rfl ?_
      refine x_X8_grew_63 hL hx5k hx7k am_F _ _ _ _ hm (fun u30 u31 u32 hm => ?_)
      refine am_steps ck_X8_grew 1 (pc' := 138) (lv' := [(3, .int x3), (4, .ref (r (4 + 54) (am_ix (x1 * (am_i 8))))), (5, .ref (r (4 + 54) (am_ix ((x1 * (am_i 8)) + x2)))), (6, .int u30), (7, .int u31), (8, .int u32)]) (st' := [.int x3]) rfl ?_
      by_cases hs33 : x3 = am_i 0
      · replace hm := am_it hm hs33
        refine ms_sw (v := 0) (off := 34) (tgt := 172) sw_X8_grew_138 hs33 (by decide) (by decide) (by decide) rfl rfl ?_
        refine am_steps ck_X8_grew 1 (pc' := 174) (lv' := [(3, .int x3), (4, .ref (r (4 + 54) (am_ix (x1 * (am_i 8))))), (5, .ref (r (4 + 54) (am_ix ((x1 * (am_i 8)) + x2)))), (6, .int u30), (7, .int u31), (8, .int u32)]) (st' := [.int u30]) rfl ?_
        cases hm
        exact am_end (am_fd ck_X8_grew (pc := 174) rfl) am_rI rfl rfl
      · replace hm := am_if hm hs33
        by_cases hs36 : x3 = am_i 1
        · replace hm := am_it hm hs36
          refine ms_sw (v := 1) (off := 37) (tgt := 175) sw_X8_grew_138 hs36 (by decide) (by decide) (by decide) rfl rfl ?_
          refine am_steps ck_X8_grew 2 (pc' := 179) (lv' := [(3, .int x3), (4, .ref (r (4 + 54) (am_ix (x1 * (am_i 8))))), (5, .ref (r (4 + 54) (am_ix ((x1 * (am_i 8)) + x2)))), (6, .int u30), (7, .int u31), (8, .int u32)]) (st' := [.int u30, .ref (r (4 + 54) (am_ix (x1 * (am_i 8))))]) rfl ?_
          obtain ⟨hb34, hm⟩ := am_gE hm
          refine ms_iald (n := 64) (am_fd ck_X8_grew (pc := 179) rfl) hx5k hb34 ?_
          refine am_steps ck_X8_grew 2 (pc' := 184) (lv' := [(3, .int x3), (4, .ref (r (4 + 54) (am_ix (x1 * (am_i 8))))), (5, .ref (r (4 + 54) (am_ix ((x1 * (am_i 8)) + x2)))), (6, .int u30), (7, .int u31), (8, .int u32)]) (st' := [.int u30, .ref (r (4 + 54) (am_ix ((x1 * (am_i 8)) + x2))), .int (m (r (4 + 54) (am_ix (x1 * (am_i 8)))) (am_ix u30))]) rfl ?_
          obtain ⟨hb35, hm⟩ := am_gE hm
          refine ms_iald (n := 64) (am_fd ck_X8_grew (pc := 184) rfl) hx7k hb35 ?_
          refine am_steps ck_X8_grew 1 (pc' := 186) (lv' := [(3, .int x3), (4, .ref (r (4 + 54) (am_ix (x1 * (am_i 8))))), (5, .ref (r (4 + 54) (am_ix ((x1 * (am_i 8)) + x2)))), (6, .int u30), (7, .int u31), (8, .int u32)]) (st' := [.int ((m (r (4 + 54) (am_ix (x1 * (am_i 8)))) (am_ix u30)) - (m (r (4 + 54) (am_ix ((x1 * (am_i 8)) + x2))) (am_ix u30)))]) rfl ?_
          cases hm
          exact am_end (am_fd ck_X8_grew (pc := 186) rfl) am_rI rfl rfl
        · replace hm := am_if hm hs36
          by_cases hs37 : x3 = am_i 2
          · replace hm := am_it hm hs37
            refine ms_sw (v := 2) (off := 49) (tgt := 187) sw_X8_grew_138 hs37 (by decide) (by decide) (by decide) rfl rfl ?_
            refine am_steps ck_X8_grew 1 (pc' := 189) (lv' := [(3, .int x3), (4, .ref (r (4 + 54) (am_ix (x1 * (am_i 8))))), (5, .ref (r (4 + 54) (am_ix ((x1 * (am_i 8)) + x2)))), (6, .int u30), (7, .int u31), (8, .int u32)]) (st' := [.int u31]) rfl ?_
            cases hm
            exact am_end (am_fd ck_X8_grew (pc := 189) rfl) am_rI rfl rfl
          · replace hm := am_if hm hs37
            by_cases hs40 : x3 = am_i 3
            · replace hm := am_it hm hs40
              refine ms_sw (v := 3) (off := 52) (tgt := 190) sw_X8_grew_138 hs40 (by decide) (by decide) (by decide) rfl rfl ?_
              refine am_steps ck_X8_grew 2 (pc' := 194) (lv' := [(3, .int x3), (4, .ref (r (4 + 54) (am_ix (x1 * (am_i 8))))), (5, .ref (r (4 + 54) (am_ix ((x1 * (am_i 8)) + x2)))), (6, .int u30), (7, .int u31), (8, .int u32)]) (st' := [.int u31, .ref (r (4 + 54) (am_ix ((x1 * (am_i 8)) + x2)))]) rfl ?_
              obtain ⟨hb38, hm⟩ := am_gE hm
              refine ms_iald (n := 64) (am_fd ck_X8_grew (pc := 194) rfl) hx7k hb38 ?_
              refine am_steps ck_X8_grew 2 (pc' := 199) (lv' := [(3, .int x3), (4, .ref (r (4 + 54) (am_ix (x1 * (am_i 8))))), (5, .ref (r (4 + 54) (am_ix ((x1 * (am_i 8)) + x2)))), (6, .int u30), (7, .int u31), (8, .int u32)]) (st' := [.int u31, .ref (r (4 + 54) (am_ix (x1 * (am_i 8)))), .int (m (r (4 + 54) (am_ix ((x1 * (am_i 8)) + x2))) (am_ix u31))]) rfl ?_
              obtain ⟨hb39, hm⟩ := am_gE hm
              refine ms_iald (n := 64) (am_fd ck_X8_grew (pc := 199) rfl) hx5k hb39 ?_
              refine am_steps ck_X8_grew 1 (pc' := 201) (lv' := [(3, .int x3), (4, .ref (r (4 + 54) (am_ix (x1 * (am_i 8))))), (5, .ref (r (4 + 54) (am_ix ((x1 * (am_i 8)) + x2)))), (6, .int u30), (7, .int u31), (8, .int u32)]) (st' := [.int ((m (r (4 + 54) (am_ix ((x1 * (am_i 8)) + x2))) (am_ix u31)) - (m (r (4 + 54) (am_ix (x1 * (am_i 8)))) (am_ix u31)))]) rfl ?_
              cases hm
              exact am_end (am_fd ck_X8_grew (pc := 201) rfl) am_rI rfl rfl
            · replace hm := am_if hm hs40
              by_cases hs41 : x3 = am_i 4
              · replace hm := am_it hm hs41
                refine ms_sw (v := 4) (off := 64) (tgt := 202) sw_X8_grew_138 hs41 (by decide) (by decide) (by decide) rfl rfl ?_
                refine am_steps ck_X8_grew 1 (pc' := 204) (lv' := [(3, .int x3), (4, .ref (r (4 + 54) (am_ix (x1 * (am_i 8))))), (5, .ref (r (4 + 54) (am_ix ((x1 * (am_i 8)) + x2)))), (6, .int u30), (7, .int u31), (8, .int u32)]) (st' := [.int u32]) rfl ?_
                cases hm
                exact am_end (am_fd ck_X8_grew (pc := 204) rfl) am_rI rfl rfl
              · replace hm := am_if hm hs41
                refine ms_swd (tgt := 205) sw_X8_grew_138 (fun j hj => ?_) rfl ?_
                · have hj2 : j ≤ 4 := by omega
                  match j, hj2 with
                  | 0, _ => exact hs33
                  | 1, _ => exact hs36
                  | 2, _ => exact hs37
                  | 3, _ => exact hs40
                  | 4, _ => exact hs41
                  | j + 5, h9 => omega
                · refine am_ldcw (am_fd ck_X8_grew (pc := 205) rfl) tw_774 ?_
                  cases hm
                  exact am_end (am_fd ck_X8_grew (pc := 208) rfl) am_rI rfl rfl
    · replace hm := am_if hm hc3
      refine am_ldcw (am_fd ck_X8_grew (pc := 17) rfl) tw_774 ?_
      cases hm
      exact am_end (am_fd ck_X8_grew (pc := 20) rfl) am_rI rfl rfl
set_option maxRecDepth 100000 in
set_option maxHeartbeats 4000000 in
theorem x_X8_twin_20 {G : am_G} {x1 : Int32} {m : am_m} {r : am_rr} {y1 : Int32} {res : Int32} {k : Int32 → Option (Int32)} (hL : am_Lay r) : ∀ (n : Nat) (z2 : Int32) (z3 : Int32) (z4 : Int32), m_X8_twin_20 x1 m y1 k n z2 z3 z4 = some res → (∀ (u2 : Int32), k u2 = some res → am_W G mt_X8_twin 2 (some (.int res)) (am_hh m r) 95 [(2, .int u2)] [] (am_hh m r)) → am_W G mt_X8_twin 2 (some (.int res)) (am_hh m r) 20 [(0, .ref 3), (1, .int y1), (2, .int z2), (3, .int z3), (4, .int z4)] [] (am_hh m r) := by
  intro n
  induction n with
  | zero => intro z2 z3 z4 hm K; cases hm
  | succ n ih =>
    intro z2 z3 z4 hm K
    unfold m_X8_twin_20 at hm
    refine am_steps ck_X8_twin 2 (pc' := 24) (lv' := [(0, .ref 3), (1, .int y1), (2, .int z2), (3, .int z3), (4, .int z4)]) (st' := [.int (am_i 24), .int z4]) rfl ?_
    refine am_icmp (tgt := 95) (am_fd ck_X8_twin (pc := 24) rfl) rfl (fun hc3 => ?_) (fun hc3 => ?_)
    · replace hm := am_it hm hc3
      refine am_subp [2] rfl ?_
      exact K _ hm
    · replace hm := am_if hm hc3
      refine am_steps ck_X8_twin 2 (pc' := 30) (lv' := [(0, .ref 3), (1, .int y1), (2, .int z2), (3, .int z3), (4, .int z4)]) (st' := [.int y1, .int z4]) rfl ?_
      refine am_icmp (tgt := 89) (am_fd ck_X8_twin (pc := 30) rfl) rfl (fun hc4 => ?_) (fun hc4 => ?_)
      · replace hm := am_it hm hc4
        refine am_steps ck_X8_twin 2 (pc' := 20) (lv' := [(4, .int (z4 + am_i 1)), (0, .ref 3), (1, .int y1), (2, .int z2), (3, .int z3)]) (st' := []) rfl ?_
        refine am_subp [1, 2, 3, 4, 0] rfl ?_
        exact ih _ _ _ hm K
      · replace hm := am_if hm hc4
        refine am_steps ck_X8_twin 1 (pc' := 34) (lv' := [(0, .ref 3), (1, .int y1), (2, .int z2), (3, .int z3), (4, .int z4)]) (st' := [.ref 3]) rfl ?_
        refine ms_getr (ci := 6) (k := 0) (v := 4) (am_fd ck_X8_twin (pc := 34) rfl) tw_190 kc_3 rfl (ly_3_0 hL) (kO og4) ?_
        refine am_steps ck_X8_twin 1 (pc' := 39) (lv' := [(0, .ref 3), (1, .int y1), (2, .int z2), (3, .int z3), (4, .int z4)]) (st' := [.int z4, .ref 4]) rfl ?_
        obtain ⟨q5, hq5, hm⟩ := am_bE hm
        refine ms_callV (M2 := mt_X1_isThere) (d2 := 1) (ci := 1) [.int z4] (am_fd ck_X8_twin (pc := 39) rfl) ok_X1_isThere tw_231 tw_232 tw_233 (by decide) (kO og4) (Nat.le_of_ble_eq_true rfl) (Nat.le_of_ble_eq_true rfl) (x_X1_isThere hL og4 hq5) ?_
        refine am_ifc (tgt := 48) (am_fd ck_X8_twin (pc := 42) rfl) rfl (fun hc6 => ?_) (fun hc6 => ?_)
        · replace hm := am_it hm hc6
          refine am_steps ck_X8_twin 1 (pc' := 49) (lv' := [(0, .ref 3), (1, .int y1), (2, .int z2), (3, .int z3), (4, .int z4)]) (st' := [.ref 3]) rfl ?_
          refine ms_getr (ci := 6) (k := 0) (v := 4) (am_fd ck_X8_twin (pc := 49) rfl) tw_190 kc_3 rfl (ly_3_0 hL) (kO og4) ?_
          refine ms_getr (ci := 1) (k := 3) (v := (4 + 28)) (am_fd ck_X8_twin (pc := 52) rfl) tw_48 (kO og4) rfl (lyO3 hL og4) (kXo og4) ?_
          refine am_steps ck_X8_twin 1 (pc' := 56) (lv' := [(0, .ref 3), (1, .int y1), (2, .int z2), (3, .int z3), (4, .int z4)]) (st' := [.int y1, .ref (4 + 28)]) rfl ?_
          obtain ⟨hb7, hm⟩ := am_gE hm
          refine ms_rald (n := 24) (v := (aX 4 (am_ix y1))) (am_fd ck_X8_twin (pc := 56) rfl) (kXo og4) hb7 (lyX hL og4 (am_ixl hb7)) (kX og4 (am_ixl hb7)) ?_
          refine am_steps ck_X8_twin 1 (pc' := 58) (lv' := [(0, .ref 3), (1, .int y1), (2, .int z2), (3, .int z3), (4, .int z4)]) (st' := [.ref 3, .ref (aX 4 (am_ix y1))]) rfl ?_
          refine ms_getr (ci := 6) (k := 0) (v := 4) (am_fd ck_X8_twin (pc := 58) rfl) tw_190 kc_3 rfl (ly_3_0 hL) (kO og4) ?_
          refine ms_getr (ci := 1) (k := 3) (v := (4 + 28)) (am_fd ck_X8_twin (pc := 61) rfl) tw_48 (kO og4) rfl (lyO3 hL og4) (kXo og4) ?_
          refine am_steps ck_X8_twin 1 (pc' := 66) (lv' := [(0, .ref 3), (1, .int y1), (2, .int z2), (3, .int z3), (4, .int z4)]) (st' := [.int z4, .ref (4 + 28), .ref (aX 4 (am_ix y1))]) rfl ?_
          obtain ⟨hb8, hm⟩ := am_gE hm
          refine ms_rald (n := 24) (v := (aX 4 (am_ix z4))) (am_fd ck_X8_twin (pc := 66) rfl) (kXo og4) hb8 (lyX hL og4 (am_ixl hb8)) (kX og4 (am_ixl hb8)) ?_
          obtain ⟨q9, hq9, hm⟩ := am_bE hm
          refine ms_callS (M2 := mt_X5_unlikeness) (d2 := 1) [.ref (aX 4 (am_ix y1)), .ref (aX 4 (am_ix z4))] (am_fd ck_X8_twin (pc := 67) rfl) ok_X5_unlikeness tw_579 tw_580 (Nat.le_of_ble_eq_true rfl) (Nat.le_of_ble_eq_true rfl) (x_X5_unlikeness hL (kX og4 (am_ixl hb7)) (kX og4 (am_ixl hb8)) hq9) ?_
          refine am_steps ck_X8_twin 3 (pc' := 74) (lv' := [(5, .int q9), (0, .ref 3), (1, .int y1), (2, .int z2), (3, .int z3), (4, .int z4)]) (st' := [.int (am_i (-1)), .int z2]) rfl ?_
          refine am_icmp (tgt := 83) (am_fd ck_X8_twin (pc := 74) rfl) rfl (fun hc10 => ?_) (fun hc10 => ?_)
          · replace hm := am_it hm hc10
            refine am_steps ck_X8_twin 6 (pc' := 20) (lv' := [(4, .int (z4 + am_i 1)), (3, .int q9), (2, .int z4), (5, .int q9), (0, .ref 3), (1, .int y1)]) (st' := []) rfl ?_
            refine am_subp [4, 5, 2, 1, 0] rfl ?_
            exact ih _ _ _ hm K
          · replace hm := am_if hm hc10
            refine am_steps ck_X8_twin 2 (pc' := 80) (lv' := [(5, .int q9), (0, .ref 3), (1, .int y1), (2, .int z2), (3, .int z3), (4, .int z4)]) (st' := [.int z3, .int q9]) rfl ?_
            refine am_icmp (tgt := 89) (am_fd ck_X8_twin (pc := 80) rfl) rfl (fun hc11 => ?_) (fun hc11 => ?_)
            · replace hm := am_it hm hc11
              refine am_steps ck_X8_twin 2 (pc' := 20) (lv' := [(4, .int (z4 + am_i 1)), (5, .int q9), (0, .ref 3), (1, .int y1), (2, .int z2), (3, .int z3)]) (st' := []) rfl ?_
              refine am_subp [2, 3, 4, 5, 0] rfl ?_
              exact ih _ _ _ hm K
            · replace hm := am_if hm hc11
              refine am_steps ck_X8_twin 6 (pc' := 20) (lv' := [(4, .int (z4 + am_i 1)), (3, .int q9), (2, .int z4), (5, .int q9), (0, .ref 3), (1, .int y1)]) (st' := []) rfl ?_
              refine am_subp [4, 5, 2, 1, 0] rfl ?_
              exact ih _ _ _ hm K
        · replace hm := am_if hm hc6
          refine am_steps ck_X8_twin 3 (pc' := 20) (lv' := [(4, .int (z4 + am_i 1)), (0, .ref 3), (1, .int y1), (2, .int z2), (3, .int z3)]) (st' := []) rfl ?_
          refine am_subp [1, 2, 3, 4, 0] rfl ?_
          exact ih _ _ _ hm K
set_option maxRecDepth 100000 in
set_option maxHeartbeats 4000000 in
theorem x_X8_twin {G : am_G} {m : am_m} {r : am_rr} {x1 : Int32} {res : Int32} (hL : am_Lay r) (hm : m_X8_twin m x1 = some res) : am_Met G mt_X8_twin 2 [.ref 3, .int x1] (am_hh m r) (some (.int res)) (am_hh m r) := by
  refine am_of (by decide) (Nat.le_of_ble_eq_true rfl) ?_
  unfold m_X8_twin at hm
  show am_W G mt_X8_twin 2 _ _ 0 [(0, .ref 3), (1, .int x1)] [] (am_hh m r)
  refine am_steps ck_X8_twin 1 (pc' := 1) (lv' := [(0, .ref 3), (1, .int x1)]) (st' := [.ref 3]) rfl ?_
  refine ms_getr (ci := 6) (k := 0) (v := 4) (am_fd ck_X8_twin (pc := 1) rfl) tw_190 kc_3 rfl (ly_3_0 hL) (kO og4) ?_
  refine am_steps ck_X8_twin 1 (pc' := 5) (lv' := [(0, .ref 3), (1, .int x1)]) (st' := [.int x1, .ref 4]) rfl ?_
  obtain ⟨q1, hq1, hm⟩ := am_bE hm
  refine ms_callV (M2 := mt_X1_isThere) (d2 := 1) (ci := 1) [.int x1] (am_fd ck_X8_twin (pc := 5) rfl) ok_X1_isThere tw_231 tw_232 tw_233 (by decide) (kO og4) (Nat.le_of_ble_eq_true rfl) (Nat.le_of_ble_eq_true rfl) (x_X1_isThere hL og4 hq1) ?_
  refine am_ifc (tgt := 13) (am_fd ck_X8_twin (pc := 8) rfl) rfl (fun hc2 => ?_) (fun hc2 => ?_)
  · replace hm := am_it hm hc2
    refine am_steps ck_X8_twin 6 (pc' := 20) (lv' := [(4, .int (am_i 0)), (3, .int (am_i 0)), (2, .int (am_i (-1))), (0, .ref 3), (1, .int x1)]) (st' := []) rfl ?_
    refine am_subp [3, 4, 2, 1, 0] rfl ?_
    refine x_X8_twin_20 hL am_F _ _ _ hm (fun u12 hm => ?_)
    refine am_steps ck_X8_twin 1 (pc' := 96) (lv' := [(2, .int u12)]) (st' := [.int u12]) rfl ?_
    cases hm
    exact am_end (am_fd ck_X8_twin (pc := 96) rfl) am_rI rfl rfl
  · replace hm := am_if hm hc2
    refine am_steps ck_X8_twin 1 (pc' := 12) (lv' := [(0, .ref 3), (1, .int x1)]) (st' := [.int (am_i (-1))]) rfl ?_
    cases hm
    exact am_end (am_fd ck_X8_twin (pc := 12) rfl) am_rI rfl rfl
set_option maxRecDepth 100000 in
set_option maxHeartbeats 4000000 in
theorem x_X8_halves_40 {G : am_G} {x1 : Int32} {x2 : Int32} {r : am_rr} {y1 : Int32} {y2 : Int32} {y3 : Int32} {res : Int32 × am_m} {k : am_m → Option (Int32 × am_m)} (hL : am_Lay r) : ∀ (n : Nat) (z4 : Int32) (m : am_m), m_X8_halves_40 x1 x2 y1 y2 y3 k n z4 m = some res → (∀ (m1 : am_m), k m1 = some res → am_W G mt_X8_halves 3 (some (.int res.1)) (am_hh res.2 r) 100 [(0, .ref 3), (1, .int y1), (2, .int y2), (3, .int y3)] [] (am_hh m1 r)) → am_W G mt_X8_halves 3 (some (.int res.1)) (am_hh res.2 r) 40 [(0, .ref 3), (1, .int y1), (2, .int y2), (3, .int y3), (4, .int z4)] [] (am_hh m r) := by
  intro n
  induction n with
  | zero => intro z4 m hm K; cases hm
  | succ n ih =>
    intro z4 m hm K
    unfold m_X8_halves_40 at hm
    refine am_steps ck_X8_halves 2 (pc' := 43) (lv' := [(0, .ref 3), (1, .int y1), (2, .int y2), (3, .int y3), (4, .int z4)]) (st' := [.int y3, .int z4]) rfl ?_
    refine am_icmp (tgt := 100) (am_fd ck_X8_halves (pc := 43) rfl) rfl (fun hc7 => ?_) (fun hc7 => ?_)
    · replace hm := am_it hm hc7
      refine am_subp [0, 1, 2, 3] rfl ?_
      exact K _ hm
    · replace hm := am_if hm hc7
      refine am_steps ck_X8_halves 1 (pc' := 47) (lv' := [(0, .ref 3), (1, .int y1), (2, .int y2), (3, .int y3), (4, .int z4)]) (st' := [.ref 3]) rfl ?_
      refine ms_getr (ci := 6) (k := 0) (v := 4) (am_fd ck_X8_halves (pc := 47) rfl) tw_190 kc_3 rfl (ly_3_0 hL) (kO og4) ?_
      refine am_steps ck_X8_halves 2 (pc' := 53) (lv' := [(0, .ref 3), (1, .int y1), (2, .int y2), (3, .int y3), (4, .int z4)]) (st' := [.int z4, .int y1, .ref 4]) rfl ?_
      obtain ⟨q8, hq8, hm⟩ := am_bE hm
      refine ms_callV (M2 := mt_X1_lowerAt) (d2 := 2) (ci := 1) [.int y1, .int z4] (am_fd ck_X8_halves (pc := 53) rfl) ok_X1_lowerAt tw_595 tw_596 tw_597 (by decide) (kO og4) (Nat.le_of_ble_eq_true rfl) (Nat.le_of_ble_eq_true rfl) (x_X1_lowerAt hL og4 hq8) ?_
      refine am_steps ck_X8_halves 2 (pc' := 59) (lv' := [(5, .int q8), (0, .ref 3), (1, .int y1), (2, .int y2), (3, .int y3), (4, .int z4)]) (st' := [.ref 3]) rfl ?_
      refine ms_getr (ci := 6) (k := 9) (v := 3013) (am_fd ck_X8_halves (pc := 59) rfl) tw_199 kc_3 rfl (ly_3_9 hL) kc_3013 ?_
      refine am_steps ck_X8_halves 2 (pc' := 65) (lv' := [(5, .int q8), (0, .ref 3), (1, .int y1), (2, .int y2), (3, .int y3), (4, .int z4)]) (st' := [.ref 3, .int z4, .ref 3013]) rfl ?_
      refine ms_getr (ci := 6) (k := 0) (v := 4) (am_fd ck_X8_halves (pc := 65) rfl) tw_190 kc_3 rfl (ly_3_0 hL) (kO og4) ?_
      refine am_steps ck_X8_halves 1 (pc' := 70) (lv' := [(5, .int q8), (0, .ref 3), (1, .int y1), (2, .int y2), (3, .int y3), (4, .int z4)]) (st' := [.int q8, .ref 4, .int z4, .ref 3013]) rfl ?_
      obtain ⟨q9, hq9, hm⟩ := am_bE hm
      refine ms_callV (M2 := mt_X1_isThere) (d2 := 1) (ci := 1) [.int q8] (am_fd ck_X8_halves (pc := 70) rfl) ok_X1_isThere tw_231 tw_232 tw_233 (by decide) (kO og4) (Nat.le_of_ble_eq_true rfl) (Nat.le_of_ble_eq_true rfl) (x_X1_isThere hL og4 hq9) ?_
      refine am_ifc (tgt := 92) (am_fd ck_X8_halves (pc := 73) rfl) rfl (fun hc10 => ?_) (fun hc10 => ?_)
      · replace hm := am_it hm hc10
        refine am_steps ck_X8_halves 1 (pc' := 93) (lv' := [(5, .int q8), (0, .ref 3), (1, .int y1), (2, .int y2), (3, .int y3), (4, .int z4)]) (st' := [.int (am_i 0), .int z4, .ref 3013]) rfl ?_
        obtain ⟨hb11, hm⟩ := am_gE hm
        refine ms_iast (n := 64) (am_fd ck_X8_halves (pc := 93) rfl) kc_3013 hb11 (fun m12 em12 => ?_)
        replace hm := am_letE em12 hm
        refine am_steps ck_X8_halves 2 (pc' := 40) (lv' := [(4, .int (z4 + am_i 1)), (5, .int q8), (0, .ref 3), (1, .int y1), (2, .int y2), (3, .int y3)]) (st' := []) rfl ?_
        refine am_subp [2, 3, 4, 5, 0] rfl ?_
        exact ih _ _ hm K
      · replace hm := am_if hm hc10
        refine am_steps ck_X8_halves 1 (pc' := 77) (lv' := [(5, .int q8), (0, .ref 3), (1, .int y1), (2, .int y2), (3, .int y3), (4, .int z4)]) (st' := [.ref 3, .int z4, .ref 3013]) rfl ?_
        refine ms_getr (ci := 6) (k := 0) (v := 4) (am_fd ck_X8_halves (pc := 77) rfl) tw_190 kc_3 rfl (ly_3_0 hL) (kO og4) ?_
        refine ms_getr (ci := 1) (k := 3) (v := (4 + 28)) (am_fd ck_X8_halves (pc := 80) rfl) tw_48 (kO og4) rfl (lyO3 hL og4) (kXo og4) ?_
        refine am_steps ck_X8_halves 1 (pc' := 85) (lv' := [(5, .int q8), (0, .ref 3), (1, .int y1), (2, .int y2), (3, .int y3), (4, .int z4)]) (st' := [.int q8, .ref (4 + 28), .int z4, .ref 3013]) rfl ?_
        obtain ⟨hb13, hm⟩ := am_gE hm
        refine ms_rald (n := 24) (v := (aX 4 (am_ix q8))) (am_fd ck_X8_halves (pc := 85) rfl) (kXo og4) hb13 (lyX hL og4 (am_ixl hb13)) (kX og4 (am_ixl hb13)) ?_
        obtain ⟨q14, hq14, hm⟩ := am_bE hm
        refine ms_callS (M2 := mt_X5_allOf) (d2 := 2) [.ref (aX 4 (am_ix q8))] (am_fd ck_X8_halves (pc := 86) rfl) ok_X5_allOf tw_585 tw_586 (Nat.le_of_ble_eq_true rfl) (Nat.le_of_ble_eq_true rfl) (x_X5_allOf hL (kX og4 (am_ixl hb13)) hq14) ?_
        refine am_steps ck_X8_halves 1 (pc' := 93) (lv' := [(5, .int q8), (0, .ref 3), (1, .int y1), (2, .int y2), (3, .int y3), (4, .int z4)]) (st' := [.int q14, .int z4, .ref 3013]) rfl ?_
        obtain ⟨hb15, hm⟩ := am_gE hm
        refine ms_iast (n := 64) (am_fd ck_X8_halves (pc := 93) rfl) kc_3013 hb15 (fun m16 em16 => ?_)
        replace hm := am_letE em16 hm
        refine am_steps ck_X8_halves 2 (pc' := 40) (lv' := [(4, .int (z4 + am_i 1)), (5, .int q8), (0, .ref 3), (1, .int y1), (2, .int y2), (3, .int y3)]) (st' := []) rfl ?_
        refine am_subp [2, 3, 4, 5, 0] rfl ?_
        exact ih _ _ hm K
set_option maxRecDepth 100000 in
set_option maxHeartbeats 4000000 in
theorem x_X8_halves_119 {G : am_G} {x1 : Int32} {x2 : Int32} {m : am_m} {r : am_rr} {y1 : Int32} {y2 : Int32} {y3 : Int32} {y4 : Int32} {res : Int32 × am_m} {k : Int32 → Int32 → Option (Int32 × am_m)} (hL : am_Lay r) : ∀ (n : Nat) (z5 : Int32) (z6 : Int32) (z7 : Int32), m_X8_halves_119 x1 x2 m y1 y2 y3 y4 k n z5 z6 z7 = some res → (∀ (u5 : Int32) (u6 : Int32), k u5 u6 = some res → am_W G mt_X8_halves 3 (some (.int res.1)) (am_hh res.2 r) 198 [(2, .int y2), (5, .int u5), (6, .int u6)] [] (am_hh m r)) → am_W G mt_X8_halves 3 (some (.int res.1)) (am_hh res.2 r) 119 [(0, .ref 3), (1, .int y1), (2, .int y2), (3, .int y3), (4, .int y4), (5, .int z5), (6, .int z6), (7, .int z7)] [] (am_hh m r) := by
  intro n
  induction n with
  | zero => intro z5 z6 z7 hm K; cases hm
  | succ n ih =>
    intro z5 z6 z7 hm K
    unfold m_X8_halves_119 at hm
    refine am_steps ck_X8_halves 2 (pc' := 122) (lv' := [(0, .ref 3), (1, .int y1), (2, .int y2), (3, .int y3), (4, .int y4), (5, .int z5), (6, .int z6), (7, .int z7)]) (st' := [.int y3, .int z7]) rfl ?_
    refine am_icmp (tgt := 198) (am_fd ck_X8_halves (pc := 122) rfl) rfl (fun hc19 => ?_) (fun hc19 => ?_)
    · replace hm := am_it hm hc19
      refine am_subp [2, 5, 6] rfl ?_
      exact K _ _ hm
    · replace hm := am_if hm hc19
      refine am_steps ck_X8_halves 5 (pc' := 132) (lv' := [(0, .ref 3), (1, .int y1), (2, .int y2), (3, .int y3), (4, .int y4), (5, .int z5), (6, .int z6), (7, .int z7)]) (st' := [.int ((y4 >>> (z7 &&& 31)) &&& (am_i 1))]) rfl ?_
      refine am_ifc (tgt := 139) (am_fd ck_X8_halves (pc := 132) rfl) rfl (fun hc20 => ?_) (fun hc20 => ?_)
      · replace hm := am_it hm hc20
        refine am_steps ck_X8_halves 3 (pc' := 144) (lv' := [(8, .int (am_i 0)), (0, .ref 3), (1, .int y1), (2, .int y2), (3, .int y3), (4, .int y4), (5, .int z5), (6, .int z6), (7, .int z7)]) (st' := [.int (am_i 0)]) rfl ?_
        refine am_ifc (tgt := 164) (am_fd ck_X8_halves (pc := 144) rfl) rfl (fun hc21 => ?_) (fun hc21 => ?_)
        · replace hm := am_it hm hc21
          refine am_steps ck_X8_halves 2 (pc' := 168) (lv' := [(8, .int (am_i 0)), (0, .ref 3), (1, .int y1), (2, .int y2), (3, .int y3), (4, .int y4), (5, .int z5), (6, .int z6), (7, .int z7)]) (st' := [.int (am_i 0), .int z6]) rfl ?_
          refine am_ifc (tgt := 181) (am_fd ck_X8_halves (pc := 168) rfl) rfl (fun hc22 => ?_) (fun hc22 => ?_)
          · replace hm := am_it hm hc22
            refine am_steps ck_X8_halves 1 (pc' := 182) (lv' := [(8, .int (am_i 0)), (0, .ref 3), (1, .int y1), (2, .int y2), (3, .int y3), (4, .int y4), (5, .int z5), (6, .int z6), (7, .int z7)]) (st' := [.ref 3, .int z6]) rfl ?_
            refine ms_getr (ci := 6) (k := 9) (v := 3013) (am_fd ck_X8_halves (pc := 182) rfl) tw_199 kc_3 rfl (ly_3_9 hL) kc_3013 ?_
            refine am_steps ck_X8_halves 1 (pc' := 187) (lv' := [(8, .int (am_i 0)), (0, .ref 3), (1, .int y1), (2, .int y2), (3, .int y3), (4, .int y4), (5, .int z5), (6, .int z6), (7, .int z7)]) (st' := [.int z7, .ref 3013, .int z6]) rfl ?_
            obtain ⟨hb23, hm⟩ := am_gE hm
            refine ms_iald (n := 64) (am_fd ck_X8_halves (pc := 187) rfl) kc_3013 hb23 ?_
            refine am_steps ck_X8_halves 5 (pc' := 119) (lv' := [(7, .int (z7 + am_i 1)), (6, .int (z6 + (-(m 3013 (am_ix z7))))), (8, .int (am_i 0)), (0, .ref 3), (1, .int y1), (2, .int y2), (3, .int y3), (4, .int y4), (5, .int z5)]) (st' := []) rfl ?_
            refine am_subp [3, 4, 5, 6, 7, 8, 1, 0] rfl ?_
            exact ih _ _ _ hm K
          · replace hm := am_if hm hc22
            refine am_steps ck_X8_halves 1 (pc' := 172) (lv' := [(8, .int (am_i 0)), (0, .ref 3), (1, .int y1), (2, .int y2), (3, .int y3), (4, .int y4), (5, .int z5), (6, .int z6), (7, .int z7)]) (st' := [.ref 3, .int z6]) rfl ?_
            refine ms_getr (ci := 6) (k := 9) (v := 3013) (am_fd ck_X8_halves (pc := 172) rfl) tw_199 kc_3 rfl (ly_3_9 hL) kc_3013 ?_
            refine am_steps ck_X8_halves 1 (pc' := 177) (lv' := [(8, .int (am_i 0)), (0, .ref 3), (1, .int y1), (2, .int y2), (3, .int y3), (4, .int y4), (5, .int z5), (6, .int z6), (7, .int z7)]) (st' := [.int z7, .ref 3013, .int z6]) rfl ?_
            obtain ⟨hb24, hm⟩ := am_gE hm
            refine ms_iald (n := 64) (am_fd ck_X8_halves (pc := 177) rfl) kc_3013 hb24 ?_
            refine am_steps ck_X8_halves 5 (pc' := 119) (lv' := [(7, .int (z7 + am_i 1)), (6, .int (z6 + (m 3013 (am_ix z7)))), (8, .int (am_i 0)), (0, .ref 3), (1, .int y1), (2, .int y2), (3, .int y3), (4, .int y4), (5, .int z5)]) (st' := []) rfl ?_
            refine am_subp [3, 4, 5, 6, 7, 8, 1, 0] rfl ?_
            exact ih _ _ _ hm K
        · replace hm := am_if hm hc21
          refine am_steps ck_X8_halves 3 (pc' := 151) (lv' := [(8, .int (am_i 0)), (0, .ref 3), (1, .int y1), (2, .int y2), (3, .int y3), (4, .int y4), (5, .int z5), (6, .int z6), (7, .int z7)]) (st' := [.ref 3, .int (am_i 1), .int z5]) rfl ?_
          refine ms_getr (ci := 6) (k := 0) (v := 4) (am_fd ck_X8_halves (pc := 151) rfl) tw_190 kc_3 rfl (ly_3_0 hL) (kO og4) ?_
          refine am_steps ck_X8_halves 2 (pc' := 157) (lv' := [(8, .int (am_i 0)), (0, .ref 3), (1, .int y1), (2, .int y2), (3, .int y3), (4, .int y4), (5, .int z5), (6, .int z6), (7, .int z7)]) (st' := [.int z7, .int y1, .ref 4, .int (am_i 1), .int z5]) rfl ?_
          obtain ⟨q25, hq25, hm⟩ := am_bE hm
          refine ms_callV (M2 := mt_X1_lowerAt) (d2 := 2) (ci := 1) [.int y1, .int z7] (am_fd ck_X8_halves (pc := 157) rfl) ok_X1_lowerAt tw_595 tw_596 tw_597 (by decide) (kO og4) (Nat.le_of_ble_eq_true rfl) (Nat.le_of_ble_eq_true rfl) (x_X1_lowerAt hL og4 hq25) ?_
          refine am_steps ck_X8_halves 5 (pc' := 168) (lv' := [(5, .int (z5 ||| ((am_i 1) <<< (q25 &&& 31)))), (8, .int (am_i 0)), (0, .ref 3), (1, .int y1), (2, .int y2), (3, .int y3), (4, .int y4), (6, .int z6), (7, .int z7)]) (st' := [.int (am_i 0), .int z6]) rfl ?_
          refine am_ifc (tgt := 181) (am_fd ck_X8_halves (pc := 168) rfl) rfl (fun hc26 => ?_) (fun hc26 => ?_)
          · replace hm := am_it hm hc26
            refine am_steps ck_X8_halves 1 (pc' := 182) (lv' := [(5, .int (z5 ||| ((am_i 1) <<< (q25 &&& 31)))), (8, .int (am_i 0)), (0, .ref 3), (1, .int y1), (2, .int y2), (3, .int y3), (4, .int y4), (6, .int z6), (7, .int z7)]) (st' := [.ref 3, .int z6]) rfl ?_
            refine ms_getr (ci := 6) (k := 9) (v := 3013) (am_fd ck_X8_halves (pc := 182) rfl) tw_199 kc_3 rfl (ly_3_9 hL) kc_3013 ?_
            refine am_steps ck_X8_halves 1 (pc' := 187) (lv' := [(5, .int (z5 ||| ((am_i 1) <<< (q25 &&& 31)))), (8, .int (am_i 0)), (0, .ref 3), (1, .int y1), (2, .int y2), (3, .int y3), (4, .int y4), (6, .int z6), (7, .int z7)]) (st' := [.int z7, .ref 3013, .int z6]) rfl ?_
            obtain ⟨hb27, hm⟩ := am_gE hm
            refine ms_iald (n := 64) (am_fd ck_X8_halves (pc := 187) rfl) kc_3013 hb27 ?_
            refine am_steps ck_X8_halves 5 (pc' := 119) (lv' := [(7, .int (z7 + am_i 1)), (6, .int (z6 + (-(m 3013 (am_ix z7))))), (5, .int (z5 ||| ((am_i 1) <<< (q25 &&& 31)))), (8, .int (am_i 0)), (0, .ref 3), (1, .int y1), (2, .int y2), (3, .int y3), (4, .int y4)]) (st' := []) rfl ?_
            refine am_subp [4, 5, 6, 7, 8, 2, 1, 0] rfl ?_
            exact ih _ _ _ hm K
          · replace hm := am_if hm hc26
            refine am_steps ck_X8_halves 1 (pc' := 172) (lv' := [(5, .int (z5 ||| ((am_i 1) <<< (q25 &&& 31)))), (8, .int (am_i 0)), (0, .ref 3), (1, .int y1), (2, .int y2), (3, .int y3), (4, .int y4), (6, .int z6), (7, .int z7)]) (st' := [.ref 3, .int z6]) rfl ?_
            refine ms_getr (ci := 6) (k := 9) (v := 3013) (am_fd ck_X8_halves (pc := 172) rfl) tw_199 kc_3 rfl (ly_3_9 hL) kc_3013 ?_
            refine am_steps ck_X8_halves 1 (pc' := 177) (lv' := [(5, .int (z5 ||| ((am_i 1) <<< (q25 &&& 31)))), (8, .int (am_i 0)), (0, .ref 3), (1, .int y1), (2, .int y2), (3, .int y3), (4, .int y4), (6, .int z6), (7, .int z7)]) (st' := [.int z7, .ref 3013, .int z6]) rfl ?_
            obtain ⟨hb28, hm⟩ := am_gE hm
            refine ms_iald (n := 64) (am_fd ck_X8_halves (pc := 177) rfl) kc_3013 hb28 ?_
            refine am_steps ck_X8_halves 5 (pc' := 119) (lv' := [(7, .int (z7 + am_i 1)), (6, .int (z6 + (m 3013 (am_ix z7)))), (5, .int (z5 ||| ((am_i 1) <<< (q25 &&& 31)))), (8, .int (am_i 0)), (0, .ref 3), (1, .int y1), (2, .int y2), (3, .int y3), (4, .int y4)]) (st' := []) rfl ?_
            refine am_subp [4, 5, 6, 7, 8, 2, 1, 0] rfl ?_
            exact ih _ _ _ hm K
      · replace hm := am_if hm hc20
        refine am_steps ck_X8_halves 4 (pc' := 144) (lv' := [(8, .int (am_i 1)), (0, .ref 3), (1, .int y1), (2, .int y2), (3, .int y3), (4, .int y4), (5, .int z5), (6, .int z6), (7, .int z7)]) (st' := [.int (am_i 1)]) rfl ?_
        refine am_ifc (tgt := 164) (am_fd ck_X8_halves (pc := 144) rfl) rfl (fun hc29 => ?_) (fun hc29 => ?_)
        · replace hm := am_it hm hc29
          refine am_steps ck_X8_halves 2 (pc' := 168) (lv' := [(8, .int (am_i 1)), (0, .ref 3), (1, .int y1), (2, .int y2), (3, .int y3), (4, .int y4), (5, .int z5), (6, .int z6), (7, .int z7)]) (st' := [.int (am_i 1), .int z6]) rfl ?_
          refine am_ifc (tgt := 181) (am_fd ck_X8_halves (pc := 168) rfl) rfl (fun hc30 => ?_) (fun hc30 => ?_)
          · replace hm := am_it hm hc30
            refine am_steps ck_X8_halves 1 (pc' := 182) (lv' := [(8, .int (am_i 1)), (0, .ref 3), (1, .int y1), (2, .int y2), (3, .int y3), (4, .int y4), (5, .int z5), (6, .int z6), (7, .int z7)]) (st' := [.ref 3, .int z6]) rfl ?_
            refine ms_getr (ci := 6) (k := 9) (v := 3013) (am_fd ck_X8_halves (pc := 182) rfl) tw_199 kc_3 rfl (ly_3_9 hL) kc_3013 ?_
            refine am_steps ck_X8_halves 1 (pc' := 187) (lv' := [(8, .int (am_i 1)), (0, .ref 3), (1, .int y1), (2, .int y2), (3, .int y3), (4, .int y4), (5, .int z5), (6, .int z6), (7, .int z7)]) (st' := [.int z7, .ref 3013, .int z6]) rfl ?_
            obtain ⟨hb31, hm⟩ := am_gE hm
            refine ms_iald (n := 64) (am_fd ck_X8_halves (pc := 187) rfl) kc_3013 hb31 ?_
            refine am_steps ck_X8_halves 5 (pc' := 119) (lv' := [(7, .int (z7 + am_i 1)), (6, .int (z6 + (-(m 3013 (am_ix z7))))), (8, .int (am_i 1)), (0, .ref 3), (1, .int y1), (2, .int y2), (3, .int y3), (4, .int y4), (5, .int z5)]) (st' := []) rfl ?_
            refine am_subp [3, 4, 5, 6, 7, 8, 1, 0] rfl ?_
            exact ih _ _ _ hm K
          · replace hm := am_if hm hc30
            refine am_steps ck_X8_halves 1 (pc' := 172) (lv' := [(8, .int (am_i 1)), (0, .ref 3), (1, .int y1), (2, .int y2), (3, .int y3), (4, .int y4), (5, .int z5), (6, .int z6), (7, .int z7)]) (st' := [.ref 3, .int z6]) rfl ?_
            refine ms_getr (ci := 6) (k := 9) (v := 3013) (am_fd ck_X8_halves (pc := 172) rfl) tw_199 kc_3 rfl (ly_3_9 hL) kc_3013 ?_
            refine am_steps ck_X8_halves 1 (pc' := 177) (lv' := [(8, .int (am_i 1)), (0, .ref 3), (1, .int y1), (2, .int y2), (3, .int y3), (4, .int y4), (5, .int z5), (6, .int z6), (7, .int z7)]) (st' := [.int z7, .ref 3013, .int z6]) rfl ?_
            obtain ⟨hb32, hm⟩ := am_gE hm
            refine ms_iald (n := 64) (am_fd ck_X8_halves (pc := 177) rfl) kc_3013 hb32 ?_
            refine am_steps ck_X8_halves 5 (pc' := 119) (lv' := [(7, .int (z7 + am_i 1)), (6, .int (z6 + (m 3013 (am_ix z7)))), (8, .int (am_i 1)), (0, .ref 3), (1, .int y1), (2, .int y2), (3, .int y3), (4, .int y4), (5, .int z5)]) (st' := []) rfl ?_
            refine am_subp [3, 4, 5, 6, 7, 8, 1, 0] rfl ?_
            exact ih _ _ _ hm K
        · replace hm := am_if hm hc29
          refine am_steps ck_X8_halves 3 (pc' := 151) (lv' := [(8, .int (am_i 1)), (0, .ref 3), (1, .int y1), (2, .int y2), (3, .int y3), (4, .int y4), (5, .int z5), (6, .int z6), (7, .int z7)]) (st' := [.ref 3, .int (am_i 1), .int z5]) rfl ?_
          refine ms_getr (ci := 6) (k := 0) (v := 4) (am_fd ck_X8_halves (pc := 151) rfl) tw_190 kc_3 rfl (ly_3_0 hL) (kO og4) ?_
          refine am_steps ck_X8_halves 2 (pc' := 157) (lv' := [(8, .int (am_i 1)), (0, .ref 3), (1, .int y1), (2, .int y2), (3, .int y3), (4, .int y4), (5, .int z5), (6, .int z6), (7, .int z7)]) (st' := [.int z7, .int y1, .ref 4, .int (am_i 1), .int z5]) rfl ?_
          obtain ⟨q33, hq33, hm⟩ := am_bE hm
          refine ms_callV (M2 := mt_X1_lowerAt) (d2 := 2) (ci := 1) [.int y1, .int z7] (am_fd ck_X8_halves (pc := 157) rfl) ok_X1_lowerAt tw_595 tw_596 tw_597 (by decide) (kO og4) (Nat.le_of_ble_eq_true rfl) (Nat.le_of_ble_eq_true rfl) (x_X1_lowerAt hL og4 hq33) ?_
          refine am_steps ck_X8_halves 5 (pc' := 168) (lv' := [(5, .int (z5 ||| ((am_i 1) <<< (q33 &&& 31)))), (8, .int (am_i 1)), (0, .ref 3), (1, .int y1), (2, .int y2), (3, .int y3), (4, .int y4), (6, .int z6), (7, .int z7)]) (st' := [.int (am_i 1), .int z6]) rfl ?_
          refine am_ifc (tgt := 181) (am_fd ck_X8_halves (pc := 168) rfl) rfl (fun hc34 => ?_) (fun hc34 => ?_)
          · replace hm := am_it hm hc34
            refine am_steps ck_X8_halves 1 (pc' := 182) (lv' := [(5, .int (z5 ||| ((am_i 1) <<< (q33 &&& 31)))), (8, .int (am_i 1)), (0, .ref 3), (1, .int y1), (2, .int y2), (3, .int y3), (4, .int y4), (6, .int z6), (7, .int z7)]) (st' := [.ref 3, .int z6]) rfl ?_
            refine ms_getr (ci := 6) (k := 9) (v := 3013) (am_fd ck_X8_halves (pc := 182) rfl) tw_199 kc_3 rfl (ly_3_9 hL) kc_3013 ?_
            refine am_steps ck_X8_halves 1 (pc' := 187) (lv' := [(5, .int (z5 ||| ((am_i 1) <<< (q33 &&& 31)))), (8, .int (am_i 1)), (0, .ref 3), (1, .int y1), (2, .int y2), (3, .int y3), (4, .int y4), (6, .int z6), (7, .int z7)]) (st' := [.int z7, .ref 3013, .int z6]) rfl ?_
            obtain ⟨hb35, hm⟩ := am_gE hm
            refine ms_iald (n := 64) (am_fd ck_X8_halves (pc := 187) rfl) kc_3013 hb35 ?_
            refine am_steps ck_X8_halves 5 (pc' := 119) (lv' := [(7, .int (z7 + am_i 1)), (6, .int (z6 + (-(m 3013 (am_ix z7))))), (5, .int (z5 ||| ((am_i 1) <<< (q33 &&& 31)))), (8, .int (am_i 1)), (0, .ref 3), (1, .int y1), (2, .int y2), (3, .int y3), (4, .int y4)]) (st' := []) rfl ?_
            refine am_subp [4, 5, 6, 7, 8, 2, 1, 0] rfl ?_
            exact ih _ _ _ hm K
          · replace hm := am_if hm hc34
            refine am_steps ck_X8_halves 1 (pc' := 172) (lv' := [(5, .int (z5 ||| ((am_i 1) <<< (q33 &&& 31)))), (8, .int (am_i 1)), (0, .ref 3), (1, .int y1), (2, .int y2), (3, .int y3), (4, .int y4), (6, .int z6), (7, .int z7)]) (st' := [.ref 3, .int z6]) rfl ?_
            refine ms_getr (ci := 6) (k := 9) (v := 3013) (am_fd ck_X8_halves (pc := 172) rfl) tw_199 kc_3 rfl (ly_3_9 hL) kc_3013 ?_
            refine am_steps ck_X8_halves 1 (pc' := 177) (lv' := [(5, .int (z5 ||| ((am_i 1) <<< (q33 &&& 31)))), (8, .int (am_i 1)), (0, .ref 3), (1, .int y1), (2, .int y2), (3, .int y3), (4, .int y4), (6, .int z6), (7, .int z7)]) (st' := [.int z7, .ref 3013, .int z6]) rfl ?_
            obtain ⟨hb36, hm⟩ := am_gE hm
            refine ms_iald (n := 64) (am_fd ck_X8_halves (pc := 177) rfl) kc_3013 hb36 ?_
            refine am_steps ck_X8_halves 5 (pc' := 119) (lv' := [(7, .int (z7 + am_i 1)), (6, .int (z6 + (m 3013 (am_ix z7)))), (5, .int (z5 ||| ((am_i 1) <<< (q33 &&& 31)))), (8, .int (am_i 1)), (0, .ref 3), (1, .int y1), (2, .int y2), (3, .int y3), (4, .int y4)]) (st' := []) rfl ?_
            refine am_subp [4, 5, 6, 7, 8, 2, 1, 0] rfl ?_
            exact ih _ _ _ hm K
set_option maxRecDepth 100000 in
set_option maxHeartbeats 4000000 in
theorem x_X8_halves {G : am_G} {m : am_m} {r : am_rr} {x1 : Int32} {x2 : Int32} {res : Int32 × am_m} (hL : am_Lay r) (hm : m_X8_halves m x1 x2 = some res) : am_Met G mt_X8_halves 3 [.ref 3, .int x1, .int x2] (am_hh m r) (some (.int res.1)) (am_hh res.2 r) := by
  refine am_of (by decide) (Nat.le_of_ble_eq_true rfl) ?_
  unfold m_X8_halves at hm
  show am_W G mt_X8_halves 3 _ _ 0 [(0, .ref 3), (1, .int x1), (2, .int x2)] [] (am_hh m r)
  refine am_steps ck_X8_halves 1 (pc' := 1) (lv' := [(0, .ref 3), (1, .int x1), (2, .int x2)]) (st' := [.ref 3]) rfl ?_
  refine ms_getr (ci := 6) (k := 0) (v := 4) (am_fd ck_X8_halves (pc := 1) rfl) tw_190 kc_3 rfl (ly_3_0 hL) (kO og4) ?_
  refine am_steps ck_X8_halves 1 (pc' := 5) (lv' := [(0, .ref 3), (1, .int x1), (2, .int x2)]) (st' := [.int x1, .ref 4]) rfl ?_
  obtain ⟨q1, hq1, hm⟩ := am_bE hm
  refine ms_callV (M2 := mt_X1_lowerCount) (d2 := 2) (ci := 1) [.int x1] (am_fd ck_X8_halves (pc := 5) rfl) ok_X1_lowerCount tw_285 tw_286 tw_287 (by decide) (kO og4) (Nat.le_of_ble_eq_true rfl) (Nat.le_of_ble_eq_true rfl) (x_X1_lowerCount hL og4 hq1) ?_
  refine am_steps ck_X8_halves 2 (pc' := 10) (lv' := [(3, .int q1), (0, .ref 3), (1, .int x1), (2, .int x2)]) (st' := [.ref 3]) rfl ?_
  refine ms_getr (ci := 6) (k := 0) (v := 4) (am_fd ck_X8_halves (pc := 10) rfl) tw_190 kc_3 rfl (ly_3_0 hL) (kO og4) ?_
  refine am_steps ck_X8_halves 1 (pc' := 14) (lv' := [(3, .int q1), (0, .ref 3), (1, .int x1), (2, .int x2)]) (st' := [.int x1, .ref 4]) rfl ?_
  obtain ⟨q2, hq2, hm⟩ := am_bE hm
  refine ms_callV (M2 := mt_X1_isThere) (d2 := 1) (ci := 1) [.int x1] (am_fd ck_X8_halves (pc := 14) rfl) ok_X1_isThere tw_231 tw_232 tw_233 (by decide) (kO og4) (Nat.le_of_ble_eq_true rfl) (Nat.le_of_ble_eq_true rfl) (x_X1_isThere hL og4 hq2) ?_
  refine am_ifc (tgt := 35) (am_fd ck_X8_halves (pc := 17) rfl) rfl (fun hc3 => ?_) (fun hc3 => ?_)
  · replace hm := am_it hm hc3
    refine am_steps ck_X8_halves 1 (pc' := 36) (lv' := [(3, .int q1), (0, .ref 3), (1, .int x1), (2, .int x2)]) (st' := [.int (am_i (-1))]) rfl ?_
    cases hm
    exact am_end (am_fd ck_X8_halves (pc := 36) rfl) am_rI rfl rfl
  · replace hm := am_if hm hc3
    refine am_steps ck_X8_halves 1 (pc' := 21) (lv' := [(3, .int q1), (0, .ref 3), (1, .int x1), (2, .int x2)]) (st' := [.int x2]) rfl ?_
    refine am_ifc (tgt := 35) (am_fd ck_X8_halves (pc := 21) rfl) rfl (fun hc4 => ?_) (fun hc4 => ?_)
    · replace hm := am_it hm hc4
      refine am_steps ck_X8_halves 1 (pc' := 36) (lv' := [(3, .int q1), (0, .ref 3), (1, .int x1), (2, .int x2)]) (st' := [.int (am_i (-1))]) rfl ?_
      cases hm
      exact am_end (am_fd ck_X8_halves (pc := 36) rfl) am_rI rfl rfl
    · replace hm := am_if hm hc4
      refine am_steps ck_X8_halves 2 (pc' := 26) (lv' := [(3, .int q1), (0, .ref 3), (1, .int x1), (2, .int x2)]) (st' := [.int (am_i 1), .int x2]) rfl ?_
      refine am_icmp (tgt := 35) (am_fd ck_X8_halves (pc := 26) rfl) rfl (fun hc5 => ?_) (fun hc5 => ?_)
      · replace hm := am_it hm hc5
        refine am_steps ck_X8_halves 1 (pc' := 36) (lv' := [(3, .int q1), (0, .ref 3), (1, .int x1), (2, .int x2)]) (st' := [.int (am_i (-1))]) rfl ?_
        cases hm
        exact am_end (am_fd ck_X8_halves (pc := 36) rfl) am_rI rfl rfl
      · replace hm := am_if hm hc5
        refine am_steps ck_X8_halves 2 (pc' := 32) (lv' := [(3, .int q1), (0, .ref 3), (1, .int x1), (2, .int x2)]) (st' := [.int (am_i 12), .int q1]) rfl ?_
        refine am_icmp (tgt := 37) (am_fd ck_X8_halves (pc := 32) rfl) rfl (fun hc6 => ?_) (fun hc6 => ?_)
        · replace hm := am_it hm hc6
          refine am_steps ck_X8_halves 2 (pc' := 40) (lv' := [(4, .int (am_i 0)), (3, .int q1), (0, .ref 3), (1, .int x1), (2, .int x2)]) (st' := []) rfl ?_
          refine am_subp [2, 3, 4, 1, 0] rfl ?_
          refine x_X8_halves_40 hL am_F _ _ hm (fun m17 hm => ?_)
          refine am_steps ck_X8_halves 1 (pc' := 101) (lv' := [(0, .ref 3), (1, .int x1), (2, .int x2), (3, .int q1)]) (st' := [.ref 3]) rfl ?_
          refine ms_getr (ci := 6) (k := 9) (v := 3013) (am_fd ck_X8_halves (pc := 101) rfl) tw_199 kc_3 rfl (ly_3_9 hL) kc_3013 ?_
          refine am_steps ck_X8_halves 1 (pc' := 105) (lv' := [(0, .ref 3), (1, .int x1), (2, .int x2), (3, .int q1)]) (st' := [.int q1, .ref 3013]) rfl ?_
          obtain ⟨q18, hq18, hm⟩ := am_bE hm
          refine ms_callS (M2 := mt_X5_halvingOf) (d2 := 2) [.ref 3013, .int q1] (am_fd ck_X8_halves (pc := 105) rfl) ok_X5_halvingOf tw_783 tw_784 (Nat.le_of_ble_eq_true rfl) (Nat.le_of_ble_eq_true rfl) (x_X5_halvingOf hL kc_3013 hq18) ?_
          refine am_steps ck_X8_halves 7 (pc' := 119) (lv' := [(7, .int (am_i 0)), (6, .int (am_i 0)), (5, .int (am_i 0)), (4, .int q18), (0, .ref 3), (1, .int x1), (2, .int x2), (3, .int q1)]) (st' := []) rfl ?_
          refine am_subp [4, 5, 6, 7, 3, 2, 1, 0] rfl ?_
          refine x_X8_halves_119 hL am_F _ _ _ hm (fun u37 u38 hm => ?_)
          refine am_steps ck_X8_halves 1 (pc' := 199) (lv' := [(2, .int x2), (5, .int u37), (6, .int u38)]) (st' := [.int x2]) rfl ?_
          refine am_ifc (tgt := 207) (am_fd ck_X8_halves (pc := 199) rfl) rfl (fun hc39 => ?_) (fun hc39 => ?_)
          · replace hm := am_it hm hc39
            refine am_steps ck_X8_halves 1 (pc' := 209) (lv' := [(2, .int x2), (5, .int u37), (6, .int u38)]) (st' := [.int u38]) rfl ?_
            refine am_mabs (am_fd ck_X8_halves (pc := 209) rfl) tw_788 mth_abs_s mth_ini mth_abs_c (Nat.le_of_ble_eq_true rfl) (Nat.le_of_ble_eq_true rfl) ?_
            cases hm
            exact am_end (am_fd ck_X8_halves (pc := 212) rfl) am_rI rfl rfl
          · replace hm := am_if hm hc39
            refine am_steps ck_X8_halves 2 (pc' := 212) (lv' := [(2, .int x2), (5, .int u37), (6, .int u38)]) (st' := [.int u37]) rfl ?_
            cases hm
            exact am_end (am_fd ck_X8_halves (pc := 212) rfl) am_rI rfl rfl
        · replace hm := am_if hm hc6
          refine am_steps ck_X8_halves 1 (pc' := 36) (lv' := [(3, .int q1), (0, .ref 3), (1, .int x1), (2, .int x2)]) (st' := [.int (am_i (-1))]) rfl ?_
          cases hm
          exact am_end (am_fd ck_X8_halves (pc := 36) rfl) am_rI rfl rfl
set_option maxRecDepth 100000 in
set_option maxHeartbeats 4000000 in
theorem x_X8_unlike {G : am_G} {m : am_m} {r : am_rr} {x1 : Int32} {x2 : Int32} {res : Int32} (hL : am_Lay r) (hm : m_X8_unlike m x1 x2 = some res) : am_Met G mt_X8_unlike 2 [.ref 3, .int x1, .int x2] (am_hh m r) (some (.int res)) (am_hh m r) := by
  refine am_of (by decide) (Nat.le_of_ble_eq_true rfl) ?_
  unfold m_X8_unlike at hm
  show am_W G mt_X8_unlike 2 _ _ 0 [(0, .ref 3), (1, .int x1), (2, .int x2)] [] (am_hh m r)
  refine am_steps ck_X8_unlike 1 (pc' := 1) (lv' := [(0, .ref 3), (1, .int x1), (2, .int x2)]) (st' := [.ref 3]) rfl ?_
  refine ms_getr (ci := 6) (k := 0) (v := 4) (am_fd ck_X8_unlike (pc := 1) rfl) tw_190 kc_3 rfl (ly_3_0 hL) (kO og4) ?_
  refine am_steps ck_X8_unlike 1 (pc' := 5) (lv' := [(0, .ref 3), (1, .int x1), (2, .int x2)]) (st' := [.int x1, .ref 4]) rfl ?_
  obtain ⟨q1, hq1, hm⟩ := am_bE hm
  refine ms_callV (M2 := mt_X1_isThere) (d2 := 1) (ci := 1) [.int x1] (am_fd ck_X8_unlike (pc := 5) rfl) ok_X1_isThere tw_231 tw_232 tw_233 (by decide) (kO og4) (Nat.le_of_ble_eq_true rfl) (Nat.le_of_ble_eq_true rfl) (x_X1_isThere hL og4 hq1) ?_
  refine am_ifc (tgt := 22) (am_fd ck_X8_unlike (pc := 8) rfl) rfl (fun hc2 => ?_) (fun hc2 => ?_)
  · replace hm := am_it hm hc2
    refine am_steps ck_X8_unlike 1 (pc' := 23) (lv' := [(0, .ref 3), (1, .int x1), (2, .int x2)]) (st' := [.int (am_i (-1))]) rfl ?_
    cases hm
    exact am_end (am_fd ck_X8_unlike (pc := 23) rfl) am_rI rfl rfl
  · replace hm := am_if hm hc2
    refine am_steps ck_X8_unlike 1 (pc' := 12) (lv' := [(0, .ref 3), (1, .int x1), (2, .int x2)]) (st' := [.ref 3]) rfl ?_
    refine ms_getr (ci := 6) (k := 0) (v := 4) (am_fd ck_X8_unlike (pc := 12) rfl) tw_190 kc_3 rfl (ly_3_0 hL) (kO og4) ?_
    refine am_steps ck_X8_unlike 1 (pc' := 16) (lv' := [(0, .ref 3), (1, .int x1), (2, .int x2)]) (st' := [.int x2, .ref 4]) rfl ?_
    obtain ⟨q3, hq3, hm⟩ := am_bE hm
    refine ms_callV (M2 := mt_X1_isThere) (d2 := 1) (ci := 1) [.int x2] (am_fd ck_X8_unlike (pc := 16) rfl) ok_X1_isThere tw_231 tw_232 tw_233 (by decide) (kO og4) (Nat.le_of_ble_eq_true rfl) (Nat.le_of_ble_eq_true rfl) (x_X1_isThere hL og4 hq3) ?_
    refine am_ifc (tgt := 24) (am_fd ck_X8_unlike (pc := 19) rfl) rfl (fun hc4 => ?_) (fun hc4 => ?_)
    · replace hm := am_it hm hc4
      refine am_steps ck_X8_unlike 1 (pc' := 25) (lv' := [(0, .ref 3), (1, .int x1), (2, .int x2)]) (st' := [.ref 3]) rfl ?_
      refine ms_getr (ci := 6) (k := 0) (v := 4) (am_fd ck_X8_unlike (pc := 25) rfl) tw_190 kc_3 rfl (ly_3_0 hL) (kO og4) ?_
      refine ms_getr (ci := 1) (k := 3) (v := (4 + 28)) (am_fd ck_X8_unlike (pc := 28) rfl) tw_48 (kO og4) rfl (lyO3 hL og4) (kXo og4) ?_
      refine am_steps ck_X8_unlike 1 (pc' := 32) (lv' := [(0, .ref 3), (1, .int x1), (2, .int x2)]) (st' := [.int x1, .ref (4 + 28)]) rfl ?_
      obtain ⟨hb5, hm⟩ := am_gE hm
      refine ms_rald (n := 24) (v := (aX 4 (am_ix x1))) (am_fd ck_X8_unlike (pc := 32) rfl) (kXo og4) hb5 (lyX hL og4 (am_ixl hb5)) (kX og4 (am_ixl hb5)) ?_
      refine am_steps ck_X8_unlike 1 (pc' := 34) (lv' := [(0, .ref 3), (1, .int x1), (2, .int x2)]) (st' := [.ref 3, .ref (aX 4 (am_ix x1))]) rfl ?_
      refine ms_getr (ci := 6) (k := 0) (v := 4) (am_fd ck_X8_unlike (pc := 34) rfl) tw_190 kc_3 rfl (ly_3_0 hL) (kO og4) ?_
      refine ms_getr (ci := 1) (k := 3) (v := (4 + 28)) (am_fd ck_X8_unlike (pc := 37) rfl) tw_48 (kO og4) rfl (lyO3 hL og4) (kXo og4) ?_
      refine am_steps ck_X8_unlike 1 (pc' := 41) (lv' := [(0, .ref 3), (1, .int x1), (2, .int x2)]) (st' := [.int x2, .ref (4 + 28), .ref (aX 4 (am_ix x1))]) rfl ?_
      obtain ⟨hb6, hm⟩ := am_gE hm
      refine ms_rald (n := 24) (v := (aX 4 (am_ix x2))) (am_fd ck_X8_unlike (pc := 41) rfl) (kXo og4) hb6 (lyX hL og4 (am_ixl hb6)) (kX og4 (am_ixl hb6)) ?_
      obtain ⟨q7, hq7, hm⟩ := am_bE hm
      refine ms_callS (M2 := mt_X5_unlikeness) (d2 := 1) [.ref (aX 4 (am_ix x1)), .ref (aX 4 (am_ix x2))] (am_fd ck_X8_unlike (pc := 42) rfl) ok_X5_unlikeness tw_579 tw_580 (Nat.le_of_ble_eq_true rfl) (Nat.le_of_ble_eq_true rfl) (x_X5_unlikeness hL (kX og4 (am_ixl hb5)) (kX og4 (am_ixl hb6)) hq7) ?_
      cases hm
      exact am_end (am_fd ck_X8_unlike (pc := 45) rfl) am_rI rfl rfl
    · replace hm := am_if hm hc4
      refine am_steps ck_X8_unlike 1 (pc' := 23) (lv' := [(0, .ref 3), (1, .int x1), (2, .int x2)]) (st' := [.int (am_i (-1))]) rfl ?_
      cases hm
      exact am_end (am_fd ck_X8_unlike (pc := 23) rfl) am_rI rfl rfl
theorem sw_X8_shared_53 : decode mt_X8_shared.2.1 53 = .ok (.tableswitch 79 0 3 #[31, 40, 49, 57], 31) := by decide +kernel
set_option maxRecDepth 100000 in
set_option maxHeartbeats 4000000 in
theorem x_X8_shared {G : am_G} {m : am_m} {r : am_rr} {x1 : Int32} {x2 : Int32} {x3 : Int32} {res : Int32} (hL : am_Lay r) (hm : m_X8_shared m x1 x2 x3 = some res) : am_Met G mt_X8_shared 3 [.ref 3, .int x1, .int x2, .int x3] (am_hh m r) (some (.int res)) (am_hh m r) := by
  refine am_of (by decide) (Nat.le_of_ble_eq_true rfl) ?_
  unfold m_X8_shared at hm
  show am_W G mt_X8_shared 3 _ _ 0 [(0, .ref 3), (1, .int x1), (2, .int x2), (3, .int x3)] [] (am_hh m r)
  refine am_steps ck_X8_shared 1 (pc' := 1) (lv' := [(0, .ref 3), (1, .int x1), (2, .int x2), (3, .int x3)]) (st' := [.ref 3]) rfl ?_
  refine ms_getr (ci := 6) (k := 0) (v := 4) (am_fd ck_X8_shared (pc := 1) rfl) tw_190 kc_3 rfl (ly_3_0 hL) (kO og4) ?_
  refine am_steps ck_X8_shared 1 (pc' := 5) (lv' := [(0, .ref 3), (1, .int x1), (2, .int x2), (3, .int x3)]) (st' := [.int x1, .ref 4]) rfl ?_
  obtain ⟨q1, hq1, hm⟩ := am_bE hm
  refine ms_callV (M2 := mt_X1_isThere) (d2 := 1) (ci := 1) [.int x1] (am_fd ck_X8_shared (pc := 5) rfl) ok_X1_isThere tw_231 tw_232 tw_233 (by decide) (kO og4) (Nat.le_of_ble_eq_true rfl) (Nat.le_of_ble_eq_true rfl) (x_X1_isThere hL og4 hq1) ?_
  refine am_ifc (tgt := 22) (am_fd ck_X8_shared (pc := 8) rfl) rfl (fun hc2 => ?_) (fun hc2 => ?_)
  · replace hm := am_it hm hc2
    refine am_steps ck_X8_shared 1 (pc' := 23) (lv' := [(0, .ref 3), (1, .int x1), (2, .int x2), (3, .int x3)]) (st' := [.int (am_i (-1))]) rfl ?_
    cases hm
    exact am_end (am_fd ck_X8_shared (pc := 23) rfl) am_rI rfl rfl
  · replace hm := am_if hm hc2
    refine am_steps ck_X8_shared 1 (pc' := 12) (lv' := [(0, .ref 3), (1, .int x1), (2, .int x2), (3, .int x3)]) (st' := [.ref 3]) rfl ?_
    refine ms_getr (ci := 6) (k := 0) (v := 4) (am_fd ck_X8_shared (pc := 12) rfl) tw_190 kc_3 rfl (ly_3_0 hL) (kO og4) ?_
    refine am_steps ck_X8_shared 1 (pc' := 16) (lv' := [(0, .ref 3), (1, .int x1), (2, .int x2), (3, .int x3)]) (st' := [.int x2, .ref 4]) rfl ?_
    obtain ⟨q3, hq3, hm⟩ := am_bE hm
    refine ms_callV (M2 := mt_X1_isThere) (d2 := 1) (ci := 1) [.int x2] (am_fd ck_X8_shared (pc := 16) rfl) ok_X1_isThere tw_231 tw_232 tw_233 (by decide) (kO og4) (Nat.le_of_ble_eq_true rfl) (Nat.le_of_ble_eq_true rfl) (x_X1_isThere hL og4 hq3) ?_
    refine am_ifc (tgt := 24) (am_fd ck_X8_shared (pc := 19) rfl) rfl (fun hc4 => ?_) (fun hc4 => ?_)
    · replace hm := am_it hm hc4
      refine am_steps ck_X8_shared 1 (pc' := 25) (lv' := [(0, .ref 3), (1, .int x1), (2, .int x2), (3, .int x3)]) (st' := [.ref 3]) rfl ?_
      refine ms_getr (ci := 6) (k := 0) (v := 4) (am_fd ck_X8_shared (pc := 25) rfl) tw_190 kc_3 rfl (ly_3_0 hL) (kO og4) ?_
      refine ms_getr (ci := 1) (k := 3) (v := (4 + 28)) (am_fd ck_X8_shared (pc := 28) rfl) tw_48 (kO og4) rfl (lyO3 hL og4) (kXo og4) ?_
      refine am_steps ck_X8_shared 1 (pc' := 32) (lv' := [(0, .ref 3), (1, .int x1), (2, .int x2), (3, .int x3)]) (st' := [.int x1, .ref (4 + 28)]) rfl ?_
      obtain ⟨hb5, hm⟩ := am_gE hm
      refine ms_rald (n := 24) (v := (aX 4 (am_ix x1))) (am_fd ck_X8_shared (pc := 32) rfl) (kXo og4) hb5 (lyX hL og4 (am_ixl hb5)) (kX og4 (am_ixl hb5)) ?_
      obtain ⟨q6, hq6, hm⟩ := am_bE hm
      refine ms_callS (M2 := mt_X6_maskOf) (d2 := 1) [.ref (aX 4 (am_ix x1))] (am_fd ck_X8_shared (pc := 33) rfl) ok_X6_maskOf tw_292 tw_293 (Nat.le_of_ble_eq_true rfl) (Nat.le_of_ble_eq_true rfl) (x_X6_maskOf hL (kX og4 (am_ixl hb5)) hq6) ?_
      refine am_steps ck_X8_shared 2 (pc' := 39) (lv' := [(4, .long q6), (0, .ref 3), (1, .int x1), (2, .int x2), (3, .int x3)]) (st' := [.ref 3]) rfl ?_
      refine ms_getr (ci := 6) (k := 0) (v := 4) (am_fd ck_X8_shared (pc := 39) rfl) tw_190 kc_3 rfl (ly_3_0 hL) (kO og4) ?_
      refine ms_getr (ci := 1) (k := 3) (v := (4 + 28)) (am_fd ck_X8_shared (pc := 42) rfl) tw_48 (kO og4) rfl (lyO3 hL og4) (kXo og4) ?_
      refine am_steps ck_X8_shared 1 (pc' := 46) (lv' := [(4, .long q6), (0, .ref 3), (1, .int x1), (2, .int x2), (3, .int x3)]) (st' := [.int x2, .ref (4 + 28)]) rfl ?_
      obtain ⟨hb7, hm⟩ := am_gE hm
      refine ms_rald (n := 24) (v := (aX 4 (am_ix x2))) (am_fd ck_X8_shared (pc := 46) rfl) (kXo og4) hb7 (lyX hL og4 (am_ixl hb7)) (kX og4 (am_ixl hb7)) ?_
      obtain ⟨q8, hq8, hm⟩ := am_bE hm
      refine ms_callS (M2 := mt_X6_maskOf) (d2 := 1) [.ref (aX 4 (am_ix x2))] (am_fd ck_X8_shared (pc := 47) rfl) ok_X6_maskOf tw_292 tw_293 (Nat.le_of_ble_eq_true rfl) (Nat.le_of_ble_eq_true rfl) (x_X6_maskOf hL (kX og4 (am_ixl hb7)) hq8) ?_
      refine am_steps ck_X8_shared 2 (pc' := 53) (lv' := [(6, .long q8), (4, .long q6), (0, .ref 3), (1, .int x1), (2, .int x2), (3, .int x3)]) (st' := [.int x3]) rfl ?_
      by_cases hs10 : x3 = am_i 0
      · replace hm := am_it hm hs10
        refine ms_sw (v := 0) (off := 31) (tgt := 84) sw_X8_shared_53 hs10 (by decide) (by decide) (by decide) rfl rfl ?_
        refine am_steps ck_X8_shared 3 (pc' := 89) (lv' := [(6, .long q8), (4, .long q6), (0, .ref 3), (1, .int x1), (2, .int x2), (3, .int x3)]) (st' := [.long (q6 &&& q8)]) rfl ?_
        obtain ⟨q9, hq9, hm⟩ := am_bE hm
        refine ms_callS (M2 := mt_J13_bitCount_95d88) (d2 := 1) [.long (q6 &&& q8)] (am_fd ck_X8_shared (pc := 89) rfl) ok_J13_bitCount_95d88 tw_590 tw_301 (Nat.le_of_ble_eq_true rfl) (Nat.le_of_ble_eq_true rfl) (x_J13_bitCount_95d88 hL hq9) ?_
        cases hm
        exact am_end (am_fd ck_X8_shared (pc := 92) rfl) am_rI rfl rfl
      · replace hm := am_if hm hs10
        by_cases hs12 : x3 = am_i 1
        · replace hm := am_it hm hs12
          refine ms_sw (v := 1) (off := 40) (tgt := 93) sw_X8_shared_53 hs12 (by decide) (by decide) (by decide) rfl rfl ?_
          refine am_steps ck_X8_shared 3 (pc' := 98) (lv' := [(6, .long q8), (4, .long q6), (0, .ref 3), (1, .int x1), (2, .int x2), (3, .int x3)]) (st' := [.long (q6 ||| q8)]) rfl ?_
          obtain ⟨q11, hq11, hm⟩ := am_bE hm
          refine ms_callS (M2 := mt_J13_bitCount_95d88) (d2 := 1) [.long (q6 ||| q8)] (am_fd ck_X8_shared (pc := 98) rfl) ok_J13_bitCount_95d88 tw_590 tw_301 (Nat.le_of_ble_eq_true rfl) (Nat.le_of_ble_eq_true rfl) (x_J13_bitCount_95d88 hL hq11) ?_
          cases hm
          exact am_end (am_fd ck_X8_shared (pc := 101) rfl) am_rI rfl rfl
        · replace hm := am_if hm hs12
          by_cases hs14 : x3 = am_i 2
          · replace hm := am_it hm hs14
            refine ms_sw (v := 2) (off := 49) (tgt := 102) sw_X8_shared_53 hs14 (by decide) (by decide) (by decide) rfl rfl ?_
            refine am_steps ck_X8_shared 2 (pc' := 106) (lv' := [(6, .long q8), (4, .long q6), (0, .ref 3), (1, .int x1), (2, .int x2), (3, .int x3)]) (st' := [.long q8, .long q6]) rfl ?_
            obtain ⟨q13, hq13, hm⟩ := am_bE hm
            refine ms_callS (M2 := mt_X6_common) (d2 := 2) [.long q6, .long q8] (am_fd ck_X8_shared (pc := 106) rfl) ok_X6_common tw_295 tw_296 (Nat.le_of_ble_eq_true rfl) (Nat.le_of_ble_eq_true rfl) (x_X6_common hL hq13) ?_
            cases hm
            exact am_end (am_fd ck_X8_shared (pc := 109) rfl) am_rI rfl rfl
          · replace hm := am_if hm hs14
            by_cases hs18 : x3 = am_i 3
            · replace hm := am_it hm hs18
              refine ms_sw (v := 3) (off := 57) (tgt := 110) sw_X8_shared_53 hs18 (by decide) (by decide) (by decide) rfl rfl ?_
              refine am_steps ck_X8_shared 1 (pc' := 111) (lv' := [(6, .long q8), (4, .long q6), (0, .ref 3), (1, .int x1), (2, .int x2), (3, .int x3)]) (st' := [.ref 3]) rfl ?_
              refine ms_getr (ci := 6) (k := 0) (v := 4) (am_fd ck_X8_shared (pc := 111) rfl) tw_190 kc_3 rfl (ly_3_0 hL) (kO og4) ?_
              refine ms_getr (ci := 1) (k := 3) (v := (4 + 28)) (am_fd ck_X8_shared (pc := 114) rfl) tw_48 (kO og4) rfl (lyO3 hL og4) (kXo og4) ?_
              refine am_steps ck_X8_shared 1 (pc' := 118) (lv' := [(6, .long q8), (4, .long q6), (0, .ref 3), (1, .int x1), (2, .int x2), (3, .int x3)]) (st' := [.int x1, .ref (4 + 28)]) rfl ?_
              obtain ⟨hb15, hm⟩ := am_gE hm
              refine ms_rald (n := 24) (v := (aX 4 (am_ix x1))) (am_fd ck_X8_shared (pc := 118) rfl) (kXo og4) hb15 (lyX hL og4 (am_ixl hb15)) (kX og4 (am_ixl hb15)) ?_
              refine am_steps ck_X8_shared 1 (pc' := 120) (lv' := [(6, .long q8), (4, .long q6), (0, .ref 3), (1, .int x1), (2, .int x2), (3, .int x3)]) (st' := [.ref 3, .ref (aX 4 (am_ix x1))]) rfl ?_
              refine ms_getr (ci := 6) (k := 0) (v := 4) (am_fd ck_X8_shared (pc := 120) rfl) tw_190 kc_3 rfl (ly_3_0 hL) (kO og4) ?_
              refine ms_getr (ci := 1) (k := 3) (v := (4 + 28)) (am_fd ck_X8_shared (pc := 123) rfl) tw_48 (kO og4) rfl (lyO3 hL og4) (kXo og4) ?_
              refine am_steps ck_X8_shared 1 (pc' := 127) (lv' := [(6, .long q8), (4, .long q6), (0, .ref 3), (1, .int x1), (2, .int x2), (3, .int x3)]) (st' := [.int x2, .ref (4 + 28), .ref (aX 4 (am_ix x1))]) rfl ?_
              obtain ⟨hb16, hm⟩ := am_gE hm
              refine ms_rald (n := 24) (v := (aX 4 (am_ix x2))) (am_fd ck_X8_shared (pc := 127) rfl) (kXo og4) hb16 (lyX hL og4 (am_ixl hb16)) (kX og4 (am_ixl hb16)) ?_
              obtain ⟨q17, hq17, hm⟩ := am_bE hm
              refine ms_callS (M2 := mt_X5_lesserOf) (d2 := 1) [.ref (aX 4 (am_ix x1)), .ref (aX 4 (am_ix x2))] (am_fd ck_X8_shared (pc := 128) rfl) ok_X5_lesserOf tw_797 tw_798 (Nat.le_of_ble_eq_true rfl) (Nat.le_of_ble_eq_true rfl) (x_X5_lesserOf hL (kX og4 (am_ixl hb15)) (kX og4 (am_ixl hb16)) hq17) ?_
              cases hm
              exact am_end (am_fd ck_X8_shared (pc := 131) rfl) am_rI rfl rfl
            · replace hm := am_if hm hs18
              refine ms_swd (tgt := 132) sw_X8_shared_53 (fun j hj => ?_) rfl ?_
              · have hj2 : j ≤ 3 := by omega
                match j, hj2 with
                | 0, _ => exact hs10
                | 1, _ => exact hs12
                | 2, _ => exact hs14
                | 3, _ => exact hs18
                | j + 4, h9 => omega
              · refine am_steps ck_X8_shared 1 (pc' := 133) (lv' := [(6, .long q8), (4, .long q6), (0, .ref 3), (1, .int x1), (2, .int x2), (3, .int x3)]) (st' := [.int (am_i (-1))]) rfl ?_
                cases hm
                exact am_end (am_fd ck_X8_shared (pc := 133) rfl) am_rI rfl rfl
    · replace hm := am_if hm hc4
      refine am_steps ck_X8_shared 1 (pc' := 23) (lv' := [(0, .ref 3), (1, .int x1), (2, .int x2), (3, .int x3)]) (st' := [.int (am_i (-1))]) rfl ?_
      cases hm
      exact am_end (am_fd ck_X8_shared (pc := 23) rfl) am_rI rfl rfl
set_option maxRecDepth 100000 in
set_option maxHeartbeats 4000000 in
theorem x_X8_leads_13 {G : am_G} {x1 : Int32} {m : am_m} {r : am_rr} {y1 : Int32} {res : Int32} {k : Int32 → Option (Int32)} (hL : am_Lay r) : ∀ (n : Nat) (z2 : Int32) (z3 : Int32), m_X8_leads_13 x1 m y1 k n z2 z3 = some res → (∀ (u2 : Int32), k u2 = some res → am_W G mt_X8_leads 5 (some (.int res)) (am_hh m r) 58 [(2, .int u2)] [] (am_hh m r)) → am_W G mt_X8_leads 5 (some (.int res)) (am_hh m r) 13 [(0, .ref 3), (1, .int y1), (2, .int z2), (3, .int z3)] [] (am_hh m r) := by
  intro n
  induction n with
  | zero => intro z2 z3 hm K; cases hm
  | succ n ih =>
    intro z2 z3 hm K
    unfold m_X8_leads_13 at hm
    refine am_steps ck_X8_leads 2 (pc' := 16) (lv' := [(0, .ref 3), (1, .int y1), (2, .int z2), (3, .int z3)]) (st' := [.int (am_i 24), .int z3]) rfl ?_
    refine am_icmp (tgt := 58) (am_fd ck_X8_leads (pc := 16) rfl) rfl (fun hc3 => ?_) (fun hc3 => ?_)
    · replace hm := am_it hm hc3
      refine am_subp [2] rfl ?_
      exact K _ hm
    · replace hm := am_if hm hc3
      refine am_steps ck_X8_leads 1 (pc' := 20) (lv' := [(0, .ref 3), (1, .int y1), (2, .int z2), (3, .int z3)]) (st' := [.ref 3]) rfl ?_
      refine ms_getr (ci := 6) (k := 0) (v := 4) (am_fd ck_X8_leads (pc := 20) rfl) tw_190 kc_3 rfl (ly_3_0 hL) (kO og4) ?_
      refine am_steps ck_X8_leads 1 (pc' := 24) (lv' := [(0, .ref 3), (1, .int y1), (2, .int z2), (3, .int z3)]) (st' := [.int z3, .ref 4]) rfl ?_
      obtain ⟨q4, hq4, hm⟩ := am_bE hm
      refine ms_callV (M2 := mt_X1_isThere) (d2 := 1) (ci := 1) [.int z3] (am_fd ck_X8_leads (pc := 24) rfl) ok_X1_isThere tw_231 tw_232 tw_233 (by decide) (kO og4) (Nat.le_of_ble_eq_true rfl) (Nat.le_of_ble_eq_true rfl) (x_X1_isThere hL og4 hq4) ?_
      refine am_ifc (tgt := 52) (am_fd ck_X8_leads (pc := 27) rfl) rfl (fun hc5 => ?_) (fun hc5 => ?_)
      · replace hm := am_it hm hc5
        refine am_steps ck_X8_leads 2 (pc' := 13) (lv' := [(3, .int (z3 + am_i 1)), (0, .ref 3), (1, .int y1), (2, .int z2)]) (st' := []) rfl ?_
        refine am_subp [1, 2, 3, 0] rfl ?_
        exact ih _ _ hm K
      · replace hm := am_if hm hc5
        refine am_steps ck_X8_leads 1 (pc' := 31) (lv' := [(0, .ref 3), (1, .int y1), (2, .int z2), (3, .int z3)]) (st' := [.ref 3]) rfl ?_
        refine ms_getr (ci := 6) (k := 0) (v := 4) (am_fd ck_X8_leads (pc := 31) rfl) tw_190 kc_3 rfl (ly_3_0 hL) (kO og4) ?_
        refine ms_getr (ci := 1) (k := 3) (v := (4 + 28)) (am_fd ck_X8_leads (pc := 34) rfl) tw_48 (kO og4) rfl (lyO3 hL og4) (kXo og4) ?_
        refine am_steps ck_X8_leads 1 (pc' := 38) (lv' := [(0, .ref 3), (1, .int y1), (2, .int z2), (3, .int z3)]) (st' := [.int z3, .ref (4 + 28)]) rfl ?_
        obtain ⟨hb6, hm⟩ := am_gE hm
        refine ms_rald (n := 24) (v := (aX 4 (am_ix z3))) (am_fd ck_X8_leads (pc := 38) rfl) (kXo og4) hb6 (lyX hL og4 (am_ixl hb6)) (kX og4 (am_ixl hb6)) ?_
        obtain ⟨q7, hq7, hm⟩ := am_bE hm
        refine ms_callS (M2 := mt_X5_firstLeader) (d2 := 4) [.ref (aX 4 (am_ix z3))] (am_fd ck_X8_leads (pc := 39) rfl) ok_X5_firstLeader tw_804 tw_805 (Nat.le_of_ble_eq_true rfl) (Nat.le_of_ble_eq_true rfl) (x_X5_firstLeader hL (kX og4 (am_ixl hb6)) hq7) ?_
        refine am_steps ck_X8_leads 1 (pc' := 43) (lv' := [(0, .ref 3), (1, .int y1), (2, .int z2), (3, .int z3)]) (st' := [.int y1, .int q7]) rfl ?_
        refine am_icmp (tgt := 52) (am_fd ck_X8_leads (pc := 43) rfl) rfl (fun hc8 => ?_) (fun hc8 => ?_)
        · replace hm := am_it hm hc8
          refine am_steps ck_X8_leads 2 (pc' := 13) (lv' := [(3, .int (z3 + am_i 1)), (0, .ref 3), (1, .int y1), (2, .int z2)]) (st' := []) rfl ?_
          refine am_subp [1, 2, 3, 0] rfl ?_
          exact ih _ _ hm K
        · replace hm := am_if hm hc8
          refine am_steps ck_X8_leads 8 (pc' := 13) (lv' := [(3, .int (z3 + am_i 1)), (2, .int (z2 ||| ((am_i 1) <<< (z3 &&& 31)))), (0, .ref 3), (1, .int y1)]) (st' := []) rfl ?_
          refine am_subp [2, 3, 1, 0] rfl ?_
          exact ih _ _ hm K
set_option maxRecDepth 100000 in
set_option maxHeartbeats 4000000 in
theorem x_X8_leads {G : am_G} {m : am_m} {r : am_rr} {x1 : Int32} {res : Int32} (hL : am_Lay r) (hm : m_X8_leads m x1 = some res) : am_Met G mt_X8_leads 5 [.ref 3, .int x1] (am_hh m r) (some (.int res)) (am_hh m r) := by
  refine am_of (by decide) (Nat.le_of_ble_eq_true rfl) ?_
  unfold m_X8_leads at hm
  show am_W G mt_X8_leads 5 _ _ 0 [(0, .ref 3), (1, .int x1)] [] (am_hh m r)
  refine am_steps ck_X8_leads 1 (pc' := 1) (lv' := [(0, .ref 3), (1, .int x1)]) (st' := [.int x1]) rfl ?_
  obtain ⟨q1, hq1, hm⟩ := am_bE hm
  refine ms_callS (M2 := mt_X8_isCategory) (d2 := 1) [.int x1] (am_fd ck_X8_leads (pc := 1) rfl) ok_X8_isCategory tw_235 tw_236 (Nat.le_of_ble_eq_true rfl) (Nat.le_of_ble_eq_true rfl) (x_X8_isCategory hL hq1) ?_
  refine am_ifc (tgt := 9) (am_fd ck_X8_leads (pc := 4) rfl) rfl (fun hc2 => ?_) (fun hc2 => ?_)
  · replace hm := am_it hm hc2
    refine am_steps ck_X8_leads 4 (pc' := 13) (lv' := [(3, .int (am_i 0)), (2, .int (am_i 0)), (0, .ref 3), (1, .int x1)]) (st' := []) rfl ?_
    refine am_subp [2, 3, 1, 0] rfl ?_
    refine x_X8_leads_13 hL am_F _ _ hm (fun u9 hm => ?_)
    refine am_steps ck_X8_leads 1 (pc' := 59) (lv' := [(2, .int u9)]) (st' := [.int u9]) rfl ?_
    cases hm
    exact am_end (am_fd ck_X8_leads (pc := 59) rfl) am_rI rfl rfl
  · replace hm := am_if hm hc2
    refine am_steps ck_X8_leads 1 (pc' := 8) (lv' := [(0, .ref 3), (1, .int x1)]) (st' := [.int (am_i (-1))]) rfl ?_
    cases hm
    exact am_end (am_fd ck_X8_leads (pc := 8) rfl) am_rI rfl rfl
set_option maxRecDepth 100000 in
set_option maxHeartbeats 4000000 in
theorem x_X8_where_25 {G : am_G} {x1 : Int32} {x2 : Int32} {m : am_m} {r : am_rr} {y1 : Int32} {y2 : Int32} {res : Int32} {k : Int32 → Option (Int32)} (hL : am_Lay r) : ∀ (n : Nat) (z3 : Int32) (z4 : Int32), m_X8_where_25 x1 x2 m y1 y2 k n z3 z4 = some res → (∀ (u3 : Int32), k u3 = some res → am_W G mt_X8_where 4 (some (.int res)) (am_hh m r) 97 [(3, .int u3)] [] (am_hh m r)) → am_W G mt_X8_where 4 (some (.int res)) (am_hh m r) 25 [(0, .ref 3), (1, .int y1), (2, .int y2), (3, .int z3), (4, .int z4)] [] (am_hh m r) := by
  intro n
  induction n with
  | zero => intro z3 z4 hm K; cases hm
  | succ n ih =>
    intro z3 z4 hm K
    unfold m_X8_where_25 at hm
    refine am_steps ck_X8_where 2 (pc' := 29) (lv' := [(0, .ref 3), (1, .int y1), (2, .int y2), (3, .int z3), (4, .int z4)]) (st' := [.int (am_i 24), .int z4]) rfl ?_
    refine am_icmp (tgt := 97) (am_fd ck_X8_where (pc := 29) rfl) rfl (fun hc5 => ?_) (fun hc5 => ?_)
    · replace hm := am_it hm hc5
      refine am_subp [3] rfl ?_
      exact K _ hm
    · replace hm := am_if hm hc5
      refine am_steps ck_X8_where 1 (pc' := 33) (lv' := [(0, .ref 3), (1, .int y1), (2, .int y2), (3, .int z3), (4, .int z4)]) (st' := [.ref 3]) rfl ?_
      refine ms_getr (ci := 6) (k := 0) (v := 4) (am_fd ck_X8_where (pc := 33) rfl) tw_190 kc_3 rfl (ly_3_0 hL) (kO og4) ?_
      refine am_steps ck_X8_where 1 (pc' := 38) (lv' := [(0, .ref 3), (1, .int y1), (2, .int y2), (3, .int z3), (4, .int z4)]) (st' := [.int z4, .ref 4]) rfl ?_
      obtain ⟨q6, hq6, hm⟩ := am_bE hm
      refine ms_callV (M2 := mt_X1_isThere) (d2 := 1) (ci := 1) [.int z4] (am_fd ck_X8_where (pc := 38) rfl) ok_X1_isThere tw_231 tw_232 tw_233 (by decide) (kO og4) (Nat.le_of_ble_eq_true rfl) (Nat.le_of_ble_eq_true rfl) (x_X1_isThere hL og4 hq6) ?_
      refine am_ifc (tgt := 91) (am_fd ck_X8_where (pc := 41) rfl) rfl (fun hc7 => ?_) (fun hc7 => ?_)
      · replace hm := am_it hm hc7
        refine am_steps ck_X8_where 2 (pc' := 25) (lv' := [(4, .int (z4 + am_i 1)), (0, .ref 3), (1, .int y1), (2, .int y2), (3, .int z3)]) (st' := []) rfl ?_
        refine am_subp [1, 2, 3, 4, 0] rfl ?_
        exact ih _ _ hm K
      · replace hm := am_if hm hc7
        refine am_steps ck_X8_where 1 (pc' := 45) (lv' := [(0, .ref 3), (1, .int y1), (2, .int y2), (3, .int z3), (4, .int z4)]) (st' := [.ref 3]) rfl ?_
        refine ms_getr (ci := 6) (k := 0) (v := 4) (am_fd ck_X8_where (pc := 45) rfl) tw_190 kc_3 rfl (ly_3_0 hL) (kO og4) ?_
        refine ms_getr (ci := 1) (k := 3) (v := (4 + 28)) (am_fd ck_X8_where (pc := 48) rfl) tw_48 (kO og4) rfl (lyO3 hL og4) (kXo og4) ?_
        refine am_steps ck_X8_where 1 (pc' := 53) (lv' := [(0, .ref 3), (1, .int y1), (2, .int y2), (3, .int z3), (4, .int z4)]) (st' := [.int z4, .ref (4 + 28)]) rfl ?_
        obtain ⟨hb8, hm⟩ := am_gE hm
        refine ms_rald (n := 24) (v := (aX 4 (am_ix z4))) (am_fd ck_X8_where (pc := 53) rfl) (kXo og4) hb8 (lyX hL og4 (am_ixl hb8)) (kX og4 (am_ixl hb8)) ?_
        refine am_steps ck_X8_where 1 (pc' := 55) (lv' := [(0, .ref 3), (1, .int y1), (2, .int y2), (3, .int z3), (4, .int z4)]) (st' := [.int y1, .ref (aX 4 (am_ix z4))]) rfl ?_
        obtain ⟨hb9, hm⟩ := am_gE hm
        refine ms_iald (n := 64) (am_fd ck_X8_where (pc := 55) rfl) (kX og4 (am_ixl hb8)) hb9 ?_
        refine am_steps ck_X8_where 1 (pc' := 57) (lv' := [(0, .ref 3), (1, .int y1), (2, .int y2), (3, .int z3), (4, .int z4)]) (st' := [.int y2, .int (m (aX 4 (am_ix z4)) (am_ix y1))]) rfl ?_
        refine am_icmp (tgt := 63) (am_fd ck_X8_where (pc := 57) rfl) rfl (fun hc10 => ?_) (fun hc10 => ?_)
        · replace hm := am_it hm hc10
          refine am_steps ck_X8_where 2 (pc' := 65) (lv' := [(0, .ref 3), (1, .int y1), (2, .int y2), (3, .int z3), (4, .int z4)]) (st' := [.int (am_i (-1)), .int z3]) rfl ?_
          refine am_icmp (tgt := 88) (am_fd ck_X8_where (pc := 65) rfl) rfl (fun hc11 => ?_) (fun hc11 => ?_)
          · replace hm := am_it hm hc11
            refine am_steps ck_X8_where 4 (pc' := 25) (lv' := [(4, .int (z4 + am_i 1)), (3, .int z4), (0, .ref 3), (1, .int y1), (2, .int y2)]) (st' := []) rfl ?_
            refine am_subp [2, 3, 4, 1, 0] rfl ?_
            exact ih _ _ hm K
          · replace hm := am_if hm hc11
            refine am_steps ck_X8_where 1 (pc' := 69) (lv' := [(0, .ref 3), (1, .int y1), (2, .int y2), (3, .int z3), (4, .int z4)]) (st' := [.ref 3]) rfl ?_
            refine ms_getr (ci := 6) (k := 0) (v := 4) (am_fd ck_X8_where (pc := 69) rfl) tw_190 kc_3 rfl (ly_3_0 hL) (kO og4) ?_
            refine am_steps ck_X8_where 1 (pc' := 74) (lv' := [(0, .ref 3), (1, .int y1), (2, .int y2), (3, .int z3), (4, .int z4)]) (st' := [.int z4, .ref 4]) rfl ?_
            obtain ⟨q12, hq12, hm⟩ := am_bE hm
            refine ms_callV (M2 := mt_X1_depthOf) (d2 := 3) (ci := 1) [.int z4] (am_fd ck_X8_where (pc := 74) rfl) ok_X1_depthOf tw_268 tw_269 tw_270 (by decide) (kO og4) (Nat.le_of_ble_eq_true rfl) (Nat.le_of_ble_eq_true rfl) (x_X1_depthOf hL og4 hq12) ?_
            refine am_steps ck_X8_where 1 (pc' := 78) (lv' := [(0, .ref 3), (1, .int y1), (2, .int y2), (3, .int z3), (4, .int z4)]) (st' := [.ref 3, .int q12]) rfl ?_
            refine ms_getr (ci := 6) (k := 0) (v := 4) (am_fd ck_X8_where (pc := 78) rfl) tw_190 kc_3 rfl (ly_3_0 hL) (kO og4) ?_
            refine am_steps ck_X8_where 1 (pc' := 82) (lv' := [(0, .ref 3), (1, .int y1), (2, .int y2), (3, .int z3), (4, .int z4)]) (st' := [.int z3, .ref 4, .int q12]) rfl ?_
            obtain ⟨q13, hq13, hm⟩ := am_bE hm
            refine ms_callV (M2 := mt_X1_depthOf) (d2 := 3) (ci := 1) [.int z3] (am_fd ck_X8_where (pc := 82) rfl) ok_X1_depthOf tw_268 tw_269 tw_270 (by decide) (kO og4) (Nat.le_of_ble_eq_true rfl) (Nat.le_of_ble_eq_true rfl) (x_X1_depthOf hL og4 hq13) ?_
            refine am_icmp (tgt := 91) (am_fd ck_X8_where (pc := 85) rfl) rfl (fun hc14 => ?_) (fun hc14 => ?_)
            · replace hm := am_it hm hc14
              refine am_steps ck_X8_where 2 (pc' := 25) (lv' := [(4, .int (z4 + am_i 1)), (0, .ref 3), (1, .int y1), (2, .int y2), (3, .int z3)]) (st' := []) rfl ?_
              refine am_subp [1, 2, 3, 4, 0] rfl ?_
              exact ih _ _ hm K
            · replace hm := am_if hm hc14
              refine am_steps ck_X8_where 4 (pc' := 25) (lv' := [(4, .int (z4 + am_i 1)), (3, .int z4), (0, .ref 3), (1, .int y1), (2, .int y2)]) (st' := []) rfl ?_
              refine am_subp [2, 3, 4, 1, 0] rfl ?_
              exact ih _ _ hm K
        · replace hm := am_if hm hc10
          refine am_steps ck_X8_where 3 (pc' := 25) (lv' := [(4, .int (z4 + am_i 1)), (0, .ref 3), (1, .int y1), (2, .int y2), (3, .int z3)]) (st' := []) rfl ?_
          refine am_subp [1, 2, 3, 4, 0] rfl ?_
          exact ih _ _ hm K
set_option maxRecDepth 100000 in
set_option maxHeartbeats 4000000 in
theorem x_X8_where {G : am_G} {m : am_m} {r : am_rr} {x1 : Int32} {x2 : Int32} {res : Int32} (hL : am_Lay r) (hm : m_X8_where m x1 x2 = some res) : am_Met G mt_X8_where 4 [.ref 3, .int x1, .int x2] (am_hh m r) (some (.int res)) (am_hh m r) := by
  refine am_of (by decide) (Nat.le_of_ble_eq_true rfl) ?_
  unfold m_X8_where at hm
  show am_W G mt_X8_where 4 _ _ 0 [(0, .ref 3), (1, .int x1), (2, .int x2)] [] (am_hh m r)
  refine am_steps ck_X8_where 1 (pc' := 1) (lv' := [(0, .ref 3), (1, .int x1), (2, .int x2)]) (st' := [.int x1]) rfl ?_
  obtain ⟨q1, hq1, hm⟩ := am_bE hm
  refine ms_callS (M2 := mt_X8_isCategory) (d2 := 1) [.int x1] (am_fd ck_X8_where (pc := 1) rfl) ok_X8_isCategory tw_235 tw_236 (Nat.le_of_ble_eq_true rfl) (Nat.le_of_ble_eq_true rfl) (x_X8_isCategory hL hq1) ?_
  refine am_ifc (tgt := 18) (am_fd ck_X8_where (pc := 4) rfl) rfl (fun hc2 => ?_) (fun hc2 => ?_)
  · replace hm := am_it hm hc2
    refine am_steps ck_X8_where 1 (pc' := 19) (lv' := [(0, .ref 3), (1, .int x1), (2, .int x2)]) (st' := [.int (am_i (-1))]) rfl ?_
    cases hm
    exact am_end (am_fd ck_X8_where (pc := 19) rfl) am_rI rfl rfl
  · replace hm := am_if hm hc2
    refine am_steps ck_X8_where 2 (pc' := 9) (lv' := [(0, .ref 3), (1, .int x1), (2, .int x2)]) (st' := [.int (am_i 1), .int x2]) rfl ?_
    refine am_icmp (tgt := 18) (am_fd ck_X8_where (pc := 9) rfl) rfl (fun hc3 => ?_) (fun hc3 => ?_)
    · replace hm := am_it hm hc3
      refine am_steps ck_X8_where 1 (pc' := 19) (lv' := [(0, .ref 3), (1, .int x1), (2, .int x2)]) (st' := [.int (am_i (-1))]) rfl ?_
      cases hm
      exact am_end (am_fd ck_X8_where (pc := 19) rfl) am_rI rfl rfl
    · replace hm := am_if hm hc3
      refine am_steps ck_X8_where 1 (pc' := 13) (lv' := [(0, .ref 3), (1, .int x1), (2, .int x2)]) (st' := [.int x2]) rfl ?_
      refine am_ldc (am_fd ck_X8_where (pc := 13) rfl) tw_496 ?_
      refine am_icmp (tgt := 20) (am_fd ck_X8_where (pc := 15) rfl) rfl (fun hc4 => ?_) (fun hc4 => ?_)
      · replace hm := am_it hm hc4
        refine am_steps ck_X8_where 4 (pc' := 25) (lv' := [(4, .int (am_i 0)), (3, .int (am_i (-1))), (0, .ref 3), (1, .int x1), (2, .int x2)]) (st' := []) rfl ?_
        refine am_subp [2, 3, 4, 1, 0] rfl ?_
        refine x_X8_where_25 hL am_F _ _ hm (fun u15 hm => ?_)
        refine am_steps ck_X8_where 1 (pc' := 98) (lv' := [(3, .int u15)]) (st' := [.int u15]) rfl ?_
        cases hm
        exact am_end (am_fd ck_X8_where (pc := 98) rfl) am_rI rfl rfl
      · replace hm := am_if hm hc4
        refine am_steps ck_X8_where 1 (pc' := 19) (lv' := [(0, .ref 3), (1, .int x1), (2, .int x2)]) (st' := [.int (am_i (-1))]) rfl ?_
        cases hm
        exact am_end (am_fd ck_X8_where (pc := 19) rfl) am_rI rfl rfl
set_option maxRecDepth 100000 in
set_option maxHeartbeats 4000000 in
theorem x_X8_cost {G : am_G} {m : am_m} {r : am_rr} {x1 : Int32} {res : Int32 × am_m × am_rr} (hL : am_Lay r) (hm : m_X8_cost m r x1 = some res) : am_Met G mt_X8_cost 27 [.ref 3, .int x1] (am_hh m r) (some (.int res.1)) (am_hh res.2.1 res.2.2) := by
  refine am_of (by decide) (Nat.le_of_ble_eq_true rfl) ?_
  unfold m_X8_cost at hm
  show am_W G mt_X8_cost 27 _ _ 0 [(0, .ref 3), (1, .int x1)] [] (am_hh m r)
  refine am_steps ck_X8_cost 1 (pc' := 1) (lv' := [(0, .ref 3), (1, .int x1)]) (st' := [.ref 3]) rfl ?_
  refine ms_getr (ci := 6) (k := 0) (v := 4) (am_fd ck_X8_cost (pc := 1) rfl) tw_190 kc_3 rfl (ly_3_0 hL) (kO og4) ?_
  refine am_steps ck_X8_cost 1 (pc' := 5) (lv' := [(0, .ref 3), (1, .int x1)]) (st' := [.int x1, .ref 4]) rfl ?_
  obtain ⟨q1, hq1, hm⟩ := am_bE hm
  refine ms_callV (M2 := mt_X1_isThere) (d2 := 1) (ci := 1) [.int x1] (am_fd ck_X8_cost (pc := 5) rfl) ok_X1_isThere tw_231 tw_232 tw_233 (by decide) (kO og4) (Nat.le_of_ble_eq_true rfl) (Nat.le_of_ble_eq_true rfl) (x_X1_isThere hL og4 hq1) ?_
  refine am_ifc (tgt := 13) (am_fd ck_X8_cost (pc := 8) rfl) rfl (fun hc2 => ?_) (fun hc2 => ?_)
  · replace hm := am_it hm hc2
    refine am_steps ck_X8_cost 1 (pc' := 14) (lv' := [(0, .ref 3), (1, .int x1)]) (st' := [.ref 3]) rfl ?_
    refine ms_getr (ci := 6) (k := 1) (v := 251) (am_fd ck_X8_cost (pc := 14) rfl) tw_191 kc_3 rfl (ly_3_1 hL) (kO og251) ?_
    refine am_steps ck_X8_cost 1 (pc' := 18) (lv' := [(0, .ref 3), (1, .int x1)]) (st' := [.ref 3, .ref 251]) rfl ?_
    refine ms_getr (ci := 6) (k := 0) (v := 4) (am_fd ck_X8_cost (pc := 18) rfl) tw_190 kc_3 rfl (ly_3_0 hL) (kO og4) ?_
    obtain ⟨q3, hq3, hm⟩ := am_bE hm
    refine ms_callVv (M2 := mt_X1_takeOver) (d2 := 2) (ci := 1) [.ref 4] (am_fd ck_X8_cost (pc := 21) rfl) ok_X1_takeOver tw_483 tw_243 tw_244 (by decide) (kO og251) (Nat.le_of_ble_eq_true rfl) (Nat.le_of_ble_eq_true rfl) (x_X1_takeOver hL og251 og4 hq3) ?_
    refine am_steps ck_X8_cost 1 (pc' := 25) (lv' := [(0, .ref 3), (1, .int x1)]) (st' := [.ref 3]) rfl ?_
    refine ms_getr (ci := 6) (k := 5) (v := 2982) (am_fd ck_X8_cost (pc := 25) rfl) tw_195 kc_3 rfl (ly_3_5 hL) kc_2982 ?_
    refine am_steps ck_X8_cost 1 (pc' := 29) (lv' := [(0, .ref 3), (1, .int x1)]) (st' := [.ref 3, .ref 2982]) rfl ?_
    refine ms_getr (ci := 6) (k := 1) (v := 251) (am_fd ck_X8_cost (pc := 29) rfl) tw_191 kc_3 rfl (ly_3_1 hL) (kO og251) ?_
    refine am_steps ck_X8_cost 1 (pc' := 33) (lv' := [(0, .ref 3), (1, .int x1)]) (st' := [.int x1, .ref 251, .ref 2982]) rfl ?_
    obtain ⟨q4, hq4, hm⟩ := am_bE hm
    refine ms_callV (M2 := mt_X4_rollAll) (d2 := 26) (ci := 4) [.ref 251, .int x1] (am_fd ck_X8_cost (pc := 33) rfl) ok_X4_rollAll tw_367 tw_368 tw_369 (by decide) kc_2982 (Nat.le_of_ble_eq_true rfl) (Nat.le_of_ble_eq_true rfl) (x_X4_rollAll hL og251 hq4) ?_
    have hL := lr_X4_rollAll hL og251 hq4
    cases hm
    exact am_end (am_fd ck_X8_cost (pc := 36) rfl) am_rI rfl rfl
  · replace hm := am_if hm hc2
    refine am_steps ck_X8_cost 1 (pc' := 12) (lv' := [(0, .ref 3), (1, .int x1)]) (st' := [.int (am_i (-1))]) rfl ?_
    cases hm
    exact am_end (am_fd ck_X8_cost (pc := 12) rfl) am_rI rfl rfl
set_option maxRecDepth 100000 in
set_option maxHeartbeats 4000000 in
theorem x_X8_otherLeaders_4 {G : am_G} {m : am_m} {r : am_rr} {res : Int32} {k : Int32 → Option (Int32)} (hL : am_Lay r) : ∀ (n : Nat) (z1 : Int32) (z2 : Int32), m_X8_otherLeaders_4 m k n z1 z2 = some res → (∀ (u1 : Int32), k u1 = some res → am_W G mt_X8_otherLeaders 5 (some (.int res)) (am_hh m r) 60 [(1, .int u1)] [] (am_hh m r)) → am_W G mt_X8_otherLeaders 5 (some (.int res)) (am_hh m r) 4 [(0, .ref 3), (1, .int z1), (2, .int z2)] [] (am_hh m r) := by
  intro n
  induction n with
  | zero => intro z1 z2 hm K; cases hm
  | succ n ih =>
    intro z1 z2 hm K
    unfold m_X8_otherLeaders_4 at hm
    refine am_steps ck_X8_otherLeaders 2 (pc' := 7) (lv' := [(0, .ref 3), (1, .int z1), (2, .int z2)]) (st' := [.int (am_i 24), .int z2]) rfl ?_
    refine am_icmp (tgt := 60) (am_fd ck_X8_otherLeaders (pc := 7) rfl) rfl (fun hc1 => ?_) (fun hc1 => ?_)
    · replace hm := am_it hm hc1
      refine am_subp [1] rfl ?_
      exact K _ hm
    · replace hm := am_if hm hc1
      refine am_steps ck_X8_otherLeaders 1 (pc' := 11) (lv' := [(0, .ref 3), (1, .int z1), (2, .int z2)]) (st' := [.ref 3]) rfl ?_
      refine ms_getr (ci := 6) (k := 0) (v := 4) (am_fd ck_X8_otherLeaders (pc := 11) rfl) tw_190 kc_3 rfl (ly_3_0 hL) (kO og4) ?_
      refine am_steps ck_X8_otherLeaders 1 (pc' := 15) (lv' := [(0, .ref 3), (1, .int z1), (2, .int z2)]) (st' := [.int z2, .ref 4]) rfl ?_
      obtain ⟨q2, hq2, hm⟩ := am_bE hm
      refine ms_callV (M2 := mt_X1_isThere) (d2 := 1) (ci := 1) [.int z2] (am_fd ck_X8_otherLeaders (pc := 15) rfl) ok_X1_isThere tw_231 tw_232 tw_233 (by decide) (kO og4) (Nat.le_of_ble_eq_true rfl) (Nat.le_of_ble_eq_true rfl) (x_X1_isThere hL og4 hq2) ?_
      refine am_ifc (tgt := 24) (am_fd ck_X8_otherLeaders (pc := 18) rfl) rfl (fun hc3 => ?_) (fun hc3 => ?_)
      · replace hm := am_it hm hc3
        refine am_steps ck_X8_otherLeaders 1 (pc' := 25) (lv' := [(0, .ref 3), (1, .int z1), (2, .int z2)]) (st' := [.ref 3]) rfl ?_
        refine ms_getr (ci := 6) (k := 0) (v := 4) (am_fd ck_X8_otherLeaders (pc := 25) rfl) tw_190 kc_3 rfl (ly_3_0 hL) (kO og4) ?_
        refine ms_getr (ci := 1) (k := 3) (v := (4 + 28)) (am_fd ck_X8_otherLeaders (pc := 28) rfl) tw_48 (kO og4) rfl (lyO3 hL og4) (kXo og4) ?_
        refine am_steps ck_X8_otherLeaders 1 (pc' := 32) (lv' := [(0, .ref 3), (1, .int z1), (2, .int z2)]) (st' := [.int z2, .ref (4 + 28)]) rfl ?_
        obtain ⟨hb4, hm⟩ := am_gE hm
        refine ms_rald (n := 24) (v := (aX 4 (am_ix z2))) (am_fd ck_X8_otherLeaders (pc := 32) rfl) (kXo og4) hb4 (lyX hL og4 (am_ixl hb4)) (kX og4 (am_ixl hb4)) ?_
        obtain ⟨q5, hq5, hm⟩ := am_bE hm
        refine ms_callS (M2 := mt_X5_firstLeader) (d2 := 4) [.ref (aX 4 (am_ix z2))] (am_fd ck_X8_otherLeaders (pc := 33) rfl) ok_X5_firstLeader tw_804 tw_805 (Nat.le_of_ble_eq_true rfl) (Nat.le_of_ble_eq_true rfl) (x_X5_firstLeader hL (kX og4 (am_ixl hb4)) hq5) ?_
        refine am_steps ck_X8_otherLeaders 1 (pc' := 37) (lv' := [(0, .ref 3), (1, .int z1), (2, .int z2)]) (st' := [.ref 3, .int q5]) rfl ?_
        refine ms_getr (ci := 6) (k := 1) (v := 251) (am_fd ck_X8_otherLeaders (pc := 37) rfl) tw_191 kc_3 rfl (ly_3_1 hL) (kO og251) ?_
        refine ms_getr (ci := 1) (k := 3) (v := (251 + 28)) (am_fd ck_X8_otherLeaders (pc := 40) rfl) tw_48 (kO og251) rfl (lyO3 hL og251) (kXo og251) ?_
        refine am_steps ck_X8_otherLeaders 1 (pc' := 44) (lv' := [(0, .ref 3), (1, .int z1), (2, .int z2)]) (st' := [.int z2, .ref (251 + 28), .int q5]) rfl ?_
        obtain ⟨hb6, hm⟩ := am_gE hm
        refine ms_rald (n := 24) (v := (aX 251 (am_ix z2))) (am_fd ck_X8_otherLeaders (pc := 44) rfl) (kXo og251) hb6 (lyX hL og251 (am_ixl hb6)) (kX og251 (am_ixl hb6)) ?_
        obtain ⟨q7, hq7, hm⟩ := am_bE hm
        refine ms_callS (M2 := mt_X5_firstLeader) (d2 := 4) [.ref (aX 251 (am_ix z2))] (am_fd ck_X8_otherLeaders (pc := 45) rfl) ok_X5_firstLeader tw_804 tw_805 (Nat.le_of_ble_eq_true rfl) (Nat.le_of_ble_eq_true rfl) (x_X5_firstLeader hL (kX og251 (am_ixl hb6)) hq7) ?_
        refine am_icmp (tgt := 54) (am_fd ck_X8_otherLeaders (pc := 48) rfl) rfl (fun hc8 => ?_) (fun hc8 => ?_)
        · replace hm := am_it hm hc8
          refine am_steps ck_X8_otherLeaders 2 (pc' := 4) (lv' := [(2, .int (z2 + am_i 1)), (0, .ref 3), (1, .int z1)]) (st' := []) rfl ?_
          refine am_subp [1, 2, 0] rfl ?_
          exact ih _ _ hm K
        · replace hm := am_if hm hc8
          refine am_steps ck_X8_otherLeaders 3 (pc' := 4) (lv' := [(2, .int (z2 + am_i 1)), (1, .int (z1 + am_i 1)), (0, .ref 3)]) (st' := []) rfl ?_
          refine am_subp [2, 1, 0] rfl ?_
          exact ih _ _ hm K
      · replace hm := am_if hm hc3
        refine am_steps ck_X8_otherLeaders 3 (pc' := 4) (lv' := [(2, .int (z2 + am_i 1)), (0, .ref 3), (1, .int z1)]) (st' := []) rfl ?_
        refine am_subp [1, 2, 0] rfl ?_
        exact ih _ _ hm K
set_option maxRecDepth 100000 in
set_option maxHeartbeats 4000000 in
theorem x_X8_otherLeaders {G : am_G} {m : am_m} {r : am_rr} {res : Int32} (hL : am_Lay r) (hm : m_X8_otherLeaders m  = some res) : am_Met G mt_X8_otherLeaders 5 [.ref 3] (am_hh m r) (some (.int res)) (am_hh m r) := by
  refine am_of (by decide) (Nat.le_of_ble_eq_true rfl) ?_
  unfold m_X8_otherLeaders at hm
  show am_W G mt_X8_otherLeaders 5 _ _ 0 [(0, .ref 3)] [] (am_hh m r)
  refine am_steps ck_X8_otherLeaders 4 (pc' := 4) (lv' := [(2, .int (am_i 0)), (1, .int (am_i 0)), (0, .ref 3)]) (st' := []) rfl ?_
  refine am_subp [2, 1, 0] rfl ?_
  refine x_X8_otherLeaders_4 hL am_F _ _ hm (fun u9 hm => ?_)
  refine am_steps ck_X8_otherLeaders 1 (pc' := 61) (lv' := [(1, .int u9)]) (st' := [.int u9]) rfl ?_
  cases hm
  exact am_end (am_fd ck_X8_otherLeaders (pc := 61) rfl) am_rI rfl rfl
set_option maxRecDepth 100000 in
set_option maxHeartbeats 4000000 in
theorem x_X8_would {G : am_G} {m : am_m} {r : am_rr} {x1 : Int32} {x2 : Int32} {x3 : Int32} {res : Int32 × am_m × am_rr} (hL : am_Lay r) (hm : m_X8_would m r x1 x2 x3 = some res) : am_Met G mt_X8_would 27 [.ref 3, .int x1, .int x2, .int x3] (am_hh m r) (some (.int res.1)) (am_hh res.2.1 res.2.2) := by
  refine am_of (by decide) (Nat.le_of_ble_eq_true rfl) ?_
  unfold m_X8_would at hm
  show am_W G mt_X8_would 27 _ _ 0 [(0, .ref 3), (1, .int x1), (2, .int x2), (3, .int x3)] [] (am_hh m r)
  refine am_steps ck_X8_would 1 (pc' := 1) (lv' := [(0, .ref 3), (1, .int x1), (2, .int x2), (3, .int x3)]) (st' := [.int x3]) rfl ?_
  refine am_ifc (tgt := 21) (am_fd ck_X8_would (pc := 1) rfl) rfl (fun hc1 => ?_) (fun hc1 => ?_)
  · replace hm := am_it hm hc1
    refine am_steps ck_X8_would 1 (pc' := 22) (lv' := [(0, .ref 3), (1, .int x1), (2, .int x2), (3, .int x3)]) (st' := [.int (am_i (-1))]) rfl ?_
    cases hm
    exact am_end (am_fd ck_X8_would (pc := 22) rfl) am_rI rfl rfl
  · replace hm := am_if hm hc1
    refine am_steps ck_X8_would 2 (pc' := 6) (lv' := [(0, .ref 3), (1, .int x1), (2, .int x2), (3, .int x3)]) (st' := [.int (am_i 3), .int x3]) rfl ?_
    refine am_icmp (tgt := 21) (am_fd ck_X8_would (pc := 6) rfl) rfl (fun hc2 => ?_) (fun hc2 => ?_)
    · replace hm := am_it hm hc2
      refine am_steps ck_X8_would 1 (pc' := 22) (lv' := [(0, .ref 3), (1, .int x1), (2, .int x2), (3, .int x3)]) (st' := [.int (am_i (-1))]) rfl ?_
      cases hm
      exact am_end (am_fd ck_X8_would (pc := 22) rfl) am_rI rfl rfl
    · replace hm := am_if hm hc2
      refine am_steps ck_X8_would 1 (pc' := 10) (lv' := [(0, .ref 3), (1, .int x1), (2, .int x2), (3, .int x3)]) (st' := [.ref 3]) rfl ?_
      refine ms_getr (ci := 6) (k := 0) (v := 4) (am_fd ck_X8_would (pc := 10) rfl) tw_190 kc_3 rfl (ly_3_0 hL) (kO og4) ?_
      refine am_steps ck_X8_would 2 (pc' := 15) (lv' := [(0, .ref 3), (1, .int x1), (2, .int x2), (3, .int x3)]) (st' := [.int x2, .int x1, .ref 4]) rfl ?_
      obtain ⟨q3, hq3, hm⟩ := am_bE hm
      refine ms_callV (M2 := mt_X1_canMove) (d2 := 5) (ci := 1) [.int x1, .int x2] (am_fd ck_X8_would (pc := 15) rfl) ok_X1_canMove tw_322 tw_323 tw_324 (by decide) (kO og4) (Nat.le_of_ble_eq_true rfl) (Nat.le_of_ble_eq_true rfl) (x_X1_canMove hL og4 hq3) ?_
      refine am_ifc (tgt := 23) (am_fd ck_X8_would (pc := 18) rfl) rfl (fun hc4 => ?_) (fun hc4 => ?_)
      · replace hm := am_it hm hc4
        refine am_steps ck_X8_would 1 (pc' := 24) (lv' := [(0, .ref 3), (1, .int x1), (2, .int x2), (3, .int x3)]) (st' := [.ref 3]) rfl ?_
        refine ms_getr (ci := 6) (k := 1) (v := 251) (am_fd ck_X8_would (pc := 24) rfl) tw_191 kc_3 rfl (ly_3_1 hL) (kO og251) ?_
        refine am_steps ck_X8_would 1 (pc' := 28) (lv' := [(0, .ref 3), (1, .int x1), (2, .int x2), (3, .int x3)]) (st' := [.ref 3, .ref 251]) rfl ?_
        refine ms_getr (ci := 6) (k := 0) (v := 4) (am_fd ck_X8_would (pc := 28) rfl) tw_190 kc_3 rfl (ly_3_0 hL) (kO og4) ?_
        obtain ⟨q5, hq5, hm⟩ := am_bE hm
        refine ms_callVv (M2 := mt_X1_takeOver) (d2 := 2) (ci := 1) [.ref 4] (am_fd ck_X8_would (pc := 31) rfl) ok_X1_takeOver tw_483 tw_243 tw_244 (by decide) (kO og251) (Nat.le_of_ble_eq_true rfl) (Nat.le_of_ble_eq_true rfl) (x_X1_takeOver hL og251 og4 hq5) ?_
        refine am_steps ck_X8_would 1 (pc' := 35) (lv' := [(0, .ref 3), (1, .int x1), (2, .int x2), (3, .int x3)]) (st' := [.ref 3]) rfl ?_
        refine ms_getr (ci := 6) (k := 1) (v := 251) (am_fd ck_X8_would (pc := 35) rfl) tw_191 kc_3 rfl (ly_3_1 hL) (kO og251) ?_
        refine am_steps ck_X8_would 2 (pc' := 40) (lv' := [(0, .ref 3), (1, .int x1), (2, .int x2), (3, .int x3)]) (st' := [.int x2, .int x1, .ref 251]) rfl ?_
        obtain ⟨q6, hq6, hm⟩ := am_bE hm
        refine ms_callVv (M2 := mt_X1_moveTo) (d2 := 4) (ci := 1) [.int x1, .int x2] (am_fd ck_X8_would (pc := 40) rfl) ok_X1_moveTo tw_338 tw_339 tw_340 (by decide) (kO og251) (Nat.le_of_ble_eq_true rfl) (Nat.le_of_ble_eq_true rfl) (x_X1_moveTo hL og251 hq6) ?_
        refine am_steps ck_X8_would 2 (pc' := 45) (lv' := [(0, .ref 3), (1, .int x1), (2, .int x2), (3, .int x3)]) (st' := [.int (am_i 3), .int x3]) rfl ?_
        refine am_icmp (tgt := 56) (am_fd ck_X8_would (pc := 45) rfl) rfl (fun hc7 => ?_) (fun hc7 => ?_)
        · replace hm := am_it hm hc7
          refine am_steps ck_X8_would 1 (pc' := 57) (lv' := [(0, .ref 3), (1, .int x1), (2, .int x2), (3, .int x3)]) (st' := [.ref 3]) rfl ?_
          refine ms_getr (ci := 6) (k := 5) (v := 2982) (am_fd ck_X8_would (pc := 57) rfl) tw_195 kc_3 rfl (ly_3_5 hL) kc_2982 ?_
          refine am_steps ck_X8_would 1 (pc' := 61) (lv' := [(0, .ref 3), (1, .int x1), (2, .int x2), (3, .int x3)]) (st' := [.ref 3, .ref 2982]) rfl ?_
          refine ms_getr (ci := 6) (k := 1) (v := 251) (am_fd ck_X8_would (pc := 61) rfl) tw_191 kc_3 rfl (ly_3_1 hL) (kO og251) ?_
          refine am_steps ck_X8_would 1 (pc' := 65) (lv' := [(0, .ref 3), (1, .int x1), (2, .int x2), (3, .int x3)]) (st' := [.int (am_i 0), .ref 251, .ref 2982]) rfl ?_
          obtain ⟨q8, hq8, hm⟩ := am_bE hm
          refine ms_callV (M2 := mt_X4_rollAll) (d2 := 26) (ci := 4) [.ref 251, .int (am_i 0)] (am_fd ck_X8_would (pc := 65) rfl) ok_X4_rollAll tw_367 tw_368 tw_369 (by decide) kc_2982 (Nat.le_of_ble_eq_true rfl) (Nat.le_of_ble_eq_true rfl) (x_X4_rollAll hL og251 hq8) ?_
          have hL := lr_X4_rollAll hL og251 hq8
          refine am_steps ck_X8_would 2 (pc' := 71) (lv' := [(4, .int q8.1), (0, .ref 3), (1, .int x1), (2, .int x2), (3, .int x3)]) (st' := [.int x3]) rfl ?_
          refine am_ifc (tgt := 77) (am_fd ck_X8_would (pc := 71) rfl) rfl (fun hc9 => ?_) (fun hc9 => ?_)
          · replace hm := am_it hm hc9
            refine am_steps ck_X8_would 2 (pc' := 79) (lv' := [(4, .int q8.1), (0, .ref 3), (1, .int x1), (2, .int x2), (3, .int x3)]) (st' := [.int (am_i 1), .int x3]) rfl ?_
            refine am_icmp (tgt := 97) (am_fd ck_X8_would (pc := 79) rfl) rfl (fun hc10 => ?_) (fun hc10 => ?_)
            · replace hm := am_it hm hc10
              refine am_steps ck_X8_would 1 (pc' := 98) (lv' := [(4, .int q8.1), (0, .ref 3), (1, .int x1), (2, .int x2), (3, .int x3)]) (st' := [.ref 3]) rfl ?_
              obtain ⟨q11, hq11, hm⟩ := am_bE hm
              refine ms_callV (M2 := mt_X8_otherLeaders) (d2 := 5) (ci := 6) [] (am_fd ck_X8_would (pc := 98) rfl) ok_X8_otherLeaders tw_824 tw_826 ts_20 (by decide) kc_3 (Nat.le_of_ble_eq_true rfl) (Nat.le_of_ble_eq_true rfl) (x_X8_otherLeaders hL hq11) ?_
              cases hm
              exact am_end (am_fd ck_X8_would (pc := 101) rfl) am_rI rfl rfl
            · replace hm := am_if hm hc10
              refine am_steps ck_X8_would 1 (pc' := 83) (lv' := [(4, .int q8.1), (0, .ref 3), (1, .int x1), (2, .int x2), (3, .int x3)]) (st' := [.ref 3]) rfl ?_
              refine ms_getr (ci := 6) (k := 1) (v := 251) (am_fd ck_X8_would (pc := 83) rfl) tw_191 kc_3 rfl (ly_3_1 hL) (kO og251) ?_
              refine ms_getr (ci := 1) (k := 3) (v := (251 + 28)) (am_fd ck_X8_would (pc := 86) rfl) tw_48 (kO og251) rfl (lyO3 hL og251) (kXo og251) ?_
              refine am_steps ck_X8_would 1 (pc' := 90) (lv' := [(4, .int q8.1), (0, .ref 3), (1, .int x1), (2, .int x2), (3, .int x3)]) (st' := [.int x2, .ref (251 + 28)]) rfl ?_
              obtain ⟨hb12, hm⟩ := am_gE hm
              refine ms_rald (n := 24) (v := (aX 251 (am_ix x2))) (am_fd ck_X8_would (pc := 90) rfl) (kXo og251) hb12 (lyX hL og251 (am_ixl hb12)) (kX og251 (am_ixl hb12)) ?_
              obtain ⟨q13, hq13, hm⟩ := am_bE hm
              refine ms_callS (M2 := mt_X5_firstLeader) (d2 := 4) [.ref (aX 251 (am_ix x2))] (am_fd ck_X8_would (pc := 91) rfl) ok_X5_firstLeader tw_804 tw_805 (Nat.le_of_ble_eq_true rfl) (Nat.le_of_ble_eq_true rfl) (x_X5_firstLeader hL (kX og251 (am_ixl hb12)) hq13) ?_
              refine am_steps ck_X8_would 1 (pc' := 101) (lv' := [(4, .int q8.1), (0, .ref 3), (1, .int x1), (2, .int x2), (3, .int x3)]) (st' := [.int q13]) rfl ?_
              cases hm
              exact am_end (am_fd ck_X8_would (pc := 101) rfl) am_rI rfl rfl
          · replace hm := am_if hm hc9
            refine am_steps ck_X8_would 1 (pc' := 76) (lv' := [(4, .int q8.1), (0, .ref 3), (1, .int x1), (2, .int x2), (3, .int x3)]) (st' := [.int q8.1]) rfl ?_
            cases hm
            exact am_end (am_fd ck_X8_would (pc := 76) rfl) am_rI rfl rfl
        · replace hm := am_if hm hc7
          refine am_steps ck_X8_would 1 (pc' := 49) (lv' := [(0, .ref 3), (1, .int x1), (2, .int x2), (3, .int x3)]) (st' := [.ref 3]) rfl ?_
          refine ms_getr (ci := 6) (k := 1) (v := 251) (am_fd ck_X8_would (pc := 49) rfl) tw_191 kc_3 rfl (ly_3_1 hL) (kO og251) ?_
          obtain ⟨q14, hq14, hm⟩ := am_bE hm
          refine ms_callV (M2 := mt_X1_staleSet) (d2 := 2) (ci := 1) [] (am_fd ck_X8_would (pc := 52) rfl) ok_X1_staleSet tw_820 tw_821 tw_822 (by decide) (kO og251) (Nat.le_of_ble_eq_true rfl) (Nat.le_of_ble_eq_true rfl) (x_X1_staleSet hL og251 hq14) ?_
          cases hm
          exact am_end (am_fd ck_X8_would (pc := 55) rfl) am_rI rfl rfl
      · replace hm := am_if hm hc4
        refine am_steps ck_X8_would 1 (pc' := 22) (lv' := [(0, .ref 3), (1, .int x1), (2, .int x2), (3, .int x3)]) (st' := [.int (am_i (-1))]) rfl ?_
        cases hm
        exact am_end (am_fd ck_X8_would (pc := 22) rfl) am_rI rfl rfl
set_option maxRecDepth 100000 in
set_option maxHeartbeats 4000000 in
theorem x_X8_apartFromHome_31 {G : am_G} {x1 : Int32} {x2 : Int32} {r : am_rr} {y1 : Int32} {res : Int32 × am_m} {k : am_m → Option (Int32 × am_m)} (hL : am_Lay r) : ∀ (n : Nat) (z3 : Int32) (m : am_m), m_X8_apartFromHome_31 x1 x2 y1 k n z3 m = some res → (∀ (m1 : am_m), k m1 = some res → am_W G mt_X8_apartFromHome 4 (some (.int res.1)) (am_hh res.2 r) 60 [(0, .ref 3), (1, .int y1)] [] (am_hh m1 r)) → am_W G mt_X8_apartFromHome 4 (some (.int res.1)) (am_hh res.2 r) 31 [(0, .ref 3), (1, .int y1), (3, .int z3)] [] (am_hh m r) := by
  intro n
  induction n with
  | zero => intro z3 m hm K; cases hm
  | succ n ih =>
    intro z3 m hm K
    unfold m_X8_apartFromHome_31 at hm
    refine am_steps ck_X8_apartFromHome 2 (pc' := 34) (lv' := [(0, .ref 3), (1, .int y1), (3, .int z3)]) (st' := [.int (am_i 64), .int z3]) rfl ?_
    refine am_icmp (tgt := 60) (am_fd ck_X8_apartFromHome (pc := 34) rfl) rfl (fun hc8 => ?_) (fun hc8 => ?_)
    · replace hm := am_it hm hc8
      refine am_subp [0, 1] rfl ?_
      exact K _ hm
    · replace hm := am_if hm hc8
      refine am_steps ck_X8_apartFromHome 1 (pc' := 38) (lv' := [(0, .ref 3), (1, .int y1), (3, .int z3)]) (st' := [.ref 3]) rfl ?_
      refine ms_getr (ci := 6) (k := 9) (v := 3013) (am_fd ck_X8_apartFromHome (pc := 38) rfl) tw_199 kc_3 rfl (ly_3_9 hL) kc_3013 ?_
      refine am_steps ck_X8_apartFromHome 2 (pc' := 43) (lv' := [(0, .ref 3), (1, .int y1), (3, .int z3)]) (st' := [.int z3, .ref 3013, .int z3, .ref 3013]) rfl ?_
      obtain ⟨hb9, hm⟩ := am_gE hm
      refine ms_iald (n := 64) (am_fd ck_X8_apartFromHome (pc := 43) rfl) kc_3013 hb9 ?_
      refine am_steps ck_X8_apartFromHome 1 (pc' := 45) (lv' := [(0, .ref 3), (1, .int y1), (3, .int z3)]) (st' := [.ref 3, .int (m 3013 (am_ix z3)), .int z3, .ref 3013]) rfl ?_
      refine ms_getr (ci := 6) (k := 8) (v := 2988) (am_fd ck_X8_apartFromHome (pc := 45) rfl) tw_198 kc_3 rfl (ly_3_8 hL) kc_2988 ?_
      refine am_steps ck_X8_apartFromHome 1 (pc' := 49) (lv' := [(0, .ref 3), (1, .int y1), (3, .int z3)]) (st' := [.int y1, .ref 2988, .int (m 3013 (am_ix z3)), .int z3, .ref 3013]) rfl ?_
      obtain ⟨hb10, hm⟩ := am_gE hm
      refine ms_rald (n := 24) (v := (aR (am_ix y1))) (am_fd ck_X8_apartFromHome (pc := 49) rfl) kc_2988 hb10 (hL.2.1 _ (am_ixl hb10)) (am_rw _ (am_ixl hb10)) ?_
      refine am_steps ck_X8_apartFromHome 1 (pc' := 51) (lv' := [(0, .ref 3), (1, .int y1), (3, .int z3)]) (st' := [.int z3, .ref (aR (am_ix y1)), .int (m 3013 (am_ix z3)), .int z3, .ref 3013]) rfl ?_
      obtain ⟨hb11, hm⟩ := am_gE hm
      refine ms_iald (n := 64) (am_fd ck_X8_apartFromHome (pc := 51) rfl) (am_rw _ (am_ixl hb10)) hb11 ?_
      refine am_steps ck_X8_apartFromHome 1 (pc' := 53) (lv' := [(0, .ref 3), (1, .int y1), (3, .int z3)]) (st' := [.int ((m 3013 (am_ix z3)) - (m (aR (am_ix y1)) (am_ix z3))), .int z3, .ref 3013]) rfl ?_
      obtain ⟨hb12, hm⟩ := am_gE hm
      refine ms_iast (n := 64) (am_fd ck_X8_apartFromHome (pc := 53) rfl) kc_3013 hb12 (fun m13 em13 => ?_)
      replace hm := am_letE em13 hm
      refine am_steps ck_X8_apartFromHome 2 (pc' := 31) (lv' := [(3, .int (z3 + am_i 1)), (0, .ref 3), (1, .int y1)]) (st' := []) rfl ?_
      refine am_subp [1, 2, 0] rfl ?_
      exact ih _ _ hm K
set_option maxRecDepth 100000 in
set_option maxHeartbeats 4000000 in
theorem x_X8_apartFromHome {G : am_G} {m : am_m} {r : am_rr} {x1 : Int32} {x2 : Int32} {res : Int32 × am_m} (hL : am_Lay r) (hm : m_X8_apartFromHome m x1 x2 = some res) : am_Met G mt_X8_apartFromHome 4 [.ref 3, .int x1, .int x2] (am_hh m r) (some (.int res.1)) (am_hh res.2 r) := by
  refine am_of (by decide) (Nat.le_of_ble_eq_true rfl) ?_
  unfold m_X8_apartFromHome at hm
  show am_W G mt_X8_apartFromHome 4 _ _ 0 [(0, .ref 3), (1, .int x1), (2, .int x2)] [] (am_hh m r)
  refine am_steps ck_X8_apartFromHome 1 (pc' := 1) (lv' := [(0, .ref 3), (1, .int x1), (2, .int x2)]) (st' := [.ref 3]) rfl ?_
  refine ms_getr (ci := 6) (k := 8) (v := 2988) (am_fd ck_X8_apartFromHome (pc := 1) rfl) tw_198 kc_3 rfl (ly_3_8 hL) kc_2988 ?_
  refine am_steps ck_X8_apartFromHome 1 (pc' := 5) (lv' := [(0, .ref 3), (1, .int x1), (2, .int x2)]) (st' := [.int x2, .ref 2988]) rfl ?_
  obtain ⟨hb1, hm⟩ := am_gE hm
  refine ms_rald (n := 24) (v := (aR (am_ix x2))) (am_fd ck_X8_apartFromHome (pc := 5) rfl) kc_2988 hb1 (hL.2.1 _ (am_ixl hb1)) (am_rw _ (am_ixl hb1)) ?_
  refine am_steps ck_X8_apartFromHome 2 (pc' := 8) (lv' := [(0, .ref 3), (1, .int x1), (2, .int x2)]) (st' := [.ref 3, .int (am_i 0), .ref (aR (am_ix x2))]) rfl ?_
  refine ms_getr (ci := 6) (k := 9) (v := 3013) (am_fd ck_X8_apartFromHome (pc := 8) rfl) tw_199 kc_3 rfl (ly_3_9 hL) kc_3013 ?_
  refine am_steps ck_X8_apartFromHome 2 (pc' := 14) (lv' := [(0, .ref 3), (1, .int x1), (2, .int x2)]) (st' := [.int (am_i 64), .int (am_i 0), .ref 3013, .int (am_i 0), .ref (aR (am_ix x2))]) rfl ?_
  obtain ⟨hb2, hm⟩ := am_gE hm
  refine ms_copy (n1 := 64) (n2 := 64) (Or.inl rfl) (am_fd ck_X8_apartFromHome (pc := 14) rfl) tw_751 tw_248 tw_247 tw_10 (am_rw _ (am_ixl hb1)) kc_3013 hb2 am_i11 (Nat.le_of_ble_eq_true rfl) (Nat.le_of_ble_eq_true rfl) (fun m3 em3 => ?_)
  replace hm := am_letE em3 hm
  refine am_steps ck_X8_apartFromHome 1 (pc' := 18) (lv' := [(0, .ref 3), (1, .int x1), (2, .int x2)]) (st' := [.ref 3]) rfl ?_
  refine ms_getr (ci := 6) (k := 0) (v := 4) (am_fd ck_X8_apartFromHome (pc := 18) rfl) tw_190 kc_3 rfl (ly_3_0 hL) (kO og4) ?_
  refine am_steps ck_X8_apartFromHome 2 (pc' := 23) (lv' := [(0, .ref 3), (1, .int x1), (2, .int x2)]) (st' := [.int x2, .int x1, .ref 4]) rfl ?_
  obtain ⟨q4, hq4, hm⟩ := am_bE hm
  refine ms_callV (M2 := mt_X1_isInBranch) (d2 := 3) (ci := 1) [.int x1, .int x2] (am_fd ck_X8_apartFromHome (pc := 23) rfl) ok_X1_isInBranch tw_836 tw_327 tw_328 (by decide) (kO og4) (Nat.le_of_ble_eq_true rfl) (Nat.le_of_ble_eq_true rfl) (x_X1_isInBranch hL og4 hq4) ?_
  refine am_ifc (tgt := 60) (am_fd ck_X8_apartFromHome (pc := 26) rfl) rfl (fun hc5 => ?_) (fun hc5 => ?_)
  · replace hm := am_it hm hc5
    refine am_steps ck_X8_apartFromHome 1 (pc' := 61) (lv' := [(0, .ref 3), (1, .int x1), (2, .int x2)]) (st' := [.ref 3]) rfl ?_
    refine ms_getr (ci := 6) (k := 9) (v := 3013) (am_fd ck_X8_apartFromHome (pc := 61) rfl) tw_199 kc_3 rfl (ly_3_9 hL) kc_3013 ?_
    refine am_steps ck_X8_apartFromHome 1 (pc' := 65) (lv' := [(0, .ref 3), (1, .int x1), (2, .int x2)]) (st' := [.ref 3, .ref 3013]) rfl ?_
    refine ms_getr (ci := 6) (k := 8) (v := 2988) (am_fd ck_X8_apartFromHome (pc := 65) rfl) tw_198 kc_3 rfl (ly_3_8 hL) kc_2988 ?_
    refine am_steps ck_X8_apartFromHome 1 (pc' := 69) (lv' := [(0, .ref 3), (1, .int x1), (2, .int x2)]) (st' := [.int x1, .ref 2988, .ref 3013]) rfl ?_
    obtain ⟨hb6, hm⟩ := am_gE hm
    refine ms_rald (n := 24) (v := (aR (am_ix x1))) (am_fd ck_X8_apartFromHome (pc := 69) rfl) kc_2988 hb6 (hL.2.1 _ (am_ixl hb6)) (am_rw _ (am_ixl hb6)) ?_
    obtain ⟨q7, hq7, hm⟩ := am_bE hm
    refine ms_callS (M2 := mt_X5_unlikeness) (d2 := 1) [.ref 3013, .ref (aR (am_ix x1))] (am_fd ck_X8_apartFromHome (pc := 70) rfl) ok_X5_unlikeness tw_579 tw_580 (Nat.le_of_ble_eq_true rfl) (Nat.le_of_ble_eq_true rfl) (x_X5_unlikeness hL kc_3013 (am_rw _ (am_ixl hb6)) hq7) ?_
    cases hm
    exact am_end (am_fd ck_X8_apartFromHome (pc := 73) rfl) am_rI rfl rfl
  · replace hm := am_if hm hc5
    refine am_steps ck_X8_apartFromHome 2 (pc' := 31) (lv' := [(3, .int (am_i 0)), (0, .ref 3), (1, .int x1), (2, .int x2)]) (st' := []) rfl ?_
    refine am_subp [1, 2, 0] rfl ?_
    refine x_X8_apartFromHome_31 hL am_F _ _ hm (fun m14 hm => ?_)
    refine am_steps ck_X8_apartFromHome 1 (pc' := 61) (lv' := [(0, .ref 3), (1, .int x1)]) (st' := [.ref 3]) rfl ?_
    refine ms_getr (ci := 6) (k := 9) (v := 3013) (am_fd ck_X8_apartFromHome (pc := 61) rfl) tw_199 kc_3 rfl (ly_3_9 hL) kc_3013 ?_
    refine am_steps ck_X8_apartFromHome 1 (pc' := 65) (lv' := [(0, .ref 3), (1, .int x1)]) (st' := [.ref 3, .ref 3013]) rfl ?_
    refine ms_getr (ci := 6) (k := 8) (v := 2988) (am_fd ck_X8_apartFromHome (pc := 65) rfl) tw_198 kc_3 rfl (ly_3_8 hL) kc_2988 ?_
    refine am_steps ck_X8_apartFromHome 1 (pc' := 69) (lv' := [(0, .ref 3), (1, .int x1)]) (st' := [.int x1, .ref 2988, .ref 3013]) rfl ?_
    obtain ⟨hb15, hm⟩ := am_gE hm
    refine ms_rald (n := 24) (v := (aR (am_ix x1))) (am_fd ck_X8_apartFromHome (pc := 69) rfl) kc_2988 hb15 (hL.2.1 _ (am_ixl hb15)) (am_rw _ (am_ixl hb15)) ?_
    obtain ⟨q16, hq16, hm⟩ := am_bE hm
    refine ms_callS (M2 := mt_X5_unlikeness) (d2 := 1) [.ref 3013, .ref (aR (am_ix x1))] (am_fd ck_X8_apartFromHome (pc := 70) rfl) ok_X5_unlikeness tw_579 tw_580 (Nat.le_of_ble_eq_true rfl) (Nat.le_of_ble_eq_true rfl) (x_X5_unlikeness hL kc_3013 (am_rw _ (am_ixl hb15)) hq16) ?_
    cases hm
    exact am_end (am_fd ck_X8_apartFromHome (pc := 73) rfl) am_rI rfl rfl
set_option maxRecDepth 100000 in
set_option maxHeartbeats 4000000 in
theorem x_X8_home_35 {G : am_G} {x1 : Int32} {r : am_rr} {y1 : Int32} {res : Int32 × am_m} {k : Int32 → am_m → Option (Int32 × am_m)} (hL : am_Lay r) : ∀ (n : Nat) (z2 : Int32) (z3 : Int32) (z4 : Int32) (m : am_m), m_X8_home_35 x1 y1 k n z2 z3 z4 m = some res → (∀ (u2 : Int32) (m1 : am_m), k u2 m1 = some res → am_W G mt_X8_home 6 (some (.int res.1)) (am_hh res.2 r) 103 [(2, .int u2)] [] (am_hh m1 r)) → am_W G mt_X8_home 6 (some (.int res.1)) (am_hh res.2 r) 35 [(0, .ref 3), (1, .int y1), (2, .int z2), (3, .int z3), (4, .int z4)] [] (am_hh m r) := by
  intro n
  induction n with
  | zero => intro z2 z3 z4 m hm K; cases hm
  | succ n ih =>
    intro z2 z3 z4 m hm K
    unfold m_X8_home_35 at hm
    refine am_steps ck_X8_home 2 (pc' := 39) (lv' := [(0, .ref 3), (1, .int y1), (2, .int z2), (3, .int z3), (4, .int z4)]) (st' := [.int (am_i 24), .int z4]) rfl ?_
    refine am_icmp (tgt := 103) (am_fd ck_X8_home (pc := 39) rfl) rfl (fun hc5 => ?_) (fun hc5 => ?_)
    · replace hm := am_it hm hc5
      refine am_subp [2] rfl ?_
      exact K _ _ hm
    · replace hm := am_if hm hc5
      refine am_steps ck_X8_home 2 (pc' := 45) (lv' := [(0, .ref 3), (1, .int y1), (2, .int z2), (3, .int z3), (4, .int z4)]) (st' := [.ref 3, .int z4]) rfl ?_
      refine ms_getr (ci := 6) (k := 0) (v := 4) (am_fd ck_X8_home (pc := 45) rfl) tw_190 kc_3 rfl (ly_3_0 hL) (kO og4) ?_
      refine am_steps ck_X8_home 1 (pc' := 49) (lv' := [(0, .ref 3), (1, .int y1), (2, .int z2), (3, .int z3), (4, .int z4)]) (st' := [.int y1, .ref 4, .int z4]) rfl ?_
      obtain ⟨q6, hq6, hm⟩ := am_bE hm
      refine ms_callV (M2 := mt_X1_upperOf) (d2 := 2) (ci := 1) [.int y1] (am_fd ck_X8_home (pc := 49) rfl) ok_X1_upperOf tw_284 tw_258 tw_259 (by decide) (kO og4) (Nat.le_of_ble_eq_true rfl) (Nat.le_of_ble_eq_true rfl) (x_X1_upperOf hL og4 hq6) ?_
      refine am_icmp (tgt := 71) (am_fd ck_X8_home (pc := 52) rfl) rfl (fun hc7 => ?_) (fun hc7 => ?_)
      · replace hm := am_it hm hc7
        refine am_steps ck_X8_home 3 (pc' := 75) (lv' := [(0, .ref 3), (1, .int y1), (2, .int z2), (3, .int z3), (4, .int z4)]) (st' := [.int z4, .int y1, .ref 3]) rfl ?_
        obtain ⟨q8, hq8, hm⟩ := am_bE hm
        refine ms_callV (M2 := mt_X8_apartFromHome) (d2 := 4) (ci := 6) [.int y1, .int z4] (am_fd ck_X8_home (pc := 75) rfl) ok_X8_apartFromHome tw_832 tw_834 ts_21 (by decide) kc_3 (Nat.le_of_ble_eq_true rfl) (Nat.le_of_ble_eq_true rfl) (x_X8_apartFromHome hL hq8) ?_
        refine am_steps ck_X8_home 3 (pc' := 82) (lv' := [(5, .int q8.1), (0, .ref 3), (1, .int y1), (2, .int z2), (3, .int z3), (4, .int z4)]) (st' := [.int (am_i (-1)), .int z2]) rfl ?_
        refine am_icmp (tgt := 91) (am_fd ck_X8_home (pc := 82) rfl) rfl (fun hc9 => ?_) (fun hc9 => ?_)
        · replace hm := am_it hm hc9
          refine am_steps ck_X8_home 6 (pc' := 35) (lv' := [(4, .int (z4 + am_i 1)), (3, .int q8.1), (2, .int z4), (5, .int q8.1), (0, .ref 3), (1, .int y1)]) (st' := []) rfl ?_
          refine am_subp [4, 5, 2, 1, 0] rfl ?_
          exact ih _ _ _ _ hm K
        · replace hm := am_if hm hc9
          refine am_steps ck_X8_home 2 (pc' := 88) (lv' := [(5, .int q8.1), (0, .ref 3), (1, .int y1), (2, .int z2), (3, .int z3), (4, .int z4)]) (st' := [.int z3, .int q8.1]) rfl ?_
          refine am_icmp (tgt := 97) (am_fd ck_X8_home (pc := 88) rfl) rfl (fun hc10 => ?_) (fun hc10 => ?_)
          · replace hm := am_it hm hc10
            refine am_steps ck_X8_home 2 (pc' := 35) (lv' := [(4, .int (z4 + am_i 1)), (5, .int q8.1), (0, .ref 3), (1, .int y1), (2, .int z2), (3, .int z3)]) (st' := []) rfl ?_
            refine am_subp [2, 3, 4, 5, 0] rfl ?_
            exact ih _ _ _ _ hm K
          · replace hm := am_if hm hc10
            refine am_steps ck_X8_home 6 (pc' := 35) (lv' := [(4, .int (z4 + am_i 1)), (3, .int q8.1), (2, .int z4), (5, .int q8.1), (0, .ref 3), (1, .int y1)]) (st' := []) rfl ?_
            refine am_subp [4, 5, 2, 1, 0] rfl ?_
            exact ih _ _ _ _ hm K
      · replace hm := am_if hm hc7
        refine am_steps ck_X8_home 1 (pc' := 56) (lv' := [(0, .ref 3), (1, .int y1), (2, .int z2), (3, .int z3), (4, .int z4)]) (st' := [.ref 3]) rfl ?_
        refine ms_getr (ci := 6) (k := 0) (v := 4) (am_fd ck_X8_home (pc := 56) rfl) tw_190 kc_3 rfl (ly_3_0 hL) (kO og4) ?_
        refine am_steps ck_X8_home 2 (pc' := 62) (lv' := [(0, .ref 3), (1, .int y1), (2, .int z2), (3, .int z3), (4, .int z4)]) (st' := [.int z4, .int y1, .ref 4]) rfl ?_
        obtain ⟨q11, hq11, hm⟩ := am_bE hm
        refine ms_callV (M2 := mt_X1_canMove) (d2 := 5) (ci := 1) [.int y1, .int z4] (am_fd ck_X8_home (pc := 62) rfl) ok_X1_canMove tw_322 tw_323 tw_324 (by decide) (kO og4) (Nat.le_of_ble_eq_true rfl) (Nat.le_of_ble_eq_true rfl) (x_X1_canMove hL og4 hq11) ?_
        refine am_ifc (tgt := 71) (am_fd ck_X8_home (pc := 65) rfl) rfl (fun hc12 => ?_) (fun hc12 => ?_)
        · replace hm := am_it hm hc12
          refine am_steps ck_X8_home 3 (pc' := 75) (lv' := [(0, .ref 3), (1, .int y1), (2, .int z2), (3, .int z3), (4, .int z4)]) (st' := [.int z4, .int y1, .ref 3]) rfl ?_
          obtain ⟨q13, hq13, hm⟩ := am_bE hm
          refine ms_callV (M2 := mt_X8_apartFromHome) (d2 := 4) (ci := 6) [.int y1, .int z4] (am_fd ck_X8_home (pc := 75) rfl) ok_X8_apartFromHome tw_832 tw_834 ts_21 (by decide) kc_3 (Nat.le_of_ble_eq_true rfl) (Nat.le_of_ble_eq_true rfl) (x_X8_apartFromHome hL hq13) ?_
          refine am_steps ck_X8_home 3 (pc' := 82) (lv' := [(5, .int q13.1), (0, .ref 3), (1, .int y1), (2, .int z2), (3, .int z3), (4, .int z4)]) (st' := [.int (am_i (-1)), .int z2]) rfl ?_
          refine am_icmp (tgt := 91) (am_fd ck_X8_home (pc := 82) rfl) rfl (fun hc14 => ?_) (fun hc14 => ?_)
          · replace hm := am_it hm hc14
            refine am_steps ck_X8_home 6 (pc' := 35) (lv' := [(4, .int (z4 + am_i 1)), (3, .int q13.1), (2, .int z4), (5, .int q13.1), (0, .ref 3), (1, .int y1)]) (st' := []) rfl ?_
            refine am_subp [4, 5, 2, 1, 0] rfl ?_
            exact ih _ _ _ _ hm K
          · replace hm := am_if hm hc14
            refine am_steps ck_X8_home 2 (pc' := 88) (lv' := [(5, .int q13.1), (0, .ref 3), (1, .int y1), (2, .int z2), (3, .int z3), (4, .int z4)]) (st' := [.int z3, .int q13.1]) rfl ?_
            refine am_icmp (tgt := 97) (am_fd ck_X8_home (pc := 88) rfl) rfl (fun hc15 => ?_) (fun hc15 => ?_)
            · replace hm := am_it hm hc15
              refine am_steps ck_X8_home 2 (pc' := 35) (lv' := [(4, .int (z4 + am_i 1)), (5, .int q13.1), (0, .ref 3), (1, .int y1), (2, .int z2), (3, .int z3)]) (st' := []) rfl ?_
              refine am_subp [2, 3, 4, 5, 0] rfl ?_
              exact ih _ _ _ _ hm K
            · replace hm := am_if hm hc15
              refine am_steps ck_X8_home 6 (pc' := 35) (lv' := [(4, .int (z4 + am_i 1)), (3, .int q13.1), (2, .int z4), (5, .int q13.1), (0, .ref 3), (1, .int y1)]) (st' := []) rfl ?_
              refine am_subp [4, 5, 2, 1, 0] rfl ?_
              exact ih _ _ _ _ hm K
        · replace hm := am_if hm hc12
          refine am_steps ck_X8_home 3 (pc' := 35) (lv' := [(4, .int (z4 + am_i 1)), (0, .ref 3), (1, .int y1), (2, .int z2), (3, .int z3)]) (st' := []) rfl ?_
          refine am_subp [1, 2, 3, 4, 0] rfl ?_
          exact ih _ _ _ _ hm K
set_option maxRecDepth 100000 in
set_option maxHeartbeats 4000000 in
theorem x_X8_home {G : am_G} {m : am_m} {r : am_rr} {x1 : Int32} {res : Int32 × am_m} (hL : am_Lay r) (hm : m_X8_home m x1 = some res) : am_Met G mt_X8_home 6 [.ref 3, .int x1] (am_hh m r) (some (.int res.1)) (am_hh res.2 r) := by
  refine am_of (by decide) (Nat.le_of_ble_eq_true rfl) ?_
  unfold m_X8_home at hm
  show am_W G mt_X8_home 6 _ _ 0 [(0, .ref 3), (1, .int x1)] [] (am_hh m r)
  refine am_steps ck_X8_home 1 (pc' := 1) (lv' := [(0, .ref 3), (1, .int x1)]) (st' := [.int x1]) rfl ?_
  refine am_ifc (tgt := 15) (am_fd ck_X8_home (pc := 1) rfl) rfl (fun hc1 => ?_) (fun hc1 => ?_)
  · replace hm := am_it hm hc1
    refine am_steps ck_X8_home 1 (pc' := 16) (lv' := [(0, .ref 3), (1, .int x1)]) (st' := [.int (am_i (-1))]) rfl ?_
    cases hm
    exact am_end (am_fd ck_X8_home (pc := 16) rfl) am_rI rfl rfl
  · replace hm := am_if hm hc1
    refine am_steps ck_X8_home 1 (pc' := 5) (lv' := [(0, .ref 3), (1, .int x1)]) (st' := [.ref 3]) rfl ?_
    refine ms_getr (ci := 6) (k := 0) (v := 4) (am_fd ck_X8_home (pc := 5) rfl) tw_190 kc_3 rfl (ly_3_0 hL) (kO og4) ?_
    refine am_steps ck_X8_home 1 (pc' := 9) (lv' := [(0, .ref 3), (1, .int x1)]) (st' := [.int x1, .ref 4]) rfl ?_
    obtain ⟨q2, hq2, hm⟩ := am_bE hm
    refine ms_callV (M2 := mt_X1_isThere) (d2 := 1) (ci := 1) [.int x1] (am_fd ck_X8_home (pc := 9) rfl) ok_X1_isThere tw_231 tw_232 tw_233 (by decide) (kO og4) (Nat.le_of_ble_eq_true rfl) (Nat.le_of_ble_eq_true rfl) (x_X1_isThere hL og4 hq2) ?_
    refine am_ifc (tgt := 17) (am_fd ck_X8_home (pc := 12) rfl) rfl (fun hc3 => ?_) (fun hc3 => ?_)
    · replace hm := am_it hm hc3
      refine am_steps ck_X8_home 1 (pc' := 18) (lv' := [(0, .ref 3), (1, .int x1)]) (st' := [.ref 3]) rfl ?_
      refine ms_getr (ci := 6) (k := 0) (v := 4) (am_fd ck_X8_home (pc := 18) rfl) tw_190 kc_3 rfl (ly_3_0 hL) (kO og4) ?_
      refine am_steps ck_X8_home 1 (pc' := 22) (lv' := [(0, .ref 3), (1, .int x1)]) (st' := [.ref 3, .ref 4]) rfl ?_
      refine ms_getr (ci := 6) (k := 8) (v := 2988) (am_fd ck_X8_home (pc := 22) rfl) tw_198 kc_3 rfl (ly_3_8 hL) kc_2988 ?_
      obtain ⟨q4, hq4, hm⟩ := am_bE hm
      refine ms_callVv (M2 := mt_X1_sumBranches) (d2 := 4) (ci := 1) [.ref 2988] (am_fd ck_X8_home (pc := 25) rfl) ok_X1_sumBranches tw_574 tw_575 tw_576 (by decide) (kO og4) (Nat.le_of_ble_eq_true rfl) (Nat.le_of_ble_eq_true rfl) (x_X1_sumBranches hL og4 hq4) ?_
      refine am_steps ck_X8_home 6 (pc' := 35) (lv' := [(4, .int (am_i 0)), (3, .int (am_i 0)), (2, .int (am_i (-1))), (0, .ref 3), (1, .int x1)]) (st' := []) rfl ?_
      refine am_subp [3, 4, 2, 1, 0] rfl ?_
      refine x_X8_home_35 hL am_F _ _ _ _ hm (fun u16 m17 hm => ?_)
      refine am_steps ck_X8_home 1 (pc' := 104) (lv' := [(2, .int u16)]) (st' := [.int u16]) rfl ?_
      cases hm
      exact am_end (am_fd ck_X8_home (pc := 104) rfl) am_rI rfl rfl
    · replace hm := am_if hm hc3
      refine am_steps ck_X8_home 1 (pc' := 16) (lv' := [(0, .ref 3), (1, .int x1)]) (st' := [.int (am_i (-1))]) rfl ?_
      cases hm
      exact am_end (am_fd ck_X8_home (pc := 16) rfl) am_rI rfl rfl
set_option maxRecDepth 100000 in
set_option maxHeartbeats 4000000 in
theorem x_X8_count {G : am_G} {m : am_m} {r : am_rr} {x1 : Int32} {res : Int32} (hL : am_Lay r) (hm : m_X8_count m x1 = some res) : am_Met G mt_X8_count 1 [.ref 3, .int x1] (am_hh m r) (some (.int res)) (am_hh m r) := by
  refine am_of (by decide) (Nat.le_of_ble_eq_true rfl) ?_
  unfold m_X8_count at hm
  show am_W G mt_X8_count 1 _ _ 0 [(0, .ref 3), (1, .int x1)] [] (am_hh m r)
  refine am_steps ck_X8_count 1 (pc' := 1) (lv' := [(0, .ref 3), (1, .int x1)]) (st' := [.int x1]) rfl ?_
  refine am_ifc (tgt := 22) (am_fd ck_X8_count (pc := 1) rfl) rfl (fun hc1 => ?_) (fun hc1 => ?_)
  · replace hm := am_it hm hc1
    refine am_steps ck_X8_count 1 (pc' := 23) (lv' := [(0, .ref 3), (1, .int x1)]) (st' := [.int (am_i (-1))]) rfl ?_
    cases hm
    exact am_end (am_fd ck_X8_count (pc := 23) rfl) am_rI rfl rfl
  · replace hm := am_if hm hc1
    refine am_steps ck_X8_count 2 (pc' := 7) (lv' := [(0, .ref 3), (1, .int x1)]) (st' := [.int (am_i 11), .int x1]) rfl ?_
    refine am_icmp (tgt := 22) (am_fd ck_X8_count (pc := 7) rfl) rfl (fun hc2 => ?_) (fun hc2 => ?_)
    · replace hm := am_it hm hc2
      refine am_steps ck_X8_count 1 (pc' := 23) (lv' := [(0, .ref 3), (1, .int x1)]) (st' := [.int (am_i (-1))]) rfl ?_
      cases hm
      exact am_end (am_fd ck_X8_count (pc := 23) rfl) am_rI rfl rfl
    · replace hm := am_if hm hc2
      refine am_steps ck_X8_count 1 (pc' := 11) (lv' := [(0, .ref 3), (1, .int x1)]) (st' := [.ref 3]) rfl ?_
      refine ms_getr (ci := 6) (k := 3) (v := 2970) (am_fd ck_X8_count (pc := 11) rfl) tw_193 kc_3 rfl (ly_3_3 hL) (kB bk2970).1 ?_
      refine ms_getr (ci := 0) (k := 0) (v := (aB 2970 0)) (am_fd ck_X8_count (pc := 14) rfl) tw_95 (kB bk2970).1 rfl (hL.2.2.2.1 _ bk2970 0 (by decide)) (kB bk2970).2.1 ?_
      refine am_steps ck_X8_count 1 (pc' := 18) (lv' := [(0, .ref 3), (1, .int x1)]) (st' := [.int x1, .ref (aB 2970 0)]) rfl ?_
      obtain ⟨hb3, hm⟩ := am_gE hm
      refine ms_iald (n := 11) (am_fd ck_X8_count (pc := 18) rfl) (kB bk2970).2.1 hb3 ?_
      refine am_steps ck_X8_count 1 (pc' := 23) (lv' := [(0, .ref 3), (1, .int x1)]) (st' := [.int (m (aB 2970 0) (am_ix x1))]) rfl ?_
      cases hm
      exact am_end (am_fd ck_X8_count (pc := 23) rfl) am_rI rfl rfl
set_option maxRecDepth 100000 in
set_option maxHeartbeats 4000000 in
theorem x_X8_apartFromImage_13 {G : am_G} {m : am_m} {r : am_rr} {res : Int32} {k : Int32 → Option (Int32)} (hL : am_Lay r) : ∀ (n : Nat) (z1 : Int32) (z2 : Int32), m_X8_apartFromImage_13 m k n z1 z2 = some res → (∀ (u1 : Int32), k u1 = some res → am_W G mt_X8_apartFromImage 1 (some (.int res)) (am_hh m r) 52 [(1, .int u1)] [] (am_hh m r)) → am_W G mt_X8_apartFromImage 1 (some (.int res)) (am_hh m r) 13 [(0, .ref 3), (1, .int z1), (2, .int z2)] [] (am_hh m r) := by
  intro n
  induction n with
  | zero => intro z1 z2 hm K; cases hm
  | succ n ih =>
    intro z1 z2 hm K
    unfold m_X8_apartFromImage_13 at hm
    refine am_steps ck_X8_apartFromImage 2 (pc' := 16) (lv' := [(0, .ref 3), (1, .int z1), (2, .int z2)]) (st' := [.int (am_i 24), .int z2]) rfl ?_
    refine am_icmp (tgt := 52) (am_fd ck_X8_apartFromImage (pc := 16) rfl) rfl (fun hc2 => ?_) (fun hc2 => ?_)
    · replace hm := am_it hm hc2
      refine am_subp [1] rfl ?_
      exact K _ hm
    · replace hm := am_if hm hc2
      refine am_steps ck_X8_apartFromImage 1 (pc' := 20) (lv' := [(0, .ref 3), (1, .int z1), (2, .int z2)]) (st' := [.ref 3]) rfl ?_
      refine ms_getr (ci := 6) (k := 0) (v := 4) (am_fd ck_X8_apartFromImage (pc := 20) rfl) tw_190 kc_3 rfl (ly_3_0 hL) (kO og4) ?_
      refine ms_getr (ci := 1) (k := 0) (v := (aU 4)) (am_fd ck_X8_apartFromImage (pc := 23) rfl) tw_37 (kO og4) rfl (lyO0 hL og4) (kU og4) ?_
      refine am_steps ck_X8_apartFromImage 1 (pc' := 27) (lv' := [(0, .ref 3), (1, .int z1), (2, .int z2)]) (st' := [.int z2, .ref (aU 4)]) rfl ?_
      obtain ⟨hb3, hm⟩ := am_gE hm
      refine ms_iald (n := 24) (am_fd ck_X8_apartFromImage (pc := 27) rfl) (kU og4) hb3 ?_
      refine am_steps ck_X8_apartFromImage 1 (pc' := 29) (lv' := [(0, .ref 3), (1, .int z1), (2, .int z2)]) (st' := [.ref 3, .int (m (aU 4) (am_ix z2))]) rfl ?_
      refine ms_getr (ci := 6) (k := 10) (v := 3014) (am_fd ck_X8_apartFromImage (pc := 29) rfl) tw_200 kc_3 rfl (ly_3_10 hL) (kO og3014) ?_
      refine ms_getr (ci := 1) (k := 0) (v := (aU 3014)) (am_fd ck_X8_apartFromImage (pc := 32) rfl) tw_37 (kO og3014) rfl (lyO0 hL og3014) (kU og3014) ?_
      refine am_steps ck_X8_apartFromImage 1 (pc' := 36) (lv' := [(0, .ref 3), (1, .int z1), (2, .int z2)]) (st' := [.int z2, .ref (aU 3014), .int (m (aU 4) (am_ix z2))]) rfl ?_
      obtain ⟨hb4, hm⟩ := am_gE hm
      refine ms_iald (n := 24) (am_fd ck_X8_apartFromImage (pc := 36) rfl) (kU og3014) hb4 ?_
      refine am_icmp (tgt := 46) (am_fd ck_X8_apartFromImage (pc := 37) rfl) rfl (fun hc5 => ?_) (fun hc5 => ?_)
      · replace hm := am_it hm hc5
        refine am_steps ck_X8_apartFromImage 2 (pc' := 13) (lv' := [(2, .int (z2 + am_i 1)), (0, .ref 3), (1, .int z1)]) (st' := []) rfl ?_
        refine am_subp [1, 2, 0] rfl ?_
        exact ih _ _ hm K
      · replace hm := am_if hm hc5
        refine am_steps ck_X8_apartFromImage 8 (pc' := 13) (lv' := [(2, .int (z2 + am_i 1)), (1, .int (z1 ||| ((am_i 1) <<< (z2 &&& 31)))), (0, .ref 3)]) (st' := []) rfl ?_
        refine am_subp [2, 1, 0] rfl ?_
        exact ih _ _ hm K
set_option maxRecDepth 100000 in
set_option maxHeartbeats 4000000 in
theorem x_X8_apartFromImage {G : am_G} {m : am_m} {r : am_rr} {res : Int32} (hL : am_Lay r) (hm : m_X8_apartFromImage m  = some res) : am_Met G mt_X8_apartFromImage 1 [.ref 3] (am_hh m r) (some (.int res)) (am_hh m r) := by
  refine am_of (by decide) (Nat.le_of_ble_eq_true rfl) ?_
  unfold m_X8_apartFromImage at hm
  show am_W G mt_X8_apartFromImage 1 _ _ 0 [(0, .ref 3)] [] (am_hh m r)
  refine am_steps ck_X8_apartFromImage 1 (pc' := 1) (lv' := [(0, .ref 3)]) (st' := [.ref 3]) rfl ?_
  refine ms_geti (ci := 6) (k := 11) (am_fd ck_X8_apartFromImage (pc := 1) rfl) tw_201 kc_3 rfl ?_
  refine am_ifc (tgt := 9) (am_fd ck_X8_apartFromImage (pc := 4) rfl) rfl (fun hc1 => ?_) (fun hc1 => ?_)
  · replace hm := am_it hm hc1
    refine am_steps ck_X8_apartFromImage 4 (pc' := 13) (lv' := [(2, .int (am_i 0)), (1, .int (am_i 0)), (0, .ref 3)]) (st' := []) rfl ?_
    refine am_subp [2, 1, 0] rfl ?_
    refine x_X8_apartFromImage_13 hL am_F _ _ hm (fun u6 hm => ?_)
    refine am_steps ck_X8_apartFromImage 1 (pc' := 53) (lv' := [(1, .int u6)]) (st' := [.int u6]) rfl ?_
    cases hm
    exact am_end (am_fd ck_X8_apartFromImage (pc := 53) rfl) am_rI rfl rfl
  · replace hm := am_if hm hc1
    refine am_steps ck_X8_apartFromImage 1 (pc' := 8) (lv' := [(0, .ref 3)]) (st' := [.int (am_i 0)]) rfl ?_
    cases hm
    exact am_end (am_fd ck_X8_apartFromImage (pc := 8) rfl) am_rI rfl rfl
set_option maxRecDepth 100000 in
set_option maxHeartbeats 4000000 in
theorem x_X8_ownEntries_4 {G : am_G} {m : am_m} {r : am_rr} {res : Int32} {k : Int32 → Option (Int32)} (hL : am_Lay r) : ∀ (n : Nat) (z1 : Int32) (z2 : Int32), m_X8_ownEntries_4 m k n z1 z2 = some res → (∀ (u1 : Int32), k u1 = some res → am_W G mt_X8_ownEntries 3 (some (.int res)) (am_hh m r) 42 [(1, .int u1)] [] (am_hh m r)) → am_W G mt_X8_ownEntries 3 (some (.int res)) (am_hh m r) 4 [(0, .ref 3), (1, .int z1), (2, .int z2)] [] (am_hh m r) := by
  intro n
  induction n with
  | zero => intro z1 z2 hm K; cases hm
  | succ n ih =>
    intro z1 z2 hm K
    unfold m_X8_ownEntries_4 at hm
    refine am_steps ck_X8_ownEntries 2 (pc' := 7) (lv' := [(0, .ref 3), (1, .int z1), (2, .int z2)]) (st' := [.int (am_i 24), .int z2]) rfl ?_
    refine am_icmp (tgt := 42) (am_fd ck_X8_ownEntries (pc := 7) rfl) rfl (fun hc1 => ?_) (fun hc1 => ?_)
    · replace hm := am_it hm hc1
      refine am_subp [1] rfl ?_
      exact K _ hm
    · replace hm := am_if hm hc1
      refine am_steps ck_X8_ownEntries 1 (pc' := 11) (lv' := [(0, .ref 3), (1, .int z1), (2, .int z2)]) (st' := [.ref 3]) rfl ?_
      refine ms_getr (ci := 6) (k := 0) (v := 4) (am_fd ck_X8_ownEntries (pc := 11) rfl) tw_190 kc_3 rfl (ly_3_0 hL) (kO og4) ?_
      refine am_steps ck_X8_ownEntries 1 (pc' := 15) (lv' := [(0, .ref 3), (1, .int z1), (2, .int z2)]) (st' := [.int z2, .ref 4]) rfl ?_
      obtain ⟨q2, hq2, hm⟩ := am_bE hm
      refine ms_callV (M2 := mt_X1_isThere) (d2 := 1) (ci := 1) [.int z2] (am_fd ck_X8_ownEntries (pc := 15) rfl) ok_X1_isThere tw_231 tw_232 tw_233 (by decide) (kO og4) (Nat.le_of_ble_eq_true rfl) (Nat.le_of_ble_eq_true rfl) (x_X1_isThere hL og4 hq2) ?_
      refine am_ifc (tgt := 36) (am_fd ck_X8_ownEntries (pc := 18) rfl) rfl (fun hc3 => ?_) (fun hc3 => ?_)
      · replace hm := am_it hm hc3
        refine am_steps ck_X8_ownEntries 2 (pc' := 4) (lv' := [(2, .int (z2 + am_i 1)), (0, .ref 3), (1, .int z1)]) (st' := []) rfl ?_
        refine am_subp [1, 2, 0] rfl ?_
        exact ih _ _ hm K
      · replace hm := am_if hm hc3
        refine am_steps ck_X8_ownEntries 2 (pc' := 23) (lv' := [(0, .ref 3), (1, .int z1), (2, .int z2)]) (st' := [.ref 3, .int z1]) rfl ?_
        refine ms_getr (ci := 6) (k := 0) (v := 4) (am_fd ck_X8_ownEntries (pc := 23) rfl) tw_190 kc_3 rfl (ly_3_0 hL) (kO og4) ?_
        refine ms_getr (ci := 1) (k := 2) (v := (4 + 3)) (am_fd ck_X8_ownEntries (pc := 26) rfl) tw_43 (kO og4) rfl (lyO2 hL og4) (kWo og4) ?_
        refine am_steps ck_X8_ownEntries 1 (pc' := 30) (lv' := [(0, .ref 3), (1, .int z1), (2, .int z2)]) (st' := [.int z2, .ref (4 + 3), .int z1]) rfl ?_
        obtain ⟨hb4, hm⟩ := am_gE hm
        refine ms_rald (n := 24) (v := (aW 4 (am_ix z2))) (am_fd ck_X8_ownEntries (pc := 30) rfl) (kWo og4) hb4 (lyW hL og4 (am_ixl hb4)) (kW og4 (am_ixl hb4)) ?_
        obtain ⟨q5, hq5, hm⟩ := am_bE hm
        refine ms_callS (M2 := mt_X5_allOf) (d2 := 2) [.ref (aW 4 (am_ix z2))] (am_fd ck_X8_ownEntries (pc := 31) rfl) ok_X5_allOf tw_585 tw_586 (Nat.le_of_ble_eq_true rfl) (Nat.le_of_ble_eq_true rfl) (x_X5_allOf hL (kW og4 (am_ixl hb4)) hq5) ?_
        refine am_steps ck_X8_ownEntries 4 (pc' := 4) (lv' := [(2, .int (z2 + am_i 1)), (1, .int (z1 + q5)), (0, .ref 3)]) (st' := []) rfl ?_
        refine am_subp [2, 1, 0] rfl ?_
        exact ih _ _ hm K
set_option maxRecDepth 100000 in
set_option maxHeartbeats 4000000 in
theorem x_X8_ownEntries {G : am_G} {m : am_m} {r : am_rr} {res : Int32} (hL : am_Lay r) (hm : m_X8_ownEntries m  = some res) : am_Met G mt_X8_ownEntries 3 [.ref 3] (am_hh m r) (some (.int res)) (am_hh m r) := by
  refine am_of (by decide) (Nat.le_of_ble_eq_true rfl) ?_
  unfold m_X8_ownEntries at hm
  show am_W G mt_X8_ownEntries 3 _ _ 0 [(0, .ref 3)] [] (am_hh m r)
  refine am_steps ck_X8_ownEntries 4 (pc' := 4) (lv' := [(2, .int (am_i 0)), (1, .int (am_i 0)), (0, .ref 3)]) (st' := []) rfl ?_
  refine am_subp [2, 1, 0] rfl ?_
  refine x_X8_ownEntries_4 hL am_F _ _ hm (fun u6 hm => ?_)
  refine am_steps ck_X8_ownEntries 1 (pc' := 43) (lv' := [(1, .int u6)]) (st' := [.int u6]) rfl ?_
  cases hm
  exact am_end (am_fd ck_X8_ownEntries (pc := 43) rfl) am_rI rfl rfl
set_option maxRecDepth 100000 in
set_option maxHeartbeats 4000000 in
theorem x_X8_rightSet_15 {G : am_G} {m : am_m} {r : am_rr} {res : Int32 × am_m} {k : Int32 → Option (Int32 × am_m)} (hL : am_Lay r) : ∀ (n : Nat) (z1 : Int32) (z2 : Int32), m_X8_rightSet_15 m k n z1 z2 = some res → (∀ (u1 : Int32), k u1 = some res → am_W G mt_X8_rightSet 5 (some (.int res.1)) (am_hh res.2 r) 65 [(1, .int u1)] [] (am_hh m r)) → am_W G mt_X8_rightSet 5 (some (.int res.1)) (am_hh res.2 r) 15 [(0, .ref 3), (1, .int z1), (2, .int z2)] [] (am_hh m r) := by
  intro n
  induction n with
  | zero => intro z1 z2 hm K; cases hm
  | succ n ih =>
    intro z1 z2 hm K
    unfold m_X8_rightSet_15 at hm
    refine am_steps ck_X8_rightSet 2 (pc' := 18) (lv' := [(0, .ref 3), (1, .int z1), (2, .int z2)]) (st' := [.int (am_i 24), .int z2]) rfl ?_
    refine am_icmp (tgt := 65) (am_fd ck_X8_rightSet (pc := 18) rfl) rfl (fun hc2 => ?_) (fun hc2 => ?_)
    · replace hm := am_it hm hc2
      refine am_subp [1] rfl ?_
      exact K _ hm
    · replace hm := am_if hm hc2
      refine am_steps ck_X8_rightSet 1 (pc' := 22) (lv' := [(0, .ref 3), (1, .int z1), (2, .int z2)]) (st' := [.ref 3]) rfl ?_
      refine ms_getr (ci := 6) (k := 0) (v := 4) (am_fd ck_X8_rightSet (pc := 22) rfl) tw_190 kc_3 rfl (ly_3_0 hL) (kO og4) ?_
      refine am_steps ck_X8_rightSet 1 (pc' := 26) (lv' := [(0, .ref 3), (1, .int z1), (2, .int z2)]) (st' := [.int z2, .ref 4]) rfl ?_
      obtain ⟨q3, hq3, hm⟩ := am_bE hm
      refine ms_callV (M2 := mt_X1_isThere) (d2 := 1) (ci := 1) [.int z2] (am_fd ck_X8_rightSet (pc := 26) rfl) ok_X1_isThere tw_231 tw_232 tw_233 (by decide) (kO og4) (Nat.le_of_ble_eq_true rfl) (Nat.le_of_ble_eq_true rfl) (x_X1_isThere hL og4 hq3) ?_
      refine am_ifc (tgt := 59) (am_fd ck_X8_rightSet (pc := 29) rfl) rfl (fun hc4 => ?_) (fun hc4 => ?_)
      · replace hm := am_it hm hc4
        refine am_steps ck_X8_rightSet 2 (pc' := 15) (lv' := [(2, .int (z2 + am_i 1)), (0, .ref 3), (1, .int z1)]) (st' := []) rfl ?_
        refine am_subp [1, 2, 0] rfl ?_
        exact ih _ _ hm K
      · replace hm := am_if hm hc4
        refine am_steps ck_X8_rightSet 1 (pc' := 33) (lv' := [(0, .ref 3), (1, .int z1), (2, .int z2)]) (st' := [.ref 3]) rfl ?_
        refine ms_getr (ci := 6) (k := 0) (v := 4) (am_fd ck_X8_rightSet (pc := 33) rfl) tw_190 kc_3 rfl (ly_3_0 hL) (kO og4) ?_
        refine ms_getr (ci := 1) (k := 3) (v := (4 + 28)) (am_fd ck_X8_rightSet (pc := 36) rfl) tw_48 (kO og4) rfl (lyO3 hL og4) (kXo og4) ?_
        refine am_steps ck_X8_rightSet 1 (pc' := 40) (lv' := [(0, .ref 3), (1, .int z1), (2, .int z2)]) (st' := [.int z2, .ref (4 + 28)]) rfl ?_
        obtain ⟨hb5, hm⟩ := am_gE hm
        refine ms_rald (n := 24) (v := (aX 4 (am_ix z2))) (am_fd ck_X8_rightSet (pc := 40) rfl) (kXo og4) hb5 (lyX hL og4 (am_ixl hb5)) (kX og4 (am_ixl hb5)) ?_
        refine am_steps ck_X8_rightSet 1 (pc' := 42) (lv' := [(0, .ref 3), (1, .int z1), (2, .int z2)]) (st' := [.ref 3, .ref (aX 4 (am_ix z2))]) rfl ?_
        refine ms_getr (ci := 6) (k := 8) (v := 2988) (am_fd ck_X8_rightSet (pc := 42) rfl) tw_198 kc_3 rfl (ly_3_8 hL) kc_2988 ?_
        refine am_steps ck_X8_rightSet 1 (pc' := 46) (lv' := [(0, .ref 3), (1, .int z1), (2, .int z2)]) (st' := [.int z2, .ref 2988, .ref (aX 4 (am_ix z2))]) rfl ?_
        obtain ⟨hb6, hm⟩ := am_gE hm
        refine ms_rald (n := 24) (v := (aR (am_ix z2))) (am_fd ck_X8_rightSet (pc := 46) rfl) kc_2988 hb6 (hL.2.1 _ (am_ixl hb6)) (am_rw _ (am_ixl hb6)) ?_
        obtain ⟨q7, hq7, hm⟩ := am_bE hm
        refine ms_callS (M2 := mt_X5_unlikeness) (d2 := 1) [.ref (aX 4 (am_ix z2)), .ref (aR (am_ix z2))] (am_fd ck_X8_rightSet (pc := 47) rfl) ok_X5_unlikeness tw_579 tw_580 (Nat.le_of_ble_eq_true rfl) (Nat.le_of_ble_eq_true rfl) (x_X5_unlikeness hL (kX og4 (am_ixl hb5)) (am_rw _ (am_ixl hb6)) hq7) ?_
        refine am_ifc (tgt := 59) (am_fd ck_X8_rightSet (pc := 50) rfl) rfl (fun hc8 => ?_) (fun hc8 => ?_)
        · replace hm := am_it hm hc8
          refine am_steps ck_X8_rightSet 2 (pc' := 15) (lv' := [(2, .int (z2 + am_i 1)), (0, .ref 3), (1, .int z1)]) (st' := []) rfl ?_
          refine am_subp [1, 2, 0] rfl ?_
          exact ih _ _ hm K
        · replace hm := am_if hm hc8
          refine am_steps ck_X8_rightSet 8 (pc' := 15) (lv' := [(2, .int (z2 + am_i 1)), (1, .int (z1 ||| ((am_i 1) <<< (z2 &&& 31)))), (0, .ref 3)]) (st' := []) rfl ?_
          refine am_subp [2, 1, 0] rfl ?_
          exact ih _ _ hm K
set_option maxRecDepth 100000 in
set_option maxHeartbeats 4000000 in
theorem x_X8_rightSet {G : am_G} {m : am_m} {r : am_rr} {res : Int32 × am_m} (hL : am_Lay r) (hm : m_X8_rightSet m  = some res) : am_Met G mt_X8_rightSet 5 [.ref 3] (am_hh m r) (some (.int res.1)) (am_hh res.2 r) := by
  refine am_of (by decide) (Nat.le_of_ble_eq_true rfl) ?_
  unfold m_X8_rightSet at hm
  show am_W G mt_X8_rightSet 5 _ _ 0 [(0, .ref 3)] [] (am_hh m r)
  refine am_steps ck_X8_rightSet 1 (pc' := 1) (lv' := [(0, .ref 3)]) (st' := [.ref 3]) rfl ?_
  refine ms_getr (ci := 6) (k := 0) (v := 4) (am_fd ck_X8_rightSet (pc := 1) rfl) tw_190 kc_3 rfl (ly_3_0 hL) (kO og4) ?_
  refine am_steps ck_X8_rightSet 1 (pc' := 5) (lv' := [(0, .ref 3)]) (st' := [.ref 3, .ref 4]) rfl ?_
  refine ms_getr (ci := 6) (k := 8) (v := 2988) (am_fd ck_X8_rightSet (pc := 5) rfl) tw_198 kc_3 rfl (ly_3_8 hL) kc_2988 ?_
  obtain ⟨q1, hq1, hm⟩ := am_bE hm
  refine ms_callVv (M2 := mt_X1_sumBranches) (d2 := 4) (ci := 1) [.ref 2988] (am_fd ck_X8_rightSet (pc := 8) rfl) ok_X1_sumBranches tw_574 tw_575 tw_576 (by decide) (kO og4) (Nat.le_of_ble_eq_true rfl) (Nat.le_of_ble_eq_true rfl) (x_X1_sumBranches hL og4 hq1) ?_
  refine am_steps ck_X8_rightSet 4 (pc' := 15) (lv' := [(2, .int (am_i 0)), (1, .int (am_i 0)), (0, .ref 3)]) (st' := []) rfl ?_
  refine am_subp [2, 1, 0] rfl ?_
  refine x_X8_rightSet_15 hL am_F _ _ hm (fun u9 hm => ?_)
  refine am_steps ck_X8_rightSet 1 (pc' := 66) (lv' := [(1, .int u9)]) (st' := [.int u9]) rfl ?_
  cases hm
  exact am_end (am_fd ck_X8_rightSet (pc := 66) rfl) am_rI rfl rfl
set_option maxRecDepth 100000 in
set_option maxHeartbeats 4000000 in
theorem x_X8_sumNodes_4 {G : am_G} {m : am_m} {r : am_rr} {res : Int32} {k : Int32 → Option (Int32)} (hL : am_Lay r) : ∀ (n : Nat) (z1 : Int32) (z2 : Int32), m_X8_sumNodes_4 m k n z1 z2 = some res → (∀ (u1 : Int32), k u1 = some res → am_W G mt_X8_sumNodes 4 (some (.int res)) (am_hh m r) 45 [(1, .int u1)] [] (am_hh m r)) → am_W G mt_X8_sumNodes 4 (some (.int res)) (am_hh m r) 4 [(0, .ref 3), (1, .int z1), (2, .int z2)] [] (am_hh m r) := by
  intro n
  induction n with
  | zero => intro z1 z2 hm K; cases hm
  | succ n ih =>
    intro z1 z2 hm K
    unfold m_X8_sumNodes_4 at hm
    refine am_steps ck_X8_sumNodes 2 (pc' := 7) (lv' := [(0, .ref 3), (1, .int z1), (2, .int z2)]) (st' := [.int (am_i 24), .int z2]) rfl ?_
    refine am_icmp (tgt := 45) (am_fd ck_X8_sumNodes (pc := 7) rfl) rfl (fun hc1 => ?_) (fun hc1 => ?_)
    · replace hm := am_it hm hc1
      refine am_subp [1] rfl ?_
      exact K _ hm
    · replace hm := am_if hm hc1
      refine am_steps ck_X8_sumNodes 1 (pc' := 11) (lv' := [(0, .ref 3), (1, .int z1), (2, .int z2)]) (st' := [.ref 3]) rfl ?_
      refine ms_getr (ci := 6) (k := 0) (v := 4) (am_fd ck_X8_sumNodes (pc := 11) rfl) tw_190 kc_3 rfl (ly_3_0 hL) (kO og4) ?_
      refine am_steps ck_X8_sumNodes 1 (pc' := 15) (lv' := [(0, .ref 3), (1, .int z1), (2, .int z2)]) (st' := [.int z2, .ref 4]) rfl ?_
      obtain ⟨q2, hq2, hm⟩ := am_bE hm
      refine ms_callV (M2 := mt_X1_isThere) (d2 := 1) (ci := 1) [.int z2] (am_fd ck_X8_sumNodes (pc := 15) rfl) ok_X1_isThere tw_231 tw_232 tw_233 (by decide) (kO og4) (Nat.le_of_ble_eq_true rfl) (Nat.le_of_ble_eq_true rfl) (x_X1_isThere hL og4 hq2) ?_
      refine am_ifc (tgt := 39) (am_fd ck_X8_sumNodes (pc := 18) rfl) rfl (fun hc3 => ?_) (fun hc3 => ?_)
      · replace hm := am_it hm hc3
        refine am_steps ck_X8_sumNodes 2 (pc' := 4) (lv' := [(2, .int (z2 + am_i 1)), (0, .ref 3), (1, .int z1)]) (st' := []) rfl ?_
        refine am_subp [1, 2, 0] rfl ?_
        exact ih _ _ hm K
      · replace hm := am_if hm hc3
        refine am_steps ck_X8_sumNodes 2 (pc' := 23) (lv' := [(0, .ref 3), (1, .int z1), (2, .int z2)]) (st' := [.ref 3, .int z1]) rfl ?_
        refine ms_getr (ci := 6) (k := 0) (v := 4) (am_fd ck_X8_sumNodes (pc := 23) rfl) tw_190 kc_3 rfl (ly_3_0 hL) (kO og4) ?_
        refine ms_getr (ci := 1) (k := 3) (v := (4 + 28)) (am_fd ck_X8_sumNodes (pc := 26) rfl) tw_48 (kO og4) rfl (lyO3 hL og4) (kXo og4) ?_
        refine am_steps ck_X8_sumNodes 1 (pc' := 30) (lv' := [(0, .ref 3), (1, .int z1), (2, .int z2)]) (st' := [.int z2, .ref (4 + 28), .int z1]) rfl ?_
        obtain ⟨hb4, hm⟩ := am_gE hm
        refine ms_rald (n := 24) (v := (aX 4 (am_ix z2))) (am_fd ck_X8_sumNodes (pc := 30) rfl) (kXo og4) hb4 (lyX hL og4 (am_ixl hb4)) (kX og4 (am_ixl hb4)) ?_
        obtain ⟨q5, hq5, hm⟩ := am_bE hm
        refine ms_callS (M2 := mt_X6_maskOf) (d2 := 1) [.ref (aX 4 (am_ix z2))] (am_fd ck_X8_sumNodes (pc := 31) rfl) ok_X6_maskOf tw_292 tw_293 (Nat.le_of_ble_eq_true rfl) (Nat.le_of_ble_eq_true rfl) (x_X6_maskOf hL (kX og4 (am_ixl hb4)) hq5) ?_
        obtain ⟨q6, hq6, hm⟩ := am_bE hm
        refine ms_callS (M2 := mt_X6_nodesOf) (d2 := 3) [.long q5] (am_fd ck_X8_sumNodes (pc := 34) rfl) ok_X6_nodesOf tw_589 tw_381 (Nat.le_of_ble_eq_true rfl) (Nat.le_of_ble_eq_true rfl) (x_X6_nodesOf hL hq6) ?_
        refine am_steps ck_X8_sumNodes 4 (pc' := 4) (lv' := [(2, .int (z2 + am_i 1)), (1, .int (z1 + q6)), (0, .ref 3)]) (st' := []) rfl ?_
        refine am_subp [2, 1, 0] rfl ?_
        exact ih _ _ hm K
set_option maxRecDepth 100000 in
set_option maxHeartbeats 4000000 in
theorem x_X8_sumNodes {G : am_G} {m : am_m} {r : am_rr} {res : Int32} (hL : am_Lay r) (hm : m_X8_sumNodes m  = some res) : am_Met G mt_X8_sumNodes 4 [.ref 3] (am_hh m r) (some (.int res)) (am_hh m r) := by
  refine am_of (by decide) (Nat.le_of_ble_eq_true rfl) ?_
  unfold m_X8_sumNodes at hm
  show am_W G mt_X8_sumNodes 4 _ _ 0 [(0, .ref 3)] [] (am_hh m r)
  refine am_steps ck_X8_sumNodes 4 (pc' := 4) (lv' := [(2, .int (am_i 0)), (1, .int (am_i 0)), (0, .ref 3)]) (st' := []) rfl ?_
  refine am_subp [2, 1, 0] rfl ?_
  refine x_X8_sumNodes_4 hL am_F _ _ hm (fun u7 hm => ?_)
  refine am_steps ck_X8_sumNodes 1 (pc' := 46) (lv' := [(1, .int u7)]) (st' := [.int u7]) rfl ?_
  cases hm
  exact am_end (am_fd ck_X8_sumNodes (pc := 46) rfl) am_rI rfl rfl
set_option maxRecDepth 100000 in
set_option maxHeartbeats 4000000 in
theorem x_X8_unusedCategories_4 {G : am_G} {m : am_m} {r : am_rr} {res : Int32} {k : Int64 → Option (Int32)} (hL : am_Lay r) : ∀ (n : Nat) (z1 : Int64) (z3 : Int32), m_X8_unusedCategories_4 m k n z1 z3 = some res → (∀ (u1 : Int64), k u1 = some res → am_W G mt_X8_unusedCategories 2 (some (.int res)) (am_hh m r) 42 [(1, .long u1)] [] (am_hh m r)) → am_W G mt_X8_unusedCategories 2 (some (.int res)) (am_hh m r) 4 [(0, .ref 3), (1, .long z1), (3, .int z3)] [] (am_hh m r) := by
  intro n
  induction n with
  | zero => intro z1 z3 hm K; cases hm
  | succ n ih =>
    intro z1 z3 hm K
    unfold m_X8_unusedCategories_4 at hm
    refine am_steps ck_X8_unusedCategories 2 (pc' := 7) (lv' := [(0, .ref 3), (1, .long z1), (3, .int z3)]) (st' := [.int (am_i 24), .int z3]) rfl ?_
    refine am_icmp (tgt := 42) (am_fd ck_X8_unusedCategories (pc := 7) rfl) rfl (fun hc1 => ?_) (fun hc1 => ?_)
    · replace hm := am_it hm hc1
      refine am_subp [1] rfl ?_
      exact K _ hm
    · replace hm := am_if hm hc1
      refine am_steps ck_X8_unusedCategories 1 (pc' := 11) (lv' := [(0, .ref 3), (1, .long z1), (3, .int z3)]) (st' := [.ref 3]) rfl ?_
      refine ms_getr (ci := 6) (k := 0) (v := 4) (am_fd ck_X8_unusedCategories (pc := 11) rfl) tw_190 kc_3 rfl (ly_3_0 hL) (kO og4) ?_
      refine am_steps ck_X8_unusedCategories 1 (pc' := 15) (lv' := [(0, .ref 3), (1, .long z1), (3, .int z3)]) (st' := [.int z3, .ref 4]) rfl ?_
      obtain ⟨q2, hq2, hm⟩ := am_bE hm
      refine ms_callV (M2 := mt_X1_isThere) (d2 := 1) (ci := 1) [.int z3] (am_fd ck_X8_unusedCategories (pc := 15) rfl) ok_X1_isThere tw_231 tw_232 tw_233 (by decide) (kO og4) (Nat.le_of_ble_eq_true rfl) (Nat.le_of_ble_eq_true rfl) (x_X1_isThere hL og4 hq2) ?_
      refine am_ifc (tgt := 36) (am_fd ck_X8_unusedCategories (pc := 18) rfl) rfl (fun hc3 => ?_) (fun hc3 => ?_)
      · replace hm := am_it hm hc3
        refine am_steps ck_X8_unusedCategories 2 (pc' := 4) (lv' := [(3, .int (z3 + am_i 1)), (0, .ref 3), (1, .long z1)]) (st' := []) rfl ?_
        refine am_subp [1, 2, 0] rfl ?_
        exact ih _ _ hm K
      · replace hm := am_if hm hc3
        refine am_steps ck_X8_unusedCategories 2 (pc' := 23) (lv' := [(0, .ref 3), (1, .long z1), (3, .int z3)]) (st' := [.ref 3, .long z1]) rfl ?_
        refine ms_getr (ci := 6) (k := 0) (v := 4) (am_fd ck_X8_unusedCategories (pc := 23) rfl) tw_190 kc_3 rfl (ly_3_0 hL) (kO og4) ?_
        refine ms_getr (ci := 1) (k := 2) (v := (4 + 3)) (am_fd ck_X8_unusedCategories (pc := 26) rfl) tw_43 (kO og4) rfl (lyO2 hL og4) (kWo og4) ?_
        refine am_steps ck_X8_unusedCategories 1 (pc' := 30) (lv' := [(0, .ref 3), (1, .long z1), (3, .int z3)]) (st' := [.int z3, .ref (4 + 3), .long z1]) rfl ?_
        obtain ⟨hb4, hm⟩ := am_gE hm
        refine ms_rald (n := 24) (v := (aW 4 (am_ix z3))) (am_fd ck_X8_unusedCategories (pc := 30) rfl) (kWo og4) hb4 (lyW hL og4 (am_ixl hb4)) (kW og4 (am_ixl hb4)) ?_
        obtain ⟨q5, hq5, hm⟩ := am_bE hm
        refine ms_callS (M2 := mt_X6_maskOf) (d2 := 1) [.ref (aW 4 (am_ix z3))] (am_fd ck_X8_unusedCategories (pc := 31) rfl) ok_X6_maskOf tw_292 tw_293 (Nat.le_of_ble_eq_true rfl) (Nat.le_of_ble_eq_true rfl) (x_X6_maskOf hL (kW og4 (am_ixl hb4)) hq5) ?_
        refine am_steps ck_X8_unusedCategories 4 (pc' := 4) (lv' := [(3, .int (z3 + am_i 1)), (1, .long (z1 ||| q5)), (0, .ref 3)]) (st' := []) rfl ?_
        refine am_subp [2, 1, 0] rfl ?_
        exact ih _ _ hm K
set_option maxRecDepth 100000 in
set_option maxHeartbeats 4000000 in
theorem x_X8_unusedCategories {G : am_G} {m : am_m} {r : am_rr} {res : Int32} (hL : am_Lay r) (hm : m_X8_unusedCategories m  = some res) : am_Met G mt_X8_unusedCategories 2 [.ref 3] (am_hh m r) (some (.int res)) (am_hh m r) := by
  refine am_of (by decide) (Nat.le_of_ble_eq_true rfl) ?_
  unfold m_X8_unusedCategories at hm
  show am_W G mt_X8_unusedCategories 2 _ _ 0 [(0, .ref 3)] [] (am_hh m r)
  refine am_steps ck_X8_unusedCategories 4 (pc' := 4) (lv' := [(3, .int (am_i 0)), (1, .long (Int64.ofNat 0)), (0, .ref 3)]) (st' := []) rfl ?_
  refine am_subp [2, 1, 0] rfl ?_
  refine x_X8_unusedCategories_4 hL am_F _ _ hm (fun u6 hm => ?_)
  refine am_steps ck_X8_unusedCategories 2 (pc' := 45) (lv' := [(1, .long u6)]) (st' := [.long u6, .int (am_i 64)]) rfl ?_
  obtain ⟨q7, hq7, hm⟩ := am_bE hm
  refine ms_callS (M2 := mt_J13_bitCount_95d88) (d2 := 1) [.long u6] (am_fd ck_X8_unusedCategories (pc := 45) rfl) ok_J13_bitCount_95d88 tw_590 tw_301 (Nat.le_of_ble_eq_true rfl) (Nat.le_of_ble_eq_true rfl) (x_J13_bitCount_95d88 hL hq7) ?_
  refine am_steps ck_X8_unusedCategories 1 (pc' := 49) (lv' := [(1, .long u6)]) (st' := [.int ((am_i 64) - q7)]) rfl ?_
  cases hm
  exact am_end (am_fd ck_X8_unusedCategories (pc := 49) rfl) am_rI rfl rfl
theorem sw_X8_look_1 : decode mt_X8_look.2.1 1 = .ok (.tableswitch 157 0 12 #[67, 75, 83, 88, 99, 108, 116, 124, 129, 134, 139, 147, 152], 67) := by decide +kernel
set_option maxRecDepth 100000 in
set_option maxHeartbeats 4000000 in
theorem x_X8_look {G : am_G} {m : am_m} {r : am_rr} {x1 : Int32} {res : Int32 × am_m} (hL : am_Lay r) (hm : m_X8_look m x1 = some res) : am_Met G mt_X8_look 6 [.ref 3, .int x1] (am_hh m r) (some (.int res.1)) (am_hh res.2 r) := by
  refine am_of (by decide) (Nat.le_of_ble_eq_true rfl) ?_
  unfold m_X8_look at hm
  show am_W G mt_X8_look 6 _ _ 0 [(0, .ref 3), (1, .int x1)] [] (am_hh m r)
  refine am_steps ck_X8_look 1 (pc' := 1) (lv' := [(0, .ref 3), (1, .int x1)]) (st' := [.int x1]) rfl ?_
  by_cases hs2 : x1 = am_i 0
  · replace hm := am_it hm hs2
    refine ms_sw (v := 0) (off := 67) (tgt := 68) sw_X8_look_1 hs2 (by decide) (by decide) (by decide) rfl rfl ?_
    refine am_steps ck_X8_look 1 (pc' := 69) (lv' := [(0, .ref 3), (1, .int x1)]) (st' := [.ref 3]) rfl ?_
    refine ms_getr (ci := 6) (k := 0) (v := 4) (am_fd ck_X8_look (pc := 69) rfl) tw_190 kc_3 rfl (ly_3_0 hL) (kO og4) ?_
    obtain ⟨q1, hq1, hm⟩ := am_bE hm
    refine ms_callV (M2 := mt_X1_thereSet) (d2 := 2) (ci := 1) [] (am_fd ck_X8_look (pc := 72) rfl) ok_X1_thereSet tw_845 tw_474 tw_475 (by decide) (kO og4) (Nat.le_of_ble_eq_true rfl) (Nat.le_of_ble_eq_true rfl) (x_X1_thereSet hL og4 hq1) ?_
    cases hm
    exact am_end (am_fd ck_X8_look (pc := 75) rfl) am_rI rfl rfl
  · replace hm := am_if hm hs2
    by_cases hs4 : x1 = am_i 1
    · replace hm := am_it hm hs4
      refine ms_sw (v := 1) (off := 75) (tgt := 76) sw_X8_look_1 hs4 (by decide) (by decide) (by decide) rfl rfl ?_
      refine am_steps ck_X8_look 1 (pc' := 77) (lv' := [(0, .ref 3), (1, .int x1)]) (st' := [.ref 3]) rfl ?_
      refine ms_getr (ci := 6) (k := 0) (v := 4) (am_fd ck_X8_look (pc := 77) rfl) tw_190 kc_3 rfl (ly_3_0 hL) (kO og4) ?_
      obtain ⟨q3, hq3, hm⟩ := am_bE hm
      refine ms_callV (M2 := mt_X1_staleSet) (d2 := 2) (ci := 1) [] (am_fd ck_X8_look (pc := 80) rfl) ok_X1_staleSet tw_820 tw_821 tw_822 (by decide) (kO og4) (Nat.le_of_ble_eq_true rfl) (Nat.le_of_ble_eq_true rfl) (x_X1_staleSet hL og4 hq3) ?_
      cases hm
      exact am_end (am_fd ck_X8_look (pc := 83) rfl) am_rI rfl rfl
    · replace hm := am_if hm hs4
      by_cases hs6 : x1 = am_i 2
      · replace hm := am_it hm hs6
        refine ms_sw (v := 2) (off := 83) (tgt := 84) sw_X8_look_1 hs6 (by decide) (by decide) (by decide) rfl rfl ?_
        refine am_steps ck_X8_look 1 (pc' := 85) (lv' := [(0, .ref 3), (1, .int x1)]) (st' := [.ref 3]) rfl ?_
        obtain ⟨q5, hq5, hm⟩ := am_bE hm
        refine ms_callV (M2 := mt_X8_rightSet) (d2 := 5) (ci := 6) [] (am_fd ck_X8_look (pc := 85) rfl) ok_X8_rightSet tw_846 tw_848 ts_22 (by decide) kc_3 (Nat.le_of_ble_eq_true rfl) (Nat.le_of_ble_eq_true rfl) (x_X8_rightSet hL hq5) ?_
        cases hm
        exact am_end (am_fd ck_X8_look (pc := 88) rfl) am_rI rfl rfl
      · replace hm := am_if hm hs6
        by_cases hs9 : x1 = am_i 3
        · replace hm := am_it hm hs9
          refine ms_sw (v := 3) (off := 88) (tgt := 89) sw_X8_look_1 hs9 (by decide) (by decide) (by decide) rfl rfl ?_
          refine am_steps ck_X8_look 1 (pc' := 90) (lv' := [(0, .ref 3), (1, .int x1)]) (st' := [.ref 3]) rfl ?_
          refine ms_getr (ci := 6) (k := 0) (v := 4) (am_fd ck_X8_look (pc := 90) rfl) tw_190 kc_3 rfl (ly_3_0 hL) (kO og4) ?_
          obtain ⟨q7, hq7, hm⟩ := am_bE hm
          refine ms_callV (M2 := mt_X1_thereSet) (d2 := 2) (ci := 1) [] (am_fd ck_X8_look (pc := 93) rfl) ok_X1_thereSet tw_845 tw_474 tw_475 (by decide) (kO og4) (Nat.le_of_ble_eq_true rfl) (Nat.le_of_ble_eq_true rfl) (x_X1_thereSet hL og4 hq7) ?_
          obtain ⟨q8, hq8, hm⟩ := am_bE hm
          refine ms_callS (M2 := mt_J6_bitCount_0f7a4) (d2 := 1) [.int q7] (am_fd ck_X8_look (pc := 96) rfl) ok_J6_bitCount_0f7a4 tw_850 tw_478 (Nat.le_of_ble_eq_true rfl) (Nat.le_of_ble_eq_true rfl) (x_J6_bitCount_0f7a4 hL hq8) ?_
          cases hm
          exact am_end (am_fd ck_X8_look (pc := 99) rfl) am_rI rfl rfl
        · replace hm := am_if hm hs9
          by_cases hs11 : x1 = am_i 4
          · replace hm := am_it hm hs11
            refine ms_sw (v := 4) (off := 99) (tgt := 100) sw_X8_look_1 hs11 (by decide) (by decide) (by decide) rfl rfl ?_
            refine am_steps ck_X8_look 1 (pc' := 101) (lv' := [(0, .ref 3), (1, .int x1)]) (st' := [.ref 3]) rfl ?_
            refine ms_getr (ci := 6) (k := 0) (v := 4) (am_fd ck_X8_look (pc := 101) rfl) tw_190 kc_3 rfl (ly_3_0 hL) (kO og4) ?_
            refine am_steps ck_X8_look 1 (pc' := 105) (lv' := [(0, .ref 3), (1, .int x1)]) (st' := [.int (am_i 0), .ref 4]) rfl ?_
            obtain ⟨q10, hq10, hm⟩ := am_bE hm
            refine ms_callV (M2 := mt_X1_heightOf) (d2 := 4) (ci := 1) [.int (am_i 0)] (am_fd ck_X8_look (pc := 105) rfl) ok_X1_heightOf tw_851 tw_332 tw_333 (by decide) (kO og4) (Nat.le_of_ble_eq_true rfl) (Nat.le_of_ble_eq_true rfl) (x_X1_heightOf hL og4 hq10) ?_
            cases hm
            exact am_end (am_fd ck_X8_look (pc := 108) rfl) am_rI rfl rfl
          · replace hm := am_if hm hs11
            by_cases hs12 : x1 = am_i 5
            · replace hm := am_it hm hs12
              refine ms_sw (v := 5) (off := 108) (tgt := 109) sw_X8_look_1 hs12 (by decide) (by decide) (by decide) rfl rfl ?_
              refine am_steps ck_X8_look 1 (pc' := 110) (lv' := [(0, .ref 3), (1, .int x1)]) (st' := [.ref 3]) rfl ?_
              refine ms_getr (ci := 6) (k := 2) (v := 498) (am_fd ck_X8_look (pc := 110) rfl) tw_192 kc_3 rfl (ly_3_2 hL) kc_498 ?_
              refine ms_geti (ci := 2) (k := 2) (am_fd ck_X8_look (pc := 113) rfl) tw_80 kc_498 rfl ?_
              cases hm
              exact am_end (am_fd ck_X8_look (pc := 116) rfl) am_rI rfl rfl
            · replace hm := am_if hm hs12
              by_cases hs13 : x1 = am_i 6
              · replace hm := am_it hm hs13
                refine ms_sw (v := 6) (off := 116) (tgt := 117) sw_X8_look_1 hs13 (by decide) (by decide) (by decide) rfl rfl ?_
                refine am_steps ck_X8_look 1 (pc' := 118) (lv' := [(0, .ref 3), (1, .int x1)]) (st' := [.ref 3]) rfl ?_
                refine ms_getr (ci := 6) (k := 6) (v := 2984) (am_fd ck_X8_look (pc := 118) rfl) tw_196 kc_3 rfl (ly_3_6 hL) kc_2984 ?_
                refine ms_geti (ci := 5) (k := 1) (am_fd ck_X8_look (pc := 121) rfl) tw_152 kc_2984 rfl ?_
                cases hm
                exact am_end (am_fd ck_X8_look (pc := 124) rfl) am_rI rfl rfl
              · replace hm := am_if hm hs13
                by_cases hs15 : x1 = am_i 7
                · replace hm := am_it hm hs15
                  refine ms_sw (v := 7) (off := 124) (tgt := 125) sw_X8_look_1 hs15 (by decide) (by decide) (by decide) rfl rfl ?_
                  refine am_steps ck_X8_look 1 (pc' := 126) (lv' := [(0, .ref 3), (1, .int x1)]) (st' := [.ref 3]) rfl ?_
                  obtain ⟨q14, hq14, hm⟩ := am_bE hm
                  refine ms_callV (M2 := mt_X8_ownEntries) (d2 := 3) (ci := 6) [] (am_fd ck_X8_look (pc := 126) rfl) ok_X8_ownEntries tw_852 tw_854 ts_23 (by decide) kc_3 (Nat.le_of_ble_eq_true rfl) (Nat.le_of_ble_eq_true rfl) (x_X8_ownEntries hL hq14) ?_
                  cases hm
                  exact am_end (am_fd ck_X8_look (pc := 129) rfl) am_rI rfl rfl
                · replace hm := am_if hm hs15
                  by_cases hs17 : x1 = am_i 8
                  · replace hm := am_it hm hs17
                    refine ms_sw (v := 8) (off := 129) (tgt := 130) sw_X8_look_1 hs17 (by decide) (by decide) (by decide) rfl rfl ?_
                    refine am_steps ck_X8_look 1 (pc' := 131) (lv' := [(0, .ref 3), (1, .int x1)]) (st' := [.ref 3]) rfl ?_
                    obtain ⟨q16, hq16, hm⟩ := am_bE hm
                    refine ms_callV (M2 := mt_X8_sumNodes) (d2 := 4) (ci := 6) [] (am_fd ck_X8_look (pc := 131) rfl) ok_X8_sumNodes tw_856 tw_858 ts_24 (by decide) kc_3 (Nat.le_of_ble_eq_true rfl) (Nat.le_of_ble_eq_true rfl) (x_X8_sumNodes hL hq16) ?_
                    cases hm
                    exact am_end (am_fd ck_X8_look (pc := 134) rfl) am_rI rfl rfl
                  · replace hm := am_if hm hs17
                    by_cases hs19 : x1 = am_i 9
                    · replace hm := am_it hm hs19
                      refine ms_sw (v := 9) (off := 134) (tgt := 135) sw_X8_look_1 hs19 (by decide) (by decide) (by decide) rfl rfl ?_
                      refine am_steps ck_X8_look 1 (pc' := 136) (lv' := [(0, .ref 3), (1, .int x1)]) (st' := [.ref 3]) rfl ?_
                      obtain ⟨q18, hq18, hm⟩ := am_bE hm
                      refine ms_callV (M2 := mt_X8_unusedCategories) (d2 := 2) (ci := 6) [] (am_fd ck_X8_look (pc := 136) rfl) ok_X8_unusedCategories tw_860 tw_862 ts_25 (by decide) kc_3 (Nat.le_of_ble_eq_true rfl) (Nat.le_of_ble_eq_true rfl) (x_X8_unusedCategories hL hq18) ?_
                      cases hm
                      exact am_end (am_fd ck_X8_look (pc := 139) rfl) am_rI rfl rfl
                    · replace hm := am_if hm hs19
                      by_cases hs20 : x1 = am_i 10
                      · replace hm := am_it hm hs20
                        refine ms_sw (v := 10) (off := 139) (tgt := 140) sw_X8_look_1 hs20 (by decide) (by decide) (by decide) rfl rfl ?_
                        refine am_steps ck_X8_look 1 (pc' := 141) (lv' := [(0, .ref 3), (1, .int x1)]) (st' := [.ref 3]) rfl ?_
                        refine ms_getr (ci := 6) (k := 3) (v := 2970) (am_fd ck_X8_look (pc := 141) rfl) tw_193 kc_3 rfl (ly_3_3 hL) (kB bk2970).1 ?_
                        refine ms_geti (ci := 0) (k := 5) (am_fd ck_X8_look (pc := 144) rfl) tw_105 (kB bk2970).1 rfl ?_
                        cases hm
                        exact am_end (am_fd ck_X8_look (pc := 147) rfl) am_rI rfl rfl
                      · replace hm := am_if hm hs20
                        by_cases hs22 : x1 = am_i 11
                        · replace hm := am_it hm hs22
                          refine ms_sw (v := 11) (off := 147) (tgt := 148) sw_X8_look_1 hs22 (by decide) (by decide) (by decide) rfl rfl ?_
                          refine am_steps ck_X8_look 1 (pc' := 149) (lv' := [(0, .ref 3), (1, .int x1)]) (st' := [.ref 3]) rfl ?_
                          obtain ⟨q21, hq21, hm⟩ := am_bE hm
                          refine ms_callV (M2 := mt_X8_brokenCount) (d2 := 3) (ci := 6) [] (am_fd ck_X8_look (pc := 149) rfl) ok_X8_brokenCount tw_513 tw_515 ts_15 (by decide) kc_3 (Nat.le_of_ble_eq_true rfl) (Nat.le_of_ble_eq_true rfl) (x_X8_brokenCount hL hq21) ?_
                          cases hm
                          exact am_end (am_fd ck_X8_look (pc := 152) rfl) am_rI rfl rfl
                        · replace hm := am_if hm hs22
                          by_cases hs24 : x1 = am_i 12
                          · replace hm := am_it hm hs24
                            refine ms_sw (v := 12) (off := 152) (tgt := 153) sw_X8_look_1 hs24 (by decide) (by decide) (by decide) rfl rfl ?_
                            refine am_steps ck_X8_look 1 (pc' := 154) (lv' := [(0, .ref 3), (1, .int x1)]) (st' := [.ref 3]) rfl ?_
                            obtain ⟨q23, hq23, hm⟩ := am_bE hm
                            refine ms_callV (M2 := mt_X8_apartFromImage) (d2 := 1) (ci := 6) [] (am_fd ck_X8_look (pc := 154) rfl) ok_X8_apartFromImage tw_864 tw_866 ts_26 (by decide) kc_3 (Nat.le_of_ble_eq_true rfl) (Nat.le_of_ble_eq_true rfl) (x_X8_apartFromImage hL hq23) ?_
                            cases hm
                            exact am_end (am_fd ck_X8_look (pc := 157) rfl) am_rI rfl rfl
                          · replace hm := am_if hm hs24
                            refine ms_swd (tgt := 158) sw_X8_look_1 (fun j hj => ?_) rfl ?_
                            · have hj2 : j ≤ 12 := by omega
                              match j, hj2 with
                              | 0, _ => exact hs2
                              | 1, _ => exact hs4
                              | 2, _ => exact hs6
                              | 3, _ => exact hs9
                              | 4, _ => exact hs11
                              | 5, _ => exact hs12
                              | 6, _ => exact hs13
                              | 7, _ => exact hs15
                              | 8, _ => exact hs17
                              | 9, _ => exact hs19
                              | 10, _ => exact hs20
                              | 11, _ => exact hs22
                              | 12, _ => exact hs24
                              | j + 13, h9 => omega
                            · refine am_steps ck_X8_look 1 (pc' := 159) (lv' := [(0, .ref 3), (1, .int x1)]) (st' := [.int (am_i (-1))]) rfl ?_
                              cases hm
                              exact am_end (am_fd ck_X8_look (pc := 159) rfl) am_rI rfl rfl
set_option maxRecDepth 100000 in
set_option maxHeartbeats 4000000 in
theorem x_X9_isIn {G : am_G} {m : am_m} {r : am_rr} {x1 : Int32} {x2 : Int32} {x3 : Int32} {res : Int32} (hL : am_Lay r) (hm : m_X9_isIn m x1 x2 x3 = some res) : am_Met G mt_X9_isIn 1 [.int x1, .int x2, .int x3] (am_hh m r) (some (.int res)) (am_hh m r) := by
  refine am_of (by decide) (Nat.le_of_ble_eq_true rfl) ?_
  unfold m_X9_isIn at hm
  show am_W G mt_X9_isIn 1 _ _ 0 [(0, .int x1), (1, .int x2), (2, .int x3)] [] (am_hh m r)
  refine am_steps ck_X9_isIn 2 (pc' := 2) (lv' := [(0, .int x1), (1, .int x2), (2, .int x3)]) (st' := [.int x2, .int x1]) rfl ?_
  refine am_icmp (tgt := 14) (am_fd ck_X9_isIn (pc := 2) rfl) rfl (fun hc1 => ?_) (fun hc1 => ?_)
  · replace hm := am_it hm hc1
    refine am_steps ck_X9_isIn 1 (pc' := 15) (lv' := [(0, .int x1), (1, .int x2), (2, .int x3)]) (st' := [.int (am_i 0)]) rfl ?_
    cases hm
    exact am_end (am_fd ck_X9_isIn (pc := 15) rfl) am_rZ0 rfl rfl
  · replace hm := am_if hm hc1
    refine am_steps ck_X9_isIn 2 (pc' := 7) (lv' := [(0, .int x1), (1, .int x2), (2, .int x3)]) (st' := [.int x3, .int x1]) rfl ?_
    refine am_icmp (tgt := 14) (am_fd ck_X9_isIn (pc := 7) rfl) rfl (fun hc2 => ?_) (fun hc2 => ?_)
    · replace hm := am_it hm hc2
      refine am_steps ck_X9_isIn 1 (pc' := 15) (lv' := [(0, .int x1), (1, .int x2), (2, .int x3)]) (st' := [.int (am_i 0)]) rfl ?_
      cases hm
      exact am_end (am_fd ck_X9_isIn (pc := 15) rfl) am_rZ0 rfl rfl
    · replace hm := am_if hm hc2
      refine am_steps ck_X9_isIn 2 (pc' := 15) (lv' := [(0, .int x1), (1, .int x2), (2, .int x3)]) (st' := [.int (am_i 1)]) rfl ?_
      cases hm
      exact am_end (am_fd ck_X9_isIn (pc := 15) rfl) am_rZ1 rfl rfl
set_option maxRecDepth 100000 in
set_option maxHeartbeats 4000000 in
theorem x_X9_isUnit {G : am_G} {m : am_m} {r : am_rr} {x1 : Int32} {res : Int32} (hL : am_Lay r) (hm : m_X9_isUnit m x1 = some res) : am_Met G mt_X9_isUnit 2 [.ref 3261, .int x1] (am_hh m r) (some (.int res)) (am_hh m r) := by
  refine am_of (by decide) (Nat.le_of_ble_eq_true rfl) ?_
  unfold m_X9_isUnit at hm
  show am_W G mt_X9_isUnit 2 _ _ 0 [(0, .ref 3261), (1, .int x1)] [] (am_hh m r)
  refine am_steps ck_X9_isUnit 3 (pc' := 4) (lv' := [(0, .ref 3261), (1, .int x1)]) (st' := [.int (am_i 23), .int (am_i 0), .int x1]) rfl ?_
  obtain ⟨q1, hq1, hm⟩ := am_bE hm
  refine ms_callS (M2 := mt_X9_isIn) (d2 := 1) [.int x1, .int (am_i 0), .int (am_i 23)] (am_fd ck_X9_isUnit (pc := 4) rfl) ok_X9_isIn tw_953 tw_954 (Nat.le_of_ble_eq_true rfl) (Nat.le_of_ble_eq_true rfl) (x_X9_isIn hL hq1) ?_
  refine am_ifc (tgt := 26) (am_fd ck_X9_isUnit (pc := 7) rfl) rfl (fun hc2 => ?_) (fun hc2 => ?_)
  · replace hm := am_it hm hc2
    refine am_steps ck_X9_isUnit 1 (pc' := 27) (lv' := [(0, .ref 3261), (1, .int x1)]) (st' := [.int (am_i 0)]) rfl ?_
    cases hm
    exact am_end (am_fd ck_X9_isUnit (pc := 27) rfl) am_rZ0 rfl rfl
  · replace hm := am_if hm hc2
    refine am_steps ck_X9_isUnit 1 (pc' := 11) (lv' := [(0, .ref 3261), (1, .int x1)]) (st' := [.ref 3261]) rfl ?_
    refine ms_getr (ci := 7) (k := 0) (v := 3262) (am_fd ck_X9_isUnit (pc := 11) rfl) tw_875 kc_3261 rfl (ly_3261_0 hL) kc_3262 ?_
    refine am_steps ck_X9_isUnit 3 (pc' := 17) (lv' := [(0, .ref 3261), (1, .int x1)]) (st' := [.int ((am_i 0) + x1), .ref 3262]) rfl ?_
    obtain ⟨hb3, hm⟩ := am_gE hm
    refine ms_iald (n := 15517) (am_fd ck_X9_isUnit (pc := 17) rfl) kc_3262 hb3 ?_
    refine am_steps ck_X9_isUnit 1 (pc' := 19) (lv' := [(0, .ref 3261), (1, .int x1)]) (st' := [.int (am_i 1), .int (m 3262 (am_ix ((am_i 0) + x1)))]) rfl ?_
    refine am_icmp (tgt := 26) (am_fd ck_X9_isUnit (pc := 19) rfl) rfl (fun hc4 => ?_) (fun hc4 => ?_)
    · replace hm := am_it hm hc4
      refine am_steps ck_X9_isUnit 1 (pc' := 27) (lv' := [(0, .ref 3261), (1, .int x1)]) (st' := [.int (am_i 0)]) rfl ?_
      cases hm
      exact am_end (am_fd ck_X9_isUnit (pc := 27) rfl) am_rZ0 rfl rfl
    · replace hm := am_if hm hc4
      refine am_steps ck_X9_isUnit 2 (pc' := 27) (lv' := [(0, .ref 3261), (1, .int x1)]) (st' := [.int (am_i 1)]) rfl ?_
      cases hm
      exact am_end (am_fd ck_X9_isUnit (pc := 27) rfl) am_rZ1 rfl rfl
set_option maxRecDepth 100000 in
set_option maxHeartbeats 4000000 in
theorem x_X9_isCategory {G : am_G} {m : am_m} {r : am_rr} {x1 : Int32} {res : Int32} (hL : am_Lay r) (hm : m_X9_isCategory m x1 = some res) : am_Met G mt_X9_isCategory 2 [.int x1] (am_hh m r) (some (.int res)) (am_hh m r) := by
  refine am_of (by decide) (Nat.le_of_ble_eq_true rfl) ?_
  unfold m_X9_isCategory at hm
  show am_W G mt_X9_isCategory 2 _ _ 0 [(0, .int x1)] [] (am_hh m r)
  refine am_steps ck_X9_isCategory 3 (pc' := 4) (lv' := [(0, .int x1)]) (st' := [.int (am_i 63), .int (am_i 0), .int x1]) rfl ?_
  obtain ⟨q1, hq1, hm⟩ := am_bE hm
  refine ms_callS (M2 := mt_X9_isIn) (d2 := 1) [.int x1, .int (am_i 0), .int (am_i 63)] (am_fd ck_X9_isCategory (pc := 4) rfl) ok_X9_isIn tw_953 tw_954 (Nat.le_of_ble_eq_true rfl) (Nat.le_of_ble_eq_true rfl) (x_X9_isIn hL hq1) ?_
  obtain ⟨hb2, hm⟩ := am_gE hm
  cases hm
  exact am_end (am_fd ck_X9_isCategory (pc := 7) rfl) (am_rZ hb2) rfl rfl
set_option maxRecDepth 100000 in
set_option maxHeartbeats 4000000 in
theorem x_X9_ownAt {G : am_G} {m : am_m} {r : am_rr} {x1 : Int32} {res : Int32} (hL : am_Lay r) (hm : m_X9_ownAt m x1 = some res) : am_Met G mt_X9_ownAt 1 [.int x1] (am_hh m r) (some (.int res)) (am_hh m r) := by
  refine am_of (by decide) (Nat.le_of_ble_eq_true rfl) ?_
  unfold m_X9_ownAt at hm
  show am_W G mt_X9_ownAt 1 _ _ 0 [(0, .int x1)] [] (am_hh m r)
  refine am_steps ck_X9_ownAt 5 (pc' := 7) (lv' := [(0, .int x1)]) (st' := [.int ((am_i 72) + ((am_i 64) * x1))]) rfl ?_
  cases hm
  exact am_end (am_fd ck_X9_ownAt (pc := 7) rfl) am_rI rfl rfl
set_option maxRecDepth 100000 in
set_option maxHeartbeats 4000000 in
theorem x_X9_sumAt {G : am_G} {m : am_m} {r : am_rr} {x1 : Int32} {res : Int32} (hL : am_Lay r) (hm : m_X9_sumAt m x1 = some res) : am_Met G mt_X9_sumAt 1 [.int x1] (am_hh m r) (some (.int res)) (am_hh m r) := by
  refine am_of (by decide) (Nat.le_of_ble_eq_true rfl) ?_
  unfold m_X9_sumAt at hm
  show am_W G mt_X9_sumAt 1 _ _ 0 [(0, .int x1)] [] (am_hh m r)
  refine am_steps ck_X9_sumAt 5 (pc' := 8) (lv' := [(0, .int x1)]) (st' := [.int ((am_i 1608) + ((am_i 64) * x1))]) rfl ?_
  cases hm
  exact am_end (am_fd ck_X9_sumAt (pc := 8) rfl) am_rI rfl rfl
set_option maxRecDepth 100000 in
set_option maxHeartbeats 4000000 in
theorem x_X9_counts {G : am_G} {m : am_m} {r : am_rr} {x1 : Int32} {x2 : Int32} {res : am_m} (hL : am_Lay r) (hm : m_X9_counts m x1 x2 = some res) : am_Met G mt_X9_counts 1 [.ref 3261, .int x1, .int x2] (am_hh m r) none (am_hh res r) := by
  refine am_of (by decide) (Nat.le_of_ble_eq_true rfl) ?_
  unfold m_X9_counts at hm
  show am_W G mt_X9_counts 1 _ _ 0 [(0, .ref 3261), (1, .int x1), (2, .int x2)] [] (am_hh m r)
  refine am_steps ck_X9_counts 1 (pc' := 1) (lv' := [(0, .ref 3261), (1, .int x1), (2, .int x2)]) (st' := [.ref 3261]) rfl ?_
  refine ms_getr (ci := 7) (k := 0) (v := 3262) (am_fd ck_X9_counts (pc := 1) rfl) tw_875 kc_3261 rfl (ly_3261_0 hL) kc_3262 ?_
  refine am_steps ck_X9_counts 4 (pc' := 10) (lv' := [(0, .ref 3261), (1, .int x1), (2, .int x2)]) (st' := [.int ((am_i 15456) + x1), .ref 3262, .int ((am_i 15456) + x1), .ref 3262]) rfl ?_
  obtain ⟨hb1, hm⟩ := am_gE hm
  refine ms_iald (n := 15517) (am_fd ck_X9_counts (pc := 10) rfl) kc_3262 hb1 ?_
  refine am_steps ck_X9_counts 2 (pc' := 13) (lv' := [(0, .ref 3261), (1, .int x1), (2, .int x2)]) (st' := [.int ((m 3262 (am_ix ((am_i 15456) + x1))) + x2), .int ((am_i 15456) + x1), .ref 3262]) rfl ?_
  obtain ⟨hb2, hm⟩ := am_gE hm
  refine ms_iast (n := 15517) (am_fd ck_X9_counts (pc := 13) rfl) kc_3262 hb2 (fun m3 em3 => ?_)
  replace hm := am_letE em3 hm
  cases hm
  exact am_end (am_fd ck_X9_counts (pc := 14) rfl) am_rV rfl rfl
set_option maxRecDepth 100000 in
set_option maxHeartbeats 4000000 in
theorem x_X9_depth_12 {G : am_G} {x1 : Int32} {m : am_m} {r : am_rr} {res : Int32} {k : Int32 → Option (Int32)} (hL : am_Lay r) : ∀ (n : Nat) (z2 : Int32) (z3 : Int32), m_X9_depth_12 x1 m k n z2 z3 = some res → (∀ (u2 : Int32), k u2 = some res → am_W G mt_X9_depth 1 (some (.int res)) (am_hh m r) 33 [(2, .int u2)] [] (am_hh m r)) → am_W G mt_X9_depth 1 (some (.int res)) (am_hh m r) 12 [(0, .ref 3261), (2, .int z2), (3, .int z3)] [] (am_hh m r) := by
  intro n
  induction n with
  | zero => intro z2 z3 hm K; cases hm
  | succ n ih =>
    intro z2 z3 hm K
    unfold m_X9_depth_12 at hm
    refine am_steps ck_X9_depth 2 (pc' := 14) (lv' := [(0, .ref 3261), (2, .int z2), (3, .int z3)]) (st' := [.int (am_i (-1)), .int z3]) rfl ?_
    refine am_icmp (tgt := 33) (am_fd ck_X9_depth (pc := 14) rfl) rfl (fun hc2 => ?_) (fun hc2 => ?_)
    · replace hm := am_it hm hc2
      refine am_subp [1] rfl ?_
      exact K _ hm
    · replace hm := am_if hm hc2
      refine am_steps ck_X9_depth 2 (pc' := 21) (lv' := [(2, .int (z2 + am_i 1)), (0, .ref 3261), (3, .int z3)]) (st' := [.ref 3261]) rfl ?_
      refine ms_getr (ci := 7) (k := 0) (v := 3262) (am_fd ck_X9_depth (pc := 21) rfl) tw_875 kc_3261 rfl (ly_3261_0 hL) kc_3262 ?_
      refine am_steps ck_X9_depth 3 (pc' := 28) (lv' := [(2, .int (z2 + am_i 1)), (0, .ref 3261), (3, .int z3)]) (st' := [.int ((am_i 24) + z3), .ref 3262]) rfl ?_
      obtain ⟨hb3, hm⟩ := am_gE hm
      refine ms_iald (n := 15517) (am_fd ck_X9_depth (pc := 28) rfl) kc_3262 hb3 ?_
      refine am_steps ck_X9_depth 2 (pc' := 12) (lv' := [(3, .int (m 3262 (am_ix ((am_i 24) + z3)))), (2, .int (z2 + am_i 1)), (0, .ref 3261)]) (st' := []) rfl ?_
      refine am_subp [2, 1, 0] rfl ?_
      exact ih _ _ hm K
set_option maxRecDepth 100000 in
set_option maxHeartbeats 4000000 in
theorem x_X9_depth {G : am_G} {m : am_m} {r : am_rr} {x1 : Int32} {res : Int32} (hL : am_Lay r) (hm : m_X9_depth m x1 = some res) : am_Met G mt_X9_depth 1 [.ref 3261, .int x1] (am_hh m r) (some (.int res)) (am_hh m r) := by
  refine am_of (by decide) (Nat.le_of_ble_eq_true rfl) ?_
  unfold m_X9_depth at hm
  show am_W G mt_X9_depth 1 _ _ 0 [(0, .ref 3261), (1, .int x1)] [] (am_hh m r)
  refine am_steps ck_X9_depth 3 (pc' := 3) (lv' := [(2, .int (am_i 0)), (0, .ref 3261), (1, .int x1)]) (st' := [.ref 3261]) rfl ?_
  refine ms_getr (ci := 7) (k := 0) (v := 3262) (am_fd ck_X9_depth (pc := 3) rfl) tw_875 kc_3261 rfl (ly_3261_0 hL) kc_3262 ?_
  refine am_steps ck_X9_depth 3 (pc' := 10) (lv' := [(2, .int (am_i 0)), (0, .ref 3261), (1, .int x1)]) (st' := [.int ((am_i 24) + x1), .ref 3262]) rfl ?_
  obtain ⟨hb1, hm⟩ := am_gE hm
  refine ms_iald (n := 15517) (am_fd ck_X9_depth (pc := 10) rfl) kc_3262 hb1 ?_
  refine am_steps ck_X9_depth 1 (pc' := 12) (lv' := [(3, .int (m 3262 (am_ix ((am_i 24) + x1)))), (2, .int (am_i 0)), (0, .ref 3261), (1, .int x1)]) (st' := []) rfl ?_
  refine am_subp [2, 1, 0] rfl ?_
  refine x_X9_depth_12 hL am_F _ _ hm (fun u4 hm => ?_)
  refine am_steps ck_X9_depth 1 (pc' := 34) (lv' := [(2, .int u4)]) (st' := [.int u4]) rfl ?_
  cases hm
  exact am_end (am_fd ck_X9_depth (pc := 34) rfl) am_rI rfl rfl
set_option maxRecDepth 100000 in
set_option maxHeartbeats 4000000 in
theorem x_X9_isIn__2 {G : am_G} {x1 : Int32} {x2 : Int32} {m : am_m} {r : am_rr} {y2 : Int32} {res : Int32} {k : Int32 → Option (Int32)} (hL : am_Lay r) : ∀ (n : Nat) (z3 : Int32), m_X9_isIn__2 x1 x2 m y2 k n z3 = some res → (∀ (u3 : Int32), k u3 = some res → am_W G mt_X9_isIn_ 1 (some (.int res)) (am_hh m r) 25 [(2, .int y2), (3, .int u3)] [] (am_hh m r)) → am_W G mt_X9_isIn_ 1 (some (.int res)) (am_hh m r) 2 [(0, .ref 3261), (2, .int y2), (3, .int z3)] [] (am_hh m r) := by
  intro n
  induction n with
  | zero => intro z3 hm K; cases hm
  | succ n ih =>
    intro z3 hm K
    unfold m_X9_isIn__2 at hm
    refine am_steps ck_X9_isIn_ 2 (pc' := 4) (lv' := [(0, .ref 3261), (2, .int y2), (3, .int z3)]) (st' := [.int (am_i (-1)), .int z3]) rfl ?_
    refine am_icmp (tgt := 25) (am_fd ck_X9_isIn_ (pc := 4) rfl) rfl (fun hc1 => ?_) (fun hc1 => ?_)
    · replace hm := am_it hm hc1
      refine am_subp [1, 2] rfl ?_
      exact K _ hm
    · replace hm := am_if hm hc1
      refine am_steps ck_X9_isIn_ 2 (pc' := 9) (lv' := [(0, .ref 3261), (2, .int y2), (3, .int z3)]) (st' := [.int y2, .int z3]) rfl ?_
      refine am_icmp (tgt := 25) (am_fd ck_X9_isIn_ (pc := 9) rfl) rfl (fun hc2 => ?_) (fun hc2 => ?_)
      · replace hm := am_it hm hc2
        refine am_subp [1, 2] rfl ?_
        exact K _ hm
      · replace hm := am_if hm hc2
        refine am_steps ck_X9_isIn_ 1 (pc' := 13) (lv' := [(0, .ref 3261), (2, .int y2), (3, .int z3)]) (st' := [.ref 3261]) rfl ?_
        refine ms_getr (ci := 7) (k := 0) (v := 3262) (am_fd ck_X9_isIn_ (pc := 13) rfl) tw_875 kc_3261 rfl (ly_3261_0 hL) kc_3262 ?_
        refine am_steps ck_X9_isIn_ 3 (pc' := 20) (lv' := [(0, .ref 3261), (2, .int y2), (3, .int z3)]) (st' := [.int ((am_i 24) + z3), .ref 3262]) rfl ?_
        obtain ⟨hb3, hm⟩ := am_gE hm
        refine ms_iald (n := 15517) (am_fd ck_X9_isIn_ (pc := 20) rfl) kc_3262 hb3 ?_
        refine am_steps ck_X9_isIn_ 2 (pc' := 2) (lv' := [(3, .int (m 3262 (am_ix ((am_i 24) + z3)))), (0, .ref 3261), (2, .int y2)]) (st' := []) rfl ?_
        refine am_subp [1, 2, 0] rfl ?_
        exact ih _ hm K
set_option maxRecDepth 100000 in
set_option maxHeartbeats 4000000 in
theorem x_X9_isIn_ {G : am_G} {m : am_m} {r : am_rr} {x1 : Int32} {x2 : Int32} {res : Int32} (hL : am_Lay r) (hm : m_X9_isIn_ m x1 x2 = some res) : am_Met G mt_X9_isIn_ 1 [.ref 3261, .int x1, .int x2] (am_hh m r) (some (.int res)) (am_hh m r) := by
  refine am_of (by decide) (Nat.le_of_ble_eq_true rfl) ?_
  unfold m_X9_isIn_ at hm
  show am_W G mt_X9_isIn_ 1 _ _ 0 [(0, .ref 3261), (1, .int x1), (2, .int x2)] [] (am_hh m r)
  refine am_steps ck_X9_isIn_ 2 (pc' := 2) (lv' := [(3, .int x1), (0, .ref 3261), (1, .int x1), (2, .int x2)]) (st' := []) rfl ?_
  refine am_subp [1, 3, 0] rfl ?_
  refine x_X9_isIn__2 hL am_F _ hm (fun u4 hm => ?_)
  refine am_steps ck_X9_isIn_ 2 (pc' := 27) (lv' := [(2, .int x2), (3, .int u4)]) (st' := [.int x2, .int u4]) rfl ?_
  refine am_icmp (tgt := 34) (am_fd ck_X9_isIn_ (pc := 27) rfl) rfl (fun hc5 => ?_) (fun hc5 => ?_)
  · replace hm := am_it hm hc5
    refine am_steps ck_X9_isIn_ 1 (pc' := 35) (lv' := [(2, .int x2), (3, .int u4)]) (st' := [.int (am_i 0)]) rfl ?_
    cases hm
    exact am_end (am_fd ck_X9_isIn_ (pc := 35) rfl) am_rZ0 rfl rfl
  · replace hm := am_if hm hc5
    refine am_steps ck_X9_isIn_ 2 (pc' := 35) (lv' := [(2, .int x2), (3, .int u4)]) (st' := [.int (am_i 1)]) rfl ?_
    cases hm
    exact am_end (am_fd ck_X9_isIn_ (pc := 35) rfl) am_rZ1 rfl rfl
set_option maxRecDepth 100000 in
set_option maxHeartbeats 4000000 in
theorem x_X9_branchMany_4 {G : am_G} {x1 : Int32} {m : am_m} {r : am_rr} {y1 : Int32} {res : Int32} {k : Int32 → Option (Int32)} (hL : am_Lay r) : ∀ (n : Nat) (z2 : Int32) (z3 : Int32), m_X9_branchMany_4 x1 m y1 k n z2 z3 = some res → (∀ (u2 : Int32), k u2 = some res → am_W G mt_X9_branchMany 3 (some (.int res)) (am_hh m r) 41 [(2, .int u2)] [] (am_hh m r)) → am_W G mt_X9_branchMany 3 (some (.int res)) (am_hh m r) 4 [(0, .ref 3261), (1, .int y1), (2, .int z2), (3, .int z3)] [] (am_hh m r) := by
  intro n
  induction n with
  | zero => intro z2 z3 hm K; cases hm
  | succ n ih =>
    intro z2 z3 hm K
    unfold m_X9_branchMany_4 at hm
    refine am_steps ck_X9_branchMany 2 (pc' := 7) (lv' := [(0, .ref 3261), (1, .int y1), (2, .int z2), (3, .int z3)]) (st' := [.int (am_i 24), .int z3]) rfl ?_
    refine am_icmp (tgt := 41) (am_fd ck_X9_branchMany (pc := 7) rfl) rfl (fun hc1 => ?_) (fun hc1 => ?_)
    · replace hm := am_it hm hc1
      refine am_subp [2] rfl ?_
      exact K _ hm
    · replace hm := am_if hm hc1
      refine am_steps ck_X9_branchMany 3 (pc' := 13) (lv' := [(0, .ref 3261), (1, .int y1), (2, .int z2), (3, .int z3)]) (st' := [.int z3, .ref 3261, .int z2]) rfl ?_
      obtain ⟨q2, hq2, hm⟩ := am_bE hm
      refine ms_callV (M2 := mt_X9_isUnit) (d2 := 2) (ci := 7) [.int z3] (am_fd ck_X9_branchMany (pc := 13) rfl) ok_X9_isUnit tw_949 tw_951 ts_28 (by decide) kc_3261 (Nat.le_of_ble_eq_true rfl) (Nat.le_of_ble_eq_true rfl) (x_X9_isUnit hL hq2) ?_
      refine am_ifc (tgt := 32) (am_fd ck_X9_branchMany (pc := 16) rfl) rfl (fun hc3 => ?_) (fun hc3 => ?_)
      · replace hm := am_it hm hc3
        refine am_steps ck_X9_branchMany 5 (pc' := 4) (lv' := [(3, .int (z3 + am_i 1)), (2, .int (z2 + (am_i 0))), (0, .ref 3261), (1, .int y1)]) (st' := []) rfl ?_
        refine am_subp [2, 3, 1, 0] rfl ?_
        exact ih _ _ hm K
      · replace hm := am_if hm hc3
        refine am_steps ck_X9_branchMany 3 (pc' := 22) (lv' := [(0, .ref 3261), (1, .int y1), (2, .int z2), (3, .int z3)]) (st' := [.int y1, .int z3, .ref 3261, .int z2]) rfl ?_
        obtain ⟨q4, hq4, hm⟩ := am_bE hm
        refine ms_callV (M2 := mt_X9_isIn_) (d2 := 1) (ci := 7) [.int z3, .int y1] (am_fd ck_X9_branchMany (pc := 22) rfl) ok_X9_isIn_ tw_1019 tw_1021 ts_38 (by decide) kc_3261 (Nat.le_of_ble_eq_true rfl) (Nat.le_of_ble_eq_true rfl) (x_X9_isIn_ hL hq4) ?_
        refine am_ifc (tgt := 32) (am_fd ck_X9_branchMany (pc := 25) rfl) rfl (fun hc5 => ?_) (fun hc5 => ?_)
        · replace hm := am_it hm hc5
          refine am_steps ck_X9_branchMany 5 (pc' := 4) (lv' := [(3, .int (z3 + am_i 1)), (2, .int (z2 + (am_i 0))), (0, .ref 3261), (1, .int y1)]) (st' := []) rfl ?_
          refine am_subp [2, 3, 1, 0] rfl ?_
          exact ih _ _ hm K
        · replace hm := am_if hm hc5
          refine am_steps ck_X9_branchMany 6 (pc' := 4) (lv' := [(3, .int (z3 + am_i 1)), (2, .int (z2 + (am_i 1))), (0, .ref 3261), (1, .int y1)]) (st' := []) rfl ?_
          refine am_subp [2, 3, 1, 0] rfl ?_
          exact ih _ _ hm K
set_option maxRecDepth 100000 in
set_option maxHeartbeats 4000000 in
theorem x_X9_branchMany {G : am_G} {m : am_m} {r : am_rr} {x1 : Int32} {res : Int32} (hL : am_Lay r) (hm : m_X9_branchMany m x1 = some res) : am_Met G mt_X9_branchMany 3 [.ref 3261, .int x1] (am_hh m r) (some (.int res)) (am_hh m r) := by
  refine am_of (by decide) (Nat.le_of_ble_eq_true rfl) ?_
  unfold m_X9_branchMany at hm
  show am_W G mt_X9_branchMany 3 _ _ 0 [(0, .ref 3261), (1, .int x1)] [] (am_hh m r)
  refine am_steps ck_X9_branchMany 4 (pc' := 4) (lv' := [(3, .int (am_i 0)), (2, .int (am_i 0)), (0, .ref 3261), (1, .int x1)]) (st' := []) rfl ?_
  refine am_subp [2, 3, 1, 0] rfl ?_
  refine x_X9_branchMany_4 hL am_F _ _ hm (fun u6 hm => ?_)
  refine am_steps ck_X9_branchMany 1 (pc' := 42) (lv' := [(2, .int u6)]) (st' := [.int u6]) rfl ?_
  cases hm
  exact am_end (am_fd ck_X9_branchMany (pc := 42) rfl) am_rI rfl rfl
set_option maxRecDepth 100000 in
set_option maxHeartbeats 4000000 in
theorem x_X9_belowMany_4 {G : am_G} {x1 : Int32} {m : am_m} {r : am_rr} {y1 : Int32} {res : Int32} {k : Int32 → Option (Int32)} (hL : am_Lay r) : ∀ (n : Nat) (z2 : Int32) (z3 : Int32), m_X9_belowMany_4 x1 m y1 k n z2 z3 = some res → (∀ (u2 : Int32), k u2 = some res → am_W G mt_X9_belowMany 3 (some (.int res)) (am_hh m r) 45 [(2, .int u2)] [] (am_hh m r)) → am_W G mt_X9_belowMany 3 (some (.int res)) (am_hh m r) 4 [(0, .ref 3261), (1, .int y1), (2, .int z2), (3, .int z3)] [] (am_hh m r) := by
  intro n
  induction n with
  | zero => intro z2 z3 hm K; cases hm
  | succ n ih =>
    intro z2 z3 hm K
    unfold m_X9_belowMany_4 at hm
    refine am_steps ck_X9_belowMany 2 (pc' := 7) (lv' := [(0, .ref 3261), (1, .int y1), (2, .int z2), (3, .int z3)]) (st' := [.int (am_i 24), .int z3]) rfl ?_
    refine am_icmp (tgt := 45) (am_fd ck_X9_belowMany (pc := 7) rfl) rfl (fun hc1 => ?_) (fun hc1 => ?_)
    · replace hm := am_it hm hc1
      refine am_subp [2] rfl ?_
      exact K _ hm
    · replace hm := am_if hm hc1
      refine am_steps ck_X9_belowMany 3 (pc' := 13) (lv' := [(0, .ref 3261), (1, .int y1), (2, .int z2), (3, .int z3)]) (st' := [.int z3, .ref 3261, .int z2]) rfl ?_
      obtain ⟨q2, hq2, hm⟩ := am_bE hm
      refine ms_callV (M2 := mt_X9_isUnit) (d2 := 2) (ci := 7) [.int z3] (am_fd ck_X9_belowMany (pc := 13) rfl) ok_X9_isUnit tw_949 tw_951 ts_28 (by decide) kc_3261 (Nat.le_of_ble_eq_true rfl) (Nat.le_of_ble_eq_true rfl) (x_X9_isUnit hL hq2) ?_
      refine am_ifc (tgt := 36) (am_fd ck_X9_belowMany (pc := 16) rfl) rfl (fun hc3 => ?_) (fun hc3 => ?_)
      · replace hm := am_it hm hc3
        refine am_steps ck_X9_belowMany 5 (pc' := 4) (lv' := [(3, .int (z3 + am_i 1)), (2, .int (z2 + (am_i 0))), (0, .ref 3261), (1, .int y1)]) (st' := []) rfl ?_
        refine am_subp [2, 3, 1, 0] rfl ?_
        exact ih _ _ hm K
      · replace hm := am_if hm hc3
        refine am_steps ck_X9_belowMany 1 (pc' := 20) (lv' := [(0, .ref 3261), (1, .int y1), (2, .int z2), (3, .int z3)]) (st' := [.ref 3261, .int z2]) rfl ?_
        refine ms_getr (ci := 7) (k := 0) (v := 3262) (am_fd ck_X9_belowMany (pc := 20) rfl) tw_875 kc_3261 rfl (ly_3261_0 hL) kc_3262 ?_
        refine am_steps ck_X9_belowMany 3 (pc' := 27) (lv' := [(0, .ref 3261), (1, .int y1), (2, .int z2), (3, .int z3)]) (st' := [.int ((am_i 24) + z3), .ref 3262, .int z2]) rfl ?_
        obtain ⟨hb4, hm⟩ := am_gE hm
        refine ms_iald (n := 15517) (am_fd ck_X9_belowMany (pc := 27) rfl) kc_3262 hb4 ?_
        refine am_steps ck_X9_belowMany 1 (pc' := 29) (lv' := [(0, .ref 3261), (1, .int y1), (2, .int z2), (3, .int z3)]) (st' := [.int y1, .int (m 3262 (am_ix ((am_i 24) + z3))), .int z2]) rfl ?_
        refine am_icmp (tgt := 36) (am_fd ck_X9_belowMany (pc := 29) rfl) rfl (fun hc5 => ?_) (fun hc5 => ?_)
        · replace hm := am_it hm hc5
          refine am_steps ck_X9_belowMany 5 (pc' := 4) (lv' := [(3, .int (z3 + am_i 1)), (2, .int (z2 + (am_i 0))), (0, .ref 3261), (1, .int y1)]) (st' := []) rfl ?_
          refine am_subp [2, 3, 1, 0] rfl ?_
          exact ih _ _ hm K
        · replace hm := am_if hm hc5
          refine am_steps ck_X9_belowMany 6 (pc' := 4) (lv' := [(3, .int (z3 + am_i 1)), (2, .int (z2 + (am_i 1))), (0, .ref 3261), (1, .int y1)]) (st' := []) rfl ?_
          refine am_subp [2, 3, 1, 0] rfl ?_
          exact ih _ _ hm K
set_option maxRecDepth 100000 in
set_option maxHeartbeats 4000000 in
theorem x_X9_belowMany {G : am_G} {m : am_m} {r : am_rr} {x1 : Int32} {res : Int32} (hL : am_Lay r) (hm : m_X9_belowMany m x1 = some res) : am_Met G mt_X9_belowMany 3 [.ref 3261, .int x1] (am_hh m r) (some (.int res)) (am_hh m r) := by
  refine am_of (by decide) (Nat.le_of_ble_eq_true rfl) ?_
  unfold m_X9_belowMany at hm
  show am_W G mt_X9_belowMany 3 _ _ 0 [(0, .ref 3261), (1, .int x1)] [] (am_hh m r)
  refine am_steps ck_X9_belowMany 4 (pc' := 4) (lv' := [(3, .int (am_i 0)), (2, .int (am_i 0)), (0, .ref 3261), (1, .int x1)]) (st' := []) rfl ?_
  refine am_subp [2, 3, 1, 0] rfl ?_
  refine x_X9_belowMany_4 hL am_F _ _ hm (fun u6 hm => ?_)
  refine am_steps ck_X9_belowMany 1 (pc' := 46) (lv' := [(2, .int u6)]) (st' := [.int u6]) rfl ?_
  cases hm
  exact am_end (am_fd ck_X9_belowMany (pc := 46) rfl) am_rI rfl rfl
set_option maxRecDepth 100000 in
set_option maxHeartbeats 4000000 in
theorem x_X9_isStaleFrom_2 {G : am_G} {x1 : Int32} {r : am_rr} {res : am_m} {k : am_m → Option (am_m)} (hL : am_Lay r) : ∀ (n : Nat) (z2 : Int32) (m : am_m), m_X9_isStaleFrom_2 x1 k n z2 m = some res → (∀ (m1 : am_m), k m1 = some res → am_W G mt_X9_isStaleFrom 1 none (am_hh res r) 30 [] [] (am_hh m1 r)) → am_W G mt_X9_isStaleFrom 1 none (am_hh res r) 2 [(0, .ref 3261), (2, .int z2)] [] (am_hh m r) := by
  intro n
  induction n with
  | zero => intro z2 m hm K; cases hm
  | succ n ih =>
    intro z2 m hm K
    unfold m_X9_isStaleFrom_2 at hm
    refine am_steps ck_X9_isStaleFrom 2 (pc' := 4) (lv' := [(0, .ref 3261), (2, .int z2)]) (st' := [.int (am_i (-1)), .int z2]) rfl ?_
    refine am_icmp (tgt := 30) (am_fd ck_X9_isStaleFrom (pc := 4) rfl) rfl (fun hc1 => ?_) (fun hc1 => ?_)
    · replace hm := am_it hm hc1
      refine am_subp [] rfl ?_
      exact K _ hm
    · replace hm := am_if hm hc1
      refine am_steps ck_X9_isStaleFrom 1 (pc' := 8) (lv' := [(0, .ref 3261), (2, .int z2)]) (st' := [.ref 3261]) rfl ?_
      refine ms_getr (ci := 7) (k := 0) (v := 3262) (am_fd ck_X9_isStaleFrom (pc := 8) rfl) tw_875 kc_3261 rfl (ly_3261_0 hL) kc_3262 ?_
      refine am_steps ck_X9_isStaleFrom 4 (pc' := 16) (lv' := [(0, .ref 3261), (2, .int z2)]) (st' := [.int (am_i 1), .int ((am_i 48) + z2), .ref 3262]) rfl ?_
      obtain ⟨hb2, hm⟩ := am_gE hm
      refine ms_iast (n := 15517) (am_fd ck_X9_isStaleFrom (pc := 16) rfl) kc_3262 hb2 (fun m3 em3 => ?_)
      replace hm := am_letE em3 hm
      refine am_steps ck_X9_isStaleFrom 1 (pc' := 18) (lv' := [(0, .ref 3261), (2, .int z2)]) (st' := [.ref 3261]) rfl ?_
      refine ms_getr (ci := 7) (k := 0) (v := 3262) (am_fd ck_X9_isStaleFrom (pc := 18) rfl) tw_875 kc_3261 rfl (ly_3261_0 hL) kc_3262 ?_
      refine am_steps ck_X9_isStaleFrom 3 (pc' := 25) (lv' := [(0, .ref 3261), (2, .int z2)]) (st' := [.int ((am_i 24) + z2), .ref 3262]) rfl ?_
      obtain ⟨hb4, hm⟩ := am_gE hm
      refine ms_iald (n := 15517) (am_fd ck_X9_isStaleFrom (pc := 25) rfl) kc_3262 hb4 ?_
      refine am_steps ck_X9_isStaleFrom 2 (pc' := 2) (lv' := [(2, .int (m3 3262 (am_ix ((am_i 24) + z2)))), (0, .ref 3261)]) (st' := []) rfl ?_
      refine am_subp [1, 0] rfl ?_
      exact ih _ _ hm K
set_option maxRecDepth 100000 in
set_option maxHeartbeats 4000000 in
theorem x_X9_isStaleFrom {G : am_G} {m : am_m} {r : am_rr} {x1 : Int32} {res : am_m} (hL : am_Lay r) (hm : m_X9_isStaleFrom m x1 = some res) : am_Met G mt_X9_isStaleFrom 1 [.ref 3261, .int x1] (am_hh m r) none (am_hh res r) := by
  refine am_of (by decide) (Nat.le_of_ble_eq_true rfl) ?_
  unfold m_X9_isStaleFrom at hm
  show am_W G mt_X9_isStaleFrom 1 _ _ 0 [(0, .ref 3261), (1, .int x1)] [] (am_hh m r)
  refine am_steps ck_X9_isStaleFrom 2 (pc' := 2) (lv' := [(2, .int x1), (0, .ref 3261), (1, .int x1)]) (st' := []) rfl ?_
  refine am_subp [1, 0] rfl ?_
  refine x_X9_isStaleFrom_2 hL am_F _ _ hm (fun m5 hm => ?_)
  cases hm
  exact am_end (am_fd ck_X9_isStaleFrom (pc := 30) rfl) am_rV rfl rfl
set_option maxRecDepth 100000 in
set_option maxHeartbeats 4000000 in
theorem x_X9_laysBranch_2 {G : am_G} {x1 : Int32} {a2 : Nat} {r : am_rr} {y1 : Int32} {res : am_m} {k : am_m → Option (am_m)} (hL : am_Lay r) (ha2 : am_k a2 11 64) : ∀ (n : Nat) (z3 : Int32) (m : am_m), m_X9_laysBranch_2 x1 a2 y1 k n z3 m = some res → (∀ (m1 : am_m), k m1 = some res → am_W G mt_X9_laysBranch 3 none (am_hh res r) 18 [(0, .ref 3261), (1, .int y1), (2, .ref a2)] [] (am_hh m1 r)) → am_W G mt_X9_laysBranch 3 none (am_hh res r) 2 [(0, .ref 3261), (1, .int y1), (2, .ref a2), (3, .int z3)] [] (am_hh m r) := by
  intro n
  induction n with
  | zero => intro z3 m hm K; cases hm
  | succ n ih =>
    intro z3 m hm K
    unfold m_X9_laysBranch_2 at hm
    refine am_steps ck_X9_laysBranch 2 (pc' := 5) (lv' := [(0, .ref 3261), (1, .int y1), (2, .ref a2), (3, .int z3)]) (st' := [.int (am_i 64), .int z3]) rfl ?_
    refine am_icmp (tgt := 18) (am_fd ck_X9_laysBranch (pc := 5) rfl) rfl (fun hc1 => ?_) (fun hc1 => ?_)
    · replace hm := am_it hm hc1
      refine am_subp [0, 1, 2] rfl ?_
      exact K _ hm
    · replace hm := am_if hm hc1
      refine am_steps ck_X9_laysBranch 3 (pc' := 11) (lv' := [(0, .ref 3261), (1, .int y1), (2, .ref a2), (3, .int z3)]) (st' := [.int (am_i 0), .int z3, .ref a2]) rfl ?_
      obtain ⟨hb2, hm⟩ := am_gE hm
      refine ms_iast (n := 64) (am_fd ck_X9_laysBranch (pc := 11) rfl) ha2 hb2 (fun m3 em3 => ?_)
      replace hm := am_letE em3 hm
      refine am_steps ck_X9_laysBranch 2 (pc' := 2) (lv' := [(3, .int (z3 + am_i 1)), (0, .ref 3261), (1, .int y1), (2, .ref a2)]) (st' := []) rfl ?_
      refine am_subp [1, 2, 3, 0] rfl ?_
      exact ih _ _ hm K
set_option maxRecDepth 100000 in
set_option maxHeartbeats 4000000 in
theorem x_X9_laysBranch_49 {G : am_G} {x1 : Int32} {a2 : Nat} {r : am_rr} {y1 : Int32} {y3 : Int32} {res : am_m} {k : am_m → Option (am_m)} (hL : am_Lay r) (ha2 : am_k a2 11 64) : ∀ (n : Nat) (z4 : Int32) (m : am_m), m_X9_laysBranch_49 x1 a2 y1 y3 k n z4 m = some res → (∀ (m1 : am_m), k m1 = some res → am_W G mt_X9_laysBranch 3 none (am_hh res r) 81 [(0, .ref 3261), (1, .int y1), (2, .ref a2), (3, .int y3)] [] (am_hh m1 r)) → am_W G mt_X9_laysBranch 3 none (am_hh res r) 49 [(0, .ref 3261), (1, .int y1), (2, .ref a2), (3, .int y3), (4, .int z4)] [] (am_hh m r) := by
  intro n
  induction n with
  | zero => intro z4 m hm K; cases hm
  | succ n ih =>
    intro z4 m hm K
    unfold m_X9_laysBranch_49 at hm
    refine am_steps ck_X9_laysBranch 2 (pc' := 53) (lv' := [(0, .ref 3261), (1, .int y1), (2, .ref a2), (3, .int y3), (4, .int z4)]) (st' := [.int (am_i 64), .int z4]) rfl ?_
    refine am_icmp (tgt := 81) (am_fd ck_X9_laysBranch (pc := 53) rfl) rfl (fun hc10 => ?_) (fun hc10 => ?_)
    · replace hm := am_it hm hc10
      refine am_subp [0, 1, 2, 3] rfl ?_
      exact K _ hm
    · replace hm := am_if hm hc10
      refine am_steps ck_X9_laysBranch 3 (pc' := 60) (lv' := [(0, .ref 3261), (1, .int y1), (2, .ref a2), (3, .int y3), (4, .int z4)]) (st' := [.int z4, .ref a2, .int z4, .ref a2]) rfl ?_
      obtain ⟨hb11, hm⟩ := am_gE hm
      refine ms_iald (n := 64) (am_fd ck_X9_laysBranch (pc := 60) rfl) ha2 hb11 ?_
      refine am_steps ck_X9_laysBranch 1 (pc' := 62) (lv' := [(0, .ref 3261), (1, .int y1), (2, .ref a2), (3, .int y3), (4, .int z4)]) (st' := [.ref 3261, .int (m a2 (am_ix z4)), .int z4, .ref a2]) rfl ?_
      refine ms_getr (ci := 7) (k := 0) (v := 3262) (am_fd ck_X9_laysBranch (pc := 62) rfl) tw_875 kc_3261 rfl (ly_3261_0 hL) kc_3262 ?_
      refine am_steps ck_X9_laysBranch 1 (pc' := 66) (lv' := [(0, .ref 3261), (1, .int y1), (2, .ref a2), (3, .int y3), (4, .int z4)]) (st' := [.int y3, .ref 3262, .int (m a2 (am_ix z4)), .int z4, .ref a2]) rfl ?_
      obtain ⟨q12, hq12, hm⟩ := am_bE hm
      refine ms_callS (M2 := mt_X9_ownAt) (d2 := 1) [.int y3] (am_fd ck_X9_laysBranch (pc := 66) rfl) ok_X9_ownAt tw_959 tw_960 (Nat.le_of_ble_eq_true rfl) (Nat.le_of_ble_eq_true rfl) (x_X9_ownAt hL hq12) ?_
      refine am_steps ck_X9_laysBranch 2 (pc' := 72) (lv' := [(0, .ref 3261), (1, .int y1), (2, .ref a2), (3, .int y3), (4, .int z4)]) (st' := [.int (q12 + z4), .ref 3262, .int (m a2 (am_ix z4)), .int z4, .ref a2]) rfl ?_
      obtain ⟨hb13, hm⟩ := am_gE hm
      refine ms_iald (n := 15517) (am_fd ck_X9_laysBranch (pc := 72) rfl) kc_3262 hb13 ?_
      refine am_steps ck_X9_laysBranch 1 (pc' := 74) (lv' := [(0, .ref 3261), (1, .int y1), (2, .ref a2), (3, .int y3), (4, .int z4)]) (st' := [.int ((m a2 (am_ix z4)) + (m 3262 (am_ix (q12 + z4)))), .int z4, .ref a2]) rfl ?_
      obtain ⟨hb14, hm⟩ := am_gE hm
      refine ms_iast (n := 64) (am_fd ck_X9_laysBranch (pc := 74) rfl) ha2 hb14 (fun m15 em15 => ?_)
      replace hm := am_letE em15 hm
      refine am_steps ck_X9_laysBranch 2 (pc' := 49) (lv' := [(4, .int (z4 + am_i 1)), (0, .ref 3261), (1, .int y1), (2, .ref a2), (3, .int y3)]) (st' := []) rfl ?_
      refine am_subp [1, 2, 3, 4, 0] rfl ?_
      exact ih _ _ hm K
set_option maxRecDepth 100000 in
set_option maxHeartbeats 4000000 in
theorem x_X9_laysBranch_20 {G : am_G} {x1 : Int32} {a2 : Nat} {r : am_rr} {y1 : Int32} {res : am_m} {k : am_m → Option (am_m)} (hL : am_Lay r) (ha2 : am_k a2 11 64) : ∀ (n : Nat) (z3 : Int32) (m : am_m), m_X9_laysBranch_20 x1 a2 y1 k n z3 m = some res → (∀ (m1 : am_m), k m1 = some res → am_W G mt_X9_laysBranch 3 none (am_hh res r) 87 [] [] (am_hh m1 r)) → am_W G mt_X9_laysBranch 3 none (am_hh res r) 20 [(0, .ref 3261), (1, .int y1), (2, .ref a2), (3, .int z3)] [] (am_hh m r) := by
  intro n
  induction n with
  | zero => intro z3 m hm K; cases hm
  | succ n ih =>
    intro z3 m hm K
    unfold m_X9_laysBranch_20 at hm
    refine am_steps ck_X9_laysBranch 2 (pc' := 23) (lv' := [(0, .ref 3261), (1, .int y1), (2, .ref a2), (3, .int z3)]) (st' := [.int (am_i 24), .int z3]) rfl ?_
    refine am_icmp (tgt := 87) (am_fd ck_X9_laysBranch (pc := 23) rfl) rfl (fun hc5 => ?_) (fun hc5 => ?_)
    · replace hm := am_it hm hc5
      refine am_subp [] rfl ?_
      exact K _ hm
    · replace hm := am_if hm hc5
      refine am_steps ck_X9_laysBranch 2 (pc' := 28) (lv' := [(0, .ref 3261), (1, .int y1), (2, .ref a2), (3, .int z3)]) (st' := [.int z3, .ref 3261]) rfl ?_
      obtain ⟨q6, hq6, hm⟩ := am_bE hm
      refine ms_callV (M2 := mt_X9_isUnit) (d2 := 2) (ci := 7) [.int z3] (am_fd ck_X9_laysBranch (pc := 28) rfl) ok_X9_isUnit tw_949 tw_951 ts_28 (by decide) kc_3261 (Nat.le_of_ble_eq_true rfl) (Nat.le_of_ble_eq_true rfl) (x_X9_isUnit hL hq6) ?_
      refine am_ifc (tgt := 81) (am_fd ck_X9_laysBranch (pc := 31) rfl) rfl (fun hc7 => ?_) (fun hc7 => ?_)
      · replace hm := am_it hm hc7
        refine am_steps ck_X9_laysBranch 2 (pc' := 20) (lv' := [(3, .int (z3 + am_i 1)), (0, .ref 3261), (1, .int y1), (2, .ref a2)]) (st' := []) rfl ?_
        refine am_subp [1, 2, 3, 0] rfl ?_
        exact ih _ _ hm K
      · replace hm := am_if hm hc7
        refine am_steps ck_X9_laysBranch 3 (pc' := 37) (lv' := [(0, .ref 3261), (1, .int y1), (2, .ref a2), (3, .int z3)]) (st' := [.int y1, .int z3, .ref 3261]) rfl ?_
        obtain ⟨q8, hq8, hm⟩ := am_bE hm
        refine ms_callV (M2 := mt_X9_isIn_) (d2 := 1) (ci := 7) [.int z3, .int y1] (am_fd ck_X9_laysBranch (pc := 37) rfl) ok_X9_isIn_ tw_1019 tw_1021 ts_38 (by decide) kc_3261 (Nat.le_of_ble_eq_true rfl) (Nat.le_of_ble_eq_true rfl) (x_X9_isIn_ hL hq8) ?_
        refine am_ifc (tgt := 46) (am_fd ck_X9_laysBranch (pc := 40) rfl) rfl (fun hc9 => ?_) (fun hc9 => ?_)
        · replace hm := am_it hm hc9
          refine am_steps ck_X9_laysBranch 2 (pc' := 49) (lv' := [(4, .int (am_i 0)), (0, .ref 3261), (1, .int y1), (2, .ref a2), (3, .int z3)]) (st' := []) rfl ?_
          refine am_subp [1, 2, 3, 4, 0] rfl ?_
          refine x_X9_laysBranch_49 hL ha2 am_F _ _ hm (fun m16 hm => ?_)
          refine am_steps ck_X9_laysBranch 2 (pc' := 20) (lv' := [(3, .int (z3 + am_i 1)), (0, .ref 3261), (1, .int y1), (2, .ref a2)]) (st' := []) rfl ?_
          refine am_subp [1, 2, 3, 0] rfl ?_
          exact ih _ _ hm K
        · replace hm := am_if hm hc9
          refine am_steps ck_X9_laysBranch 3 (pc' := 20) (lv' := [(3, .int (z3 + am_i 1)), (0, .ref 3261), (1, .int y1), (2, .ref a2)]) (st' := []) rfl ?_
          refine am_subp [1, 2, 3, 0] rfl ?_
          exact ih _ _ hm K
set_option maxRecDepth 100000 in
set_option maxHeartbeats 4000000 in
theorem x_X9_laysBranch {G : am_G} {m : am_m} {r : am_rr} {x1 : Int32} {a2 : Nat} {res : am_m} (hL : am_Lay r) (ha2 : am_k a2 11 64) (hm : m_X9_laysBranch m x1 a2 = some res) : am_Met G mt_X9_laysBranch 3 [.ref 3261, .int x1, .ref a2] (am_hh m r) none (am_hh res r) := by
  refine am_of (by decide) (Nat.le_of_ble_eq_true rfl) ?_
  unfold m_X9_laysBranch at hm
  show am_W G mt_X9_laysBranch 3 _ _ 0 [(0, .ref 3261), (1, .int x1), (2, .ref a2)] [] (am_hh m r)
  refine am_steps ck_X9_laysBranch 2 (pc' := 2) (lv' := [(3, .int (am_i 0)), (0, .ref 3261), (1, .int x1), (2, .ref a2)]) (st' := []) rfl ?_
  refine am_subp [1, 2, 3, 0] rfl ?_
  refine x_X9_laysBranch_2 hL ha2 am_F _ _ hm (fun m4 hm => ?_)
  refine am_steps ck_X9_laysBranch 2 (pc' := 20) (lv' := [(3, .int (am_i 0)), (0, .ref 3261), (1, .int x1), (2, .ref a2)]) (st' := []) rfl ?_
  refine am_subp [1, 2, 3, 0] rfl ?_
  refine x_X9_laysBranch_20 hL ha2 am_F _ _ hm (fun m17 hm => ?_)
  cases hm
  exact am_end (am_fd ck_X9_laysBranch (pc := 87) rfl) am_rV rfl rfl
set_option maxRecDepth 100000 in
set_option maxHeartbeats 4000000 in
theorem x_X9_lays_2 {G : am_G} {x1 : Int32} {a2 : Nat} {r : am_rr} {y1 : Int32} {res : am_m} {k : am_m → Option (am_m)} (hL : am_Lay r) (ha2 : am_k a2 11 64) : ∀ (n : Nat) (z3 : Int32) (m : am_m), m_X9_lays_2 x1 a2 y1 k n z3 m = some res → (∀ (m1 : am_m), k m1 = some res → am_W G mt_X9_lays 1 none (am_hh res r) 25 [] [] (am_hh m1 r)) → am_W G mt_X9_lays 1 none (am_hh res r) 2 [(0, .ref 3261), (1, .int y1), (2, .ref a2), (3, .int z3)] [] (am_hh m r) := by
  intro n
  induction n with
  | zero => intro z3 m hm K; cases hm
  | succ n ih =>
    intro z3 m hm K
    unfold m_X9_lays_2 at hm
    refine am_steps ck_X9_lays 2 (pc' := 5) (lv' := [(0, .ref 3261), (1, .int y1), (2, .ref a2), (3, .int z3)]) (st' := [.int (am_i 64), .int z3]) rfl ?_
    refine am_icmp (tgt := 25) (am_fd ck_X9_lays (pc := 5) rfl) rfl (fun hc1 => ?_) (fun hc1 => ?_)
    · replace hm := am_it hm hc1
      refine am_subp [] rfl ?_
      exact K _ hm
    · replace hm := am_if hm hc1
      refine am_steps ck_X9_lays 3 (pc' := 11) (lv' := [(0, .ref 3261), (1, .int y1), (2, .ref a2), (3, .int z3)]) (st' := [.ref 3261, .int z3, .ref a2]) rfl ?_
      refine ms_getr (ci := 7) (k := 0) (v := 3262) (am_fd ck_X9_lays (pc := 11) rfl) tw_875 kc_3261 rfl (ly_3261_0 hL) kc_3262 ?_
      refine am_steps ck_X9_lays 3 (pc' := 17) (lv' := [(0, .ref 3261), (1, .int y1), (2, .ref a2), (3, .int z3)]) (st' := [.int (y1 + z3), .ref 3262, .int z3, .ref a2]) rfl ?_
      obtain ⟨hb2, hm⟩ := am_gE hm
      refine ms_iald (n := 15517) (am_fd ck_X9_lays (pc := 17) rfl) kc_3262 hb2 ?_
      obtain ⟨hb3, hm⟩ := am_gE hm
      refine ms_iast (n := 64) (am_fd ck_X9_lays (pc := 18) rfl) ha2 hb3 (fun m4 em4 => ?_)
      replace hm := am_letE em4 hm
      refine am_steps ck_X9_lays 2 (pc' := 2) (lv' := [(3, .int (z3 + am_i 1)), (0, .ref 3261), (1, .int y1), (2, .ref a2)]) (st' := []) rfl ?_
      refine am_subp [1, 2, 3, 0] rfl ?_
      exact ih _ _ hm K
set_option maxRecDepth 100000 in
set_option maxHeartbeats 4000000 in
theorem x_X9_lays {G : am_G} {m : am_m} {r : am_rr} {x1 : Int32} {a2 : Nat} {res : am_m} (hL : am_Lay r) (ha2 : am_k a2 11 64) (hm : m_X9_lays m x1 a2 = some res) : am_Met G mt_X9_lays 1 [.ref 3261, .int x1, .ref a2] (am_hh m r) none (am_hh res r) := by
  refine am_of (by decide) (Nat.le_of_ble_eq_true rfl) ?_
  unfold m_X9_lays at hm
  show am_W G mt_X9_lays 1 _ _ 0 [(0, .ref 3261), (1, .int x1), (2, .ref a2)] [] (am_hh m r)
  refine am_steps ck_X9_lays 2 (pc' := 2) (lv' := [(3, .int (am_i 0)), (0, .ref 3261), (1, .int x1), (2, .ref a2)]) (st' := []) rfl ?_
  refine am_subp [1, 2, 3, 0] rfl ?_
  refine x_X9_lays_2 hL ha2 am_F _ _ hm (fun m5 hm => ?_)
  cases hm
  exact am_end (am_fd ck_X9_lays (pc := 25) rfl) am_rV rfl rfl
set_option maxRecDepth 100000 in
set_option maxHeartbeats 4000000 in
theorem x_X9_holds_2 {G : am_G} {a1 : Nat} {x2 : Int32} {x3 : Int32} {m : am_m} {r : am_rr} {y1 : Int32} {y2 : Int32} {res : Int32} {k : Option (Int32)} (hL : am_Lay r) (ha1 : am_k a1 11 64) : ∀ (n : Nat) (z3 : Int32), m_X9_holds_2 a1 x2 x3 m y1 y2 k n z3 = some res → (k = some res → am_W G mt_X9_holds 1 (some (.int res)) (am_hh m r) 23 [] [] (am_hh m r)) → am_W G mt_X9_holds 1 (some (.int res)) (am_hh m r) 2 [(0, .ref a1), (1, .int y1), (2, .int y2), (3, .int z3)] [] (am_hh m r) := by
  intro n
  induction n with
  | zero => intro z3 hm K; cases hm
  | succ n ih =>
    intro z3 hm K
    unfold m_X9_holds_2 at hm
    refine am_steps ck_X9_holds 4 (pc' := 6) (lv' := [(0, .ref a1), (1, .int y1), (2, .int y2), (3, .int z3)]) (st' := [.int (y1 + y2), .int z3]) rfl ?_
    refine am_icmp (tgt := 23) (am_fd ck_X9_holds (pc := 6) rfl) rfl (fun hc1 => ?_) (fun hc1 => ?_)
    · replace hm := am_it hm hc1
      refine am_subp [] rfl ?_
      exact K hm
    · replace hm := am_if hm hc1
      refine am_steps ck_X9_holds 2 (pc' := 11) (lv' := [(0, .ref a1), (1, .int y1), (2, .int y2), (3, .int z3)]) (st' := [.int z3, .ref a1]) rfl ?_
      obtain ⟨hb2, hm⟩ := am_gE hm
      refine ms_iald (n := 64) (am_fd ck_X9_holds (pc := 11) rfl) ha1 hb2 ?_
      refine am_ifc (tgt := 17) (am_fd ck_X9_holds (pc := 12) rfl) rfl (fun hc3 => ?_) (fun hc3 => ?_)
      · replace hm := am_it hm hc3
        refine am_steps ck_X9_holds 2 (pc' := 2) (lv' := [(3, .int (z3 + am_i 1)), (0, .ref a1), (1, .int y1), (2, .int y2)]) (st' := []) rfl ?_
        refine am_subp [1, 2, 3, 0] rfl ?_
        exact ih _ hm K
      · replace hm := am_if hm hc3
        refine am_steps ck_X9_holds 1 (pc' := 16) (lv' := [(0, .ref a1), (1, .int y1), (2, .int y2), (3, .int z3)]) (st' := [.int (am_i 1)]) rfl ?_
        cases hm
        exact am_end (am_fd ck_X9_holds (pc := 16) rfl) am_rZ1 rfl rfl
set_option maxRecDepth 100000 in
set_option maxHeartbeats 4000000 in
theorem x_X9_holds {G : am_G} {m : am_m} {r : am_rr} {a1 : Nat} {x2 : Int32} {x3 : Int32} {res : Int32} (hL : am_Lay r) (ha1 : am_k a1 11 64) (hm : m_X9_holds m a1 x2 x3 = some res) : am_Met G mt_X9_holds 1 [.ref a1, .int x2, .int x3] (am_hh m r) (some (.int res)) (am_hh m r) := by
  refine am_of (by decide) (Nat.le_of_ble_eq_true rfl) ?_
  unfold m_X9_holds at hm
  show am_W G mt_X9_holds 1 _ _ 0 [(0, .ref a1), (1, .int x2), (2, .int x3)] [] (am_hh m r)
  refine am_steps ck_X9_holds 2 (pc' := 2) (lv' := [(3, .int x2), (0, .ref a1), (1, .int x2), (2, .int x3)]) (st' := []) rfl ?_
  refine am_subp [1, 2, 3, 0] rfl ?_
  refine x_X9_holds_2 hL ha1 am_F _ hm (fun hm => ?_)
  refine am_steps ck_X9_holds 1 (pc' := 24) (lv' := []) (st' := [.int (am_i 0)]) rfl ?_
  cases hm
  exact am_end (am_fd ck_X9_holds (pc := 24) rfl) am_rZ0 rfl rfl
set_option maxRecDepth 100000 in
set_option maxHeartbeats 4000000 in
theorem x_X9_common_12 {G : am_G} {a1 : Nat} {a2 : Nat} {m : am_m} {r : am_rr} {y3 : Int32} {res : Int32} {k : Int32 → Option (Int32)} (hL : am_Lay r) (ha1 : am_k a1 11 64) (ha2 : am_k a2 11 64) : ∀ (n : Nat) (z2 : Int32) (z4 : Int32), m_X9_common_12 a1 a2 m y3 k n z2 z4 = some res → (∀ (u2 : Int32), k u2 = some res → am_W G mt_X9_common 2 (some (.int res)) (am_hh m r) 56 [(0, .ref a1), (1, .ref a2), (2, .int u2), (3, .int y3)] [] (am_hh m r)) → am_W G mt_X9_common 2 (some (.int res)) (am_hh m r) 12 [(0, .ref a1), (1, .ref a2), (2, .int z2), (3, .int y3), (4, .int z4)] [] (am_hh m r) := by
  intro n
  induction n with
  | zero => intro z2 z4 hm K; cases hm
  | succ n ih =>
    intro z2 z4 hm K
    unfold m_X9_common_12 at hm
    refine am_steps ck_X9_common 2 (pc' := 16) (lv' := [(0, .ref a1), (1, .ref a2), (2, .int z2), (3, .int y3), (4, .int z4)]) (st' := [.int (am_i 64), .int z4]) rfl ?_
    refine am_icmp (tgt := 56) (am_fd ck_X9_common (pc := 16) rfl) rfl (fun hc2 => ?_) (fun hc2 => ?_)
    · replace hm := am_it hm hc2
      refine am_subp [0, 1, 2, 3] rfl ?_
      exact K _ hm
    · replace hm := am_if hm hc2
      refine am_steps ck_X9_common 4 (pc' := 24) (lv' := [(0, .ref a1), (1, .ref a2), (2, .int z2), (3, .int y3), (4, .int z4)]) (st' := [.int y3, .int z4, .ref a1, .int z2]) rfl ?_
      obtain ⟨q3, hq3, hm⟩ := am_bE hm
      refine ms_callS (M2 := mt_X9_holds) (d2 := 1) [.ref a1, .int z4, .int y3] (am_fd ck_X9_common (pc := 24) rfl) ok_X9_holds tw_1008 tw_1009 (Nat.le_of_ble_eq_true rfl) (Nat.le_of_ble_eq_true rfl) (x_X9_holds hL ha1 hq3) ?_
      refine am_ifc (tgt := 44) (am_fd ck_X9_common (pc := 27) rfl) rfl (fun hc4 => ?_) (fun hc4 => ?_)
      · replace hm := am_it hm hc4
        refine am_steps ck_X9_common 8 (pc' := 12) (lv' := [(4, .int (z4 + y3)), (2, .int (z2 + (am_i 0))), (0, .ref a1), (1, .ref a2), (3, .int y3)]) (st' := []) rfl ?_
        refine am_subp [2, 3, 1, 4, 0] rfl ?_
        exact ih _ _ hm K
      · replace hm := am_if hm hc4
        refine am_steps ck_X9_common 3 (pc' := 34) (lv' := [(0, .ref a1), (1, .ref a2), (2, .int z2), (3, .int y3), (4, .int z4)]) (st' := [.int y3, .int z4, .ref a2, .int z2]) rfl ?_
        obtain ⟨q5, hq5, hm⟩ := am_bE hm
        refine ms_callS (M2 := mt_X9_holds) (d2 := 1) [.ref a2, .int z4, .int y3] (am_fd ck_X9_common (pc := 34) rfl) ok_X9_holds tw_1008 tw_1009 (Nat.le_of_ble_eq_true rfl) (Nat.le_of_ble_eq_true rfl) (x_X9_holds hL ha2 hq5) ?_
        refine am_ifc (tgt := 44) (am_fd ck_X9_common (pc := 37) rfl) rfl (fun hc6 => ?_) (fun hc6 => ?_)
        · replace hm := am_it hm hc6
          refine am_steps ck_X9_common 8 (pc' := 12) (lv' := [(4, .int (z4 + y3)), (2, .int (z2 + (am_i 0))), (0, .ref a1), (1, .ref a2), (3, .int y3)]) (st' := []) rfl ?_
          refine am_subp [2, 3, 1, 4, 0] rfl ?_
          exact ih _ _ hm K
        · replace hm := am_if hm hc6
          refine am_steps ck_X9_common 9 (pc' := 12) (lv' := [(4, .int (z4 + y3)), (2, .int (z2 + (am_i 1))), (0, .ref a1), (1, .ref a2), (3, .int y3)]) (st' := []) rfl ?_
          refine am_subp [2, 3, 1, 4, 0] rfl ?_
          exact ih _ _ hm K
set_option maxRecDepth 100000 in
set_option maxHeartbeats 4000000 in
theorem x_X9_common_5 {G : am_G} {a1 : Nat} {a2 : Nat} {m : am_m} {r : am_rr} {res : Int32} {k : Int32 → Option (Int32)} (hL : am_Lay r) (ha1 : am_k a1 11 64) (ha2 : am_k a2 11 64) : ∀ (n : Nat) (z2 : Int32) (z3 : Int32), m_X9_common_5 a1 a2 m k n z2 z3 = some res → (∀ (u2 : Int32), k u2 = some res → am_W G mt_X9_common 2 (some (.int res)) (am_hh m r) 63 [(2, .int u2)] [] (am_hh m r)) → am_W G mt_X9_common 2 (some (.int res)) (am_hh m r) 5 [(0, .ref a1), (1, .ref a2), (2, .int z2), (3, .int z3)] [] (am_hh m r) := by
  intro n
  induction n with
  | zero => intro z2 z3 hm K; cases hm
  | succ n ih =>
    intro z2 z3 hm K
    unfold m_X9_common_5 at hm
    refine am_steps ck_X9_common 1 (pc' := 6) (lv' := [(0, .ref a1), (1, .ref a2), (2, .int z2), (3, .int z3)]) (st' := [.int z3]) rfl ?_
    refine am_ifc (tgt := 63) (am_fd ck_X9_common (pc := 6) rfl) rfl (fun hc1 => ?_) (fun hc1 => ?_)
    · replace hm := am_it hm hc1
      refine am_subp [2] rfl ?_
      exact K _ hm
    · replace hm := am_if hm hc1
      refine am_steps ck_X9_common 2 (pc' := 12) (lv' := [(4, .int (am_i 0)), (0, .ref a1), (1, .ref a2), (2, .int z2), (3, .int z3)]) (st' := []) rfl ?_
      refine am_subp [1, 2, 3, 4, 0] rfl ?_
      refine x_X9_common_12 hL ha1 ha2 am_F _ _ hm (fun u7 hm => ?_)
      refine am_steps ck_X9_common 2 (pc' := 58) (lv' := [(0, .ref a1), (1, .ref a2), (2, .int u7), (3, .int z3)]) (st' := [.int (am_i 2), .int z3]) rfl ?_
      refine am_idiv (am_fd ck_X9_common (pc := 58) rfl) (by decide) ?_
      refine am_steps ck_X9_common 2 (pc' := 5) (lv' := [(3, .int (z3 / (am_i 2))), (0, .ref a1), (1, .ref a2), (2, .int u7)]) (st' := []) rfl ?_
      refine am_subp [1, 2, 3, 0] rfl ?_
      exact ih _ _ hm K
set_option maxRecDepth 100000 in
set_option maxHeartbeats 4000000 in
theorem x_X9_common {G : am_G} {m : am_m} {r : am_rr} {a1 : Nat} {a2 : Nat} {res : Int32} (hL : am_Lay r) (ha1 : am_k a1 11 64) (ha2 : am_k a2 11 64) (hm : m_X9_common m a1 a2 = some res) : am_Met G mt_X9_common 2 [.ref a1, .ref a2] (am_hh m r) (some (.int res)) (am_hh m r) := by
  refine am_of (by decide) (Nat.le_of_ble_eq_true rfl) ?_
  unfold m_X9_common at hm
  show am_W G mt_X9_common 2 _ _ 0 [(0, .ref a1), (1, .ref a2)] [] (am_hh m r)
  refine am_steps ck_X9_common 4 (pc' := 5) (lv' := [(3, .int (am_i 64)), (2, .int (am_i 0)), (0, .ref a1), (1, .ref a2)]) (st' := []) rfl ?_
  refine am_subp [2, 3, 1, 0] rfl ?_
  refine x_X9_common_5 hL ha1 ha2 am_F _ _ hm (fun u8 hm => ?_)
  refine am_steps ck_X9_common 1 (pc' := 64) (lv' := [(2, .int u8)]) (st' := [.int u8]) rfl ?_
  cases hm
  exact am_end (am_fd ck_X9_common (pc := 64) rfl) am_rI rfl rfl
set_option maxRecDepth 100000 in
set_option maxHeartbeats 4000000 in
theorem x_X9_nodes {G : am_G} {m : am_m} {r : am_rr} {a1 : Nat} {res : Int32} (hL : am_Lay r) (ha1 : am_k a1 11 64) (hm : m_X9_nodes m a1 = some res) : am_Met G mt_X9_nodes 3 [.ref a1] (am_hh m r) (some (.int res)) (am_hh m r) := by
  refine am_of (by decide) (Nat.le_of_ble_eq_true rfl) ?_
  unfold m_X9_nodes at hm
  show am_W G mt_X9_nodes 3 _ _ 0 [(0, .ref a1)] [] (am_hh m r)
  refine am_steps ck_X9_nodes 2 (pc' := 2) (lv' := [(0, .ref a1)]) (st' := [.ref a1, .ref a1]) rfl ?_
  obtain ⟨q1, hq1, hm⟩ := am_bE hm
  refine ms_callS (M2 := mt_X9_common) (d2 := 2) [.ref a1, .ref a1] (am_fd ck_X9_nodes (pc := 2) rfl) ok_X9_common tw_1005 tw_1006 (Nat.le_of_ble_eq_true rfl) (Nat.le_of_ble_eq_true rfl) (x_X9_common hL ha1 ha1 hq1) ?_
  cases hm
  exact am_end (am_fd ck_X9_nodes (pc := 5) rfl) am_rI rfl rfl
set_option maxRecDepth 100000 in
set_option maxHeartbeats 4000000 in
theorem x_X9_all_4 {G : am_G} {a1 : Nat} {m : am_m} {r : am_rr} {res : Int32} {k : Int32 → Option (Int32)} (hL : am_Lay r) (ha1 : am_k a1 11 64) : ∀ (n : Nat) (z1 : Int32) (z2 : Int32), m_X9_all_4 a1 m k n z1 z2 = some res → (∀ (u1 : Int32), k u1 = some res → am_W G mt_X9_all 1 (some (.int res)) (am_hh m r) 22 [(1, .int u1)] [] (am_hh m r)) → am_W G mt_X9_all 1 (some (.int res)) (am_hh m r) 4 [(0, .ref a1), (1, .int z1), (2, .int z2)] [] (am_hh m r) := by
  intro n
  induction n with
  | zero => intro z1 z2 hm K; cases hm
  | succ n ih =>
    intro z1 z2 hm K
    unfold m_X9_all_4 at hm
    refine am_steps ck_X9_all 2 (pc' := 7) (lv' := [(0, .ref a1), (1, .int z1), (2, .int z2)]) (st' := [.int (am_i 64), .int z2]) rfl ?_
    refine am_icmp (tgt := 22) (am_fd ck_X9_all (pc := 7) rfl) rfl (fun hc1 => ?_) (fun hc1 => ?_)
    · replace hm := am_it hm hc1
      refine am_subp [1] rfl ?_
      exact K _ hm
    · replace hm := am_if hm hc1
      refine am_steps ck_X9_all 3 (pc' := 13) (lv' := [(0, .ref a1), (1, .int z1), (2, .int z2)]) (st' := [.int z2, .ref a1, .int z1]) rfl ?_
      obtain ⟨hb2, hm⟩ := am_gE hm
      refine ms_iald (n := 64) (am_fd ck_X9_all (pc := 13) rfl) ha1 hb2 ?_
      refine am_steps ck_X9_all 4 (pc' := 4) (lv' := [(2, .int (z2 + am_i 1)), (1, .int (z1 + (m a1 (am_ix z2)))), (0, .ref a1)]) (st' := []) rfl ?_
      refine am_subp [2, 1, 0] rfl ?_
      exact ih _ _ hm K
set_option maxRecDepth 100000 in
set_option maxHeartbeats 4000000 in
theorem x_X9_all {G : am_G} {m : am_m} {r : am_rr} {a1 : Nat} {res : Int32} (hL : am_Lay r) (ha1 : am_k a1 11 64) (hm : m_X9_all m a1 = some res) : am_Met G mt_X9_all 1 [.ref a1] (am_hh m r) (some (.int res)) (am_hh m r) := by
  refine am_of (by decide) (Nat.le_of_ble_eq_true rfl) ?_
  unfold m_X9_all at hm
  show am_W G mt_X9_all 1 _ _ 0 [(0, .ref a1)] [] (am_hh m r)
  refine am_steps ck_X9_all 4 (pc' := 4) (lv' := [(2, .int (am_i 0)), (1, .int (am_i 0)), (0, .ref a1)]) (st' := []) rfl ?_
  refine am_subp [2, 1, 0] rfl ?_
  refine x_X9_all_4 hL ha1 am_F _ _ hm (fun u3 hm => ?_)
  refine am_steps ck_X9_all 1 (pc' := 23) (lv' := [(1, .int u3)]) (st' := [.int u3]) rfl ?_
  cases hm
  exact am_end (am_fd ck_X9_all (pc := 23) rfl) am_rI rfl rfl
set_option maxRecDepth 100000 in
set_option maxHeartbeats 4000000 in
theorem x_X9_nodesAt {G : am_G} {m : am_m} {r : am_rr} {x1 : Int32} {res : Int32 × am_m} (hL : am_Lay r) (hm : m_X9_nodesAt m x1 = some res) : am_Met G mt_X9_nodesAt 4 [.ref 3261, .int x1] (am_hh m r) (some (.int res.1)) (am_hh res.2 r) := by
  refine am_of (by decide) (Nat.le_of_ble_eq_true rfl) ?_
  unfold m_X9_nodesAt at hm
  show am_W G mt_X9_nodesAt 4 _ _ 0 [(0, .ref 3261), (1, .int x1)] [] (am_hh m r)
  refine am_steps ck_X9_nodesAt 3 (pc' := 3) (lv' := [(0, .ref 3261), (1, .int x1)]) (st' := [.ref 3261, .int x1, .ref 3261]) rfl ?_
  refine ms_getr (ci := 7) (k := 7) (v := 3267) (am_fd ck_X9_nodesAt (pc := 3) rfl) tw_882 kc_3261 rfl (ly_3261_7 hL) kc_3267 ?_
  obtain ⟨q1, hq1, hm⟩ := am_bE hm
  refine ms_callVv (M2 := mt_X9_lays) (d2 := 1) (ci := 7) [.int x1, .ref 3267] (am_fd ck_X9_nodesAt (pc := 6) rfl) ok_X9_lays tw_1001 tw_1003 ts_36 (by decide) kc_3261 (Nat.le_of_ble_eq_true rfl) (Nat.le_of_ble_eq_true rfl) (x_X9_lays hL kc_3267 hq1) ?_
  refine am_steps ck_X9_nodesAt 1 (pc' := 10) (lv' := [(0, .ref 3261), (1, .int x1)]) (st' := [.ref 3261]) rfl ?_
  refine ms_getr (ci := 7) (k := 7) (v := 3267) (am_fd ck_X9_nodesAt (pc := 10) rfl) tw_882 kc_3261 rfl (ly_3261_7 hL) kc_3267 ?_
  obtain ⟨q2, hq2, hm⟩ := am_bE hm
  refine ms_callS (M2 := mt_X9_nodes) (d2 := 3) [.ref 3267] (am_fd ck_X9_nodesAt (pc := 13) rfl) ok_X9_nodes tw_1062 tw_1063 (Nat.le_of_ble_eq_true rfl) (Nat.le_of_ble_eq_true rfl) (x_X9_nodes hL kc_3267 hq2) ?_
  cases hm
  exact am_end (am_fd ck_X9_nodesAt (pc := 16) rfl) am_rI rfl rfl
set_option maxRecDepth 100000 in
set_option maxHeartbeats 4000000 in
theorem x_X9_keptPart_7 {G : am_G} {x1 : Int32} {r : am_rr} {y1 : Int32} {res : Int32 × am_m} {k : Int32 → Int32 → am_m → Option (Int32 × am_m)} (hL : am_Lay r) : ∀ (n : Nat) (z2 : Int32) (z3 : Int32) (z4 : Int32) (m : am_m), m_X9_keptPart_7 x1 y1 k n z2 z3 z4 m = some res → (∀ (u2 : Int32) (u3 : Int32) (m1 : am_m), k u2 u3 m1 = some res → am_W G mt_X9_keptPart 5 (some (.int res.1)) (am_hh res.2 r) 77 [(0, .ref 3261), (1, .int y1), (2, .int u2), (3, .int u3)] [] (am_hh m1 r)) → am_W G mt_X9_keptPart 5 (some (.int res.1)) (am_hh res.2 r) 7 [(0, .ref 3261), (1, .int y1), (2, .int z2), (3, .int z3), (4, .int z4)] [] (am_hh m r) := by
  intro n
  induction n with
  | zero => intro z2 z3 z4 m hm K; cases hm
  | succ n ih =>
    intro z2 z3 z4 m hm K
    unfold m_X9_keptPart_7 at hm
    refine am_steps ck_X9_keptPart 2 (pc' := 11) (lv' := [(0, .ref 3261), (1, .int y1), (2, .int z2), (3, .int z3), (4, .int z4)]) (st' := [.int (am_i 24), .int z4]) rfl ?_
    refine am_icmp (tgt := 77) (am_fd ck_X9_keptPart (pc := 11) rfl) rfl (fun hc1 => ?_) (fun hc1 => ?_)
    · replace hm := am_it hm hc1
      refine am_subp [0, 1, 2, 3] rfl ?_
      exact K _ _ _ hm
    · replace hm := am_if hm hc1
      refine am_steps ck_X9_keptPart 2 (pc' := 17) (lv' := [(0, .ref 3261), (1, .int y1), (2, .int z2), (3, .int z3), (4, .int z4)]) (st' := [.int z4, .ref 3261]) rfl ?_
      obtain ⟨q2, hq2, hm⟩ := am_bE hm
      refine ms_callV (M2 := mt_X9_isUnit) (d2 := 2) (ci := 7) [.int z4] (am_fd ck_X9_keptPart (pc := 17) rfl) ok_X9_isUnit tw_949 tw_951 ts_28 (by decide) kc_3261 (Nat.le_of_ble_eq_true rfl) (Nat.le_of_ble_eq_true rfl) (x_X9_isUnit hL hq2) ?_
      refine am_ifc (tgt := 71) (am_fd ck_X9_keptPart (pc := 20) rfl) rfl (fun hc3 => ?_) (fun hc3 => ?_)
      · replace hm := am_it hm hc3
        refine am_steps ck_X9_keptPart 2 (pc' := 7) (lv' := [(4, .int (z4 + am_i 1)), (0, .ref 3261), (1, .int y1), (2, .int z2), (3, .int z3)]) (st' := []) rfl ?_
        refine am_subp [1, 2, 3, 4, 0] rfl ?_
        exact ih _ _ _ _ hm K
      · replace hm := am_if hm hc3
        refine am_steps ck_X9_keptPart 1 (pc' := 24) (lv' := [(0, .ref 3261), (1, .int y1), (2, .int z2), (3, .int z3), (4, .int z4)]) (st' := [.ref 3261]) rfl ?_
        refine ms_getr (ci := 7) (k := 0) (v := 3262) (am_fd ck_X9_keptPart (pc := 24) rfl) tw_875 kc_3261 rfl (ly_3261_0 hL) kc_3262 ?_
        refine am_steps ck_X9_keptPart 3 (pc' := 32) (lv' := [(0, .ref 3261), (1, .int y1), (2, .int z2), (3, .int z3), (4, .int z4)]) (st' := [.int ((am_i 24) + z4), .ref 3262]) rfl ?_
        obtain ⟨hb4, hm⟩ := am_gE hm
        refine ms_iald (n := 15517) (am_fd ck_X9_keptPart (pc := 32) rfl) kc_3262 hb4 ?_
        refine am_steps ck_X9_keptPart 1 (pc' := 34) (lv' := [(0, .ref 3261), (1, .int y1), (2, .int z2), (3, .int z3), (4, .int z4)]) (st' := [.int y1, .int (m 3262 (am_ix ((am_i 24) + z4)))]) rfl ?_
        refine am_icmp (tgt := 40) (am_fd ck_X9_keptPart (pc := 34) rfl) rfl (fun hc5 => ?_) (fun hc5 => ?_)
        · replace hm := am_it hm hc5
          refine am_steps ck_X9_keptPart 2 (pc' := 43) (lv' := [(0, .ref 3261), (1, .int y1), (2, .int z2), (3, .int z3), (4, .int z4)]) (st' := [.int z4, .ref 3261]) rfl ?_
          obtain ⟨q6, hq6, hm⟩ := am_bE hm
          refine ms_callS (M2 := mt_X9_sumAt) (d2 := 1) [.int z4] (am_fd ck_X9_keptPart (pc := 43) rfl) ok_X9_sumAt tw_982 tw_983 (Nat.le_of_ble_eq_true rfl) (Nat.le_of_ble_eq_true rfl) (x_X9_sumAt hL hq6) ?_
          obtain ⟨q7, hq7, hm⟩ := am_bE hm
          refine ms_callV (M2 := mt_X9_nodesAt) (d2 := 4) (ci := 7) [.int q6] (am_fd ck_X9_keptPart (pc := 46) rfl) ok_X9_nodesAt tw_1058 tw_1060 ts_45 (by decide) kc_3261 (Nat.le_of_ble_eq_true rfl) (Nat.le_of_ble_eq_true rfl) (x_X9_nodesAt hL hq7) ?_
          refine am_steps ck_X9_keptPart 3 (pc' := 53) (lv' := [(5, .int q7.1), (0, .ref 3261), (1, .int y1), (2, .int z2), (3, .int z3), (4, .int z4)]) (st' := [.int (am_i (-1)), .int z2]) rfl ?_
          refine am_icmp (tgt := 65) (am_fd ck_X9_keptPart (pc := 53) rfl) rfl (fun hc8 => ?_) (fun hc8 => ?_)
          · replace hm := am_it hm hc8
            refine am_steps ck_X9_keptPart 6 (pc' := 7) (lv' := [(4, .int (z4 + am_i 1)), (3, .int q7.1), (2, .int z4), (5, .int q7.1), (0, .ref 3261), (1, .int y1)]) (st' := []) rfl ?_
            refine am_subp [4, 5, 2, 1, 0] rfl ?_
            exact ih _ _ _ _ hm K
          · replace hm := am_if hm hc8
            refine am_steps ck_X9_keptPart 2 (pc' := 59) (lv' := [(5, .int q7.1), (0, .ref 3261), (1, .int y1), (2, .int z2), (3, .int z3), (4, .int z4)]) (st' := [.int z3, .int q7.1]) rfl ?_
            refine am_icmp (tgt := 65) (am_fd ck_X9_keptPart (pc := 59) rfl) rfl (fun hc9 => ?_) (fun hc9 => ?_)
            · replace hm := am_it hm hc9
              refine am_steps ck_X9_keptPart 6 (pc' := 7) (lv' := [(4, .int (z4 + am_i 1)), (3, .int q7.1), (2, .int z4), (5, .int q7.1), (0, .ref 3261), (1, .int y1)]) (st' := []) rfl ?_
              refine am_subp [4, 5, 2, 1, 0] rfl ?_
              exact ih _ _ _ _ hm K
            · replace hm := am_if hm hc9
              refine am_steps ck_X9_keptPart 3 (pc' := 7) (lv' := [(4, .int (z4 + am_i 1)), (5, .int q7.1), (0, .ref 3261), (1, .int y1), (2, .int z2), (3, .int z3)]) (st' := []) rfl ?_
              refine am_subp [2, 3, 4, 5, 0] rfl ?_
              exact ih _ _ _ _ hm K
        · replace hm := am_if hm hc5
          refine am_steps ck_X9_keptPart 3 (pc' := 7) (lv' := [(4, .int (z4 + am_i 1)), (0, .ref 3261), (1, .int y1), (2, .int z2), (3, .int z3)]) (st' := []) rfl ?_
          refine am_subp [1, 2, 3, 4, 0] rfl ?_
          exact ih _ _ _ _ hm K
set_option maxRecDepth 100000 in
set_option maxHeartbeats 4000000 in
theorem x_X9_keptPart {G : am_G} {m : am_m} {r : am_rr} {x1 : Int32} {res : Int32 × am_m} (hL : am_Lay r) (hm : m_X9_keptPart m x1 = some res) : am_Met G mt_X9_keptPart 5 [.ref 3261, .int x1] (am_hh m r) (some (.int res.1)) (am_hh res.2 r) := by
  refine am_of (by decide) (Nat.le_of_ble_eq_true rfl) ?_
  unfold m_X9_keptPart at hm
  show am_W G mt_X9_keptPart 5 _ _ 0 [(0, .ref 3261), (1, .int x1)] [] (am_hh m r)
  refine am_steps ck_X9_keptPart 6 (pc' := 7) (lv' := [(4, .int (am_i 0)), (3, .int (am_i 0)), (2, .int (am_i (-1))), (0, .ref 3261), (1, .int x1)]) (st' := []) rfl ?_
  refine am_subp [3, 4, 2, 1, 0] rfl ?_
  refine x_X9_keptPart_7 hL am_F _ _ _ _ hm (fun u10 u11 m12 hm => ?_)
  refine am_steps ck_X9_keptPart 2 (pc' := 79) (lv' := [(0, .ref 3261), (1, .int x1), (2, .int u10), (3, .int u11)]) (st' := [.int (am_i (-1)), .int u10]) rfl ?_
  refine am_icmp (tgt := 94) (am_fd ck_X9_keptPart (pc := 79) rfl) rfl (fun hc13 => ?_) (fun hc13 => ?_)
  · replace hm := am_it hm hc13
    refine am_steps ck_X9_keptPart 2 (pc' := 99) (lv' := [(0, .ref 3261), (1, .int x1), (2, .int u10), (3, .int u11)]) (st' := [.int x1]) rfl ?_
    cases hm
    exact am_end (am_fd ck_X9_keptPart (pc := 99) rfl) am_rI rfl rfl
  · replace hm := am_if hm hc13
    refine am_steps ck_X9_keptPart 2 (pc' := 84) (lv' := [(0, .ref 3261), (1, .int x1), (2, .int u10), (3, .int u11)]) (st' := [.int x1, .ref 3261]) rfl ?_
    obtain ⟨q14, hq14, hm⟩ := am_bE hm
    refine ms_callS (M2 := mt_X9_ownAt) (d2 := 1) [.int x1] (am_fd ck_X9_keptPart (pc := 84) rfl) ok_X9_ownAt tw_959 tw_960 (Nat.le_of_ble_eq_true rfl) (Nat.le_of_ble_eq_true rfl) (x_X9_ownAt hL hq14) ?_
    obtain ⟨q15, hq15, hm⟩ := am_bE hm
    refine ms_callV (M2 := mt_X9_nodesAt) (d2 := 4) (ci := 7) [.int q14] (am_fd ck_X9_keptPart (pc := 87) rfl) ok_X9_nodesAt tw_1058 tw_1060 ts_45 (by decide) kc_3261 (Nat.le_of_ble_eq_true rfl) (Nat.le_of_ble_eq_true rfl) (x_X9_nodesAt hL hq15) ?_
    refine am_steps ck_X9_keptPart 1 (pc' := 91) (lv' := [(0, .ref 3261), (1, .int x1), (2, .int u10), (3, .int u11)]) (st' := [.int u11, .int q15.1]) rfl ?_
    refine am_icmp (tgt := 98) (am_fd ck_X9_keptPart (pc := 91) rfl) rfl (fun hc16 => ?_) (fun hc16 => ?_)
    · replace hm := am_it hm hc16
      refine am_steps ck_X9_keptPart 1 (pc' := 99) (lv' := [(0, .ref 3261), (1, .int x1), (2, .int u10), (3, .int u11)]) (st' := [.int u10]) rfl ?_
      cases hm
      exact am_end (am_fd ck_X9_keptPart (pc := 99) rfl) am_rI rfl rfl
    · replace hm := am_if hm hc16
      refine am_steps ck_X9_keptPart 2 (pc' := 99) (lv' := [(0, .ref 3261), (1, .int x1), (2, .int u10), (3, .int u11)]) (st' := [.int x1]) rfl ?_
      cases hm
      exact am_end (am_fd ck_X9_keptPart (pc := 99) rfl) am_rI rfl rfl
set_option maxRecDepth 100000 in
set_option maxHeartbeats 4000000 in
theorem x_X9_versionAt {G : am_G} {m : am_m} {r : am_rr} {x1 : Int32} {x2 : Int32} {res : Int32} (hL : am_Lay r) (hm : m_X9_versionAt m x1 x2 = some res) : am_Met G mt_X9_versionAt 1 [.int x1, .int x2] (am_hh m r) (some (.int res)) (am_hh m r) := by
  refine am_of (by decide) (Nat.le_of_ble_eq_true rfl) ?_
  unfold m_X9_versionAt at hm
  show am_W G mt_X9_versionAt 1 _ _ 0 [(0, .int x1), (1, .int x2)] [] (am_hh m r)
  refine am_steps ck_X9_versionAt 9 (pc' := 13) (lv' := [(0, .int x1), (1, .int x2)]) (st' := [.int ((am_i 3168) + ((am_i 64) * (((am_i 8) * x1) + x2)))]) rfl ?_
  cases hm
  exact am_end (am_fd ck_X9_versionAt (pc := 13) rfl) am_rI rfl rfl
set_option maxRecDepth 100000 in
set_option maxHeartbeats 4000000 in
theorem x_X9_hasVersion_4 {G : am_G} {x1 : Int32} {r : am_rr} {y1 : Int32} {res : am_m} {k : am_m → Option (am_m)} (hL : am_Lay r) : ∀ (n : Nat) (z2 : Int32) (m : am_m), m_X9_hasVersion_4 x1 y1 k n z2 m = some res → (∀ (m1 : am_m), k m1 = some res → am_W G mt_X9_hasVersion 2 none (am_hh res r) 43 [(0, .ref 3261), (1, .int y1)] [] (am_hh m1 r)) → am_W G mt_X9_hasVersion 2 none (am_hh res r) 4 [(0, .ref 3261), (1, .int y1), (2, .int z2)] [] (am_hh m r) := by
  intro n
  induction n with
  | zero => intro z2 m hm K; cases hm
  | succ n ih =>
    intro z2 m hm K
    unfold m_X9_hasVersion_4 at hm
    refine am_steps ck_X9_hasVersion 2 (pc' := 7) (lv' := [(0, .ref 3261), (1, .int y1), (2, .int z2)]) (st' := [.int (am_i 64), .int z2]) rfl ?_
    refine am_icmp (tgt := 43) (am_fd ck_X9_hasVersion (pc := 7) rfl) rfl (fun hc1 => ?_) (fun hc1 => ?_)
    · replace hm := am_it hm hc1
      refine am_subp [0, 1] rfl ?_
      exact K _ hm
    · replace hm := am_if hm hc1
      refine am_steps ck_X9_hasVersion 1 (pc' := 11) (lv' := [(0, .ref 3261), (1, .int y1), (2, .int z2)]) (st' := [.ref 3261]) rfl ?_
      refine ms_getr (ci := 7) (k := 0) (v := 3262) (am_fd ck_X9_hasVersion (pc := 11) rfl) tw_875 kc_3261 rfl (ly_3261_0 hL) kc_3262 ?_
      refine am_steps ck_X9_hasVersion 2 (pc' := 16) (lv' := [(0, .ref 3261), (1, .int y1), (2, .int z2)]) (st' := [.int (am_i 0), .int y1, .ref 3262]) rfl ?_
      obtain ⟨q2, hq2, hm⟩ := am_bE hm
      refine ms_callS (M2 := mt_X9_versionAt) (d2 := 1) [.int y1, .int (am_i 0)] (am_fd ck_X9_hasVersion (pc := 16) rfl) ok_X9_versionAt tw_1073 tw_1074 (Nat.le_of_ble_eq_true rfl) (Nat.le_of_ble_eq_true rfl) (x_X9_versionAt hL hq2) ?_
      refine am_steps ck_X9_hasVersion 3 (pc' := 22) (lv' := [(0, .ref 3261), (1, .int y1), (2, .int z2)]) (st' := [.ref 3261, .int (q2 + z2), .ref 3262]) rfl ?_
      refine ms_getr (ci := 7) (k := 0) (v := 3262) (am_fd ck_X9_hasVersion (pc := 22) rfl) tw_875 kc_3261 rfl (ly_3261_0 hL) kc_3262 ?_
      refine am_steps ck_X9_hasVersion 2 (pc' := 27) (lv' := [(0, .ref 3261), (1, .int y1), (2, .int z2)]) (st' := [.int (am_i 0), .int y1, .ref 3262, .int (q2 + z2), .ref 3262]) rfl ?_
      obtain ⟨q3, hq3, hm⟩ := am_bE hm
      refine ms_callS (M2 := mt_X9_versionAt) (d2 := 1) [.int y1, .int (am_i 0)] (am_fd ck_X9_hasVersion (pc := 27) rfl) ok_X9_versionAt tw_1073 tw_1074 (Nat.le_of_ble_eq_true rfl) (Nat.le_of_ble_eq_true rfl) (x_X9_versionAt hL hq3) ?_
      refine am_steps ck_X9_hasVersion 4 (pc' := 35) (lv' := [(0, .ref 3261), (1, .int y1), (2, .int z2)]) (st' := [.int ((q3 + z2) - (am_i 64)), .ref 3262, .int (q2 + z2), .ref 3262]) rfl ?_
      obtain ⟨hb4, hm⟩ := am_gE hm
      refine ms_iald (n := 15517) (am_fd ck_X9_hasVersion (pc := 35) rfl) kc_3262 hb4 ?_
      obtain ⟨hb5, hm⟩ := am_gE hm
      refine ms_iast (n := 15517) (am_fd ck_X9_hasVersion (pc := 36) rfl) kc_3262 hb5 (fun m6 em6 => ?_)
      replace hm := am_letE em6 hm
      refine am_steps ck_X9_hasVersion 2 (pc' := 4) (lv' := [(2, .int (z2 + am_i (-1))), (0, .ref 3261), (1, .int y1)]) (st' := []) rfl ?_
      refine am_subp [1, 2, 0] rfl ?_
      exact ih _ _ hm K
set_option maxRecDepth 100000 in
set_option maxHeartbeats 4000000 in
theorem x_X9_hasVersion_45 {G : am_G} {x1 : Int32} {r : am_rr} {y1 : Int32} {res : am_m} {k : am_m → Option (am_m)} (hL : am_Lay r) : ∀ (n : Nat) (z2 : Int32) (m : am_m), m_X9_hasVersion_45 x1 y1 k n z2 m = some res → (∀ (m1 : am_m), k m1 = some res → am_W G mt_X9_hasVersion 2 none (am_hh res r) 80 [(0, .ref 3261), (1, .int y1)] [] (am_hh m1 r)) → am_W G mt_X9_hasVersion 2 none (am_hh res r) 45 [(0, .ref 3261), (1, .int y1), (2, .int z2)] [] (am_hh m r) := by
  intro n
  induction n with
  | zero => intro z2 m hm K; cases hm
  | succ n ih =>
    intro z2 m hm K
    unfold m_X9_hasVersion_45 at hm
    refine am_steps ck_X9_hasVersion 2 (pc' := 48) (lv' := [(0, .ref 3261), (1, .int y1), (2, .int z2)]) (st' := [.int (am_i 64), .int z2]) rfl ?_
    refine am_icmp (tgt := 80) (am_fd ck_X9_hasVersion (pc := 48) rfl) rfl (fun hc8 => ?_) (fun hc8 => ?_)
    · replace hm := am_it hm hc8
      refine am_subp [0, 1] rfl ?_
      exact K _ hm
    · replace hm := am_if hm hc8
      refine am_steps ck_X9_hasVersion 1 (pc' := 52) (lv' := [(0, .ref 3261), (1, .int y1), (2, .int z2)]) (st' := [.ref 3261]) rfl ?_
      refine ms_getr (ci := 7) (k := 0) (v := 3262) (am_fd ck_X9_hasVersion (pc := 52) rfl) tw_875 kc_3261 rfl (ly_3261_0 hL) kc_3262 ?_
      refine am_steps ck_X9_hasVersion 2 (pc' := 57) (lv' := [(0, .ref 3261), (1, .int y1), (2, .int z2)]) (st' := [.int (am_i 0), .int y1, .ref 3262]) rfl ?_
      obtain ⟨q9, hq9, hm⟩ := am_bE hm
      refine ms_callS (M2 := mt_X9_versionAt) (d2 := 1) [.int y1, .int (am_i 0)] (am_fd ck_X9_hasVersion (pc := 57) rfl) ok_X9_versionAt tw_1073 tw_1074 (Nat.le_of_ble_eq_true rfl) (Nat.le_of_ble_eq_true rfl) (x_X9_versionAt hL hq9) ?_
      refine am_steps ck_X9_hasVersion 3 (pc' := 63) (lv' := [(0, .ref 3261), (1, .int y1), (2, .int z2)]) (st' := [.ref 3261, .int (q9 + z2), .ref 3262]) rfl ?_
      refine ms_getr (ci := 7) (k := 0) (v := 3262) (am_fd ck_X9_hasVersion (pc := 63) rfl) tw_875 kc_3261 rfl (ly_3261_0 hL) kc_3262 ?_
      refine am_steps ck_X9_hasVersion 1 (pc' := 67) (lv' := [(0, .ref 3261), (1, .int y1), (2, .int z2)]) (st' := [.int y1, .ref 3262, .int (q9 + z2), .ref 3262]) rfl ?_
      obtain ⟨q10, hq10, hm⟩ := am_bE hm
      refine ms_callS (M2 := mt_X9_sumAt) (d2 := 1) [.int y1] (am_fd ck_X9_hasVersion (pc := 67) rfl) ok_X9_sumAt tw_982 tw_983 (Nat.le_of_ble_eq_true rfl) (Nat.le_of_ble_eq_true rfl) (x_X9_sumAt hL hq10) ?_
      refine am_steps ck_X9_hasVersion 2 (pc' := 72) (lv' := [(0, .ref 3261), (1, .int y1), (2, .int z2)]) (st' := [.int (q10 + z2), .ref 3262, .int (q9 + z2), .ref 3262]) rfl ?_
      obtain ⟨hb11, hm⟩ := am_gE hm
      refine ms_iald (n := 15517) (am_fd ck_X9_hasVersion (pc := 72) rfl) kc_3262 hb11 ?_
      obtain ⟨hb12, hm⟩ := am_gE hm
      refine ms_iast (n := 15517) (am_fd ck_X9_hasVersion (pc := 73) rfl) kc_3262 hb12 (fun m13 em13 => ?_)
      replace hm := am_letE em13 hm
      refine am_steps ck_X9_hasVersion 2 (pc' := 45) (lv' := [(2, .int (z2 + am_i 1)), (0, .ref 3261), (1, .int y1)]) (st' := []) rfl ?_
      refine am_subp [1, 2, 0] rfl ?_
      exact ih _ _ hm K
set_option maxRecDepth 100000 in
set_option maxHeartbeats 4000000 in
theorem x_X9_hasVersion {G : am_G} {m : am_m} {r : am_rr} {x1 : Int32} {res : am_m} (hL : am_Lay r) (hm : m_X9_hasVersion m x1 = some res) : am_Met G mt_X9_hasVersion 2 [.ref 3261, .int x1] (am_hh m r) none (am_hh res r) := by
  refine am_of (by decide) (Nat.le_of_ble_eq_true rfl) ?_
  unfold m_X9_hasVersion at hm
  show am_W G mt_X9_hasVersion 2 _ _ 0 [(0, .ref 3261), (1, .int x1)] [] (am_hh m r)
  refine am_steps ck_X9_hasVersion 2 (pc' := 4) (lv' := [(2, .int (am_i 511)), (0, .ref 3261), (1, .int x1)]) (st' := []) rfl ?_
  refine am_subp [1, 2, 0] rfl ?_
  refine x_X9_hasVersion_4 hL am_F _ _ hm (fun m7 hm => ?_)
  refine am_steps ck_X9_hasVersion 2 (pc' := 45) (lv' := [(2, .int (am_i 0)), (0, .ref 3261), (1, .int x1)]) (st' := []) rfl ?_
  refine am_subp [1, 2, 0] rfl ?_
  refine x_X9_hasVersion_45 hL am_F _ _ hm (fun m14 hm => ?_)
  refine am_steps ck_X9_hasVersion 1 (pc' := 81) (lv' := [(0, .ref 3261), (1, .int x1)]) (st' := [.ref 3261]) rfl ?_
  refine ms_getr (ci := 7) (k := 0) (v := 3262) (am_fd ck_X9_hasVersion (pc := 81) rfl) tw_875 kc_3261 rfl (ly_3261_0 hL) kc_3262 ?_
  refine am_steps ck_X9_hasVersion 3 (pc' := 89) (lv' := [(0, .ref 3261), (1, .int x1)]) (st' := [.int ((am_i 3144) + x1), .ref 3262]) rfl ?_
  obtain ⟨hb15, hm⟩ := am_gE hm
  refine ms_iald (n := 15517) (am_fd ck_X9_hasVersion (pc := 89) rfl) kc_3262 hb15 ?_
  refine am_steps ck_X9_hasVersion 1 (pc' := 92) (lv' := [(0, .ref 3261), (1, .int x1)]) (st' := [.int (am_i 8), .int (m14 3262 (am_ix ((am_i 3144) + x1)))]) rfl ?_
  refine am_icmp (tgt := 109) (am_fd ck_X9_hasVersion (pc := 92) rfl) rfl (fun hc16 => ?_) (fun hc16 => ?_)
  · replace hm := am_it hm hc16
    cases hm
    exact am_end (am_fd ck_X9_hasVersion (pc := 109) rfl) am_rV rfl rfl
  · replace hm := am_if hm hc16
    refine am_steps ck_X9_hasVersion 1 (pc' := 96) (lv' := [(0, .ref 3261), (1, .int x1)]) (st' := [.ref 3261]) rfl ?_
    refine ms_getr (ci := 7) (k := 0) (v := 3262) (am_fd ck_X9_hasVersion (pc := 96) rfl) tw_875 kc_3261 rfl (ly_3261_0 hL) kc_3262 ?_
    refine am_steps ck_X9_hasVersion 4 (pc' := 105) (lv' := [(0, .ref 3261), (1, .int x1)]) (st' := [.int ((am_i 3144) + x1), .ref 3262, .int ((am_i 3144) + x1), .ref 3262]) rfl ?_
    obtain ⟨hb17, hm⟩ := am_gE hm
    refine ms_iald (n := 15517) (am_fd ck_X9_hasVersion (pc := 105) rfl) kc_3262 hb17 ?_
    refine am_steps ck_X9_hasVersion 2 (pc' := 108) (lv' := [(0, .ref 3261), (1, .int x1)]) (st' := [.int ((m14 3262 (am_ix ((am_i 3144) + x1))) + (am_i 1)), .int ((am_i 3144) + x1), .ref 3262]) rfl ?_
    obtain ⟨hb18, hm⟩ := am_gE hm
    refine ms_iast (n := 15517) (am_fd ck_X9_hasVersion (pc := 108) rfl) kc_3262 hb18 (fun m19 em19 => ?_)
    replace hm := am_letE em19 hm
    cases hm
    exact am_end (am_fd ck_X9_hasVersion (pc := 109) rfl) am_rV rfl rfl
set_option maxRecDepth 100000 in
set_option maxHeartbeats 4000000 in
theorem x_X9_merges_23 {G : am_G} {x1 : Int32} {r : am_rr} {y2 : Int32} {res : Int32 × am_m} {k : am_m → Option (Int32 × am_m)} (hL : am_Lay r) : ∀ (n : Nat) (z3 : Int32) (m : am_m), m_X9_merges_23 x1 y2 k n z3 m = some res → (∀ (m1 : am_m), k m1 = some res → am_W G mt_X9_merges 3 (some (.int res.1)) (am_hh res.2 r) 50 [(0, .ref 3261), (2, .int y2)] [] (am_hh m1 r)) → am_W G mt_X9_merges 3 (some (.int res.1)) (am_hh res.2 r) 23 [(0, .ref 3261), (2, .int y2), (3, .int z3)] [] (am_hh m r) := by
  intro n
  induction n with
  | zero => intro z3 m hm K; cases hm
  | succ n ih =>
    intro z3 m hm K
    unfold m_X9_merges_23 at hm
    refine am_steps ck_X9_merges 2 (pc' := 26) (lv' := [(0, .ref 3261), (2, .int y2), (3, .int z3)]) (st' := [.int (am_i 64), .int z3]) rfl ?_
    refine am_icmp (tgt := 50) (am_fd ck_X9_merges (pc := 26) rfl) rfl (fun hc3 => ?_) (fun hc3 => ?_)
    · replace hm := am_it hm hc3
      refine am_subp [0, 1] rfl ?_
      exact K _ hm
    · replace hm := am_if hm hc3
      refine am_steps ck_X9_merges 1 (pc' := 30) (lv' := [(0, .ref 3261), (2, .int y2), (3, .int z3)]) (st' := [.ref 3261]) rfl ?_
      refine ms_getr (ci := 7) (k := 6) (v := 3266) (am_fd ck_X9_merges (pc := 30) rfl) tw_881 kc_3261 rfl (ly_3261_6 hL) kc_3266 ?_
      refine am_steps ck_X9_merges 2 (pc' := 35) (lv' := [(0, .ref 3261), (2, .int y2), (3, .int z3)]) (st' := [.int z3, .ref 3266, .int z3, .ref 3266]) rfl ?_
      obtain ⟨hb4, hm⟩ := am_gE hm
      refine ms_iald (n := 64) (am_fd ck_X9_merges (pc := 35) rfl) kc_3266 hb4 ?_
      refine am_steps ck_X9_merges 1 (pc' := 37) (lv' := [(0, .ref 3261), (2, .int y2), (3, .int z3)]) (st' := [.ref 3261, .int (m 3266 (am_ix z3)), .int z3, .ref 3266]) rfl ?_
      refine ms_getr (ci := 7) (k := 7) (v := 3267) (am_fd ck_X9_merges (pc := 37) rfl) tw_882 kc_3261 rfl (ly_3261_7 hL) kc_3267 ?_
      refine am_steps ck_X9_merges 1 (pc' := 41) (lv' := [(0, .ref 3261), (2, .int y2), (3, .int z3)]) (st' := [.int z3, .ref 3267, .int (m 3266 (am_ix z3)), .int z3, .ref 3266]) rfl ?_
      obtain ⟨hb5, hm⟩ := am_gE hm
      refine ms_iald (n := 64) (am_fd ck_X9_merges (pc := 41) rfl) kc_3267 hb5 ?_
      refine am_steps ck_X9_merges 1 (pc' := 43) (lv' := [(0, .ref 3261), (2, .int y2), (3, .int z3)]) (st' := [.int ((m 3266 (am_ix z3)) + (m 3267 (am_ix z3))), .int z3, .ref 3266]) rfl ?_
      obtain ⟨hb6, hm⟩ := am_gE hm
      refine ms_iast (n := 64) (am_fd ck_X9_merges (pc := 43) rfl) kc_3266 hb6 (fun m7 em7 => ?_)
      replace hm := am_letE em7 hm
      refine am_steps ck_X9_merges 2 (pc' := 23) (lv' := [(3, .int (z3 + am_i 1)), (0, .ref 3261), (2, .int y2)]) (st' := []) rfl ?_
      refine am_subp [1, 2, 0] rfl ?_
      exact ih _ _ hm K
set_option maxRecDepth 100000 in
set_option maxHeartbeats 4000000 in
theorem x_X9_merges {G : am_G} {m : am_m} {r : am_rr} {x1 : Int32} {res : Int32 × am_m} (hL : am_Lay r) (hm : m_X9_merges m x1 = some res) : am_Met G mt_X9_merges 3 [.ref 3261, .int x1] (am_hh m r) (some (.int res.1)) (am_hh res.2 r) := by
  refine am_of (by decide) (Nat.le_of_ble_eq_true rfl) ?_
  unfold m_X9_merges at hm
  show am_W G mt_X9_merges 3 _ _ 0 [(0, .ref 3261), (1, .int x1)] [] (am_hh m r)
  refine am_steps ck_X9_merges 3 (pc' := 3) (lv' := [(0, .ref 3261), (1, .int x1)]) (st' := [.ref 3261, .int x1, .ref 3261]) rfl ?_
  refine ms_getr (ci := 7) (k := 7) (v := 3267) (am_fd ck_X9_merges (pc := 3) rfl) tw_882 kc_3261 rfl (ly_3261_7 hL) kc_3267 ?_
  obtain ⟨q1, hq1, hm⟩ := am_bE hm
  refine ms_callVv (M2 := mt_X9_lays) (d2 := 1) (ci := 7) [.int x1, .ref 3267] (am_fd ck_X9_merges (pc := 6) rfl) ok_X9_lays tw_1001 tw_1003 ts_36 (by decide) kc_3261 (Nat.le_of_ble_eq_true rfl) (Nat.le_of_ble_eq_true rfl) (x_X9_lays hL kc_3267 hq1) ?_
  refine am_steps ck_X9_merges 1 (pc' := 10) (lv' := [(0, .ref 3261), (1, .int x1)]) (st' := [.ref 3261]) rfl ?_
  refine ms_getr (ci := 7) (k := 6) (v := 3266) (am_fd ck_X9_merges (pc := 10) rfl) tw_881 kc_3261 rfl (ly_3261_6 hL) kc_3266 ?_
  refine am_steps ck_X9_merges 1 (pc' := 14) (lv' := [(0, .ref 3261), (1, .int x1)]) (st' := [.ref 3261, .ref 3266]) rfl ?_
  refine ms_getr (ci := 7) (k := 7) (v := 3267) (am_fd ck_X9_merges (pc := 14) rfl) tw_882 kc_3261 rfl (ly_3261_7 hL) kc_3267 ?_
  obtain ⟨q2, hq2, hm⟩ := am_bE hm
  refine ms_callS (M2 := mt_X9_common) (d2 := 2) [.ref 3266, .ref 3267] (am_fd ck_X9_merges (pc := 17) rfl) ok_X9_common tw_1005 tw_1006 (Nat.le_of_ble_eq_true rfl) (Nat.le_of_ble_eq_true rfl) (x_X9_common hL kc_3266 kc_3267 hq2) ?_
  refine am_steps ck_X9_merges 3 (pc' := 23) (lv' := [(3, .int (am_i 0)), (2, .int q2), (0, .ref 3261), (1, .int x1)]) (st' := []) rfl ?_
  refine am_subp [2, 1, 0] rfl ?_
  refine x_X9_merges_23 hL am_F _ _ hm (fun m8 hm => ?_)
  refine am_steps ck_X9_merges 3 (pc' := 53) (lv' := [(0, .ref 3261), (2, .int q2)]) (st' := [.int q2, .int (am_i 0), .ref 3261]) rfl ?_
  obtain ⟨q9, hq9, hm⟩ := am_bE hm
  refine ms_callVv (M2 := mt_X9_counts) (d2 := 1) (ci := 7) [.int (am_i 0), .int q2] (am_fd ck_X9_merges (pc := 53) rfl) ok_X9_counts tw_941 tw_943 ts_27 (by decide) kc_3261 (Nat.le_of_ble_eq_true rfl) (Nat.le_of_ble_eq_true rfl) (x_X9_counts hL hq9) ?_
  refine am_steps ck_X9_merges 3 (pc' := 59) (lv' := [(0, .ref 3261), (2, .int q2)]) (st' := [.int (am_i 1), .int (am_i 2), .ref 3261]) rfl ?_
  obtain ⟨q10, hq10, hm⟩ := am_bE hm
  refine ms_callVv (M2 := mt_X9_counts) (d2 := 1) (ci := 7) [.int (am_i 2), .int (am_i 1)] (am_fd ck_X9_merges (pc := 59) rfl) ok_X9_counts tw_941 tw_943 ts_27 (by decide) kc_3261 (Nat.le_of_ble_eq_true rfl) (Nat.le_of_ble_eq_true rfl) (x_X9_counts hL hq10) ?_
  refine am_steps ck_X9_merges 1 (pc' := 63) (lv' := [(0, .ref 3261), (2, .int q2)]) (st' := [.int q2]) rfl ?_
  cases hm
  exact am_end (am_fd ck_X9_merges (pc := 63) rfl) am_rI rfl rfl
