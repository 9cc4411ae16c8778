/-! ===== the constructors ===== -/
theorem tw_20 : Jvm.Cond.code yX8_init prog_1_method_1_code (1 : Nat) (Option.none : Option Jvm.ClassFile.FieldType) ∈ am_tbl := am_mem (i := 20) (by decide +kernel) rfl
theorem tw_21 : Jvm.Cond.methodLink "BranchSums" (3 : Nat) Lib.objectInit ∈ am_tbl := am_mem (i := 21) (by decide +kernel) rfl
theorem tw_22 : Jvm.Cond.instanceMethod Lib.objectInit ∈ am_tbl := am_mem (i := 22) (by decide +kernel) rfl
theorem tw_23 : Jvm.Cond.code Lib.objectInit object_method_1_code (1 : Nat) (Option.none : Option Jvm.ClassFile.FieldType) ∈ am_tbl := am_mem (i := 23) (by decide +kernel) rfl
theorem tw_24 : Jvm.Cond.classLink "BranchSums" (9 : Nat) "BranchSums$Org" ∈ am_tbl := am_mem (i := 24) (by decide +kernel) rfl
theorem tw_25 : Jvm.Cond.instantiable "BranchSums$Org" (6 : Nat) ∈ am_tbl := am_mem (i := 25) (by decide +kernel) rfl
theorem tw_26 : Jvm.Cond.methodLink "BranchSums" (11 : Nat) yX1_init ∈ am_tbl := am_mem (i := 26) (by decide +kernel) rfl
theorem tw_27 : Jvm.Cond.instanceMethod yX1_init ∈ am_tbl := am_mem (i := 27) (by decide +kernel) rfl
theorem tw_28 : Jvm.Cond.code yX1_init prog_3_method_1_code (1 : Nat) (Option.none : Option Jvm.ClassFile.FieldType) ∈ am_tbl := am_mem (i := 28) (by decide +kernel) rfl
theorem tw_29 : Jvm.Cond.methodLink "BranchSums$Org" (3 : Nat) Lib.objectInit ∈ am_tbl := am_mem (i := 29) (by decide +kernel) rfl
theorem tw_30 : Jvm.Cond.classLink "BranchSums$Org" (19 : Nat) "[[I" ∈ am_tbl := am_mem (i := 30) (by decide +kernel) rfl
theorem tw_66 : Jvm.Cond.arrayClass Jvm.ClassFile.FieldType.int ∈ am_tbl := am_mem (i := 66) (by decide +kernel) rfl
theorem tw_67 : Jvm.Cond.arrayClass Jvm.ClassFile.FieldType.boolean ∈ am_tbl := am_mem (i := 67) (by decide +kernel) rfl
theorem tw_68 : Jvm.Cond.classLink "BranchSums" (19 : Nat) "BranchSums$Past" ∈ am_tbl := am_mem (i := 68) (by decide +kernel) rfl
theorem tw_69 : Jvm.Cond.instantiable "BranchSums$Past" (3 : Nat) ∈ am_tbl := am_mem (i := 69) (by decide +kernel) rfl
theorem tw_70 : Jvm.Cond.methodLink "BranchSums" (21 : Nat) yX2_init ∈ am_tbl := am_mem (i := 70) (by decide +kernel) rfl
theorem tw_71 : Jvm.Cond.instanceMethod yX2_init ∈ am_tbl := am_mem (i := 71) (by decide +kernel) rfl
theorem tw_72 : Jvm.Cond.code yX2_init prog_4_method_1_code (2 : Nat) (Option.none : Option Jvm.ClassFile.FieldType) ∈ am_tbl := am_mem (i := 72) (by decide +kernel) rfl
theorem tw_73 : Jvm.Cond.methodLink "BranchSums$Past" (3 : Nat) Lib.objectInit ∈ am_tbl := am_mem (i := 73) (by decide +kernel) rfl
theorem tw_74 : Jvm.Cond.classLink "BranchSums$Past" (9 : Nat) "BranchSums$Org" ∈ am_tbl := am_mem (i := 74) (by decide +kernel) rfl
theorem tw_76 : Jvm.Cond.methodLink "BranchSums$Past" (24 : Nat) yX1_init ∈ am_tbl := am_mem (i := 76) (by decide +kernel) rfl
theorem tw_88 : Jvm.Cond.classLink "BranchSums" (26 : Nat) "BranchSums$Book" ∈ am_tbl := am_mem (i := 88) (by decide +kernel) rfl
theorem tw_89 : Jvm.Cond.instantiable "BranchSums$Book" (7 : Nat) ∈ am_tbl := am_mem (i := 89) (by decide +kernel) rfl
theorem tw_91 : Jvm.Cond.instanceMethod yX0_init ∈ am_tbl := am_mem (i := 91) (by decide +kernel) rfl
theorem tw_92 : Jvm.Cond.code yX0_init prog_2_method_1_code (1 : Nat) (Option.none : Option Jvm.ClassFile.FieldType) ∈ am_tbl := am_mem (i := 92) (by decide +kernel) rfl
theorem tw_93 : Jvm.Cond.methodLink "BranchSums$Book" (3 : Nat) Lib.objectInit ∈ am_tbl := am_mem (i := 93) (by decide +kernel) rfl
theorem tw_123 : Jvm.Cond.classLink "BranchSums" (36 : Nat) "BranchSums$Roller" ∈ am_tbl := am_mem (i := 123) (by decide +kernel) rfl
theorem tw_124 : Jvm.Cond.instantiable "BranchSums$Roller" (4 : Nat) ∈ am_tbl := am_mem (i := 124) (by decide +kernel) rfl
theorem tw_126 : Jvm.Cond.instanceMethod yX4_init ∈ am_tbl := am_mem (i := 126) (by decide +kernel) rfl
theorem tw_127 : Jvm.Cond.code yX4_init prog_6_method_1_code (1 : Nat) (Option.none : Option Jvm.ClassFile.FieldType) ∈ am_tbl := am_mem (i := 127) (by decide +kernel) rfl
theorem tw_128 : Jvm.Cond.methodLink "BranchSums$Roller" (3 : Nat) Lib.objectInit ∈ am_tbl := am_mem (i := 128) (by decide +kernel) rfl
theorem tw_144 : Jvm.Cond.classLink "BranchSums" (43 : Nat) "BranchSums$Tape" ∈ am_tbl := am_mem (i := 144) (by decide +kernel) rfl
theorem tw_145 : Jvm.Cond.instantiable "BranchSums$Tape" (7 : Nat) ∈ am_tbl := am_mem (i := 145) (by decide +kernel) rfl
theorem tw_147 : Jvm.Cond.instanceMethod yX7_init ∈ am_tbl := am_mem (i := 147) (by decide +kernel) rfl
theorem tw_148 : Jvm.Cond.code yX7_init prog_9_method_1_code (1 : Nat) (Option.none : Option Jvm.ClassFile.FieldType) ∈ am_tbl := am_mem (i := 148) (by decide +kernel) rfl
theorem tw_149 : Jvm.Cond.methodLink "BranchSums$Tape" (3 : Nat) Lib.objectInit ∈ am_tbl := am_mem (i := 149) (by decide +kernel) rfl
theorem tw_175 : Jvm.Cond.classLink "BranchSums" (50 : Nat) "BranchSums$Report" ∈ am_tbl := am_mem (i := 175) (by decide +kernel) rfl
theorem tw_176 : Jvm.Cond.instantiable "BranchSums$Report" (2 : Nat) ∈ am_tbl := am_mem (i := 176) (by decide +kernel) rfl
theorem tw_178 : Jvm.Cond.instanceMethod yX3_init ∈ am_tbl := am_mem (i := 178) (by decide +kernel) rfl
theorem tw_179 : Jvm.Cond.code yX3_init prog_5_method_1_code (1 : Nat) (Option.none : Option Jvm.ClassFile.FieldType) ∈ am_tbl := am_mem (i := 179) (by decide +kernel) rfl
theorem tw_180 : Jvm.Cond.methodLink "BranchSums$Report" (3 : Nat) Lib.objectInit ∈ am_tbl := am_mem (i := 180) (by decide +kernel) rfl
theorem tw_189 : Jvm.Cond.classLink "BranchSums" (57 : Nat) "[[I" ∈ am_tbl := am_mem (i := 189) (by decide +kernel) rfl
theorem tw_872 : Jvm.Cond.code yX9_init prog_11_method_2_code (1 : Nat) (Option.none : Option Jvm.ClassFile.FieldType) ∈ am_tbl := am_mem (i := 872) (by decide +kernel) rfl
theorem tw_873 : Jvm.Cond.methodLink "BranchSumsModel" (3 : Nat) Lib.objectInit ∈ am_tbl := am_mem (i := 873) (by decide +kernel) rfl
theorem tw_936 : Jvm.Cond.arrayClass Jvm.ClassFile.FieldType.byte ∈ am_tbl := am_mem (i := 936) (by decide +kernel) rfl
theorem am_isk {a ci n : Nat} {h : am_H} (hk : am_k a ci n) (hl : a < h.1) : am_is h a ci := ⟨hk.1, hl, by rw [hk.2.2]⟩
/-- a row filled -/
def am_fl (h : am_H) (a l : Nat) (v : Int32) : am_H := (h.1, am_up h.2.1 a (fun j => if j < l then v else h.2.1 a j), h.2.2)
def am_fl0 (h : am_H) (a i : Nat) (v : Int32) : am_H := (h.1, am_up h.2.1 a (fun j => if j < i then v else h.2.1 a j), h.2.2)
theorem q_lt {x o k : Nat} (n : x = o + k) (hk : 0 < k) : o < x := by omega
theorem q_lt1 {x o j k : Nat} (n : x = o + k) (hk : j < k) : o + j < x := by omega
theorem q_mx {x o k c : Nat} (n : x = o + k) (hob : o + c ≤ 3273) (hk : k + 1 ≤ c) : x + 1 ≤ 3273 := by omega
theorem q_mxr {x o k c N : Nat} (n : x = o + k) (hob : o + c ≤ 3273) (hk : k + 1 + N ≤ c) : x + 1 + N ≤ 3273 := by omega
theorem q_n0 {o k : Nat} (hk : 0 < k) : o + k ≠ 0 := by omega
theorem q_ne {x o k : Nat} (n : x = o + k) (hk : 0 < k) : o ≠ x := by omega
theorem q_a1 {x o k r : Nat} (n : x = o + k) (h : k + 1 = r) : x + 1 = o + r := by omega
theorem q_aN {x o k r N : Nat} (n : x = o + k) (h : k + 1 + N = r) : x + 1 + N = o + r := by omega
theorem f_nx {h : am_H} {a k x : Nat} (f : h.2.2 a k = x) : (am_nx h).2.2 a k = x := f
theorem f_ui {h : am_H} {a k x b j : Nat} {v : Int32} (f : h.2.2 a k = x) : (am_ui h b j v).2.2 a k = x := f
theorem f_fl {h : am_H} {a k x b j : Nat} {v : Int32} (f : h.2.2 a k = x) : (am_fl h b j v).2.2 a k = x := f
theorem f_ur_s {h : am_H} {a k x : Nat} : (am_ur h a k x).2.2 a k = x := by
  show am_up h.2.2 a _ a k = x
  rw [am_up_same, am_up_same]
theorem f_ur_k {h : am_H} {a k x j y : Nat} (hk : k ≠ j) (f : h.2.2 a k = x) : (am_ur h a j y).2.2 a k = x := by
  show am_up h.2.2 a _ a k = x
  rw [am_up_same, am_up_ne _ _ hk]
  exact f
theorem f_ur_a {h : am_H} {a k x b j y : Nat} (ha : a ≠ b) (f : h.2.2 a k = x) : (am_ur h b j y).2.2 a k = x := by
  show am_up h.2.2 b _ a k = x
  rw [am_up_ne _ _ ha]
  exact f
theorem f_mkr {h : am_H} {a k x N : Nat} (ha : a ≠ h.1) (f : h.2.2 a k = x) : (am_mkr h N).2.2 a k = x := by
  show am_up h.2.2 h.1 _ a k = x
  rw [am_up_ne _ _ ha]
  exact f
section FILL
set_option maxHeartbeats 4000000 in
theorem x_fill_loop {G : am_G} {h : am_H} {a l : Nat} {v : Int32} (ha : am_is h a 11) (hl : (am_sh a).2 = l) (hl2 : l < 2 ^ 31) : ∀ (k i : Nat), i + k = l → am_W G mt_J7_fill_53178 1 none (am_fl h a l v) 5 [(0, .ref a), (1, .int v), (2, .int (nI i)), (3, .int (Int32.ofNat l))] [] (am_fl0 h a i v) := by
  intro k
  induction k with
  | zero =>
    intro i hi
    have hi : i = l := by omega
    subst hi
    refine am_steps ck_J7_fill_53178 2 (pc' := 7) (lv' := [(0, .ref a), (1, .int v), (2, .int (nI i)), (3, .int (Int32.ofNat i))]) (st' := [.int (Int32.ofNat i), .int (nI i)]) rfl ?_
    refine am_icmp (tgt := 20) (am_fd ck_J7_fill_53178 (pc := 7) rfl) rfl (fun _ => ?_) (fun q => absurd (show Int32.ofNat i ≤ nI i from nI_le (Nat.le_refl i) hl2) q)
    exact am_end (am_fd ck_J7_fill_53178 (pc := 20) rfl) am_rV rfl rfl
  | succ k ih =>
    intro i hi
    have hil : i < l := by omega
    refine am_steps ck_J7_fill_53178 2 (pc' := 7) (lv' := [(0, .ref a), (1, .int v), (2, .int (nI i)), (3, .int (Int32.ofNat l))]) (st' := [.int (Int32.ofNat l), .int (nI i)]) rfl ?_
    refine am_icmp (tgt := 20) (am_fd ck_J7_fill_53178 (pc := 7) rfl) rfl (fun q => absurd (show Int32.ofNat l ≤ nI i from q) (nI_ge hil hl2)) (fun _ => ?_)
    refine am_steps ck_J7_fill_53178 3 (pc' := 13) (lv' := [(0, .ref a), (1, .int v), (2, .int (nI i)), (3, .int (Int32.ofNat l))]) (st' := [.int v, .int (nI i), .ref a]) rfl ?_
    refine am_iast (am_fd ck_J7_fill_53178 (pc := 13) rfl) (show am_is (am_fl0 h a i v) a 11 from ha) (by rw [hl]; exact vp_in_nI hil hl2) ?_
    refine am_steps ck_J7_fill_53178 2 (pc' := 5) (lv' := [(2, .int (nI i + am_i 1)), (0, .ref a), (1, .int v), (3, .int (Int32.ofNat l))]) (st' := []) rfl ?_
    refine am_subp [1, 2, 0, 3] rfl ?_
    have e1 : nI i + am_i 1 = nI (i + 1) := by rw [am_i1, nI_succ]
    have e2 : am_ui (am_fl0 h a i v) a (nI i).toNatClampNeg v = am_fl0 h a (i + 1) v := by
      rw [nI_clamp (by omega)]
      unfold am_ui am_fl0
      dsimp only
      rw [am_up_same]
      refine congrArg (fun z => (h.1, z, h.2.2)) (funext fun b => ?_)
      by_cases hb : b = a
      · subst hb
        rw [am_up_same, am_up_same]
        funext j
        by_cases hj : j = i
        · rw [hj, am_up_same, if_pos (by omega)]
        · rw [am_up_ne _ _ hj]
          by_cases hji : j < i
          · rw [if_pos hji, if_pos (by omega)]
          · rw [if_neg hji, if_neg (by omega)]
      · rw [am_up_ne _ _ hb, am_up_ne _ _ hb, am_up_ne _ _ hb]
    rw [e2]
    show am_W G mt_J7_fill_53178 1 none (am_fl h a l v) 5 [(0, .ref a), (1, .int v), (2, .int (nI i + am_i 1)), (3, .int (Int32.ofNat l))] [] _
    rw [e1]
    exact ih (i + 1) (by omega)
set_option maxHeartbeats 4000000 in
theorem x_fill {G : am_G} {h : am_H} {a l : Nat} {v : Int32} (ha : am_is h a 11) (hl : (am_sh a).2 = l) (hl2 : l < 2 ^ 31) : am_Met G mt_J7_fill_53178 1 [.ref a, .int v] h none (am_fl h a l v) := by
  refine am_of (by decide) (Nat.le_of_ble_eq_true rfl) ?_
  show am_W G mt_J7_fill_53178 1 _ _ 0 [(0, .ref a), (1, .int v)] [] h
  refine am_steps ck_J7_fill_53178 3 (pc' := 3) (lv' := [(2, .int (am_i 0)), (0, .ref a), (1, .int v)]) (st' := [.ref a]) rfl ?_
  refine am_alen (am_fd ck_J7_fill_53178 (pc := 3) rfl) ha ?_
  rw [hl]
  refine am_steps ck_J7_fill_53178 1 (pc' := 5) (lv' := [(3, .int (Int32.ofNat l)), (2, .int (am_i 0)), (0, .ref a), (1, .int v)]) (st' := []) rfl ?_
  refine am_subp [2, 3, 1, 0] rfl ?_
  have e : h = am_fl0 h a 0 v := by
    unfold am_fl0
    refine Prod.ext rfl (Prod.ext (funext fun b => ?_) rfl)
    by_cases hb : b = a
    · subst hb
      show _ = am_up h.2.1 b _ b
      rw [am_up_same]
      funext j
      rw [if_neg (Nat.not_lt_zero j)]
    · show _ = am_up h.2.1 a _ b
      rw [am_up_ne _ _ hb]
  have k := x_fill_loop (G := G) (v := v) ha hl hl2 l 0 (by omega)
  rw [← e] at k
  exact k
end FILL
theorem nst0 : Jvm.Cond.methodLinkNest RX8 28 yX0_init RX8 ∈ am_nest := by simp [am_nest]
theorem nst1 : Jvm.Cond.methodLinkNest RX8 38 yX4_init RX8 ∈ am_nest := by simp [am_nest]
theorem nst2 : Jvm.Cond.methodLinkNest RX8 45 yX7_init RX8 ∈ am_nest := by simp [am_nest]
theorem nst3 : Jvm.Cond.methodLinkNest RX8 52 yX3_init RX8 ∈ am_nest := by simp [am_nest]
def mt_X1_init : am_M := (yX1_init, cX1_init, 1, none)
def cd_X1_init : List (Nat × Instr) := [(0, .aload_n 0), (1, .invokespecial 3), (4, .aload_n 0), (5, .bipush 24), (7, .newarray .int), (9, .putfield 9), (12, .aload_n 0), (13, .bipush 24), (15, .newarray .boolean), (17, .putfield 15), (20, .aload_n 0), (21, .bipush 24), (23, .bipush 64), (25, .multianewarray 19 2), (29, .putfield 21), (32, .aload_n 0), (33, .bipush 24), (35, .bipush 64), (37, .multianewarray 19 2), (41, .putfield 24), (44, .aload_n 0), (45, .bipush 24), (47, .newarray .int), (49, .putfield 27), (52, .aload_n 0), (53, .sipush 192), (56, .bipush 64), (58, .multianewarray 19 2), (62, .putfield 30), (65, .aload_n 0), (66, .getfield 9), (69, .bipush (-2)), (71, .invokestatic 33), (74, .aload_n 0), (75, .getfield 9), (78, .iconst 0), (79, .iconst (-1)), (80, .iastore), (81, .return_)]
theorem ck_X1_init : am_cok mt_X1_init cd_X1_init := by decide +kernel
theorem ok_X1_init : am_ok mt_X1_init 0 := ⟨tw_28, tw_2, by decide, by decide +kernel, by decide⟩
def c_X1_init (h0 : am_H) (o : Nat) : am_H := am_ui (am_fl (am_ur (am_mkr (am_ur (am_nx (am_ur (am_mkr (am_ur (am_mkr (am_ur (am_nx (am_ur (am_nx h0) o 0 (o + 1))) o 1 (o + 2)) 24) o 2 (o + 3)) 24) o 3 (o + 28))) o 4 (o + 53)) 192) o 5 (o + 54)) (o + 1) 24 (am_i (-2))) (o + 1) 0 (am_i (-1))
set_option maxRecDepth 100000 in
theorem n_X1_init {h0 : am_H} {o : Nat} (n0 : h0.1 = (o + 1)) : (c_X1_init h0 o).1 = (o + 247) := by
  show h0.1 + 246 = _
  omega
set_option maxRecDepth 100000 in
set_option maxHeartbeats 4000000 in
theorem x_X1_init {G : am_G} {h0 : am_H} {o : Nat} (hO : am_og o) (n0 : h0.1 = (o + 1)) : am_Met G mt_X1_init 3 [.ref o] h0 none (c_X1_init h0 o) := by
  refine am_of (by decide) (Nat.le_of_ble_eq_true rfl) ?_
  have hob := (am_og_sh hO).2.1
  have kU1 : am_k (o + 1) 11 24 := kU hO
  show am_W G mt_X1_init 3 _ _ 0 [(0, .ref o)] [] h0
  refine am_steps ck_X1_init 1 (pc' := 1) (lv' := [(0, .ref o)]) (st' := [.ref o]) rfl ?_
  refine am_oinit (am_fd ck_X1_init (pc := 1) rfl) tw_29 tw_22 tw_23 (Nat.le_of_ble_eq_true rfl) (Nat.le_of_ble_eq_true rfl) ?_
  refine am_steps ck_X1_init 2 (pc' := 7) (lv' := [(0, .ref o)]) (st' := [.int (am_i 24), .ref o]) rfl ?_
  have hs : am_sh h0.1 = (11, 24) := by rw [n0]; exact (am_og_k (k := 1) hO (by decide) rfl).2.2
  refine am_newa (ty := .int) (kd := 11) (Or.inl ⟨rfl, rfl⟩) (am_fd ck_X1_init (pc := 7) rfl) tw_66 (by rw [hs]) (by decide) (by rw [hs]; decide +kernel) (by rw [hs]; exact Nat.le_of_ble_eq_true rfl) (q_mx n0 hob (by decide)) ?_
  rw [n0]
  obtain ⟨h1, e1⟩ : ∃ z, z = am_nx h0 := ⟨_, rfl⟩
  rw [← e1]
  have n1 : h1.1 = (o + 2) := by rw [e1]; show h0.1 + 1 = _; exact q_a1 n0 (by decide)
  refine am_putr (ci := 1) (k := 0) (am_fd ck_X1_init (pc := 9) rfl) tw_35 (by decide) (by decide) (am_isk (kO hO) (q_lt n1 (by decide))) ⟨rfl, rfl, rfl⟩ (Or.inr ⟨_, rfl⟩) (q_n0 (by decide)) ?_
  obtain ⟨h2, e2⟩ : ∃ z, z = am_ur h1 o 0 (o + 1) := ⟨_, rfl⟩
  rw [← e2]
  have n2 : h2.1 = (o + 2) := by rw [e2]; exact n1
  have f_0_2 : h2.2.2 o 0 = (o + 1) := by rw [e2]; exact f_ur_s
  refine am_steps ck_X1_init 2 (pc' := 15) (lv' := [(0, .ref o)]) (st' := [.int (am_i 24), .ref o]) rfl ?_
  have hs : am_sh h2.1 = (12, 24) := by rw [n2]; exact (am_og_k (k := 2) hO (by decide) rfl).2.2
  refine am_newa (ty := .int) (kd := 12) (Or.inr (Or.inl ⟨rfl, rfl⟩)) (am_fd ck_X1_init (pc := 15) rfl) tw_67 (by rw [hs]) (by decide) (by rw [hs]; decide +kernel) (by rw [hs]; exact Nat.le_of_ble_eq_true rfl) (q_mx n2 hob (by decide)) ?_
  rw [n2]
  obtain ⟨h3, e3⟩ : ∃ z, z = am_nx h2 := ⟨_, rfl⟩
  rw [← e3]
  have n3 : h3.1 = (o + 3) := by rw [e3]; show h2.1 + 1 = _; exact q_a1 n2 (by decide)
  have f_0_3 : h3.2.2 o 0 = (o + 1) := by rw [e3]; exact f_nx f_0_2
  refine am_putr (ci := 1) (k := 1) (am_fd ck_X1_init (pc := 17) rfl) tw_38 (by decide) (by decide) (am_isk (kO hO) (q_lt n3 (by decide))) ⟨rfl, rfl, rfl⟩ (Or.inr ⟨_, rfl⟩) (q_n0 (by decide)) ?_
  obtain ⟨h4, e4⟩ : ∃ z, z = am_ur h3 o 1 (o + 2) := ⟨_, rfl⟩
  rw [← e4]
  have n4 : h4.1 = (o + 3) := by rw [e4]; exact n3
  have f_0_4 : h4.2.2 o 0 = (o + 1) := by rw [e4]; exact f_ur_k (by decide) f_0_3
  refine am_steps ck_X1_init 3 (pc' := 25) (lv' := [(0, .ref o)]) (st' := [.int (am_i 64), .int (am_i 24), .ref o]) rfl ?_
  have hs : am_sh h4.1 = (14, 24) := by rw [n4]; exact (am_og_k (k := 3) hO (by decide) rfl).2.2
  have hs2 : ∀ j, j < 24 → am_sh (h4.1 + 1 + j) = (11, 64) := by intro j hj; rw [n4]; exact (by rw [show o + 3 + 1 + j = aW o j from by unfold aW; omega]; exact (kW hO hj).2.2)
  refine am_mna (N := 24) (K := 64) (am_fd ck_X1_init (pc := 25) rfl) tw_30 tw_66 hs hs2 (by decide) (by decide) (by decide +kernel) (by decide +kernel) (by decide) (by decide) (q_mxr n4 hob (by decide)) ?_
  rw [n4]
  obtain ⟨h5, e5⟩ : ∃ z, z = am_mkr h4 24 := ⟨_, rfl⟩
  rw [← e5]
  have n5 : h5.1 = (o + 28) := by rw [e5]; show h4.1 + 1 + 24 = _; exact q_aN n4 (by decide)
  have f_0_5 : h5.2.2 o 0 = (o + 1) := by rw [e5]; exact f_mkr (q_ne n4 (by decide)) f_0_4
  refine am_putr (ci := 1) (k := 2) (am_fd ck_X1_init (pc := 29) rfl) tw_42 (by decide) (by decide) (am_isk (kO hO) (q_lt n5 (by decide))) ⟨rfl, rfl, rfl⟩ (Or.inr ⟨_, rfl⟩) (q_n0 (by decide)) ?_
  obtain ⟨h6, e6⟩ : ∃ z, z = am_ur h5 o 2 (o + 3) := ⟨_, rfl⟩
  rw [← e6]
  have n6 : h6.1 = (o + 28) := by rw [e6]; exact n5
  have f_0_6 : h6.2.2 o 0 = (o + 1) := by rw [e6]; exact f_ur_k (by decide) f_0_5
  refine am_steps ck_X1_init 3 (pc' := 37) (lv' := [(0, .ref o)]) (st' := [.int (am_i 64), .int (am_i 24), .ref o]) rfl ?_
  have hs : am_sh h6.1 = (14, 24) := by rw [n6]; exact (am_og_k (k := 28) hO (by decide) rfl).2.2
  have hs2 : ∀ j, j < 24 → am_sh (h6.1 + 1 + j) = (11, 64) := by intro j hj; rw [n6]; exact (by rw [show o + 28 + 1 + j = aX o j from by unfold aX; omega]; exact (kX hO hj).2.2)
  refine am_mna (N := 24) (K := 64) (am_fd ck_X1_init (pc := 37) rfl) tw_30 tw_66 hs hs2 (by decide) (by decide) (by decide +kernel) (by decide +kernel) (by decide) (by decide) (q_mxr n6 hob (by decide)) ?_
  rw [n6]
  obtain ⟨h7, e7⟩ : ∃ z, z = am_mkr h6 24 := ⟨_, rfl⟩
  rw [← e7]
  have n7 : h7.1 = (o + 53) := by rw [e7]; show h6.1 + 1 + 24 = _; exact q_aN n6 (by decide)
  have f_0_7 : h7.2.2 o 0 = (o + 1) := by rw [e7]; exact f_mkr (q_ne n6 (by decide)) f_0_6
  refine am_putr (ci := 1) (k := 3) (am_fd ck_X1_init (pc := 41) rfl) tw_46 (by decide) (by decide) (am_isk (kO hO) (q_lt n7 (by decide))) ⟨rfl, rfl, rfl⟩ (Or.inr ⟨_, rfl⟩) (q_n0 (by decide)) ?_
  obtain ⟨h8, e8⟩ : ∃ z, z = am_ur h7 o 3 (o + 28) := ⟨_, rfl⟩
  rw [← e8]
  have n8 : h8.1 = (o + 53) := by rw [e8]; exact n7
  have f_0_8 : h8.2.2 o 0 = (o + 1) := by rw [e8]; exact f_ur_k (by decide) f_0_7
  refine am_steps ck_X1_init 2 (pc' := 47) (lv' := [(0, .ref o)]) (st' := [.int (am_i 24), .ref o]) rfl ?_
  have hs : am_sh h8.1 = (11, 24) := by rw [n8]; exact (am_og_k (k := 53) hO (by decide) rfl).2.2
  refine am_newa (ty := .int) (kd := 11) (Or.inl ⟨rfl, rfl⟩) (am_fd ck_X1_init (pc := 47) rfl) tw_66 (by rw [hs]) (by decide) (by rw [hs]; decide +kernel) (by rw [hs]; exact Nat.le_of_ble_eq_true rfl) (q_mx n8 hob (by decide)) ?_
  rw [n8]
  obtain ⟨h9, e9⟩ : ∃ z, z = am_nx h8 := ⟨_, rfl⟩
  rw [← e9]
  have n9 : h9.1 = (o + 54) := by rw [e9]; show h8.1 + 1 = _; exact q_a1 n8 (by decide)
  have f_0_9 : h9.2.2 o 0 = (o + 1) := by rw [e9]; exact f_nx f_0_8
  refine am_putr (ci := 1) (k := 4) (am_fd ck_X1_init (pc := 49) rfl) tw_49 (by decide) (by decide) (am_isk (kO hO) (q_lt n9 (by decide))) ⟨rfl, rfl, rfl⟩ (Or.inr ⟨_, rfl⟩) (q_n0 (by decide)) ?_
  obtain ⟨h10, e10⟩ : ∃ z, z = am_ur h9 o 4 (o + 53) := ⟨_, rfl⟩
  rw [← e10]
  have n10 : h10.1 = (o + 54) := by rw [e10]; exact n9
  have f_0_10 : h10.2.2 o 0 = (o + 1) := by rw [e10]; exact f_ur_k (by decide) f_0_9
  refine am_steps ck_X1_init 3 (pc' := 58) (lv' := [(0, .ref o)]) (st' := [.int (am_i 64), .int (am_i 192), .ref o]) rfl ?_
  have hs : am_sh h10.1 = (14, 192) := by rw [n10]; exact (am_og_k (k := 54) hO (by decide) rfl).2.2
  have hs2 : ∀ j, j < 192 → am_sh (h10.1 + 1 + j) = (11, 64) := by intro j hj; rw [n10]; exact (by rw [show o + 54 + 1 + j = o + 55 + j from by omega]; exact (kV hO hj).2.2)
  refine am_mna (N := 192) (K := 64) (am_fd ck_X1_init (pc := 58) rfl) tw_30 tw_66 hs hs2 (by decide) (by decide) (by decide +kernel) (by decide +kernel) (by decide) (by decide) (q_mxr n10 hob (by decide)) ?_
  rw [n10]
  obtain ⟨h11, e11⟩ : ∃ z, z = am_mkr h10 192 := ⟨_, rfl⟩
  rw [← e11]
  have n11 : h11.1 = (o + 247) := by rw [e11]; show h10.1 + 1 + 192 = _; exact q_aN n10 (by decide)
  have f_0_11 : h11.2.2 o 0 = (o + 1) := by rw [e11]; exact f_mkr (q_ne n10 (by decide)) f_0_10
  refine am_putr (ci := 1) (k := 5) (am_fd ck_X1_init (pc := 62) rfl) tw_51 (by decide) (by decide) (am_isk (kO hO) (q_lt n11 (by decide))) ⟨rfl, rfl, rfl⟩ (Or.inr ⟨_, rfl⟩) (q_n0 (by decide)) ?_
  obtain ⟨h12, e12⟩ : ∃ z, z = am_ur h11 o 5 (o + 54) := ⟨_, rfl⟩
  rw [← e12]
  have n12 : h12.1 = (o + 247) := by rw [e12]; exact n11
  have f_0_12 : h12.2.2 o 0 = (o + 1) := by rw [e12]; exact f_ur_k (by decide) f_0_11
  refine am_steps ck_X1_init 1 (pc' := 66) (lv' := [(0, .ref o)]) (st' := [.ref o]) rfl ?_
  refine am_get (ci := 1) (k := 0) (am_fd ck_X1_init (pc := 66) rfl) tw_35 (am_in 1 (by decide)) (by decide) (by decide) (am_isk (kO hO) (q_lt n12 (by decide))) ?_
  have hg := f_0_12
  rw [show (bif am_isr 1 0 then am_q (h12.2.2 o 0) else Value.int (h12.2.1 o 0)) = .ref (o + 1) from by show am_q (h12.2.2 o 0) = _; rw [hg]; exact if_neg (q_n0 (by decide))]
  refine am_steps ck_X1_init 1 (pc' := 71) (lv' := [(0, .ref o)]) (st' := [.int (am_i (-2)), .ref (o + 1)]) rfl ?_
  refine am_callS (M2 := mt_J7_fill_53178) (d2 := 1) (r2 := none) (h2 := am_fl h12 (o + 1) 24 (am_i (-2))) [.ref (o + 1), .int (am_i (-2))] (am_fd ck_X1_init (pc := 71) rfl) ok_J7_fill_53178 tw_32 tw_33 (Nat.le_of_ble_eq_true rfl) (Nat.le_of_ble_eq_true rfl) (x_fill (am_isk kU1 (q_lt1 n12 (by decide))) (by rw [(kU1).len]) (by decide)) ?_
  obtain ⟨h13, e13⟩ : ∃ z, z = am_fl h12 (o + 1) 24 (am_i (-2)) := ⟨_, rfl⟩
  rw [← e13]
  have n13 : h13.1 = (o + 247) := by rw [e13]; exact n12
  have f_0_13 : h13.2.2 o 0 = (o + 1) := by rw [e13]; exact f_fl f_0_12
  show am_W _ _ _ _ _ _ _ [] _
  refine am_steps ck_X1_init 1 (pc' := 75) (lv' := [(0, .ref o)]) (st' := [.ref o]) rfl ?_
  refine am_get (ci := 1) (k := 0) (am_fd ck_X1_init (pc := 75) rfl) tw_35 (am_in 1 (by decide)) (by decide) (by decide) (am_isk (kO hO) (q_lt n13 (by decide))) ?_
  have hg := f_0_13
  rw [show (bif am_isr 1 0 then am_q (h13.2.2 o 0) else Value.int (h13.2.1 o 0)) = .ref (o + 1) from by show am_q (h13.2.2 o 0) = _; rw [hg]; exact if_neg (q_n0 (by decide))]
  refine am_steps ck_X1_init 2 (pc' := 80) (lv' := [(0, .ref o)]) (st' := [.int (am_i (-1)), .int (am_i 0), .ref (o + 1)]) rfl ?_
  refine am_iast (am_fd ck_X1_init (pc := 80) rfl) (am_isk kU1 (q_lt1 n13 (by decide))) (by rw [(kU1).len]; exact am_ibv (by decide +kernel)) ?_
  rw [show Int32.toNatClampNeg (am_i 0) = 0 from by decide +kernel]
  obtain ⟨h14, e14⟩ : ∃ z, z = am_ui h13 (o + 1) 0 (am_i (-1)) := ⟨_, rfl⟩
  rw [← e14]
  have n14 : h14.1 = (o + 247) := by rw [e14]; exact n13
  have f_0_14 : h14.2.2 o 0 = (o + 1) := by rw [e14]; exact f_ui f_0_13
  refine am_end (am_fd ck_X1_init (pc := 81) rfl) am_rV rfl ?_
  rw [e14, e13, e12, e11, e10, e9, e8, e7, e6, e5, e4, e3, e2, e1]; rfl
theorem f_c1 {h : am_H} {o a k x : Nat} (n0 : h.1 = o + 1) (ha : a < o) (f : h.2.2 a k = x) : (c_X1_init h o).2.2 a k = x := by
  unfold c_X1_init
  refine f_ui (f_fl (f_ur_a (by omega) (f_mkr ?_ (f_ur_a (by omega) (f_nx (f_ur_a (by omega) (f_mkr ?_ (f_ur_a (by omega) (f_mkr ?_ (f_ur_a (by omega) (f_nx (f_ur_a (by omega) (f_nx f)))))))))))))
  · show a ≠ h.1 + 1 + 1 + 1 + 24 + 1 + 24 + 1
    omega
  · show a ≠ h.1 + 1 + 1 + 1 + 24
    omega
  · show a ≠ h.1 + 1 + 1
    omega
def mt_X0_init : am_M := (yX0_init, cX0_init, 1, none)
def cd_X0_init : List (Nat × Instr) := [(0, .aload_n 0), (1, .invokespecial 3), (4, .aload_n 0), (5, .bipush 11), (7, .newarray .int), (9, .putfield 9), (12, .aload_n 0), (13, .bipush 12), (15, .newarray .int), (17, .putfield 15), (20, .aload_n 0), (21, .bipush 12), (23, .newarray .int), (25, .putfield 18), (28, .aload_n 0), (29, .bipush 12), (31, .newarray .int), (33, .putfield 21), (36, .aload_n 0), (37, .bipush 12), (39, .newarray .int), (41, .putfield 24), (44, .aload_n 0), (45, .iconst 0), (46, .putfield 27), (49, .aload_n 0), (50, .iconst 0), (51, .putfield 31), (54, .return_)]
theorem ck_X0_init : am_cok mt_X0_init cd_X0_init := by decide +kernel
theorem ok_X0_init : am_ok mt_X0_init 0 := ⟨tw_92, tw_5, by decide, by decide +kernel, by decide⟩
def c_X0_init (h0 : am_H) (b : Nat) : am_H := am_ui (am_ui (am_ur (am_nx (am_ur (am_nx (am_ur (am_nx (am_ur (am_nx (am_ur (am_nx h0) b 0 (b + 1))) b 1 (b + 2))) b 2 (b + 3))) b 3 (b + 4))) b 4 (b + 5)) b 5 (am_i 0)) b 6 (am_i 0)
set_option maxRecDepth 100000 in
theorem n_X0_init {h0 : am_H} {b : Nat} (n0 : h0.1 = (b + 1)) : (c_X0_init h0 b).1 = (b + 6) := by
  show h0.1 + 5 = _
  omega
set_option maxRecDepth 100000 in
set_option maxHeartbeats 4000000 in
theorem x_X0_init {G : am_G} {h0 : am_H} {b : Nat} (hB : am_bk b) (n0 : h0.1 = (b + 1)) : am_Met G mt_X0_init 2 [.ref b] h0 none (c_X0_init h0 b) := by
  refine am_of (by decide) (Nat.le_of_ble_eq_true rfl) ?_
  have hob : b + 297 ≤ 3273 := by rcases hB with rfl | rfl <;> decide
  show am_W G mt_X0_init 2 _ _ 0 [(0, .ref b)] [] h0
  refine am_steps ck_X0_init 1 (pc' := 1) (lv' := [(0, .ref b)]) (st' := [.ref b]) rfl ?_
  refine am_oinit (am_fd ck_X0_init (pc := 1) rfl) tw_93 tw_22 tw_23 (Nat.le_of_ble_eq_true rfl) (Nat.le_of_ble_eq_true rfl) ?_
  refine am_steps ck_X0_init 2 (pc' := 7) (lv' := [(0, .ref b)]) (st' := [.int (am_i 11), .ref b]) rfl ?_
  have hs : am_sh h0.1 = (11, 11) := by rw [n0]; exact (kB hB).2.1.2.2
  refine am_newa (ty := .int) (kd := 11) (Or.inl ⟨rfl, rfl⟩) (am_fd ck_X0_init (pc := 7) rfl) tw_66 (by rw [hs]) (by decide) (by rw [hs]; decide +kernel) (by rw [hs]; exact Nat.le_of_ble_eq_true rfl) (q_mx n0 hob (by decide)) ?_
  rw [n0]
  obtain ⟨h1, e1⟩ : ∃ z, z = am_nx h0 := ⟨_, rfl⟩
  rw [← e1]
  have n1 : h1.1 = (b + 2) := by rw [e1]; show h0.1 + 1 = _; exact q_a1 n0 (by decide)
  refine am_putr (ci := 0) (k := 0) (am_fd ck_X0_init (pc := 9) rfl) tw_94 (by decide) (by decide) (am_isk (kB hB).1 (q_lt n1 (by decide))) ⟨rfl, rfl, rfl⟩ (Or.inr ⟨_, rfl⟩) (q_n0 (by decide)) ?_
  obtain ⟨h2, e2⟩ : ∃ z, z = am_ur h1 b 0 (b + 1) := ⟨_, rfl⟩
  rw [← e2]
  have n2 : h2.1 = (b + 2) := by rw [e2]; exact n1
  refine am_steps ck_X0_init 2 (pc' := 15) (lv' := [(0, .ref b)]) (st' := [.int (am_i 12), .ref b]) rfl ?_
  have hs : am_sh h2.1 = (11, 12) := by rw [n2]; exact ((kB hB).2.2 1 (by decide) (by decide)).2.2
  refine am_newa (ty := .int) (kd := 11) (Or.inl ⟨rfl, rfl⟩) (am_fd ck_X0_init (pc := 15) rfl) tw_66 (by rw [hs]) (by decide) (by rw [hs]; decide +kernel) (by rw [hs]; exact Nat.le_of_ble_eq_true rfl) (q_mx n2 hob (by decide)) ?_
  rw [n2]
  obtain ⟨h3, e3⟩ : ∃ z, z = am_nx h2 := ⟨_, rfl⟩
  rw [← e3]
  have n3 : h3.1 = (b + 3) := by rw [e3]; show h2.1 + 1 = _; exact q_a1 n2 (by decide)
  refine am_putr (ci := 0) (k := 1) (am_fd ck_X0_init (pc := 17) rfl) tw_96 (by decide) (by decide) (am_isk (kB hB).1 (q_lt n3 (by decide))) ⟨rfl, rfl, rfl⟩ (Or.inr ⟨_, rfl⟩) (q_n0 (by decide)) ?_
  obtain ⟨h4, e4⟩ : ∃ z, z = am_ur h3 b 1 (b + 2) := ⟨_, rfl⟩
  rw [← e4]
  have n4 : h4.1 = (b + 3) := by rw [e4]; exact n3
  refine am_steps ck_X0_init 2 (pc' := 23) (lv' := [(0, .ref b)]) (st' := [.int (am_i 12), .ref b]) rfl ?_
  have hs : am_sh h4.1 = (11, 12) := by rw [n4]; exact ((kB hB).2.2 2 (by decide) (by decide)).2.2
  refine am_newa (ty := .int) (kd := 11) (Or.inl ⟨rfl, rfl⟩) (am_fd ck_X0_init (pc := 23) rfl) tw_66 (by rw [hs]) (by decide) (by rw [hs]; decide +kernel) (by rw [hs]; exact Nat.le_of_ble_eq_true rfl) (q_mx n4 hob (by decide)) ?_
  rw [n4]
  obtain ⟨h5, e5⟩ : ∃ z, z = am_nx h4 := ⟨_, rfl⟩
  rw [← e5]
  have n5 : h5.1 = (b + 4) := by rw [e5]; show h4.1 + 1 = _; exact q_a1 n4 (by decide)
  refine am_putr (ci := 0) (k := 2) (am_fd ck_X0_init (pc := 25) rfl) tw_98 (by decide) (by decide) (am_isk (kB hB).1 (q_lt n5 (by decide))) ⟨rfl, rfl, rfl⟩ (Or.inr ⟨_, rfl⟩) (q_n0 (by decide)) ?_
  obtain ⟨h6, e6⟩ : ∃ z, z = am_ur h5 b 2 (b + 3) := ⟨_, rfl⟩
  rw [← e6]
  have n6 : h6.1 = (b + 4) := by rw [e6]; exact n5
  refine am_steps ck_X0_init 2 (pc' := 31) (lv' := [(0, .ref b)]) (st' := [.int (am_i 12), .ref b]) rfl ?_
  have hs : am_sh h6.1 = (11, 12) := by rw [n6]; exact ((kB hB).2.2 3 (by decide) (by decide)).2.2
  refine am_newa (ty := .int) (kd := 11) (Or.inl ⟨rfl, rfl⟩) (am_fd ck_X0_init (pc := 31) rfl) tw_66 (by rw [hs]) (by decide) (by rw [hs]; decide +kernel) (by rw [hs]; exact Nat.le_of_ble_eq_true rfl) (q_mx n6 hob (by decide)) ?_
  rw [n6]
  obtain ⟨h7, e7⟩ : ∃ z, z = am_nx h6 := ⟨_, rfl⟩
  rw [← e7]
  have n7 : h7.1 = (b + 5) := by rw [e7]; show h6.1 + 1 = _; exact q_a1 n6 (by decide)
  refine am_putr (ci := 0) (k := 3) (am_fd ck_X0_init (pc := 33) rfl) tw_100 (by decide) (by decide) (am_isk (kB hB).1 (q_lt n7 (by decide))) ⟨rfl, rfl, rfl⟩ (Or.inr ⟨_, rfl⟩) (q_n0 (by decide)) ?_
  obtain ⟨h8, e8⟩ : ∃ z, z = am_ur h7 b 3 (b + 4) := ⟨_, rfl⟩
  rw [← e8]
  have n8 : h8.1 = (b + 5) := by rw [e8]; exact n7
  refine am_steps ck_X0_init 2 (pc' := 39) (lv' := [(0, .ref b)]) (st' := [.int (am_i 12), .ref b]) rfl ?_
  have hs : am_sh h8.1 = (11, 12) := by rw [n8]; exact ((kB hB).2.2 4 (by decide) (by decide)).2.2
  refine am_newa (ty := .int) (kd := 11) (Or.inl ⟨rfl, rfl⟩) (am_fd ck_X0_init (pc := 39) rfl) tw_66 (by rw [hs]) (by decide) (by rw [hs]; decide +kernel) (by rw [hs]; exact Nat.le_of_ble_eq_true rfl) (q_mx n8 hob (by decide)) ?_
  rw [n8]
  obtain ⟨h9, e9⟩ : ∃ z, z = am_nx h8 := ⟨_, rfl⟩
  rw [← e9]
  have n9 : h9.1 = (b + 6) := by rw [e9]; show h8.1 + 1 = _; exact q_a1 n8 (by decide)
  refine am_putr (ci := 0) (k := 4) (am_fd ck_X0_init (pc := 41) rfl) tw_102 (by decide) (by decide) (am_isk (kB hB).1 (q_lt n9 (by decide))) ⟨rfl, rfl, rfl⟩ (Or.inr ⟨_, rfl⟩) (q_n0 (by decide)) ?_
  obtain ⟨h10, e10⟩ : ∃ z, z = am_ur h9 b 4 (b + 5) := ⟨_, rfl⟩
  rw [← e10]
  have n10 : h10.1 = (b + 6) := by rw [e10]; exact n9
  refine am_steps ck_X0_init 2 (pc' := 46) (lv' := [(0, .ref b)]) (st' := [.int (am_i 0), .ref b]) rfl ?_
  refine am_puti (ci := 0) (k := 5) (am_fd ck_X0_init (pc := 46) rfl) tw_104 (by decide) (by decide) (am_isk (kB hB).1 (q_lt n10 (by decide))) rfl rfl ?_
  obtain ⟨h11, e11⟩ : ∃ z, z = am_ui h10 b 5 (am_i 0) := ⟨_, rfl⟩
  rw [← e11]
  have n11 : h11.1 = (b + 6) := by rw [e11]; exact n10
  refine am_steps ck_X0_init 2 (pc' := 51) (lv' := [(0, .ref b)]) (st' := [.int (am_i 0), .ref b]) rfl ?_
  refine am_puti (ci := 0) (k := 6) (am_fd ck_X0_init (pc := 51) rfl) tw_106 (by decide) (by decide) (am_isk (kB hB).1 (q_lt n11 (by decide))) rfl rfl ?_
  obtain ⟨h12, e12⟩ : ∃ z, z = am_ui h11 b 6 (am_i 0) := ⟨_, rfl⟩
  rw [← e12]
  have n12 : h12.1 = (b + 6) := by rw [e12]; exact n11
  refine am_end (am_fd ck_X0_init (pc := 54) rfl) am_rV rfl ?_
  rw [e12, e11, e10, e9, e8, e7, e6, e5, e4, e3, e2, e1]; rfl
def mt_X3_init : am_M := (yX3_init, cX3_init, 1, none)
def cd_X3_init : List (Nat × Instr) := [(0, .aload_n 0), (1, .invokespecial 3), (4, .aload_n 0), (5, .bipush 64), (7, .newarray .int), (9, .putfield 11), (12, .aload_n 0), (13, .iconst 0), (14, .putfield 15), (17, .return_)]
theorem ck_X3_init : am_cok mt_X3_init cd_X3_init := by decide +kernel
theorem ok_X3_init : am_ok mt_X3_init 0 := ⟨tw_179, tw_8, by decide, by decide +kernel, by decide⟩
def c_X3_init (h0 : am_H) : am_H := am_ui (am_ur (am_nx h0) 2986 0 2987) 2986 1 (am_i 0)
set_option maxRecDepth 100000 in
theorem n_X3_init {h0 : am_H} (n0 : h0.1 = 2987) : (c_X3_init h0).1 = 2988 := by
  show h0.1 + 1 = _
  omega
set_option maxRecDepth 100000 in
set_option maxHeartbeats 4000000 in
theorem x_X3_init {G : am_G} {h0 : am_H} (n0 : h0.1 = 2987) : am_Met G mt_X3_init 2 [.ref 2986] h0 none (c_X3_init h0) := by
  refine am_of (by decide) (Nat.le_of_ble_eq_true rfl) ?_
  show am_W G mt_X3_init 2 _ _ 0 [(0, .ref 2986)] [] h0
  refine am_steps ck_X3_init 1 (pc' := 1) (lv' := [(0, .ref 2986)]) (st' := [.ref 2986]) rfl ?_
  refine am_oinit (am_fd ck_X3_init (pc := 1) rfl) tw_180 tw_22 tw_23 (Nat.le_of_ble_eq_true rfl) (Nat.le_of_ble_eq_true rfl) ?_
  refine am_steps ck_X3_init 2 (pc' := 7) (lv' := [(0, .ref 2986)]) (st' := [.int (am_i 64), .ref 2986]) rfl ?_
  have hs : am_sh h0.1 = (11, 64) := by rw [n0]; exact rfl
  refine am_newa (ty := .int) (kd := 11) (Or.inl ⟨rfl, rfl⟩) (am_fd ck_X3_init (pc := 7) rfl) tw_66 (by rw [hs]) (by decide) (by rw [hs]; decide +kernel) (by rw [hs]; exact Nat.le_of_ble_eq_true rfl) (by rw [n0]; decide) ?_
  rw [n0]
  obtain ⟨h1, e1⟩ : ∃ z, z = am_nx h0 := ⟨_, rfl⟩
  rw [← e1]
  have n1 : h1.1 = 2988 := by rw [e1]; show h0.1 + 1 = _; rw [n0]
  refine am_putr (ci := 3) (k := 0) (am_fd ck_X3_init (pc := 9) rfl) tw_181 (by decide) (by decide) (am_isk kc_2986 (by rw [n1]; decide)) ⟨rfl, rfl, rfl⟩ (Or.inr ⟨_, rfl⟩) (by decide) ?_
  obtain ⟨h2, e2⟩ : ∃ z, z = am_ur h1 2986 0 2987 := ⟨_, rfl⟩
  rw [← e2]
  have n2 : h2.1 = 2988 := by rw [e2]; exact n1
  refine am_steps ck_X3_init 2 (pc' := 14) (lv' := [(0, .ref 2986)]) (st' := [.int (am_i 0), .ref 2986]) rfl ?_
  refine am_puti (ci := 3) (k := 1) (am_fd ck_X3_init (pc := 14) rfl) tw_182 (by decide) (by decide) (am_isk kc_2986 (by rw [n2]; decide)) rfl rfl ?_
  obtain ⟨h3, e3⟩ : ∃ z, z = am_ui h2 2986 1 (am_i 0) := ⟨_, rfl⟩
  rw [← e3]
  have n3 : h3.1 = 2988 := by rw [e3]; exact n2
  refine am_end (am_fd ck_X3_init (pc := 17) rfl) am_rV rfl ?_
  rw [e3, e2, e1]; rfl
def mt_X4_init : am_M := (yX4_init, cX4_init, 1, none)
def cd_X4_init : List (Nat × Instr) := [(0, .aload_n 0), (1, .invokespecial 3), (4, .aload_n 0), (5, .bipush 64), (7, .newarray .int), (9, .putfield 9), (12, .aload_n 0), (13, .iconst 0), (14, .putfield 15), (17, .aload_n 0), (18, .iconst 0), (19, .putfield 19), (22, .aload_n 0), (23, .iconst 0), (24, .putfield 22), (27, .return_)]
theorem ck_X4_init : am_cok mt_X4_init cd_X4_init := by decide +kernel
theorem ok_X4_init : am_ok mt_X4_init 0 := ⟨tw_127, tw_6, by decide, by decide +kernel, by decide⟩
def c_X4_init (h0 : am_H) : am_H := am_ui (am_ui (am_ui (am_ur (am_nx h0) 2982 0 2983) 2982 1 (am_i 0)) 2982 2 (am_i 0)) 2982 3 (am_i 0)
set_option maxRecDepth 100000 in
theorem n_X4_init {h0 : am_H} (n0 : h0.1 = 2983) : (c_X4_init h0).1 = 2984 := by
  show h0.1 + 1 = _
  omega
set_option maxRecDepth 100000 in
set_option maxHeartbeats 4000000 in
theorem x_X4_init {G : am_G} {h0 : am_H} (n0 : h0.1 = 2983) : am_Met G mt_X4_init 2 [.ref 2982] h0 none (c_X4_init h0) := by
  refine am_of (by decide) (Nat.le_of_ble_eq_true rfl) ?_
  show am_W G mt_X4_init 2 _ _ 0 [(0, .ref 2982)] [] h0
  refine am_steps ck_X4_init 1 (pc' := 1) (lv' := [(0, .ref 2982)]) (st' := [.ref 2982]) rfl ?_
  refine am_oinit (am_fd ck_X4_init (pc := 1) rfl) tw_128 tw_22 tw_23 (Nat.le_of_ble_eq_true rfl) (Nat.le_of_ble_eq_true rfl) ?_
  refine am_steps ck_X4_init 2 (pc' := 7) (lv' := [(0, .ref 2982)]) (st' := [.int (am_i 64), .ref 2982]) rfl ?_
  have hs : am_sh h0.1 = (11, 64) := by rw [n0]; exact rfl
  refine am_newa (ty := .int) (kd := 11) (Or.inl ⟨rfl, rfl⟩) (am_fd ck_X4_init (pc := 7) rfl) tw_66 (by rw [hs]) (by decide) (by rw [hs]; decide +kernel) (by rw [hs]; exact Nat.le_of_ble_eq_true rfl) (by rw [n0]; decide) ?_
  rw [n0]
  obtain ⟨h1, e1⟩ : ∃ z, z = am_nx h0 := ⟨_, rfl⟩
  rw [← e1]
  have n1 : h1.1 = 2984 := by rw [e1]; show h0.1 + 1 = _; rw [n0]
  refine am_putr (ci := 4) (k := 0) (am_fd ck_X4_init (pc := 9) rfl) tw_129 (by decide) (by decide) (am_isk kc_2982 (by rw [n1]; decide)) ⟨rfl, rfl, rfl⟩ (Or.inr ⟨_, rfl⟩) (by decide) ?_
  obtain ⟨h2, e2⟩ : ∃ z, z = am_ur h1 2982 0 2983 := ⟨_, rfl⟩
  rw [← e2]
  have n2 : h2.1 = 2984 := by rw [e2]; exact n1
  refine am_steps ck_X4_init 2 (pc' := 14) (lv' := [(0, .ref 2982)]) (st' := [.int (am_i 0), .ref 2982]) rfl ?_
  refine am_puti (ci := 4) (k := 1) (am_fd ck_X4_init (pc := 14) rfl) tw_130 (by decide) (by decide) (am_isk kc_2982 (by rw [n2]; decide)) rfl rfl ?_
  obtain ⟨h3, e3⟩ : ∃ z, z = am_ui h2 2982 1 (am_i 0) := ⟨_, rfl⟩
  rw [← e3]
  have n3 : h3.1 = 2984 := by rw [e3]; exact n2
  refine am_steps ck_X4_init 2 (pc' := 19) (lv' := [(0, .ref 2982)]) (st' := [.int (am_i 0), .ref 2982]) rfl ?_
  refine am_puti (ci := 4) (k := 2) (am_fd ck_X4_init (pc := 19) rfl) tw_131 (by decide) (by decide) (am_isk kc_2982 (by rw [n3]; decide)) rfl rfl ?_
  obtain ⟨h4, e4⟩ : ∃ z, z = am_ui h3 2982 2 (am_i 0) := ⟨_, rfl⟩
  rw [← e4]
  have n4 : h4.1 = 2984 := by rw [e4]; exact n3
  refine am_steps ck_X4_init 2 (pc' := 24) (lv' := [(0, .ref 2982)]) (st' := [.int (am_i 0), .ref 2982]) rfl ?_
  refine am_puti (ci := 4) (k := 3) (am_fd ck_X4_init (pc := 24) rfl) tw_133 (by decide) (by decide) (am_isk kc_2982 (by rw [n4]; decide)) rfl rfl ?_
  obtain ⟨h5, e5⟩ : ∃ z, z = am_ui h4 2982 3 (am_i 0) := ⟨_, rfl⟩
  rw [← e5]
  have n5 : h5.1 = 2984 := by rw [e5]; exact n4
  refine am_end (am_fd ck_X4_init (pc := 27) rfl) am_rV rfl ?_
  rw [e5, e4, e3, e2, e1]; rfl
def mt_X7_init : am_M := (yX7_init, cX7_init, 1, none)
def cd_X7_init : List (Nat × Instr) := [(0, .aload_n 0), (1, .invokespecial 3), (4, .aload_n 0), (5, .sipush 400), (8, .newarray .int), (10, .putfield 9), (13, .aload_n 0), (14, .iconst 0), (15, .putfield 15), (18, .aload_n 0), (19, .iconst 0), (20, .putfield 19), (23, .aload_n 0), (24, .iconst (-1)), (25, .putfield 22), (28, .aload_n 0), (29, .iconst 0), (30, .putfield 25), (33, .aload_n 0), (34, .iconst 0), (35, .putfield 28), (38, .aload_n 0), (39, .iconst 0), (40, .putfield 31), (43, .return_)]
theorem ck_X7_init : am_cok mt_X7_init cd_X7_init := by decide +kernel
theorem ok_X7_init : am_ok mt_X7_init 0 := ⟨tw_148, tw_7, by decide, by decide +kernel, by decide⟩
def c_X7_init (h0 : am_H) : am_H := am_ui (am_ui (am_ui (am_ui (am_ui (am_ui (am_ur (am_nx h0) 2984 0 2985) 2984 1 (am_i 0)) 2984 2 (am_i 0)) 2984 3 (am_i (-1))) 2984 4 (am_i 0)) 2984 5 (am_i 0)) 2984 6 (am_i 0)
set_option maxRecDepth 100000 in
theorem n_X7_init {h0 : am_H} (n0 : h0.1 = 2985) : (c_X7_init h0).1 = 2986 := by
  show h0.1 + 1 = _
  omega
set_option maxRecDepth 100000 in
set_option maxHeartbeats 4000000 in
theorem x_X7_init {G : am_G} {h0 : am_H} (n0 : h0.1 = 2985) : am_Met G mt_X7_init 2 [.ref 2984] h0 none (c_X7_init h0) := by
  refine am_of (by decide) (Nat.le_of_ble_eq_true rfl) ?_
  show am_W G mt_X7_init 2 _ _ 0 [(0, .ref 2984)] [] h0
  refine am_steps ck_X7_init 1 (pc' := 1) (lv' := [(0, .ref 2984)]) (st' := [.ref 2984]) rfl ?_
  refine am_oinit (am_fd ck_X7_init (pc := 1) rfl) tw_149 tw_22 tw_23 (Nat.le_of_ble_eq_true rfl) (Nat.le_of_ble_eq_true rfl) ?_
  refine am_steps ck_X7_init 2 (pc' := 8) (lv' := [(0, .ref 2984)]) (st' := [.int (am_i 400), .ref 2984]) rfl ?_
  have hs : am_sh h0.1 = (11, 400) := by rw [n0]; exact rfl
  refine am_newa (ty := .int) (kd := 11) (Or.inl ⟨rfl, rfl⟩) (am_fd ck_X7_init (pc := 8) rfl) tw_66 (by rw [hs]) (by decide) (by rw [hs]; decide +kernel) (by rw [hs]; exact Nat.le_of_ble_eq_true rfl) (by rw [n0]; decide) ?_
  rw [n0]
  obtain ⟨h1, e1⟩ : ∃ z, z = am_nx h0 := ⟨_, rfl⟩
  rw [← e1]
  have n1 : h1.1 = 2986 := by rw [e1]; show h0.1 + 1 = _; rw [n0]
  refine am_putr (ci := 5) (k := 0) (am_fd ck_X7_init (pc := 10) rfl) tw_150 (by decide) (by decide) (am_isk kc_2984 (by rw [n1]; decide)) ⟨rfl, rfl, rfl⟩ (Or.inr ⟨_, rfl⟩) (by decide) ?_
  obtain ⟨h2, e2⟩ : ∃ z, z = am_ur h1 2984 0 2985 := ⟨_, rfl⟩
  rw [← e2]
  have n2 : h2.1 = 2986 := by rw [e2]; exact n1
  refine am_steps ck_X7_init 2 (pc' := 15) (lv' := [(0, .ref 2984)]) (st' := [.int (am_i 0), .ref 2984]) rfl ?_
  refine am_puti (ci := 5) (k := 1) (am_fd ck_X7_init (pc := 15) rfl) tw_151 (by decide) (by decide) (am_isk kc_2984 (by rw [n2]; decide)) rfl rfl ?_
  obtain ⟨h3, e3⟩ : ∃ z, z = am_ui h2 2984 1 (am_i 0) := ⟨_, rfl⟩
  rw [← e3]
  have n3 : h3.1 = 2986 := by rw [e3]; exact n2
  refine am_steps ck_X7_init 2 (pc' := 20) (lv' := [(0, .ref 2984)]) (st' := [.int (am_i 0), .ref 2984]) rfl ?_
  refine am_puti (ci := 5) (k := 2) (am_fd ck_X7_init (pc := 20) rfl) tw_153 (by decide) (by decide) (am_isk kc_2984 (by rw [n3]; decide)) rfl rfl ?_
  obtain ⟨h4, e4⟩ : ∃ z, z = am_ui h3 2984 2 (am_i 0) := ⟨_, rfl⟩
  rw [← e4]
  have n4 : h4.1 = 2986 := by rw [e4]; exact n3
  refine am_steps ck_X7_init 2 (pc' := 25) (lv' := [(0, .ref 2984)]) (st' := [.int (am_i (-1)), .ref 2984]) rfl ?_
  refine am_puti (ci := 5) (k := 3) (am_fd ck_X7_init (pc := 25) rfl) tw_155 (by decide) (by decide) (am_isk kc_2984 (by rw [n4]; decide)) rfl rfl ?_
  obtain ⟨h5, e5⟩ : ∃ z, z = am_ui h4 2984 3 (am_i (-1)) := ⟨_, rfl⟩
  rw [← e5]
  have n5 : h5.1 = 2986 := by rw [e5]; exact n4
  refine am_steps ck_X7_init 2 (pc' := 30) (lv' := [(0, .ref 2984)]) (st' := [.int (am_i 0), .ref 2984]) rfl ?_
  refine am_puti (ci := 5) (k := 4) (am_fd ck_X7_init (pc := 30) rfl) tw_157 (by decide) (by decide) (am_isk kc_2984 (by rw [n5]; decide)) rfl rfl ?_
  obtain ⟨h6, e6⟩ : ∃ z, z = am_ui h5 2984 4 (am_i 0) := ⟨_, rfl⟩
  rw [← e6]
  have n6 : h6.1 = 2986 := by rw [e6]; exact n5
  refine am_steps ck_X7_init 2 (pc' := 35) (lv' := [(0, .ref 2984)]) (st' := [.int (am_i 0), .ref 2984]) rfl ?_
  refine am_puti (ci := 5) (k := 5) (am_fd ck_X7_init (pc := 35) rfl) tw_158 (by decide) (by decide) (am_isk kc_2984 (by rw [n6]; decide)) rfl rfl ?_
  obtain ⟨h7, e7⟩ : ∃ z, z = am_ui h6 2984 5 (am_i 0) := ⟨_, rfl⟩
  rw [← e7]
  have n7 : h7.1 = 2986 := by rw [e7]; exact n6
  refine am_steps ck_X7_init 2 (pc' := 40) (lv' := [(0, .ref 2984)]) (st' := [.int (am_i 0), .ref 2984]) rfl ?_
  refine am_puti (ci := 5) (k := 6) (am_fd ck_X7_init (pc := 40) rfl) tw_159 (by decide) (by decide) (am_isk kc_2984 (by rw [n7]; decide)) rfl rfl ?_
  obtain ⟨h8, e8⟩ : ∃ z, z = am_ui h7 2984 6 (am_i 0) := ⟨_, rfl⟩
  rw [← e8]
  have n8 : h8.1 = 2986 := by rw [e8]; exact n7
  refine am_end (am_fd ck_X7_init (pc := 43) rfl) am_rV rfl ?_
  rw [e8, e7, e6, e5, e4, e3, e2, e1]; rfl
def mt_X2_init : am_M := (yX2_init, cX2_init, 2, none)
def cd_X2_init : List (Nat × Instr) := [(0, .aload_n 0), (1, .invokespecial 3), (4, .aload_n 0), (5, .bipush 10), (7, .anewarray 9), (10, .putfield 11), (13, .aload_n 0), (14, .iconst 0), (15, .putfield 17), (18, .aload_n 0), (19, .iconst 0), (20, .putfield 21), (23, .iconst 0), (24, .istore_n 1), (25, .iload_n 1), (26, .bipush 10), (28, .if_icmp .ge 22), (31, .aload_n 0), (32, .getfield 11), (35, .iload_n 1), (36, .new 9), (39, .dup), (40, .invokespecial 24), (43, .aastore), (44, .iinc 1 1), (47, .goto (-22)), (50, .return_)]
theorem ck_X2_init : am_cok mt_X2_init cd_X2_init := by decide +kernel
theorem ok_X2_init : am_ok mt_X2_init 0 := ⟨tw_72, tw_4, by decide, by decide +kernel, by decide⟩
def c_X2_init (h0 : am_H) : am_H := am_ur (c_X1_init (am_nx (am_ur (c_X1_init (am_nx (am_ur (c_X1_init (am_nx (am_ur (c_X1_init (am_nx (am_ur (c_X1_init (am_nx (am_ur (c_X1_init (am_nx (am_ur (c_X1_init (am_nx (am_ur (c_X1_init (am_nx (am_ur (c_X1_init (am_nx (am_ur (c_X1_init (am_nx (am_ui (am_ui (am_ur (am_nx h0) 498 0 499) 498 1 (am_i 0)) 498 2 (am_i 0))) 500) 499 0 500)) 747) 499 1 747)) 994) 499 2 994)) 1241) 499 3 1241)) 1488) 499 4 1488)) 1735) 499 5 1735)) 1982) 499 6 1982)) 2229) 499 7 2229)) 2476) 499 8 2476)) 2723) 499 9 2723
set_option maxRecDepth 100000 in
theorem n_X2_init {h0 : am_H} (n0 : h0.1 = 499) : (c_X2_init h0).1 = 2970 := by
  show h0.1 + 2471 = _
  omega
set_option maxRecDepth 100000 in
set_option maxHeartbeats 4000000 in
theorem x_X2_init {G : am_G} {h0 : am_H} (n0 : h0.1 = 499) : am_Met G mt_X2_init 4 [.ref 498] h0 none (c_X2_init h0) := by
  refine am_of (by decide) (Nat.le_of_ble_eq_true rfl) ?_
  show am_W G mt_X2_init 4 _ _ 0 [(0, .ref 498)] [] h0
  refine am_steps ck_X2_init 1 (pc' := 1) (lv' := [(0, .ref 498)]) (st' := [.ref 498]) rfl ?_
  refine am_oinit (am_fd ck_X2_init (pc := 1) rfl) tw_73 tw_22 tw_23 (Nat.le_of_ble_eq_true rfl) (Nat.le_of_ble_eq_true rfl) ?_
  refine am_steps ck_X2_init 2 (pc' := 7) (lv' := [(0, .ref 498)]) (st' := [.int (am_i 10), .ref 498]) rfl ?_
  have hs : am_sh h0.1 = (13, 10) := by rw [n0]; rfl
  refine am_newq (am_fd ck_X2_init (pc := 7) rfl) tw_74 (by rw [hs]) (by decide) (by rw [hs]; decide +kernel) (by rw [hs]; decide) (by rw [n0]; decide) ?_
  rw [n0]
  obtain ⟨h1, e1⟩ : ∃ z, z = am_nx h0 := ⟨_, rfl⟩
  rw [← e1]
  have n1 : h1.1 = 500 := by rw [e1]; show h0.1 + 1 = _; rw [n0]
  refine am_putr (ci := 2) (k := 0) (am_fd ck_X2_init (pc := 10) rfl) tw_77 (by decide) (by decide) (am_isk kc_498 (by rw [n1]; decide)) ⟨rfl, rfl, rfl⟩ (Or.inr ⟨_, rfl⟩) (by decide) ?_
  obtain ⟨h2, e2⟩ : ∃ z, z = am_ur h1 498 0 499 := ⟨_, rfl⟩
  rw [← e2]
  have n2 : h2.1 = 500 := by rw [e2]; exact n1
  have f_0_2 : h2.2.2 498 0 = 499 := by rw [e2]; exact f_ur_s
  refine am_steps ck_X2_init 2 (pc' := 15) (lv' := [(0, .ref 498)]) (st' := [.int (am_i 0), .ref 498]) rfl ?_
  refine am_puti (ci := 2) (k := 1) (am_fd ck_X2_init (pc := 15) rfl) tw_78 (by decide) (by decide) (am_isk kc_498 (by rw [n2]; decide)) rfl rfl ?_
  obtain ⟨h3, e3⟩ : ∃ z, z = am_ui h2 498 1 (am_i 0) := ⟨_, rfl⟩
  rw [← e3]
  have n3 : h3.1 = 500 := by rw [e3]; exact n2
  have f_0_3 : h3.2.2 498 0 = 499 := by rw [e3]; exact f_ui f_0_2
  refine am_steps ck_X2_init 2 (pc' := 20) (lv' := [(0, .ref 498)]) (st' := [.int (am_i 0), .ref 498]) rfl ?_
  refine am_puti (ci := 2) (k := 2) (am_fd ck_X2_init (pc := 20) rfl) tw_79 (by decide) (by decide) (am_isk kc_498 (by rw [n3]; decide)) rfl rfl ?_
  obtain ⟨h4, e4⟩ : ∃ z, z = am_ui h3 498 2 (am_i 0) := ⟨_, rfl⟩
  rw [← e4]
  have n4 : h4.1 = 500 := by rw [e4]; exact n3
  have f_0_4 : h4.2.2 498 0 = 499 := by rw [e4]; exact f_ui f_0_3
  refine am_steps ck_X2_init 4 (pc' := 28) (lv' := [(1, .int (am_i 0)), (0, .ref 498)]) (st' := [.int (am_i 10), .int (am_i 0)]) rfl ?_
  refine am_icmp (tgt := 50) (am_fd ck_X2_init (pc := 28) rfl) rfl (fun q => absurd q (by show ¬ (_ ≤ _); decide +kernel)) (fun _ => ?_)
  refine am_steps ck_X2_init 1 (pc' := 32) (lv' := [(1, .int (am_i 0)), (0, .ref 498)]) (st' := [.ref 498]) rfl ?_
  refine am_get (ci := 2) (k := 0) (am_fd ck_X2_init (pc := 32) rfl) tw_77 (am_in 2 (by decide)) (by decide) (by decide) (am_isk kc_498 (by rw [n4]; decide)) ?_
  have hg := f_0_4
  rw [show (bif am_isr 2 0 then am_q (h4.2.2 498 0) else Value.int (h4.2.1 498 0)) = .ref 499 from by show am_q (h4.2.2 498 0) = _; rw [hg]; rfl]
  refine am_steps ck_X2_init 1 (pc' := 36) (lv' := [(1, .int (am_i 0)), (0, .ref 498)]) (st' := [.int (am_i 0), .ref 499]) rfl ?_
  have hs : am_sh h4.1 = (1, 6) := by rw [n4]; rfl
  refine am_new (ci := 1) (am_fd ck_X2_init (pc := 36) rfl) tw_74 tw_25 tw_2 (by decide) (by rw [hs]) (by rw [hs]; rfl) (by rw [n4]; decide) ?_
  rw [n4]
  obtain ⟨h5, e5⟩ : ∃ z, z = am_nx h4 := ⟨_, rfl⟩
  rw [← e5]
  have n5 : h5.1 = 501 := by rw [e5]; show h4.1 + 1 = _; rw [n4]
  have f_0_5 : h5.2.2 498 0 = 499 := by rw [e5]; exact f_nx f_0_4
  refine am_steps ck_X2_init 1 (pc' := 40) (lv' := [(1, .int (am_i 0)), (0, .ref 498)]) (st' := [.ref 500, .ref 500, .int (am_i 0), .ref 499]) rfl ?_
  refine am_callI (M2 := mt_X1_init) (d2 := 3) (h2 := c_X1_init h5 500) (am_fd ck_X2_init (pc := 40) rfl) ok_X1_init rfl tw_76 tw_27 rfl (Nat.le_of_ble_eq_true rfl) (Nat.le_of_ble_eq_true rfl) (x_X1_init (o := 500) (Or.inr (Or.inr (Or.inr ⟨0, by decide, rfl⟩))) n5) ?_
  obtain ⟨h6, e6⟩ : ∃ z, z = c_X1_init h5 500 := ⟨_, rfl⟩
  rw [← e6]
  have n6 : h6.1 = 747 := by rw [e6]; exact n_X1_init n5
  have f_0_6 : h6.2.2 498 0 = 499 := by rw [e6]; exact f_c1 n5 (by decide) f_0_5
  refine am_oast (am_fd ck_X2_init (pc := 43) rfl) (am_isk kc_499 (by rw [n6]; decide)) (am_isk (kO (Or.inr (Or.inr (Or.inr ⟨0, by decide, rfl⟩)))) (by rw [n6]; decide)) (by rw [kc_499.len]; exact am_ibv (by decide +kernel)) ?_
  rw [show Int32.toNatClampNeg (am_i 0) = 0 from by decide +kernel]
  obtain ⟨h7, e7⟩ : ∃ z, z = am_ur h6 499 0 500 := ⟨_, rfl⟩
  rw [← e7]
  have n7 : h7.1 = 747 := by rw [e7]; exact n6
  have f_0_7 : h7.2.2 498 0 = 499 := by rw [e7]; exact f_ur_a (by decide) f_0_6
  refine am_steps ck_X2_init 2 (pc' := 25) (lv' := [(1, .int ((am_i 0) + am_i 1)), (0, .ref 498)]) (st' := []) rfl ?_
  refine am_steps ck_X2_init 2 (pc' := 28) (lv' := [(1, .int ((am_i 0) + am_i 1)), (0, .ref 498)]) (st' := [.int (am_i 10), .int ((am_i 0) + am_i 1)]) rfl ?_
  refine am_icmp (tgt := 50) (am_fd ck_X2_init (pc := 28) rfl) rfl (fun q => absurd q (by show ¬ (_ ≤ _); decide +kernel)) (fun _ => ?_)
  refine am_steps ck_X2_init 1 (pc' := 32) (lv' := [(1, .int ((am_i 0) + am_i 1)), (0, .ref 498)]) (st' := [.ref 498]) rfl ?_
  refine am_get (ci := 2) (k := 0) (am_fd ck_X2_init (pc := 32) rfl) tw_77 (am_in 2 (by decide)) (by decide) (by decide) (am_isk kc_498 (by rw [n7]; decide)) ?_
  have hg := f_0_7
  rw [show (bif am_isr 2 0 then am_q (h7.2.2 498 0) else Value.int (h7.2.1 498 0)) = .ref 499 from by show am_q (h7.2.2 498 0) = _; rw [hg]; rfl]
  refine am_steps ck_X2_init 1 (pc' := 36) (lv' := [(1, .int ((am_i 0) + am_i 1)), (0, .ref 498)]) (st' := [.int ((am_i 0) + am_i 1), .ref 499]) rfl ?_
  have hs : am_sh h7.1 = (1, 6) := by rw [n7]; rfl
  refine am_new (ci := 1) (am_fd ck_X2_init (pc := 36) rfl) tw_74 tw_25 tw_2 (by decide) (by rw [hs]) (by rw [hs]; rfl) (by rw [n7]; decide) ?_
  rw [n7]
  obtain ⟨h8, e8⟩ : ∃ z, z = am_nx h7 := ⟨_, rfl⟩
  rw [← e8]
  have n8 : h8.1 = 748 := by rw [e8]; show h7.1 + 1 = _; rw [n7]
  have f_0_8 : h8.2.2 498 0 = 499 := by rw [e8]; exact f_nx f_0_7
  refine am_steps ck_X2_init 1 (pc' := 40) (lv' := [(1, .int ((am_i 0) + am_i 1)), (0, .ref 498)]) (st' := [.ref 747, .ref 747, .int ((am_i 0) + am_i 1), .ref 499]) rfl ?_
  refine am_callI (M2 := mt_X1_init) (d2 := 3) (h2 := c_X1_init h8 747) (am_fd ck_X2_init (pc := 40) rfl) ok_X1_init rfl tw_76 tw_27 rfl (Nat.le_of_ble_eq_true rfl) (Nat.le_of_ble_eq_true rfl) (x_X1_init (o := 747) (Or.inr (Or.inr (Or.inr ⟨1, by decide, rfl⟩))) n8) ?_
  obtain ⟨h9, e9⟩ : ∃ z, z = c_X1_init h8 747 := ⟨_, rfl⟩
  rw [← e9]
  have n9 : h9.1 = 994 := by rw [e9]; exact n_X1_init n8
  have f_0_9 : h9.2.2 498 0 = 499 := by rw [e9]; exact f_c1 n8 (by decide) f_0_8
  refine am_oast (am_fd ck_X2_init (pc := 43) rfl) (am_isk kc_499 (by rw [n9]; decide)) (am_isk (kO (Or.inr (Or.inr (Or.inr ⟨1, by decide, rfl⟩)))) (by rw [n9]; decide)) (by rw [kc_499.len]; exact am_ibv (by decide +kernel)) ?_
  rw [show Int32.toNatClampNeg ((am_i 0) + am_i 1) = 1 from by decide +kernel]
  obtain ⟨h10, e10⟩ : ∃ z, z = am_ur h9 499 1 747 := ⟨_, rfl⟩
  rw [← e10]
  have n10 : h10.1 = 994 := by rw [e10]; exact n9
  have f_0_10 : h10.2.2 498 0 = 499 := by rw [e10]; exact f_ur_a (by decide) f_0_9
  refine am_steps ck_X2_init 2 (pc' := 25) (lv' := [(1, .int (((am_i 0) + am_i 1) + am_i 1)), (0, .ref 498)]) (st' := []) rfl ?_
  refine am_steps ck_X2_init 2 (pc' := 28) (lv' := [(1, .int (((am_i 0) + am_i 1) + am_i 1)), (0, .ref 498)]) (st' := [.int (am_i 10), .int (((am_i 0) + am_i 1) + am_i 1)]) rfl ?_
  refine am_icmp (tgt := 50) (am_fd ck_X2_init (pc := 28) rfl) rfl (fun q => absurd q (by show ¬ (_ ≤ _); decide +kernel)) (fun _ => ?_)
  refine am_steps ck_X2_init 1 (pc' := 32) (lv' := [(1, .int (((am_i 0) + am_i 1) + am_i 1)), (0, .ref 498)]) (st' := [.ref 498]) rfl ?_
  refine am_get (ci := 2) (k := 0) (am_fd ck_X2_init (pc := 32) rfl) tw_77 (am_in 2 (by decide)) (by decide) (by decide) (am_isk kc_498 (by rw [n10]; decide)) ?_
  have hg := f_0_10
  rw [show (bif am_isr 2 0 then am_q (h10.2.2 498 0) else Value.int (h10.2.1 498 0)) = .ref 499 from by show am_q (h10.2.2 498 0) = _; rw [hg]; rfl]
  refine am_steps ck_X2_init 1 (pc' := 36) (lv' := [(1, .int (((am_i 0) + am_i 1) + am_i 1)), (0, .ref 498)]) (st' := [.int (((am_i 0) + am_i 1) + am_i 1), .ref 499]) rfl ?_
  have hs : am_sh h10.1 = (1, 6) := by rw [n10]; rfl
  refine am_new (ci := 1) (am_fd ck_X2_init (pc := 36) rfl) tw_74 tw_25 tw_2 (by decide) (by rw [hs]) (by rw [hs]; rfl) (by rw [n10]; decide) ?_
  rw [n10]
  obtain ⟨h11, e11⟩ : ∃ z, z = am_nx h10 := ⟨_, rfl⟩
  rw [← e11]
  have n11 : h11.1 = 995 := by rw [e11]; show h10.1 + 1 = _; rw [n10]
  have f_0_11 : h11.2.2 498 0 = 499 := by rw [e11]; exact f_nx f_0_10
  refine am_steps ck_X2_init 1 (pc' := 40) (lv' := [(1, .int (((am_i 0) + am_i 1) + am_i 1)), (0, .ref 498)]) (st' := [.ref 994, .ref 994, .int (((am_i 0) + am_i 1) + am_i 1), .ref 499]) rfl ?_
  refine am_callI (M2 := mt_X1_init) (d2 := 3) (h2 := c_X1_init h11 994) (am_fd ck_X2_init (pc := 40) rfl) ok_X1_init rfl tw_76 tw_27 rfl (Nat.le_of_ble_eq_true rfl) (Nat.le_of_ble_eq_true rfl) (x_X1_init (o := 994) (Or.inr (Or.inr (Or.inr ⟨2, by decide, rfl⟩))) n11) ?_
  obtain ⟨h12, e12⟩ : ∃ z, z = c_X1_init h11 994 := ⟨_, rfl⟩
  rw [← e12]
  have n12 : h12.1 = 1241 := by rw [e12]; exact n_X1_init n11
  have f_0_12 : h12.2.2 498 0 = 499 := by rw [e12]; exact f_c1 n11 (by decide) f_0_11
  refine am_oast (am_fd ck_X2_init (pc := 43) rfl) (am_isk kc_499 (by rw [n12]; decide)) (am_isk (kO (Or.inr (Or.inr (Or.inr ⟨2, by decide, rfl⟩)))) (by rw [n12]; decide)) (by rw [kc_499.len]; exact am_ibv (by decide +kernel)) ?_
  rw [show Int32.toNatClampNeg (((am_i 0) + am_i 1) + am_i 1) = 2 from by decide +kernel]
  obtain ⟨h13, e13⟩ : ∃ z, z = am_ur h12 499 2 994 := ⟨_, rfl⟩
  rw [← e13]
  have n13 : h13.1 = 1241 := by rw [e13]; exact n12
  have f_0_13 : h13.2.2 498 0 = 499 := by rw [e13]; exact f_ur_a (by decide) f_0_12
  refine am_steps ck_X2_init 2 (pc' := 25) (lv' := [(1, .int ((((am_i 0) + am_i 1) + am_i 1) + am_i 1)), (0, .ref 498)]) (st' := []) rfl ?_
  refine am_steps ck_X2_init 2 (pc' := 28) (lv' := [(1, .int ((((am_i 0) + am_i 1) + am_i 1) + am_i 1)), (0, .ref 498)]) (st' := [.int (am_i 10), .int ((((am_i 0) + am_i 1) + am_i 1) + am_i 1)]) rfl ?_
  refine am_icmp (tgt := 50) (am_fd ck_X2_init (pc := 28) rfl) rfl (fun q => absurd q (by show ¬ (_ ≤ _); decide +kernel)) (fun _ => ?_)
  refine am_steps ck_X2_init 1 (pc' := 32) (lv' := [(1, .int ((((am_i 0) + am_i 1) + am_i 1) + am_i 1)), (0, .ref 498)]) (st' := [.ref 498]) rfl ?_
  refine am_get (ci := 2) (k := 0) (am_fd ck_X2_init (pc := 32) rfl) tw_77 (am_in 2 (by decide)) (by decide) (by decide) (am_isk kc_498 (by rw [n13]; decide)) ?_
  have hg := f_0_13
  rw [show (bif am_isr 2 0 then am_q (h13.2.2 498 0) else Value.int (h13.2.1 498 0)) = .ref 499 from by show am_q (h13.2.2 498 0) = _; rw [hg]; rfl]
  refine am_steps ck_X2_init 1 (pc' := 36) (lv' := [(1, .int ((((am_i 0) + am_i 1) + am_i 1) + am_i 1)), (0, .ref 498)]) (st' := [.int ((((am_i 0) + am_i 1) + am_i 1) + am_i 1), .ref 499]) rfl ?_
  have hs : am_sh h13.1 = (1, 6) := by rw [n13]; rfl
  refine am_new (ci := 1) (am_fd ck_X2_init (pc := 36) rfl) tw_74 tw_25 tw_2 (by decide) (by rw [hs]) (by rw [hs]; rfl) (by rw [n13]; decide) ?_
  rw [n13]
  obtain ⟨h14, e14⟩ : ∃ z, z = am_nx h13 := ⟨_, rfl⟩
  rw [← e14]
  have n14 : h14.1 = 1242 := by rw [e14]; show h13.1 + 1 = _; rw [n13]
  have f_0_14 : h14.2.2 498 0 = 499 := by rw [e14]; exact f_nx f_0_13
  refine am_steps ck_X2_init 1 (pc' := 40) (lv' := [(1, .int ((((am_i 0) + am_i 1) + am_i 1) + am_i 1)), (0, .ref 498)]) (st' := [.ref 1241, .ref 1241, .int ((((am_i 0) + am_i 1) + am_i 1) + am_i 1), .ref 499]) rfl ?_
  refine am_callI (M2 := mt_X1_init) (d2 := 3) (h2 := c_X1_init h14 1241) (am_fd ck_X2_init (pc := 40) rfl) ok_X1_init rfl tw_76 tw_27 rfl (Nat.le_of_ble_eq_true rfl) (Nat.le_of_ble_eq_true rfl) (x_X1_init (o := 1241) (Or.inr (Or.inr (Or.inr ⟨3, by decide, rfl⟩))) n14) ?_
  obtain ⟨h15, e15⟩ : ∃ z, z = c_X1_init h14 1241 := ⟨_, rfl⟩
  rw [← e15]
  have n15 : h15.1 = 1488 := by rw [e15]; exact n_X1_init n14
  have f_0_15 : h15.2.2 498 0 = 499 := by rw [e15]; exact f_c1 n14 (by decide) f_0_14
  refine am_oast (am_fd ck_X2_init (pc := 43) rfl) (am_isk kc_499 (by rw [n15]; decide)) (am_isk (kO (Or.inr (Or.inr (Or.inr ⟨3, by decide, rfl⟩)))) (by rw [n15]; decide)) (by rw [kc_499.len]; exact am_ibv (by decide +kernel)) ?_
  rw [show Int32.toNatClampNeg ((((am_i 0) + am_i 1) + am_i 1) + am_i 1) = 3 from by decide +kernel]
  obtain ⟨h16, e16⟩ : ∃ z, z = am_ur h15 499 3 1241 := ⟨_, rfl⟩
  rw [← e16]
  have n16 : h16.1 = 1488 := by rw [e16]; exact n15
  have f_0_16 : h16.2.2 498 0 = 499 := by rw [e16]; exact f_ur_a (by decide) f_0_15
  refine am_steps ck_X2_init 2 (pc' := 25) (lv' := [(1, .int (((((am_i 0) + am_i 1) + am_i 1) + am_i 1) + am_i 1)), (0, .ref 498)]) (st' := []) rfl ?_
  refine am_steps ck_X2_init 2 (pc' := 28) (lv' := [(1, .int (((((am_i 0) + am_i 1) + am_i 1) + am_i 1) + am_i 1)), (0, .ref 498)]) (st' := [.int (am_i 10), .int (((((am_i 0) + am_i 1) + am_i 1) + am_i 1) + am_i 1)]) rfl ?_
  refine am_icmp (tgt := 50) (am_fd ck_X2_init (pc := 28) rfl) rfl (fun q => absurd q (by show ¬ (_ ≤ _); decide +kernel)) (fun _ => ?_)
  refine am_steps ck_X2_init 1 (pc' := 32) (lv' := [(1, .int (((((am_i 0) + am_i 1) + am_i 1) + am_i 1) + am_i 1)), (0, .ref 498)]) (st' := [.ref 498]) rfl ?_
  refine am_get (ci := 2) (k := 0) (am_fd ck_X2_init (pc := 32) rfl) tw_77 (am_in 2 (by decide)) (by decide) (by decide) (am_isk kc_498 (by rw [n16]; decide)) ?_
  have hg := f_0_16
  rw [show (bif am_isr 2 0 then am_q (h16.2.2 498 0) else Value.int (h16.2.1 498 0)) = .ref 499 from by show am_q (h16.2.2 498 0) = _; rw [hg]; rfl]
  refine am_steps ck_X2_init 1 (pc' := 36) (lv' := [(1, .int (((((am_i 0) + am_i 1) + am_i 1) + am_i 1) + am_i 1)), (0, .ref 498)]) (st' := [.int (((((am_i 0) + am_i 1) + am_i 1) + am_i 1) + am_i 1), .ref 499]) rfl ?_
  have hs : am_sh h16.1 = (1, 6) := by rw [n16]; rfl
  refine am_new (ci := 1) (am_fd ck_X2_init (pc := 36) rfl) tw_74 tw_25 tw_2 (by decide) (by rw [hs]) (by rw [hs]; rfl) (by rw [n16]; decide) ?_
  rw [n16]
  obtain ⟨h17, e17⟩ : ∃ z, z = am_nx h16 := ⟨_, rfl⟩
  rw [← e17]
  have n17 : h17.1 = 1489 := by rw [e17]; show h16.1 + 1 = _; rw [n16]
  have f_0_17 : h17.2.2 498 0 = 499 := by rw [e17]; exact f_nx f_0_16
  refine am_steps ck_X2_init 1 (pc' := 40) (lv' := [(1, .int (((((am_i 0) + am_i 1) + am_i 1) + am_i 1) + am_i 1)), (0, .ref 498)]) (st' := [.ref 1488, .ref 1488, .int (((((am_i 0) + am_i 1) + am_i 1) + am_i 1) + am_i 1), .ref 499]) rfl ?_
  refine am_callI (M2 := mt_X1_init) (d2 := 3) (h2 := c_X1_init h17 1488) (am_fd ck_X2_init (pc := 40) rfl) ok_X1_init rfl tw_76 tw_27 rfl (Nat.le_of_ble_eq_true rfl) (Nat.le_of_ble_eq_true rfl) (x_X1_init (o := 1488) (Or.inr (Or.inr (Or.inr ⟨4, by decide, rfl⟩))) n17) ?_
  obtain ⟨h18, e18⟩ : ∃ z, z = c_X1_init h17 1488 := ⟨_, rfl⟩
  rw [← e18]
  have n18 : h18.1 = 1735 := by rw [e18]; exact n_X1_init n17
  have f_0_18 : h18.2.2 498 0 = 499 := by rw [e18]; exact f_c1 n17 (by decide) f_0_17
  refine am_oast (am_fd ck_X2_init (pc := 43) rfl) (am_isk kc_499 (by rw [n18]; decide)) (am_isk (kO (Or.inr (Or.inr (Or.inr ⟨4, by decide, rfl⟩)))) (by rw [n18]; decide)) (by rw [kc_499.len]; exact am_ibv (by decide +kernel)) ?_
  rw [show Int32.toNatClampNeg (((((am_i 0) + am_i 1) + am_i 1) + am_i 1) + am_i 1) = 4 from by decide +kernel]
  obtain ⟨h19, e19⟩ : ∃ z, z = am_ur h18 499 4 1488 := ⟨_, rfl⟩
  rw [← e19]
  have n19 : h19.1 = 1735 := by rw [e19]; exact n18
  have f_0_19 : h19.2.2 498 0 = 499 := by rw [e19]; exact f_ur_a (by decide) f_0_18
  refine am_steps ck_X2_init 2 (pc' := 25) (lv' := [(1, .int ((((((am_i 0) + am_i 1) + am_i 1) + am_i 1) + am_i 1) + am_i 1)), (0, .ref 498)]) (st' := []) rfl ?_
  refine am_steps ck_X2_init 2 (pc' := 28) (lv' := [(1, .int ((((((am_i 0) + am_i 1) + am_i 1) + am_i 1) + am_i 1) + am_i 1)), (0, .ref 498)]) (st' := [.int (am_i 10), .int ((((((am_i 0) + am_i 1) + am_i 1) + am_i 1) + am_i 1) + am_i 1)]) rfl ?_
  refine am_icmp (tgt := 50) (am_fd ck_X2_init (pc := 28) rfl) rfl (fun q => absurd q (by show ¬ (_ ≤ _); decide +kernel)) (fun _ => ?_)
  refine am_steps ck_X2_init 1 (pc' := 32) (lv' := [(1, .int ((((((am_i 0) + am_i 1) + am_i 1) + am_i 1) + am_i 1) + am_i 1)), (0, .ref 498)]) (st' := [.ref 498]) rfl ?_
  refine am_get (ci := 2) (k := 0) (am_fd ck_X2_init (pc := 32) rfl) tw_77 (am_in 2 (by decide)) (by decide) (by decide) (am_isk kc_498 (by rw [n19]; decide)) ?_
  have hg := f_0_19
  rw [show (bif am_isr 2 0 then am_q (h19.2.2 498 0) else Value.int (h19.2.1 498 0)) = .ref 499 from by show am_q (h19.2.2 498 0) = _; rw [hg]; rfl]
  refine am_steps ck_X2_init 1 (pc' := 36) (lv' := [(1, .int ((((((am_i 0) + am_i 1) + am_i 1) + am_i 1) + am_i 1) + am_i 1)), (0, .ref 498)]) (st' := [.int ((((((am_i 0) + am_i 1) + am_i 1) + am_i 1) + am_i 1) + am_i 1), .ref 499]) rfl ?_
  have hs : am_sh h19.1 = (1, 6) := by rw [n19]; rfl
  refine am_new (ci := 1) (am_fd ck_X2_init (pc := 36) rfl) tw_74 tw_25 tw_2 (by decide) (by rw [hs]) (by rw [hs]; rfl) (by rw [n19]; decide) ?_
  rw [n19]
  obtain ⟨h20, e20⟩ : ∃ z, z = am_nx h19 := ⟨_, rfl⟩
  rw [← e20]
  have n20 : h20.1 = 1736 := by rw [e20]; show h19.1 + 1 = _; rw [n19]
  have f_0_20 : h20.2.2 498 0 = 499 := by rw [e20]; exact f_nx f_0_19
  refine am_steps ck_X2_init 1 (pc' := 40) (lv' := [(1, .int ((((((am_i 0) + am_i 1) + am_i 1) + am_i 1) + am_i 1) + am_i 1)), (0, .ref 498)]) (st' := [.ref 1735, .ref 1735, .int ((((((am_i 0) + am_i 1) + am_i 1) + am_i 1) + am_i 1) + am_i 1), .ref 499]) rfl ?_
  refine am_callI (M2 := mt_X1_init) (d2 := 3) (h2 := c_X1_init h20 1735) (am_fd ck_X2_init (pc := 40) rfl) ok_X1_init rfl tw_76 tw_27 rfl (Nat.le_of_ble_eq_true rfl) (Nat.le_of_ble_eq_true rfl) (x_X1_init (o := 1735) (Or.inr (Or.inr (Or.inr ⟨5, by decide, rfl⟩))) n20) ?_
  obtain ⟨h21, e21⟩ : ∃ z, z = c_X1_init h20 1735 := ⟨_, rfl⟩
  rw [← e21]
  have n21 : h21.1 = 1982 := by rw [e21]; exact n_X1_init n20
  have f_0_21 : h21.2.2 498 0 = 499 := by rw [e21]; exact f_c1 n20 (by decide) f_0_20
  refine am_oast (am_fd ck_X2_init (pc := 43) rfl) (am_isk kc_499 (by rw [n21]; decide)) (am_isk (kO (Or.inr (Or.inr (Or.inr ⟨5, by decide, rfl⟩)))) (by rw [n21]; decide)) (by rw [kc_499.len]; exact am_ibv (by decide +kernel)) ?_
  rw [show Int32.toNatClampNeg ((((((am_i 0) + am_i 1) + am_i 1) + am_i 1) + am_i 1) + am_i 1) = 5 from by decide +kernel]
  obtain ⟨h22, e22⟩ : ∃ z, z = am_ur h21 499 5 1735 := ⟨_, rfl⟩
  rw [← e22]
  have n22 : h22.1 = 1982 := by rw [e22]; exact n21
  have f_0_22 : h22.2.2 498 0 = 499 := by rw [e22]; exact f_ur_a (by decide) f_0_21
  refine am_steps ck_X2_init 2 (pc' := 25) (lv' := [(1, .int (((((((am_i 0) + am_i 1) + am_i 1) + am_i 1) + am_i 1) + am_i 1) + am_i 1)), (0, .ref 498)]) (st' := []) rfl ?_
  refine am_steps ck_X2_init 2 (pc' := 28) (lv' := [(1, .int (((((((am_i 0) + am_i 1) + am_i 1) + am_i 1) + am_i 1) + am_i 1) + am_i 1)), (0, .ref 498)]) (st' := [.int (am_i 10), .int (((((((am_i 0) + am_i 1) + am_i 1) + am_i 1) + am_i 1) + am_i 1) + am_i 1)]) rfl ?_
  refine am_icmp (tgt := 50) (am_fd ck_X2_init (pc := 28) rfl) rfl (fun q => absurd q (by show ¬ (_ ≤ _); decide +kernel)) (fun _ => ?_)
  refine am_steps ck_X2_init 1 (pc' := 32) (lv' := [(1, .int (((((((am_i 0) + am_i 1) + am_i 1) + am_i 1) + am_i 1) + am_i 1) + am_i 1)), (0, .ref 498)]) (st' := [.ref 498]) rfl ?_
  refine am_get (ci := 2) (k := 0) (am_fd ck_X2_init (pc := 32) rfl) tw_77 (am_in 2 (by decide)) (by decide) (by decide) (am_isk kc_498 (by rw [n22]; decide)) ?_
  have hg := f_0_22
  rw [show (bif am_isr 2 0 then am_q (h22.2.2 498 0) else Value.int (h22.2.1 498 0)) = .ref 499 from by show am_q (h22.2.2 498 0) = _; rw [hg]; rfl]
  refine am_steps ck_X2_init 1 (pc' := 36) (lv' := [(1, .int (((((((am_i 0) + am_i 1) + am_i 1) + am_i 1) + am_i 1) + am_i 1) + am_i 1)), (0, .ref 498)]) (st' := [.int (((((((am_i 0) + am_i 1) + am_i 1) + am_i 1) + am_i 1) + am_i 1) + am_i 1), .ref 499]) rfl ?_
  have hs : am_sh h22.1 = (1, 6) := by rw [n22]; rfl
  refine am_new (ci := 1) (am_fd ck_X2_init (pc := 36) rfl) tw_74 tw_25 tw_2 (by decide) (by rw [hs]) (by rw [hs]; rfl) (by rw [n22]; decide) ?_
  rw [n22]
  obtain ⟨h23, e23⟩ : ∃ z, z = am_nx h22 := ⟨_, rfl⟩
  rw [← e23]
  have n23 : h23.1 = 1983 := by rw [e23]; show h22.1 + 1 = _; rw [n22]
  have f_0_23 : h23.2.2 498 0 = 499 := by rw [e23]; exact f_nx f_0_22
  refine am_steps ck_X2_init 1 (pc' := 40) (lv' := [(1, .int (((((((am_i 0) + am_i 1) + am_i 1) + am_i 1) + am_i 1) + am_i 1) + am_i 1)), (0, .ref 498)]) (st' := [.ref 1982, .ref 1982, .int (((((((am_i 0) + am_i 1) + am_i 1) + am_i 1) + am_i 1) + am_i 1) + am_i 1), .ref 499]) rfl ?_
  refine am_callI (M2 := mt_X1_init) (d2 := 3) (h2 := c_X1_init h23 1982) (am_fd ck_X2_init (pc := 40) rfl) ok_X1_init rfl tw_76 tw_27 rfl (Nat.le_of_ble_eq_true rfl) (Nat.le_of_ble_eq_true rfl) (x_X1_init (o := 1982) (Or.inr (Or.inr (Or.inr ⟨6, by decide, rfl⟩))) n23) ?_
  obtain ⟨h24, e24⟩ : ∃ z, z = c_X1_init h23 1982 := ⟨_, rfl⟩
  rw [← e24]
  have n24 : h24.1 = 2229 := by rw [e24]; exact n_X1_init n23
  have f_0_24 : h24.2.2 498 0 = 499 := by rw [e24]; exact f_c1 n23 (by decide) f_0_23
  refine am_oast (am_fd ck_X2_init (pc := 43) rfl) (am_isk kc_499 (by rw [n24]; decide)) (am_isk (kO (Or.inr (Or.inr (Or.inr ⟨6, by decide, rfl⟩)))) (by rw [n24]; decide)) (by rw [kc_499.len]; exact am_ibv (by decide +kernel)) ?_
  rw [show Int32.toNatClampNeg (((((((am_i 0) + am_i 1) + am_i 1) + am_i 1) + am_i 1) + am_i 1) + am_i 1) = 6 from by decide +kernel]
  obtain ⟨h25, e25⟩ : ∃ z, z = am_ur h24 499 6 1982 := ⟨_, rfl⟩
  rw [← e25]
  have n25 : h25.1 = 2229 := by rw [e25]; exact n24
  have f_0_25 : h25.2.2 498 0 = 499 := by rw [e25]; exact f_ur_a (by decide) f_0_24
  refine am_steps ck_X2_init 2 (pc' := 25) (lv' := [(1, .int ((((((((am_i 0) + am_i 1) + am_i 1) + am_i 1) + am_i 1) + am_i 1) + am_i 1) + am_i 1)), (0, .ref 498)]) (st' := []) rfl ?_
  refine am_steps ck_X2_init 2 (pc' := 28) (lv' := [(1, .int ((((((((am_i 0) + am_i 1) + am_i 1) + am_i 1) + am_i 1) + am_i 1) + am_i 1) + am_i 1)), (0, .ref 498)]) (st' := [.int (am_i 10), .int ((((((((am_i 0) + am_i 1) + am_i 1) + am_i 1) + am_i 1) + am_i 1) + am_i 1) + am_i 1)]) rfl ?_
  refine am_icmp (tgt := 50) (am_fd ck_X2_init (pc := 28) rfl) rfl (fun q => absurd q (by show ¬ (_ ≤ _); decide +kernel)) (fun _ => ?_)
  refine am_steps ck_X2_init 1 (pc' := 32) (lv' := [(1, .int ((((((((am_i 0) + am_i 1) + am_i 1) + am_i 1) + am_i 1) + am_i 1) + am_i 1) + am_i 1)), (0, .ref 498)]) (st' := [.ref 498]) rfl ?_
  refine am_get (ci := 2) (k := 0) (am_fd ck_X2_init (pc := 32) rfl) tw_77 (am_in 2 (by decide)) (by decide) (by decide) (am_isk kc_498 (by rw [n25]; decide)) ?_
  have hg := f_0_25
  rw [show (bif am_isr 2 0 then am_q (h25.2.2 498 0) else Value.int (h25.2.1 498 0)) = .ref 499 from by show am_q (h25.2.2 498 0) = _; rw [hg]; rfl]
  refine am_steps ck_X2_init 1 (pc' := 36) (lv' := [(1, .int ((((((((am_i 0) + am_i 1) + am_i 1) + am_i 1) + am_i 1) + am_i 1) + am_i 1) + am_i 1)), (0, .ref 498)]) (st' := [.int ((((((((am_i 0) + am_i 1) + am_i 1) + am_i 1) + am_i 1) + am_i 1) + am_i 1) + am_i 1), .ref 499]) rfl ?_
  have hs : am_sh h25.1 = (1, 6) := by rw [n25]; rfl
  refine am_new (ci := 1) (am_fd ck_X2_init (pc := 36) rfl) tw_74 tw_25 tw_2 (by decide) (by rw [hs]) (by rw [hs]; rfl) (by rw [n25]; decide) ?_
  rw [n25]
  obtain ⟨h26, e26⟩ : ∃ z, z = am_nx h25 := ⟨_, rfl⟩
  rw [← e26]
  have n26 : h26.1 = 2230 := by rw [e26]; show h25.1 + 1 = _; rw [n25]
  have f_0_26 : h26.2.2 498 0 = 499 := by rw [e26]; exact f_nx f_0_25
  refine am_steps ck_X2_init 1 (pc' := 40) (lv' := [(1, .int ((((((((am_i 0) + am_i 1) + am_i 1) + am_i 1) + am_i 1) + am_i 1) + am_i 1) + am_i 1)), (0, .ref 498)]) (st' := [.ref 2229, .ref 2229, .int ((((((((am_i 0) + am_i 1) + am_i 1) + am_i 1) + am_i 1) + am_i 1) + am_i 1) + am_i 1), .ref 499]) rfl ?_
  refine am_callI (M2 := mt_X1_init) (d2 := 3) (h2 := c_X1_init h26 2229) (am_fd ck_X2_init (pc := 40) rfl) ok_X1_init rfl tw_76 tw_27 rfl (Nat.le_of_ble_eq_true rfl) (Nat.le_of_ble_eq_true rfl) (x_X1_init (o := 2229) (Or.inr (Or.inr (Or.inr ⟨7, by decide, rfl⟩))) n26) ?_
  obtain ⟨h27, e27⟩ : ∃ z, z = c_X1_init h26 2229 := ⟨_, rfl⟩
  rw [← e27]
  have n27 : h27.1 = 2476 := by rw [e27]; exact n_X1_init n26
  have f_0_27 : h27.2.2 498 0 = 499 := by rw [e27]; exact f_c1 n26 (by decide) f_0_26
  refine am_oast (am_fd ck_X2_init (pc := 43) rfl) (am_isk kc_499 (by rw [n27]; decide)) (am_isk (kO (Or.inr (Or.inr (Or.inr ⟨7, by decide, rfl⟩)))) (by rw [n27]; decide)) (by rw [kc_499.len]; exact am_ibv (by decide +kernel)) ?_
  rw [show Int32.toNatClampNeg ((((((((am_i 0) + am_i 1) + am_i 1) + am_i 1) + am_i 1) + am_i 1) + am_i 1) + am_i 1) = 7 from by decide +kernel]
  obtain ⟨h28, e28⟩ : ∃ z, z = am_ur h27 499 7 2229 := ⟨_, rfl⟩
  rw [← e28]
  have n28 : h28.1 = 2476 := by rw [e28]; exact n27
  have f_0_28 : h28.2.2 498 0 = 499 := by rw [e28]; exact f_ur_a (by decide) f_0_27
  refine am_steps ck_X2_init 2 (pc' := 25) (lv' := [(1, .int (((((((((am_i 0) + am_i 1) + am_i 1) + am_i 1) + am_i 1) + am_i 1) + am_i 1) + am_i 1) + am_i 1)), (0, .ref 498)]) (st' := []) rfl ?_
  refine am_steps ck_X2_init 2 (pc' := 28) (lv' := [(1, .int (((((((((am_i 0) + am_i 1) + am_i 1) + am_i 1) + am_i 1) + am_i 1) + am_i 1) + am_i 1) + am_i 1)), (0, .ref 498)]) (st' := [.int (am_i 10), .int (((((((((am_i 0) + am_i 1) + am_i 1) + am_i 1) + am_i 1) + am_i 1) + am_i 1) + am_i 1) + am_i 1)]) rfl ?_
  refine am_icmp (tgt := 50) (am_fd ck_X2_init (pc := 28) rfl) rfl (fun q => absurd q (by show ¬ (_ ≤ _); decide +kernel)) (fun _ => ?_)
  refine am_steps ck_X2_init 1 (pc' := 32) (lv' := [(1, .int (((((((((am_i 0) + am_i 1) + am_i 1) + am_i 1) + am_i 1) + am_i 1) + am_i 1) + am_i 1) + am_i 1)), (0, .ref 498)]) (st' := [.ref 498]) rfl ?_
  refine am_get (ci := 2) (k := 0) (am_fd ck_X2_init (pc := 32) rfl) tw_77 (am_in 2 (by decide)) (by decide) (by decide) (am_isk kc_498 (by rw [n28]; decide)) ?_
  have hg := f_0_28
  rw [show (bif am_isr 2 0 then am_q (h28.2.2 498 0) else Value.int (h28.2.1 498 0)) = .ref 499 from by show am_q (h28.2.2 498 0) = _; rw [hg]; rfl]
  refine am_steps ck_X2_init 1 (pc' := 36) (lv' := [(1, .int (((((((((am_i 0) + am_i 1) + am_i 1) + am_i 1) + am_i 1) + am_i 1) + am_i 1) + am_i 1) + am_i 1)), (0, .ref 498)]) (st' := [.int (((((((((am_i 0) + am_i 1) + am_i 1) + am_i 1) + am_i 1) + am_i 1) + am_i 1) + am_i 1) + am_i 1), .ref 499]) rfl ?_
  have hs : am_sh h28.1 = (1, 6) := by rw [n28]; rfl
  refine am_new (ci := 1) (am_fd ck_X2_init (pc := 36) rfl) tw_74 tw_25 tw_2 (by decide) (by rw [hs]) (by rw [hs]; rfl) (by rw [n28]; decide) ?_
  rw [n28]
  obtain ⟨h29, e29⟩ : ∃ z, z = am_nx h28 := ⟨_, rfl⟩
  rw [← e29]
  have n29 : h29.1 = 2477 := by rw [e29]; show h28.1 + 1 = _; rw [n28]
  have f_0_29 : h29.2.2 498 0 = 499 := by rw [e29]; exact f_nx f_0_28
  refine am_steps ck_X2_init 1 (pc' := 40) (lv' := [(1, .int (((((((((am_i 0) + am_i 1) + am_i 1) + am_i 1) + am_i 1) + am_i 1) + am_i 1) + am_i 1) + am_i 1)), (0, .ref 498)]) (st' := [.ref 2476, .ref 2476, .int (((((((((am_i 0) + am_i 1) + am_i 1) + am_i 1) + am_i 1) + am_i 1) + am_i 1) + am_i 1) + am_i 1), .ref 499]) rfl ?_
  refine am_callI (M2 := mt_X1_init) (d2 := 3) (h2 := c_X1_init h29 2476) (am_fd ck_X2_init (pc := 40) rfl) ok_X1_init rfl tw_76 tw_27 rfl (Nat.le_of_ble_eq_true rfl) (Nat.le_of_ble_eq_true rfl) (x_X1_init (o := 2476) (Or.inr (Or.inr (Or.inr ⟨8, by decide, rfl⟩))) n29) ?_
  obtain ⟨h30, e30⟩ : ∃ z, z = c_X1_init h29 2476 := ⟨_, rfl⟩
  rw [← e30]
  have n30 : h30.1 = 2723 := by rw [e30]; exact n_X1_init n29
  have f_0_30 : h30.2.2 498 0 = 499 := by rw [e30]; exact f_c1 n29 (by decide) f_0_29
  refine am_oast (am_fd ck_X2_init (pc := 43) rfl) (am_isk kc_499 (by rw [n30]; decide)) (am_isk (kO (Or.inr (Or.inr (Or.inr ⟨8, by decide, rfl⟩)))) (by rw [n30]; decide)) (by rw [kc_499.len]; exact am_ibv (by decide +kernel)) ?_
  rw [show Int32.toNatClampNeg (((((((((am_i 0) + am_i 1) + am_i 1) + am_i 1) + am_i 1) + am_i 1) + am_i 1) + am_i 1) + am_i 1) = 8 from by decide +kernel]
  obtain ⟨h31, e31⟩ : ∃ z, z = am_ur h30 499 8 2476 := ⟨_, rfl⟩
  rw [← e31]
  have n31 : h31.1 = 2723 := by rw [e31]; exact n30
  have f_0_31 : h31.2.2 498 0 = 499 := by rw [e31]; exact f_ur_a (by decide) f_0_30
  refine am_steps ck_X2_init 2 (pc' := 25) (lv' := [(1, .int ((((((((((am_i 0) + am_i 1) + am_i 1) + am_i 1) + am_i 1) + am_i 1) + am_i 1) + am_i 1) + am_i 1) + am_i 1)), (0, .ref 498)]) (st' := []) rfl ?_
  refine am_steps ck_X2_init 2 (pc' := 28) (lv' := [(1, .int ((((((((((am_i 0) + am_i 1) + am_i 1) + am_i 1) + am_i 1) + am_i 1) + am_i 1) + am_i 1) + am_i 1) + am_i 1)), (0, .ref 498)]) (st' := [.int (am_i 10), .int ((((((((((am_i 0) + am_i 1) + am_i 1) + am_i 1) + am_i 1) + am_i 1) + am_i 1) + am_i 1) + am_i 1) + am_i 1)]) rfl ?_
  refine am_icmp (tgt := 50) (am_fd ck_X2_init (pc := 28) rfl) rfl (fun q => absurd q (by show ¬ (_ ≤ _); decide +kernel)) (fun _ => ?_)
  refine am_steps ck_X2_init 1 (pc' := 32) (lv' := [(1, .int ((((((((((am_i 0) + am_i 1) + am_i 1) + am_i 1) + am_i 1) + am_i 1) + am_i 1) + am_i 1) + am_i 1) + am_i 1)), (0, .ref 498)]) (st' := [.ref 498]) rfl ?_
  refine am_get (ci := 2) (k := 0) (am_fd ck_X2_init (pc := 32) rfl) tw_77 (am_in 2 (by decide)) (by decide) (by decide) (am_isk kc_498 (by rw [n31]; decide)) ?_
  have hg := f_0_31
  rw [show (bif am_isr 2 0 then am_q (h31.2.2 498 0) else Value.int (h31.2.1 498 0)) = .ref 499 from by show am_q (h31.2.2 498 0) = _; rw [hg]; rfl]
  refine am_steps ck_X2_init 1 (pc' := 36) (lv' := [(1, .int ((((((((((am_i 0) + am_i 1) + am_i 1) + am_i 1) + am_i 1) + am_i 1) + am_i 1) + am_i 1) + am_i 1) + am_i 1)), (0, .ref 498)]) (st' := [.int ((((((((((am_i 0) + am_i 1) + am_i 1) + am_i 1) + am_i 1) + am_i 1) + am_i 1) + am_i 1) + am_i 1) + am_i 1), .ref 499]) rfl ?_
  have hs : am_sh h31.1 = (1, 6) := by rw [n31]; rfl
  refine am_new (ci := 1) (am_fd ck_X2_init (pc := 36) rfl) tw_74 tw_25 tw_2 (by decide) (by rw [hs]) (by rw [hs]; rfl) (by rw [n31]; decide) ?_
  rw [n31]
  obtain ⟨h32, e32⟩ : ∃ z, z = am_nx h31 := ⟨_, rfl⟩
  rw [← e32]
  have n32 : h32.1 = 2724 := by rw [e32]; show h31.1 + 1 = _; rw [n31]
  have f_0_32 : h32.2.2 498 0 = 499 := by rw [e32]; exact f_nx f_0_31
  refine am_steps ck_X2_init 1 (pc' := 40) (lv' := [(1, .int ((((((((((am_i 0) + am_i 1) + am_i 1) + am_i 1) + am_i 1) + am_i 1) + am_i 1) + am_i 1) + am_i 1) + am_i 1)), (0, .ref 498)]) (st' := [.ref 2723, .ref 2723, .int ((((((((((am_i 0) + am_i 1) + am_i 1) + am_i 1) + am_i 1) + am_i 1) + am_i 1) + am_i 1) + am_i 1) + am_i 1), .ref 499]) rfl ?_
  refine am_callI (M2 := mt_X1_init) (d2 := 3) (h2 := c_X1_init h32 2723) (am_fd ck_X2_init (pc := 40) rfl) ok_X1_init rfl tw_76 tw_27 rfl (Nat.le_of_ble_eq_true rfl) (Nat.le_of_ble_eq_true rfl) (x_X1_init (o := 2723) (Or.inr (Or.inr (Or.inr ⟨9, by decide, rfl⟩))) n32) ?_
  obtain ⟨h33, e33⟩ : ∃ z, z = c_X1_init h32 2723 := ⟨_, rfl⟩
  rw [← e33]
  have n33 : h33.1 = 2970 := by rw [e33]; exact n_X1_init n32
  have f_0_33 : h33.2.2 498 0 = 499 := by rw [e33]; exact f_c1 n32 (by decide) f_0_32
  refine am_oast (am_fd ck_X2_init (pc := 43) rfl) (am_isk kc_499 (by rw [n33]; decide)) (am_isk (kO (Or.inr (Or.inr (Or.inr ⟨9, by decide, rfl⟩)))) (by rw [n33]; decide)) (by rw [kc_499.len]; exact am_ibv (by decide +kernel)) ?_
  rw [show Int32.toNatClampNeg ((((((((((am_i 0) + am_i 1) + am_i 1) + am_i 1) + am_i 1) + am_i 1) + am_i 1) + am_i 1) + am_i 1) + am_i 1) = 9 from by decide +kernel]
  obtain ⟨h34, e34⟩ : ∃ z, z = am_ur h33 499 9 2723 := ⟨_, rfl⟩
  rw [← e34]
  have n34 : h34.1 = 2970 := by rw [e34]; exact n33
  have f_0_34 : h34.2.2 498 0 = 499 := by rw [e34]; exact f_ur_a (by decide) f_0_33
  refine am_steps ck_X2_init 2 (pc' := 25) (lv' := [(1, .int (((((((((((am_i 0) + am_i 1) + am_i 1) + am_i 1) + am_i 1) + am_i 1) + am_i 1) + am_i 1) + am_i 1) + am_i 1) + am_i 1)), (0, .ref 498)]) (st' := []) rfl ?_
  refine am_steps ck_X2_init 2 (pc' := 28) (lv' := [(1, .int (((((((((((am_i 0) + am_i 1) + am_i 1) + am_i 1) + am_i 1) + am_i 1) + am_i 1) + am_i 1) + am_i 1) + am_i 1) + am_i 1)), (0, .ref 498)]) (st' := [.int (am_i 10), .int (((((((((((am_i 0) + am_i 1) + am_i 1) + am_i 1) + am_i 1) + am_i 1) + am_i 1) + am_i 1) + am_i 1) + am_i 1) + am_i 1)]) rfl ?_
  refine am_icmp (tgt := 50) (am_fd ck_X2_init (pc := 28) rfl) rfl (fun _ => ?_) (fun q => absurd (show (_ ≤ _) from by decide +kernel) q)
  refine am_end (am_fd ck_X2_init (pc := 50) rfl) am_rV rfl ?_
  rw [e34, e33, e32, e31, e30, e29, e28, e27, e26, e25, e24, e23, e22, e21, e20, e19, e18, e17, e16, e15, e14, e13, e12, e11, e10, e9, e8, e7, e6, e5, e4, e3, e2, e1]; rfl
def mt_X8_init : am_M := (yX8_init, cX8_init, 1, none)
def cd_X8_init : List (Nat × Instr) := [(0, .aload_n 0), (1, .invokespecial 3), (4, .aload_n 0), (5, .new 9), (8, .dup), (9, .invokespecial 11), (12, .putfield 12), (15, .aload_n 0), (16, .new 9), (19, .dup), (20, .invokespecial 11), (23, .putfield 16), (26, .aload_n 0), (27, .new 19), (30, .dup), (31, .invokespecial 21), (34, .putfield 22), (37, .aload_n 0), (38, .new 26), (41, .dup), (42, .invokespecial 28), (45, .putfield 29), (48, .aload_n 0), (49, .new 26), (52, .dup), (53, .invokespecial 28), (56, .putfield 33), (59, .aload_n 0), (60, .new 36), (63, .dup), (64, .invokespecial 38), (67, .putfield 39), (70, .aload_n 0), (71, .new 43), (74, .dup), (75, .invokespecial 45), (78, .putfield 46), (81, .aload_n 0), (82, .new 50), (85, .dup), (86, .invokespecial 52), (89, .putfield 53), (92, .aload_n 0), (93, .bipush 24), (95, .bipush 64), (97, .multianewarray 57 2), (101, .putfield 59), (104, .aload_n 0), (105, .bipush 64), (107, .newarray .int), (109, .putfield 62), (112, .aload_n 0), (113, .new 9), (116, .dup), (117, .invokespecial 11), (120, .putfield 66), (123, .aload_n 0), (124, .iconst 0), (125, .putfield 69), (128, .return_)]
theorem ck_X8_init : am_cok mt_X8_init cd_X8_init := by decide +kernel
theorem ok_X8_init : am_ok mt_X8_init 0 := ⟨tw_20, tw_1, by decide, by decide +kernel, by decide⟩
def c_X8_init (h0 : am_H) : am_H := am_ui (am_ur (c_X1_init (am_nx (am_ur (am_nx (am_ur (am_mkr (am_ur (c_X3_init (am_nx (am_ur (c_X7_init (am_nx (am_ur (c_X4_init (am_nx (am_ur (c_X0_init (am_nx (am_ur (c_X0_init (am_nx (am_ur (c_X2_init (am_nx (am_ur (c_X1_init (am_nx (am_ur (c_X1_init (am_nx h0) 4) 3 0 4)) 251) 3 1 251))) 3 2 498)) 2970) 3 3 2970)) 2976) 3 4 2976))) 3 5 2982))) 3 6 2984))) 3 7 2986) 24) 3 8 2988)) 3 9 3013)) 3014) 3 10 3014) 3 11 (am_i 0)
set_option maxRecDepth 100000 in
theorem n_X8_init {h0 : am_H} (n0 : h0.1 = 4) : (c_X8_init h0).1 = 3261 := by
  show h0.1 + 3257 = _
  omega
set_option maxRecDepth 100000 in
set_option maxHeartbeats 4000000 in
theorem x_X8_init {G : am_G} {h0 : am_H} (n0 : h0.1 = 4) : am_Met G mt_X8_init 5 [.ref 3] h0 none (c_X8_init h0) := by
  refine am_of (by decide) (Nat.le_of_ble_eq_true rfl) ?_
  show am_W G mt_X8_init 5 _ _ 0 [(0, .ref 3)] [] h0
  refine am_steps ck_X8_init 1 (pc' := 1) (lv' := [(0, .ref 3)]) (st' := [.ref 3]) rfl ?_
  refine am_oinit (am_fd ck_X8_init (pc := 1) rfl) tw_21 tw_22 tw_23 (Nat.le_of_ble_eq_true rfl) (Nat.le_of_ble_eq_true rfl) ?_
  refine am_steps ck_X8_init 1 (pc' := 5) (lv' := [(0, .ref 3)]) (st' := [.ref 3]) rfl ?_
  have hs : am_sh h0.1 = (1, 6) := by rw [n0]; rfl
  refine am_new (ci := 1) (am_fd ck_X8_init (pc := 5) rfl) tw_24 tw_25 tw_2 (by decide) (by rw [hs]) (by rw [hs]; rfl) (by rw [n0]; decide) ?_
  rw [n0]
  obtain ⟨h1, e1⟩ : ∃ z, z = am_nx h0 := ⟨_, rfl⟩
  rw [← e1]
  have n1 : h1.1 = 5 := by rw [e1]; show h0.1 + 1 = _; rw [n0]
  refine am_steps ck_X8_init 1 (pc' := 9) (lv' := [(0, .ref 3)]) (st' := [.ref 4, .ref 4, .ref 3]) rfl ?_
  refine am_callI (M2 := mt_X1_init) (d2 := 3) (h2 := c_X1_init h1 4) (am_fd ck_X8_init (pc := 9) rfl) ok_X1_init rfl tw_26 tw_27 rfl (Nat.le_of_ble_eq_true rfl) (Nat.le_of_ble_eq_true rfl) (x_X1_init (o := 4) og4 n1) ?_
  obtain ⟨h2, e2⟩ : ∃ z, z = c_X1_init h1 4 := ⟨_, rfl⟩
  rw [← e2]
  have n2 : h2.1 = 251 := by rw [e2]; exact n_X1_init n1
  refine am_putr (ci := 6) (k := 0) (am_fd ck_X8_init (pc := 12) rfl) tw_190 (by decide) (by decide) (am_isk kc_3 (by rw [n2]; decide)) ⟨rfl, rfl, rfl⟩ (Or.inl ⟨_, rfl⟩) (by decide) ?_
  obtain ⟨h3, e3⟩ : ∃ z, z = am_ur h2 3 0 4 := ⟨_, rfl⟩
  rw [← e3]
  have n3 : h3.1 = 251 := by rw [e3]; exact n2
  refine am_steps ck_X8_init 1 (pc' := 16) (lv' := [(0, .ref 3)]) (st' := [.ref 3]) rfl ?_
  have hs : am_sh h3.1 = (1, 6) := by rw [n3]; rfl
  refine am_new (ci := 1) (am_fd ck_X8_init (pc := 16) rfl) tw_24 tw_25 tw_2 (by decide) (by rw [hs]) (by rw [hs]; rfl) (by rw [n3]; decide) ?_
  rw [n3]
  obtain ⟨h4, e4⟩ : ∃ z, z = am_nx h3 := ⟨_, rfl⟩
  rw [← e4]
  have n4 : h4.1 = 252 := by rw [e4]; show h3.1 + 1 = _; rw [n3]
  refine am_steps ck_X8_init 1 (pc' := 20) (lv' := [(0, .ref 3)]) (st' := [.ref 251, .ref 251, .ref 3]) rfl ?_
  refine am_callI (M2 := mt_X1_init) (d2 := 3) (h2 := c_X1_init h4 251) (am_fd ck_X8_init (pc := 20) rfl) ok_X1_init rfl tw_26 tw_27 rfl (Nat.le_of_ble_eq_true rfl) (Nat.le_of_ble_eq_true rfl) (x_X1_init (o := 251) og251 n4) ?_
  obtain ⟨h5, e5⟩ : ∃ z, z = c_X1_init h4 251 := ⟨_, rfl⟩
  rw [← e5]
  have n5 : h5.1 = 498 := by rw [e5]; exact n_X1_init n4
  refine am_putr (ci := 6) (k := 1) (am_fd ck_X8_init (pc := 23) rfl) tw_191 (by decide) (by decide) (am_isk kc_3 (by rw [n5]; decide)) ⟨rfl, rfl, rfl⟩ (Or.inl ⟨_, rfl⟩) (by decide) ?_
  obtain ⟨h6, e6⟩ : ∃ z, z = am_ur h5 3 1 251 := ⟨_, rfl⟩
  rw [← e6]
  have n6 : h6.1 = 498 := by rw [e6]; exact n5
  refine am_steps ck_X8_init 1 (pc' := 27) (lv' := [(0, .ref 3)]) (st' := [.ref 3]) rfl ?_
  have hs : am_sh h6.1 = (2, 3) := by rw [n6]; rfl
  refine am_new (ci := 2) (am_fd ck_X8_init (pc := 27) rfl) tw_68 tw_69 tw_4 (by decide) (by rw [hs]) (by rw [hs]; rfl) (by rw [n6]; decide) ?_
  rw [n6]
  obtain ⟨h7, e7⟩ : ∃ z, z = am_nx h6 := ⟨_, rfl⟩
  rw [← e7]
  have n7 : h7.1 = 499 := by rw [e7]; show h6.1 + 1 = _; rw [n6]
  refine am_steps ck_X8_init 1 (pc' := 31) (lv' := [(0, .ref 3)]) (st' := [.ref 498, .ref 498, .ref 3]) rfl ?_
  refine am_callI (M2 := mt_X2_init) (d2 := 4) (h2 := c_X2_init h7) (am_fd ck_X8_init (pc := 31) rfl) ok_X2_init rfl tw_70 tw_71 rfl (Nat.le_of_ble_eq_true rfl) (Nat.le_of_ble_eq_true rfl) (x_X2_init n7) ?_
  obtain ⟨h8, e8⟩ : ∃ z, z = c_X2_init h7 := ⟨_, rfl⟩
  rw [← e8]
  have n8 : h8.1 = 2970 := by rw [e8]; exact n_X2_init n7
  refine am_putr (ci := 6) (k := 2) (am_fd ck_X8_init (pc := 34) rfl) tw_192 (by decide) (by decide) (am_isk kc_3 (by rw [n8]; decide)) ⟨rfl, rfl, rfl⟩ (Or.inl ⟨_, rfl⟩) (by decide) ?_
  obtain ⟨h9, e9⟩ : ∃ z, z = am_ur h8 3 2 498 := ⟨_, rfl⟩
  rw [← e9]
  have n9 : h9.1 = 2970 := by rw [e9]; exact n8
  refine am_steps ck_X8_init 1 (pc' := 38) (lv' := [(0, .ref 3)]) (st' := [.ref 3]) rfl ?_
  have hs : am_sh h9.1 = (0, 7) := by rw [n9]; rfl
  refine am_new (ci := 0) (am_fd ck_X8_init (pc := 38) rfl) tw_88 tw_89 tw_5 (by decide) (by rw [hs]) (by rw [hs]; rfl) (by rw [n9]; decide) ?_
  rw [n9]
  obtain ⟨h10, e10⟩ : ∃ z, z = am_nx h9 := ⟨_, rfl⟩
  rw [← e10]
  have n10 : h10.1 = 2971 := by rw [e10]; show h9.1 + 1 = _; rw [n9]
  refine am_steps ck_X8_init 1 (pc' := 42) (lv' := [(0, .ref 3)]) (st' := [.ref 2970, .ref 2970, .ref 3]) rfl ?_
  refine am_callIN (host := RX8) (M2 := mt_X0_init) (d2 := 2) (h2 := c_X0_init h10 2970) (am_fd ck_X8_init (pc := 42) rfl) ok_X0_init rfl nst0 tw_91 rfl (Nat.le_of_ble_eq_true rfl) (Nat.le_of_ble_eq_true rfl) (x_X0_init (b := 2970) bk2970 n10) ?_
  obtain ⟨h11, e11⟩ : ∃ z, z = c_X0_init h10 2970 := ⟨_, rfl⟩
  rw [← e11]
  have n11 : h11.1 = 2976 := by rw [e11]; exact n_X0_init n10
  refine am_putr (ci := 6) (k := 3) (am_fd ck_X8_init (pc := 45) rfl) tw_193 (by decide) (by decide) (am_isk kc_3 (by rw [n11]; decide)) ⟨rfl, rfl, rfl⟩ (Or.inl ⟨_, rfl⟩) (by decide) ?_
  obtain ⟨h12, e12⟩ : ∃ z, z = am_ur h11 3 3 2970 := ⟨_, rfl⟩
  rw [← e12]
  have n12 : h12.1 = 2976 := by rw [e12]; exact n11
  refine am_steps ck_X8_init 1 (pc' := 49) (lv' := [(0, .ref 3)]) (st' := [.ref 3]) rfl ?_
  have hs : am_sh h12.1 = (0, 7) := by rw [n12]; rfl
  refine am_new (ci := 0) (am_fd ck_X8_init (pc := 49) rfl) tw_88 tw_89 tw_5 (by decide) (by rw [hs]) (by rw [hs]; rfl) (by rw [n12]; decide) ?_
  rw [n12]
  obtain ⟨h13, e13⟩ : ∃ z, z = am_nx h12 := ⟨_, rfl⟩
  rw [← e13]
  have n13 : h13.1 = 2977 := by rw [e13]; show h12.1 + 1 = _; rw [n12]
  refine am_steps ck_X8_init 1 (pc' := 53) (lv' := [(0, .ref 3)]) (st' := [.ref 2976, .ref 2976, .ref 3]) rfl ?_
  refine am_callIN (host := RX8) (M2 := mt_X0_init) (d2 := 2) (h2 := c_X0_init h13 2976) (am_fd ck_X8_init (pc := 53) rfl) ok_X0_init rfl nst0 tw_91 rfl (Nat.le_of_ble_eq_true rfl) (Nat.le_of_ble_eq_true rfl) (x_X0_init (b := 2976) bk2976 n13) ?_
  obtain ⟨h14, e14⟩ : ∃ z, z = c_X0_init h13 2976 := ⟨_, rfl⟩
  rw [← e14]
  have n14 : h14.1 = 2982 := by rw [e14]; exact n_X0_init n13
  refine am_putr (ci := 6) (k := 4) (am_fd ck_X8_init (pc := 56) rfl) tw_194 (by decide) (by decide) (am_isk kc_3 (by rw [n14]; decide)) ⟨rfl, rfl, rfl⟩ (Or.inl ⟨_, rfl⟩) (by decide) ?_
  obtain ⟨h15, e15⟩ : ∃ z, z = am_ur h14 3 4 2976 := ⟨_, rfl⟩
  rw [← e15]
  have n15 : h15.1 = 2982 := by rw [e15]; exact n14
  refine am_steps ck_X8_init 1 (pc' := 60) (lv' := [(0, .ref 3)]) (st' := [.ref 3]) rfl ?_
  have hs : am_sh h15.1 = (4, 4) := by rw [n15]; rfl
  refine am_new (ci := 4) (am_fd ck_X8_init (pc := 60) rfl) tw_123 tw_124 tw_6 (by decide) (by rw [hs]) (by rw [hs]; rfl) (by rw [n15]; decide) ?_
  rw [n15]
  obtain ⟨h16, e16⟩ : ∃ z, z = am_nx h15 := ⟨_, rfl⟩
  rw [← e16]
  have n16 : h16.1 = 2983 := by rw [e16]; show h15.1 + 1 = _; rw [n15]
  refine am_steps ck_X8_init 1 (pc' := 64) (lv' := [(0, .ref 3)]) (st' := [.ref 2982, .ref 2982, .ref 3]) rfl ?_
  refine am_callIN (host := RX8) (M2 := mt_X4_init) (d2 := 2) (h2 := c_X4_init h16) (am_fd ck_X8_init (pc := 64) rfl) ok_X4_init rfl nst1 tw_126 rfl (Nat.le_of_ble_eq_true rfl) (Nat.le_of_ble_eq_true rfl) (x_X4_init n16) ?_
  obtain ⟨h17, e17⟩ : ∃ z, z = c_X4_init h16 := ⟨_, rfl⟩
  rw [← e17]
  have n17 : h17.1 = 2984 := by rw [e17]; exact n_X4_init n16
  refine am_putr (ci := 6) (k := 5) (am_fd ck_X8_init (pc := 67) rfl) tw_195 (by decide) (by decide) (am_isk kc_3 (by rw [n17]; decide)) ⟨rfl, rfl, rfl⟩ (Or.inl ⟨_, rfl⟩) (by decide) ?_
  obtain ⟨h18, e18⟩ : ∃ z, z = am_ur h17 3 5 2982 := ⟨_, rfl⟩
  rw [← e18]
  have n18 : h18.1 = 2984 := by rw [e18]; exact n17
  refine am_steps ck_X8_init 1 (pc' := 71) (lv' := [(0, .ref 3)]) (st' := [.ref 3]) rfl ?_
  have hs : am_sh h18.1 = (5, 7) := by rw [n18]; rfl
  refine am_new (ci := 5) (am_fd ck_X8_init (pc := 71) rfl) tw_144 tw_145 tw_7 (by decide) (by rw [hs]) (by rw [hs]; rfl) (by rw [n18]; decide) ?_
  rw [n18]
  obtain ⟨h19, e19⟩ : ∃ z, z = am_nx h18 := ⟨_, rfl⟩
  rw [← e19]
  have n19 : h19.1 = 2985 := by rw [e19]; show h18.1 + 1 = _; rw [n18]
  refine am_steps ck_X8_init 1 (pc' := 75) (lv' := [(0, .ref 3)]) (st' := [.ref 2984, .ref 2984, .ref 3]) rfl ?_
  refine am_callIN (host := RX8) (M2 := mt_X7_init) (d2 := 2) (h2 := c_X7_init h19) (am_fd ck_X8_init (pc := 75) rfl) ok_X7_init rfl nst2 tw_147 rfl (Nat.le_of_ble_eq_true rfl) (Nat.le_of_ble_eq_true rfl) (x_X7_init n19) ?_
  obtain ⟨h20, e20⟩ : ∃ z, z = c_X7_init h19 := ⟨_, rfl⟩
  rw [← e20]
  have n20 : h20.1 = 2986 := by rw [e20]; exact n_X7_init n19
  refine am_putr (ci := 6) (k := 6) (am_fd ck_X8_init (pc := 78) rfl) tw_196 (by decide) (by decide) (am_isk kc_3 (by rw [n20]; decide)) ⟨rfl, rfl, rfl⟩ (Or.inl ⟨_, rfl⟩) (by decide) ?_
  obtain ⟨h21, e21⟩ : ∃ z, z = am_ur h20 3 6 2984 := ⟨_, rfl⟩
  rw [← e21]
  have n21 : h21.1 = 2986 := by rw [e21]; exact n20
  refine am_steps ck_X8_init 1 (pc' := 82) (lv' := [(0, .ref 3)]) (st' := [.ref 3]) rfl ?_
  have hs : am_sh h21.1 = (3, 2) := by rw [n21]; rfl
  refine am_new (ci := 3) (am_fd ck_X8_init (pc := 82) rfl) tw_175 tw_176 tw_8 (by decide) (by rw [hs]) (by rw [hs]; rfl) (by rw [n21]; decide) ?_
  rw [n21]
  obtain ⟨h22, e22⟩ : ∃ z, z = am_nx h21 := ⟨_, rfl⟩
  rw [← e22]
  have n22 : h22.1 = 2987 := by rw [e22]; show h21.1 + 1 = _; rw [n21]
  refine am_steps ck_X8_init 1 (pc' := 86) (lv' := [(0, .ref 3)]) (st' := [.ref 2986, .ref 2986, .ref 3]) rfl ?_
  refine am_callIN (host := RX8) (M2 := mt_X3_init) (d2 := 2) (h2 := c_X3_init h22) (am_fd ck_X8_init (pc := 86) rfl) ok_X3_init rfl nst3 tw_178 rfl (Nat.le_of_ble_eq_true rfl) (Nat.le_of_ble_eq_true rfl) (x_X3_init n22) ?_
  obtain ⟨h23, e23⟩ : ∃ z, z = c_X3_init h22 := ⟨_, rfl⟩
  rw [← e23]
  have n23 : h23.1 = 2988 := by rw [e23]; exact n_X3_init n22
  refine am_putr (ci := 6) (k := 7) (am_fd ck_X8_init (pc := 89) rfl) tw_197 (by decide) (by decide) (am_isk kc_3 (by rw [n23]; decide)) ⟨rfl, rfl, rfl⟩ (Or.inl ⟨_, rfl⟩) (by decide) ?_
  obtain ⟨h24, e24⟩ : ∃ z, z = am_ur h23 3 7 2986 := ⟨_, rfl⟩
  rw [← e24]
  have n24 : h24.1 = 2988 := by rw [e24]; exact n23
  refine am_steps ck_X8_init 3 (pc' := 97) (lv' := [(0, .ref 3)]) (st' := [.int (am_i 64), .int (am_i 24), .ref 3]) rfl ?_
  have hs : am_sh h24.1 = (14, 24) := by rw [n24]; exact rfl
  have hs2 : ∀ j, j < 24 → am_sh (h24.1 + 1 + j) = (11, 64) := by intro j hj; rw [n24]; exact (by rw [show 2988 + 1 + j = aR j from by unfold aR; omega]; exact (am_rw j hj).2.2)
  refine am_mna (N := 24) (K := 64) (am_fd ck_X8_init (pc := 97) rfl) tw_189 tw_66 hs hs2 (by decide) (by decide) (by decide +kernel) (by decide +kernel) (by decide) (by decide) (by rw [n24]; decide) ?_
  rw [n24]
  obtain ⟨h25, e25⟩ : ∃ z, z = am_mkr h24 24 := ⟨_, rfl⟩
  rw [← e25]
  have n25 : h25.1 = 3013 := by rw [e25]; show h24.1 + 1 + 24 = _; rw [n24]
  refine am_putr (ci := 6) (k := 8) (am_fd ck_X8_init (pc := 101) rfl) tw_198 (by decide) (by decide) (am_isk kc_3 (by rw [n25]; decide)) ⟨rfl, rfl, rfl⟩ (Or.inr ⟨_, rfl⟩) (by decide) ?_
  obtain ⟨h26, e26⟩ : ∃ z, z = am_ur h25 3 8 2988 := ⟨_, rfl⟩
  rw [← e26]
  have n26 : h26.1 = 3013 := by rw [e26]; exact n25
  refine am_steps ck_X8_init 2 (pc' := 107) (lv' := [(0, .ref 3)]) (st' := [.int (am_i 64), .ref 3]) rfl ?_
  have hs : am_sh h26.1 = (11, 64) := by rw [n26]; exact rfl
  refine am_newa (ty := .int) (kd := 11) (Or.inl ⟨rfl, rfl⟩) (am_fd ck_X8_init (pc := 107) rfl) tw_66 (by rw [hs]) (by decide) (by rw [hs]; decide +kernel) (by rw [hs]; exact Nat.le_of_ble_eq_true rfl) (by rw [n26]; decide) ?_
  rw [n26]
  obtain ⟨h27, e27⟩ : ∃ z, z = am_nx h26 := ⟨_, rfl⟩
  rw [← e27]
  have n27 : h27.1 = 3014 := by rw [e27]; show h26.1 + 1 = _; rw [n26]
  refine am_putr (ci := 6) (k := 9) (am_fd ck_X8_init (pc := 109) rfl) tw_199 (by decide) (by decide) (am_isk kc_3 (by rw [n27]; decide)) ⟨rfl, rfl, rfl⟩ (Or.inr ⟨_, rfl⟩) (by decide) ?_
  obtain ⟨h28, e28⟩ : ∃ z, z = am_ur h27 3 9 3013 := ⟨_, rfl⟩
  rw [← e28]
  have n28 : h28.1 = 3014 := by rw [e28]; exact n27
  refine am_steps ck_X8_init 1 (pc' := 113) (lv' := [(0, .ref 3)]) (st' := [.ref 3]) rfl ?_
  have hs : am_sh h28.1 = (1, 6) := by rw [n28]; rfl
  refine am_new (ci := 1) (am_fd ck_X8_init (pc := 113) rfl) tw_24 tw_25 tw_2 (by decide) (by rw [hs]) (by rw [hs]; rfl) (by rw [n28]; decide) ?_
  rw [n28]
  obtain ⟨h29, e29⟩ : ∃ z, z = am_nx h28 := ⟨_, rfl⟩
  rw [← e29]
  have n29 : h29.1 = 3015 := by rw [e29]; show h28.1 + 1 = _; rw [n28]
  refine am_steps ck_X8_init 1 (pc' := 117) (lv' := [(0, .ref 3)]) (st' := [.ref 3014, .ref 3014, .ref 3]) rfl ?_
  refine am_callI (M2 := mt_X1_init) (d2 := 3) (h2 := c_X1_init h29 3014) (am_fd ck_X8_init (pc := 117) rfl) ok_X1_init rfl tw_26 tw_27 rfl (Nat.le_of_ble_eq_true rfl) (Nat.le_of_ble_eq_true rfl) (x_X1_init (o := 3014) og3014 n29) ?_
  obtain ⟨h30, e30⟩ : ∃ z, z = c_X1_init h29 3014 := ⟨_, rfl⟩
  rw [← e30]
  have n30 : h30.1 = 3261 := by rw [e30]; exact n_X1_init n29
  refine am_putr (ci := 6) (k := 10) (am_fd ck_X8_init (pc := 120) rfl) tw_200 (by decide) (by decide) (am_isk kc_3 (by rw [n30]; decide)) ⟨rfl, rfl, rfl⟩ (Or.inl ⟨_, rfl⟩) (by decide) ?_
  obtain ⟨h31, e31⟩ : ∃ z, z = am_ur h30 3 10 3014 := ⟨_, rfl⟩
  rw [← e31]
  have n31 : h31.1 = 3261 := by rw [e31]; exact n30
  refine am_steps ck_X8_init 2 (pc' := 125) (lv' := [(0, .ref 3)]) (st' := [.int (am_i 0), .ref 3]) rfl ?_
  refine am_putz (ci := 6) (k := 11) (am_fd ck_X8_init (pc := 125) rfl) tw_201 (by decide) (by decide) (am_isk kc_3 (by rw [n31]; decide)) rfl rfl (Or.inl am_i0) ?_
  obtain ⟨h32, e32⟩ : ∃ z, z = am_ui h31 3 11 (am_i 0) := ⟨_, rfl⟩
  rw [← e32]
  have n32 : h32.1 = 3261 := by rw [e32]; exact n31
  refine am_end (am_fd ck_X8_init (pc := 128) rfl) am_rV rfl ?_
  rw [e32, e31, e30, e29, e28, e27, e26, e25, e24, e23, e22, e21, e20, e19, e18, e17, e16, e15, e14, e13, e12, e11, e10, e9, e8, e7, e6, e5, e4, e3, e2, e1]; rfl
def mt_X9_init : am_M := (yX9_init, cX9_init, 1, none)
def cd_X9_init : List (Nat × Instr) := [(0, .aload_n 0), (1, .invokespecial 3), (4, .aload_n 0), (5, .sipush 15517), (8, .newarray .int), (10, .putfield 9), (13, .aload_n 0), (14, .sipush 15517), (17, .newarray .int), (19, .putfield 13), (22, .aload_n 0), (23, .sipush 15517), (26, .newarray .int), (28, .putfield 16), (31, .aload_n 0), (32, .ldc 19), (34, .newarray .int), (36, .putfield 20), (39, .aload_n 0), (40, .bipush 64), (42, .newarray .int), (44, .putfield 23), (47, .aload_n 0), (48, .bipush 64), (50, .newarray .int), (52, .putfield 26), (55, .aload_n 0), (56, .sipush 400), (59, .newarray .byte), (61, .putfield 29), (64, .aload_n 0), (65, .iconst (-1)), (66, .putfield 33), (69, .aload_n 0), (70, .bipush 64), (72, .newarray .int), (74, .putfield 37), (77, .aload_n 0), (78, .bipush 96), (80, .newarray .int), (82, .putfield 40), (85, .aload_n 0), (86, .bipush 120), (88, .newarray .int), (90, .putfield 43), (93, .aload_n 0), (94, .bipush 24), (96, .newarray .int), (98, .putfield 46), (101, .aload_n 0), (102, .getfield 9), (105, .iconst 0), (106, .iconst 1), (107, .iastore), (108, .aload_n 0), (109, .getfield 9), (112, .bipush 24), (114, .iconst (-1)), (115, .iastore), (116, .return_)]
theorem ck_X9_init : am_cok mt_X9_init cd_X9_init := by decide +kernel
theorem ok_X9_init : am_ok mt_X9_init 0 := ⟨tw_872, tw_9, by decide, by decide +kernel, by decide⟩
def c_X9_init (h0 : am_H) : am_H := am_ui (am_ui (am_ur (am_nx (am_ur (am_nx (am_ur (am_nx (am_ur (am_nx (am_ui (am_ur (am_nx (am_ur (am_nx (am_ur (am_nx (am_ur (am_nx (am_ur (am_nx (am_ur (am_nx (am_ur (am_nx h0) 3261 0 3262)) 3261 1 3263)) 3261 2 3264)) 3261 3 3265)) 3261 6 3266)) 3261 7 3267)) 3261 8 3268) 3261 12 (am_i (-1)))) 3261 15 3269)) 3261 16 3270)) 3261 17 3271)) 3261 19 3272) 3262 0 (am_i 1)) 3262 24 (am_i (-1))
set_option maxRecDepth 100000 in
theorem n_X9_init {h0 : am_H} (n0 : h0.1 = 3262) : (c_X9_init h0).1 = 3273 := by
  show h0.1 + 11 = _
  omega
set_option maxRecDepth 100000 in
set_option maxHeartbeats 4000000 in
theorem x_X9_init {G : am_G} {h0 : am_H} (n0 : h0.1 = 3262) : am_Met G mt_X9_init 2 [.ref 3261] h0 none (c_X9_init h0) := by
  refine am_of (by decide) (Nat.le_of_ble_eq_true rfl) ?_
  show am_W G mt_X9_init 2 _ _ 0 [(0, .ref 3261)] [] h0
  refine am_steps ck_X9_init 1 (pc' := 1) (lv' := [(0, .ref 3261)]) (st' := [.ref 3261]) rfl ?_
  refine am_oinit (am_fd ck_X9_init (pc := 1) rfl) tw_873 tw_22 tw_23 (Nat.le_of_ble_eq_true rfl) (Nat.le_of_ble_eq_true rfl) ?_
  refine am_steps ck_X9_init 2 (pc' := 8) (lv' := [(0, .ref 3261)]) (st' := [.int (am_i 15517), .ref 3261]) rfl ?_
  have hs : am_sh h0.1 = (11, 15517) := by rw [n0]; exact rfl
  refine am_newa (ty := .int) (kd := 11) (Or.inl ⟨rfl, rfl⟩) (am_fd ck_X9_init (pc := 8) rfl) tw_66 (by rw [hs]) (by decide) (by rw [hs]; decide +kernel) (by rw [hs]; exact Nat.le_of_ble_eq_true rfl) (by rw [n0]; decide) ?_
  rw [n0]
  obtain ⟨h1, e1⟩ : ∃ z, z = am_nx h0 := ⟨_, rfl⟩
  rw [← e1]
  have n1 : h1.1 = 3263 := by rw [e1]; show h0.1 + 1 = _; rw [n0]
  refine am_putr (ci := 7) (k := 0) (am_fd ck_X9_init (pc := 10) rfl) tw_875 (by decide) (by decide) (am_isk kc_3261 (by rw [n1]; decide)) ⟨rfl, rfl, rfl⟩ (Or.inr ⟨_, rfl⟩) (by decide) ?_
  obtain ⟨h2, e2⟩ : ∃ z, z = am_ur h1 3261 0 3262 := ⟨_, rfl⟩
  rw [← e2]
  have n2 : h2.1 = 3263 := by rw [e2]; exact n1
  have f_0_2 : h2.2.2 3261 0 = 3262 := by rw [e2]; exact f_ur_s
  refine am_steps ck_X9_init 2 (pc' := 17) (lv' := [(0, .ref 3261)]) (st' := [.int (am_i 15517), .ref 3261]) rfl ?_
  have hs : am_sh h2.1 = (11, 15517) := by rw [n2]; exact rfl
  refine am_newa (ty := .int) (kd := 11) (Or.inl ⟨rfl, rfl⟩) (am_fd ck_X9_init (pc := 17) rfl) tw_66 (by rw [hs]) (by decide) (by rw [hs]; decide +kernel) (by rw [hs]; exact Nat.le_of_ble_eq_true rfl) (by rw [n2]; decide) ?_
  rw [n2]
  obtain ⟨h3, e3⟩ : ∃ z, z = am_nx h2 := ⟨_, rfl⟩
  rw [← e3]
  have n3 : h3.1 = 3264 := by rw [e3]; show h2.1 + 1 = _; rw [n2]
  have f_0_3 : h3.2.2 3261 0 = 3262 := by rw [e3]; exact f_nx f_0_2
  refine am_putr (ci := 7) (k := 1) (am_fd ck_X9_init (pc := 19) rfl) tw_876 (by decide) (by decide) (am_isk kc_3261 (by rw [n3]; decide)) ⟨rfl, rfl, rfl⟩ (Or.inr ⟨_, rfl⟩) (by decide) ?_
  obtain ⟨h4, e4⟩ : ∃ z, z = am_ur h3 3261 1 3263 := ⟨_, rfl⟩
  rw [← e4]
  have n4 : h4.1 = 3264 := by rw [e4]; exact n3
  have f_0_4 : h4.2.2 3261 0 = 3262 := by rw [e4]; exact f_ur_k (by decide) f_0_3
  refine am_steps ck_X9_init 2 (pc' := 26) (lv' := [(0, .ref 3261)]) (st' := [.int (am_i 15517), .ref 3261]) rfl ?_
  have hs : am_sh h4.1 = (11, 15517) := by rw [n4]; exact rfl
  refine am_newa (ty := .int) (kd := 11) (Or.inl ⟨rfl, rfl⟩) (am_fd ck_X9_init (pc := 26) rfl) tw_66 (by rw [hs]) (by decide) (by rw [hs]; decide +kernel) (by rw [hs]; exact Nat.le_of_ble_eq_true rfl) (by rw [n4]; decide) ?_
  rw [n4]
  obtain ⟨h5, e5⟩ : ∃ z, z = am_nx h4 := ⟨_, rfl⟩
  rw [← e5]
  have n5 : h5.1 = 3265 := by rw [e5]; show h4.1 + 1 = _; rw [n4]
  have f_0_5 : h5.2.2 3261 0 = 3262 := by rw [e5]; exact f_nx f_0_4
  refine am_putr (ci := 7) (k := 2) (am_fd ck_X9_init (pc := 28) rfl) tw_877 (by decide) (by decide) (am_isk kc_3261 (by rw [n5]; decide)) ⟨rfl, rfl, rfl⟩ (Or.inr ⟨_, rfl⟩) (by decide) ?_
  obtain ⟨h6, e6⟩ : ∃ z, z = am_ur h5 3261 2 3264 := ⟨_, rfl⟩
  rw [← e6]
  have n6 : h6.1 = 3265 := by rw [e6]; exact n5
  have f_0_6 : h6.2.2 3261 0 = 3262 := by rw [e6]; exact f_ur_k (by decide) f_0_5
  refine am_steps ck_X9_init 1 (pc' := 32) (lv' := [(0, .ref 3261)]) (st' := [.ref 3261]) rfl ?_
  refine am_ldc (am_fd ck_X9_init (pc := 32) rfl) tw_874 ?_
  have hs : am_sh h6.1 = (11, 154560) := by rw [n6]; exact rfl
  refine am_newa (ty := .int) (kd := 11) (Or.inl ⟨rfl, rfl⟩) (am_fd ck_X9_init (pc := 34) rfl) tw_66 (by rw [hs]) (by decide) (by rw [hs]; decide +kernel) (by rw [hs]; exact Nat.le_of_ble_eq_true rfl) (by rw [n6]; decide) ?_
  rw [n6]
  obtain ⟨h7, e7⟩ : ∃ z, z = am_nx h6 := ⟨_, rfl⟩
  rw [← e7]
  have n7 : h7.1 = 3266 := by rw [e7]; show h6.1 + 1 = _; rw [n6]
  have f_0_7 : h7.2.2 3261 0 = 3262 := by rw [e7]; exact f_nx f_0_6
  refine am_putr (ci := 7) (k := 3) (am_fd ck_X9_init (pc := 36) rfl) tw_878 (by decide) (by decide) (am_isk kc_3261 (by rw [n7]; decide)) ⟨rfl, rfl, rfl⟩ (Or.inr ⟨_, rfl⟩) (by decide) ?_
  obtain ⟨h8, e8⟩ : ∃ z, z = am_ur h7 3261 3 3265 := ⟨_, rfl⟩
  rw [← e8]
  have n8 : h8.1 = 3266 := by rw [e8]; exact n7
  have f_0_8 : h8.2.2 3261 0 = 3262 := by rw [e8]; exact f_ur_k (by decide) f_0_7
  refine am_steps ck_X9_init 2 (pc' := 42) (lv' := [(0, .ref 3261)]) (st' := [.int (am_i 64), .ref 3261]) rfl ?_
  have hs : am_sh h8.1 = (11, 64) := by rw [n8]; exact rfl
  refine am_newa (ty := .int) (kd := 11) (Or.inl ⟨rfl, rfl⟩) (am_fd ck_X9_init (pc := 42) rfl) tw_66 (by rw [hs]) (by decide) (by rw [hs]; decide +kernel) (by rw [hs]; exact Nat.le_of_ble_eq_true rfl) (by rw [n8]; decide) ?_
  rw [n8]
  obtain ⟨h9, e9⟩ : ∃ z, z = am_nx h8 := ⟨_, rfl⟩
  rw [← e9]
  have n9 : h9.1 = 3267 := by rw [e9]; show h8.1 + 1 = _; rw [n8]
  have f_0_9 : h9.2.2 3261 0 = 3262 := by rw [e9]; exact f_nx f_0_8
  refine am_putr (ci := 7) (k := 6) (am_fd ck_X9_init (pc := 44) rfl) tw_881 (by decide) (by decide) (am_isk kc_3261 (by rw [n9]; decide)) ⟨rfl, rfl, rfl⟩ (Or.inr ⟨_, rfl⟩) (by decide) ?_
  obtain ⟨h10, e10⟩ : ∃ z, z = am_ur h9 3261 6 3266 := ⟨_, rfl⟩
  rw [← e10]
  have n10 : h10.1 = 3267 := by rw [e10]; exact n9
  have f_0_10 : h10.2.2 3261 0 = 3262 := by rw [e10]; exact f_ur_k (by decide) f_0_9
  refine am_steps ck_X9_init 2 (pc' := 50) (lv' := [(0, .ref 3261)]) (st' := [.int (am_i 64), .ref 3261]) rfl ?_
  have hs : am_sh h10.1 = (11, 64) := by rw [n10]; exact rfl
  refine am_newa (ty := .int) (kd := 11) (Or.inl ⟨rfl, rfl⟩) (am_fd ck_X9_init (pc := 50) rfl) tw_66 (by rw [hs]) (by decide) (by rw [hs]; decide +kernel) (by rw [hs]; exact Nat.le_of_ble_eq_true rfl) (by rw [n10]; decide) ?_
  rw [n10]
  obtain ⟨h11, e11⟩ : ∃ z, z = am_nx h10 := ⟨_, rfl⟩
  rw [← e11]
  have n11 : h11.1 = 3268 := by rw [e11]; show h10.1 + 1 = _; rw [n10]
  have f_0_11 : h11.2.2 3261 0 = 3262 := by rw [e11]; exact f_nx f_0_10
  refine am_putr (ci := 7) (k := 7) (am_fd ck_X9_init (pc := 52) rfl) tw_882 (by decide) (by decide) (am_isk kc_3261 (by rw [n11]; decide)) ⟨rfl, rfl, rfl⟩ (Or.inr ⟨_, rfl⟩) (by decide) ?_
  obtain ⟨h12, e12⟩ : ∃ z, z = am_ur h11 3261 7 3267 := ⟨_, rfl⟩
  rw [← e12]
  have n12 : h12.1 = 3268 := by rw [e12]; exact n11
  have f_0_12 : h12.2.2 3261 0 = 3262 := by rw [e12]; exact f_ur_k (by decide) f_0_11
  refine am_steps ck_X9_init 2 (pc' := 59) (lv' := [(0, .ref 3261)]) (st' := [.int (am_i 400), .ref 3261]) rfl ?_
  have hs : am_sh h12.1 = (10, 400) := by rw [n12]; exact rfl
  refine am_newa (ty := .int) (kd := 10) (Or.inr (Or.inr ⟨rfl, rfl⟩)) (am_fd ck_X9_init (pc := 59) rfl) tw_936 (by rw [hs]) (by decide) (by rw [hs]; decide +kernel) (by rw [hs]; exact Nat.le_of_ble_eq_true rfl) (by rw [n12]; decide) ?_
  rw [n12]
  obtain ⟨h13, e13⟩ : ∃ z, z = am_nx h12 := ⟨_, rfl⟩
  rw [← e13]
  have n13 : h13.1 = 3269 := by rw [e13]; show h12.1 + 1 = _; rw [n12]
  have f_0_13 : h13.2.2 3261 0 = 3262 := by rw [e13]; exact f_nx f_0_12
  refine am_putr (ci := 7) (k := 8) (am_fd ck_X9_init (pc := 61) rfl) tw_883 (by decide) (by decide) (am_isk kc_3261 (by rw [n13]; decide)) ⟨rfl, rfl, rfl⟩ (Or.inr ⟨_, rfl⟩) (by decide) ?_
  obtain ⟨h14, e14⟩ : ∃ z, z = am_ur h13 3261 8 3268 := ⟨_, rfl⟩
  rw [← e14]
  have n14 : h14.1 = 3269 := by rw [e14]; exact n13
  have f_0_14 : h14.2.2 3261 0 = 3262 := by rw [e14]; exact f_ur_k (by decide) f_0_13
  refine am_steps ck_X9_init 2 (pc' := 66) (lv' := [(0, .ref 3261)]) (st' := [.int (am_i (-1)), .ref 3261]) rfl ?_
  refine am_puti (ci := 7) (k := 12) (am_fd ck_X9_init (pc := 66) rfl) tw_887 (by decide) (by decide) (am_isk kc_3261 (by rw [n14]; decide)) rfl rfl ?_
  obtain ⟨h15, e15⟩ : ∃ z, z = am_ui h14 3261 12 (am_i (-1)) := ⟨_, rfl⟩
  rw [← e15]
  have n15 : h15.1 = 3269 := by rw [e15]; exact n14
  have f_0_15 : h15.2.2 3261 0 = 3262 := by rw [e15]; exact f_ui f_0_14
  refine am_steps ck_X9_init 2 (pc' := 72) (lv' := [(0, .ref 3261)]) (st' := [.int (am_i 64), .ref 3261]) rfl ?_
  have hs : am_sh h15.1 = (11, 64) := by rw [n15]; exact rfl
  refine am_newa (ty := .int) (kd := 11) (Or.inl ⟨rfl, rfl⟩) (am_fd ck_X9_init (pc := 72) rfl) tw_66 (by rw [hs]) (by decide) (by rw [hs]; decide +kernel) (by rw [hs]; exact Nat.le_of_ble_eq_true rfl) (by rw [n15]; decide) ?_
  rw [n15]
  obtain ⟨h16, e16⟩ : ∃ z, z = am_nx h15 := ⟨_, rfl⟩
  rw [← e16]
  have n16 : h16.1 = 3270 := by rw [e16]; show h15.1 + 1 = _; rw [n15]
  have f_0_16 : h16.2.2 3261 0 = 3262 := by rw [e16]; exact f_nx f_0_15
  refine am_putr (ci := 7) (k := 15) (am_fd ck_X9_init (pc := 74) rfl) tw_890 (by decide) (by decide) (am_isk kc_3261 (by rw [n16]; decide)) ⟨rfl, rfl, rfl⟩ (Or.inr ⟨_, rfl⟩) (by decide) ?_
  obtain ⟨h17, e17⟩ : ∃ z, z = am_ur h16 3261 15 3269 := ⟨_, rfl⟩
  rw [← e17]
  have n17 : h17.1 = 3270 := by rw [e17]; exact n16
  have f_0_17 : h17.2.2 3261 0 = 3262 := by rw [e17]; exact f_ur_k (by decide) f_0_16
  refine am_steps ck_X9_init 2 (pc' := 80) (lv' := [(0, .ref 3261)]) (st' := [.int (am_i 96), .ref 3261]) rfl ?_
  have hs : am_sh h17.1 = (11, 96) := by rw [n17]; exact rfl
  refine am_newa (ty := .int) (kd := 11) (Or.inl ⟨rfl, rfl⟩) (am_fd ck_X9_init (pc := 80) rfl) tw_66 (by rw [hs]) (by decide) (by rw [hs]; decide +kernel) (by rw [hs]; exact Nat.le_of_ble_eq_true rfl) (by rw [n17]; decide) ?_
  rw [n17]
  obtain ⟨h18, e18⟩ : ∃ z, z = am_nx h17 := ⟨_, rfl⟩
  rw [← e18]
  have n18 : h18.1 = 3271 := by rw [e18]; show h17.1 + 1 = _; rw [n17]
  have f_0_18 : h18.2.2 3261 0 = 3262 := by rw [e18]; exact f_nx f_0_17
  refine am_putr (ci := 7) (k := 16) (am_fd ck_X9_init (pc := 82) rfl) tw_891 (by decide) (by decide) (am_isk kc_3261 (by rw [n18]; decide)) ⟨rfl, rfl, rfl⟩ (Or.inr ⟨_, rfl⟩) (by decide) ?_
  obtain ⟨h19, e19⟩ : ∃ z, z = am_ur h18 3261 16 3270 := ⟨_, rfl⟩
  rw [← e19]
  have n19 : h19.1 = 3271 := by rw [e19]; exact n18
  have f_0_19 : h19.2.2 3261 0 = 3262 := by rw [e19]; exact f_ur_k (by decide) f_0_18
  refine am_steps ck_X9_init 2 (pc' := 88) (lv' := [(0, .ref 3261)]) (st' := [.int (am_i 120), .ref 3261]) rfl ?_
  have hs : am_sh h19.1 = (11, 120) := by rw [n19]; exact rfl
  refine am_newa (ty := .int) (kd := 11) (Or.inl ⟨rfl, rfl⟩) (am_fd ck_X9_init (pc := 88) rfl) tw_66 (by rw [hs]) (by decide) (by rw [hs]; decide +kernel) (by rw [hs]; exact Nat.le_of_ble_eq_true rfl) (by rw [n19]; decide) ?_
  rw [n19]
  obtain ⟨h20, e20⟩ : ∃ z, z = am_nx h19 := ⟨_, rfl⟩
  rw [← e20]
  have n20 : h20.1 = 3272 := by rw [e20]; show h19.1 + 1 = _; rw [n19]
  have f_0_20 : h20.2.2 3261 0 = 3262 := by rw [e20]; exact f_nx f_0_19
  refine am_putr (ci := 7) (k := 17) (am_fd ck_X9_init (pc := 90) rfl) tw_892 (by decide) (by decide) (am_isk kc_3261 (by rw [n20]; decide)) ⟨rfl, rfl, rfl⟩ (Or.inr ⟨_, rfl⟩) (by decide) ?_
  obtain ⟨h21, e21⟩ : ∃ z, z = am_ur h20 3261 17 3271 := ⟨_, rfl⟩
  rw [← e21]
  have n21 : h21.1 = 3272 := by rw [e21]; exact n20
  have f_0_21 : h21.2.2 3261 0 = 3262 := by rw [e21]; exact f_ur_k (by decide) f_0_20
  refine am_steps ck_X9_init 2 (pc' := 96) (lv' := [(0, .ref 3261)]) (st' := [.int (am_i 24), .ref 3261]) rfl ?_
  have hs : am_sh h21.1 = (11, 24) := by rw [n21]; exact rfl
  refine am_newa (ty := .int) (kd := 11) (Or.inl ⟨rfl, rfl⟩) (am_fd ck_X9_init (pc := 96) rfl) tw_66 (by rw [hs]) (by decide) (by rw [hs]; decide +kernel) (by rw [hs]; exact Nat.le_of_ble_eq_true rfl) (by rw [n21]; decide) ?_
  rw [n21]
  obtain ⟨h22, e22⟩ : ∃ z, z = am_nx h21 := ⟨_, rfl⟩
  rw [← e22]
  have n22 : h22.1 = 3273 := by rw [e22]; show h21.1 + 1 = _; rw [n21]
  have f_0_22 : h22.2.2 3261 0 = 3262 := by rw [e22]; exact f_nx f_0_21
  refine am_putr (ci := 7) (k := 19) (am_fd ck_X9_init (pc := 98) rfl) tw_894 (by decide) (by decide) (am_isk kc_3261 (by rw [n22]; decide)) ⟨rfl, rfl, rfl⟩ (Or.inr ⟨_, rfl⟩) (by decide) ?_
  obtain ⟨h23, e23⟩ : ∃ z, z = am_ur h22 3261 19 3272 := ⟨_, rfl⟩
  rw [← e23]
  have n23 : h23.1 = 3273 := by rw [e23]; exact n22
  have f_0_23 : h23.2.2 3261 0 = 3262 := by rw [e23]; exact f_ur_k (by decide) f_0_22
  refine am_steps ck_X9_init 1 (pc' := 102) (lv' := [(0, .ref 3261)]) (st' := [.ref 3261]) rfl ?_
  refine am_get (ci := 7) (k := 0) (am_fd ck_X9_init (pc := 102) rfl) tw_875 (am_in 7 (by decide)) (by decide) (by decide) (am_isk kc_3261 (by rw [n23]; decide)) ?_
  have hg := f_0_23
  rw [show (bif am_isr 7 0 then am_q (h23.2.2 3261 0) else Value.int (h23.2.1 3261 0)) = .ref 3262 from by show am_q (h23.2.2 3261 0) = _; rw [hg]; exact if_neg (by decide)]
  refine am_steps ck_X9_init 2 (pc' := 107) (lv' := [(0, .ref 3261)]) (st' := [.int (am_i 1), .int (am_i 0), .ref 3262]) rfl ?_
  refine am_iast (am_fd ck_X9_init (pc := 107) rfl) (am_isk kc_3262 (by rw [n23]; decide)) (by rw [(kc_3262).len]; exact am_ibv (by decide +kernel)) ?_
  rw [show Int32.toNatClampNeg (am_i 0) = 0 from by decide +kernel]
  obtain ⟨h24, e24⟩ : ∃ z, z = am_ui h23 3262 0 (am_i 1) := ⟨_, rfl⟩
  rw [← e24]
  have n24 : h24.1 = 3273 := by rw [e24]; exact n23
  have f_0_24 : h24.2.2 3261 0 = 3262 := by rw [e24]; exact f_ui f_0_23
  refine am_steps ck_X9_init 1 (pc' := 109) (lv' := [(0, .ref 3261)]) (st' := [.ref 3261]) rfl ?_
  refine am_get (ci := 7) (k := 0) (am_fd ck_X9_init (pc := 109) rfl) tw_875 (am_in 7 (by decide)) (by decide) (by decide) (am_isk kc_3261 (by rw [n24]; decide)) ?_
  have hg := f_0_24
  rw [show (bif am_isr 7 0 then am_q (h24.2.2 3261 0) else Value.int (h24.2.1 3261 0)) = .ref 3262 from by show am_q (h24.2.2 3261 0) = _; rw [hg]; exact if_neg (by decide)]
  refine am_steps ck_X9_init 2 (pc' := 115) (lv' := [(0, .ref 3261)]) (st' := [.int (am_i (-1)), .int (am_i 24), .ref 3262]) rfl ?_
  refine am_iast (am_fd ck_X9_init (pc := 115) rfl) (am_isk kc_3262 (by rw [n24]; decide)) (by rw [(kc_3262).len]; exact am_ibv (by decide +kernel)) ?_
  rw [show Int32.toNatClampNeg (am_i 24) = 24 from by decide +kernel]
  obtain ⟨h25, e25⟩ : ∃ z, z = am_ui h24 3262 24 (am_i (-1)) := ⟨_, rfl⟩
  rw [← e25]
  have n25 : h25.1 = 3273 := by rw [e25]; exact n24
  have f_0_25 : h25.2.2 3261 0 = 3262 := by rw [e25]; exact f_ui f_0_24
  refine am_end (am_fd ck_X9_init (pc := 116) rfl) am_rV rfl ?_
  rw [e25, e24, e23, e22, e21, e20, e19, e18, e17, e16, e15, e14, e13, e12, e11, e10, e9, e8, e7, e6, e5, e4, e3, e2, e1]; rfl
