/-! ===== the law ===== -/
theorem lg_cmp_same {x y : Int64} (h : x = y) : lg_cmp x y = 0 := by
  subst h
  simp [lg_cmp]
section LAWR
variable {G : am_G} {M : am_M} {d : Nat} {rv : Option Value} {h' : am_H} {pc : Nat} {lv : am_L} {st : List Value} {h : am_H}
theorem ms_sald {N : Nat} {xs : Nat → Int32} {i : Int32} (hd : decode M.2.1 pc = .ok (.iaload, 1)) (hN : am_n G = N) (hX : am_xs G = xs) (hb : am_ib i N = true) (kk : am_W G M d rv h' (pc + 1) lv (.int (xs (am_ix i)) :: st) h) : am_W G M d rv h' pc lv (.int i :: .ref 1 :: st) h := by
  subst hN
  subst hX
  refine ⟨kk.1, fun p e R s m args below meth c ls H locs n0 Q hx hb2 hml hnm hown hts hC hn0 hRm hret hR hL hl => ?_⟩
  refine (am_sald (r := rv) (h' := h') (d := d) hd (am_ibv hb) ⟨kk.1, fun p e R s m args below meth c ls H locs n0 Q hx hb2 hml hnm hown hts hC hn0 hRm hret hR hL hl => ?_⟩).2 p e R s m args below meth c ls H locs n0 Q hx hb2 hml hnm hown hts hC hn0 hRm hret hR hL hl
  rw [show h.2.1 1 i.toNatClampNeg = am_xs G (am_ix i) from hR.2.2.2.2.2.1 _]
  exact kk.2 p e R s m args below meth c ls H locs n0 Q hx hb2 hml hnm hown hts hC hn0 hRm hret hR hL hl
theorem ms_slen {N : Nat} (hd : decode M.2.1 pc = .ok (.arraylength, 1)) (hN : am_n G = N) (kk : am_W G M d rv h' (pc + 1) lv (.int (Int32.ofNat N) :: st) h) : am_W G M d rv h' pc lv (.ref 1 :: st) h := by
  subst hN
  exact am_slen hd kk
end LAWR
theorem tw_227 : Jvm.Cond.methodLink "BranchSumsLaw" (13 : Nat) yX8_add ∈ am_tbl := am_mem (i := 227) (by decide +kernel) rfl
theorem tw_228 : Jvm.Cond.instanceMethod yX8_add ∈ am_tbl := am_mem (i := 228) (by decide +kernel) rfl
theorem tw_229 : Jvm.Cond.selects "BranchSums" yX8_add yX8_add ∈ am_tbl := am_mem (i := 229) (by decide +kernel) rfl
theorem tw_261 : Jvm.Cond.methodLink "BranchSumsLaw" (18 : Nat) yX8_comes ∈ am_tbl := am_mem (i := 261) (by decide +kernel) rfl
theorem tw_262 : Jvm.Cond.instanceMethod yX8_comes ∈ am_tbl := am_mem (i := 262) (by decide +kernel) rfl
theorem tw_263 : Jvm.Cond.selects "BranchSums" yX8_comes yX8_comes ∈ am_tbl := am_mem (i := 263) (by decide +kernel) rfl
theorem tw_280 : Jvm.Cond.methodLink "BranchSumsLaw" (23 : Nat) yX8_goes ∈ am_tbl := am_mem (i := 280) (by decide +kernel) rfl
theorem tw_281 : Jvm.Cond.instanceMethod yX8_goes ∈ am_tbl := am_mem (i := 281) (by decide +kernel) rfl
theorem tw_282 : Jvm.Cond.selects "BranchSums" yX8_goes yX8_goes ∈ am_tbl := am_mem (i := 282) (by decide +kernel) rfl
theorem tw_318 : Jvm.Cond.methodLink "BranchSumsLaw" (28 : Nat) yX8_move ∈ am_tbl := am_mem (i := 318) (by decide +kernel) rfl
theorem tw_319 : Jvm.Cond.instanceMethod yX8_move ∈ am_tbl := am_mem (i := 319) (by decide +kernel) rfl
theorem tw_320 : Jvm.Cond.selects "BranchSums" yX8_move yX8_move ∈ am_tbl := am_mem (i := 320) (by decide +kernel) rfl
theorem tw_347 : Jvm.Cond.methodLink "BranchSumsLaw" (33 : Nat) yX8_give ∈ am_tbl := am_mem (i := 347) (by decide +kernel) rfl
theorem tw_348 : Jvm.Cond.instanceMethod yX8_give ∈ am_tbl := am_mem (i := 348) (by decide +kernel) rfl
theorem tw_349 : Jvm.Cond.selects "BranchSums" yX8_give yX8_give ∈ am_tbl := am_mem (i := 349) (by decide +kernel) rfl
theorem tw_363 : Jvm.Cond.methodLink "BranchSumsLaw" (38 : Nat) yX8_roll ∈ am_tbl := am_mem (i := 363) (by decide +kernel) rfl
theorem tw_364 : Jvm.Cond.instanceMethod yX8_roll ∈ am_tbl := am_mem (i := 364) (by decide +kernel) rfl
theorem tw_365 : Jvm.Cond.selects "BranchSums" yX8_roll yX8_roll ∈ am_tbl := am_mem (i := 365) (by decide +kernel) rfl
theorem tw_402 : Jvm.Cond.methodLink "BranchSumsLaw" (42 : Nat) yX8_recode ∈ am_tbl := am_mem (i := 402) (by decide +kernel) rfl
theorem tw_403 : Jvm.Cond.instanceMethod yX8_recode ∈ am_tbl := am_mem (i := 403) (by decide +kernel) rfl
theorem tw_404 : Jvm.Cond.selects "BranchSums" yX8_recode yX8_recode ∈ am_tbl := am_mem (i := 404) (by decide +kernel) rfl
theorem tw_410 : Jvm.Cond.methodLink "BranchSumsLaw" (68 : Nat) yX8_text ∈ am_tbl := am_mem (i := 410) (by decide +kernel) rfl
theorem tw_411 : Jvm.Cond.instanceMethod yX8_text ∈ am_tbl := am_mem (i := 411) (by decide +kernel) rfl
theorem tw_412 : Jvm.Cond.selects "BranchSums" yX8_text yX8_text ∈ am_tbl := am_mem (i := 412) (by decide +kernel) rfl
theorem tw_484 : Jvm.Cond.methodLink "BranchSumsLaw" (77 : Nat) yX8_undo ∈ am_tbl := am_mem (i := 484) (by decide +kernel) rfl
theorem tw_485 : Jvm.Cond.instanceMethod yX8_undo ∈ am_tbl := am_mem (i := 485) (by decide +kernel) rfl
theorem tw_486 : Jvm.Cond.selects "BranchSums" yX8_undo yX8_undo ∈ am_tbl := am_mem (i := 486) (by decide +kernel) rfl
theorem tw_492 : Jvm.Cond.methodLink "BranchSumsLaw" (46 : Nat) yX8_limit ∈ am_tbl := am_mem (i := 492) (by decide +kernel) rfl
theorem tw_493 : Jvm.Cond.instanceMethod yX8_limit ∈ am_tbl := am_mem (i := 493) (by decide +kernel) rfl
theorem tw_494 : Jvm.Cond.selects "BranchSums" yX8_limit yX8_limit ∈ am_tbl := am_mem (i := 494) (by decide +kernel) rfl
theorem tw_509 : Jvm.Cond.methodLink "BranchSumsLaw" (50 : Nat) yX8_broken ∈ am_tbl := am_mem (i := 509) (by decide +kernel) rfl
theorem tw_510 : Jvm.Cond.instanceMethod yX8_broken ∈ am_tbl := am_mem (i := 510) (by decide +kernel) rfl
theorem tw_511 : Jvm.Cond.selects "BranchSums" yX8_broken yX8_broken ∈ am_tbl := am_mem (i := 511) (by decide +kernel) rfl
theorem tw_525 : Jvm.Cond.methodLink "BranchSumsLaw" (54 : Nat) yX8_state ∈ am_tbl := am_mem (i := 525) (by decide +kernel) rfl
theorem tw_526 : Jvm.Cond.instanceMethod yX8_state ∈ am_tbl := am_mem (i := 526) (by decide +kernel) rfl
theorem tw_527 : Jvm.Cond.selects "BranchSums" yX8_state yX8_state ∈ am_tbl := am_mem (i := 527) (by decide +kernel) rfl
theorem tw_529 : Jvm.Cond.methodLink "BranchSumsLaw" (58 : Nat) yX8_feed ∈ am_tbl := am_mem (i := 529) (by decide +kernel) rfl
theorem tw_530 : Jvm.Cond.instanceMethod yX8_feed ∈ am_tbl := am_mem (i := 530) (by decide +kernel) rfl
theorem tw_531 : Jvm.Cond.selects "BranchSums" yX8_feed yX8_feed ∈ am_tbl := am_mem (i := 531) (by decide +kernel) rfl
theorem tw_541 : Jvm.Cond.methodLink "BranchSumsLaw" (63 : Nat) yX8_end ∈ am_tbl := am_mem (i := 541) (by decide +kernel) rfl
theorem tw_542 : Jvm.Cond.instanceMethod yX8_end ∈ am_tbl := am_mem (i := 542) (by decide +kernel) rfl
theorem tw_543 : Jvm.Cond.selects "BranchSums" yX8_end yX8_end ∈ am_tbl := am_mem (i := 543) (by decide +kernel) rfl
theorem tw_549 : Jvm.Cond.methodLink "BranchSumsLaw" (73 : Nat) yX8_fault ∈ am_tbl := am_mem (i := 549) (by decide +kernel) rfl
theorem tw_550 : Jvm.Cond.instanceMethod yX8_fault ∈ am_tbl := am_mem (i := 550) (by decide +kernel) rfl
theorem tw_551 : Jvm.Cond.selects "BranchSums" yX8_fault yX8_fault ∈ am_tbl := am_mem (i := 551) (by decide +kernel) rfl
theorem tw_553 : Jvm.Cond.methodLink "BranchSumsLaw" (219 : Nat) yX8_image ∈ am_tbl := am_mem (i := 553) (by decide +kernel) rfl
theorem tw_554 : Jvm.Cond.instanceMethod yX8_image ∈ am_tbl := am_mem (i := 554) (by decide +kernel) rfl
theorem tw_555 : Jvm.Cond.selects "BranchSums" yX8_image yX8_image ∈ am_tbl := am_mem (i := 555) (by decide +kernel) rfl
theorem tw_566 : Jvm.Cond.methodLink "BranchSumsLaw" (81 : Nat) yX8_unit ∈ am_tbl := am_mem (i := 566) (by decide +kernel) rfl
theorem tw_567 : Jvm.Cond.instanceMethod yX8_unit ∈ am_tbl := am_mem (i := 567) (by decide +kernel) rfl
theorem tw_568 : Jvm.Cond.selects "BranchSums" yX8_unit yX8_unit ∈ am_tbl := am_mem (i := 568) (by decide +kernel) rfl
theorem tw_591 : Jvm.Cond.methodLink "BranchSumsLaw" (85 : Nat) yX8_below ∈ am_tbl := am_mem (i := 591) (by decide +kernel) rfl
theorem tw_592 : Jvm.Cond.instanceMethod yX8_below ∈ am_tbl := am_mem (i := 592) (by decide +kernel) rfl
theorem tw_593 : Jvm.Cond.selects "BranchSums" yX8_below yX8_below ∈ am_tbl := am_mem (i := 593) (by decide +kernel) rfl
theorem tw_599 : Jvm.Cond.methodLink "BranchSumsLaw" (89 : Nat) yX8_above ∈ am_tbl := am_mem (i := 599) (by decide +kernel) rfl
theorem tw_600 : Jvm.Cond.instanceMethod yX8_above ∈ am_tbl := am_mem (i := 600) (by decide +kernel) rfl
theorem tw_601 : Jvm.Cond.selects "BranchSums" yX8_above yX8_above ∈ am_tbl := am_mem (i := 601) (by decide +kernel) rfl
theorem tw_603 : Jvm.Cond.methodLink "BranchSumsLaw" (93 : Nat) yX8_both ∈ am_tbl := am_mem (i := 603) (by decide +kernel) rfl
theorem tw_604 : Jvm.Cond.instanceMethod yX8_both ∈ am_tbl := am_mem (i := 604) (by decide +kernel) rfl
theorem tw_605 : Jvm.Cond.selects "BranchSums" yX8_both yX8_both ∈ am_tbl := am_mem (i := 605) (by decide +kernel) rfl
theorem tw_611 : Jvm.Cond.methodLink "BranchSumsLaw" (97 : Nat) yX8_of ∈ am_tbl := am_mem (i := 611) (by decide +kernel) rfl
theorem tw_612 : Jvm.Cond.instanceMethod yX8_of ∈ am_tbl := am_mem (i := 612) (by decide +kernel) rfl
theorem tw_613 : Jvm.Cond.selects "BranchSums" yX8_of yX8_of ∈ am_tbl := am_mem (i := 613) (by decide +kernel) rfl
theorem tw_615 : Jvm.Cond.methodLink "BranchSumsLaw" (175 : Nat) yX8_chain ∈ am_tbl := am_mem (i := 615) (by decide +kernel) rfl
theorem tw_616 : Jvm.Cond.instanceMethod yX8_chain ∈ am_tbl := am_mem (i := 616) (by decide +kernel) rfl
theorem tw_617 : Jvm.Cond.selects "BranchSums" yX8_chain yX8_chain ∈ am_tbl := am_mem (i := 617) (by decide +kernel) rfl
theorem tw_623 : Jvm.Cond.methodLink "BranchSumsLaw" (179 : Nat) yX8_hops ∈ am_tbl := am_mem (i := 623) (by decide +kernel) rfl
theorem tw_624 : Jvm.Cond.instanceMethod yX8_hops ∈ am_tbl := am_mem (i := 624) (by decide +kernel) rfl
theorem tw_625 : Jvm.Cond.selects "BranchSums" yX8_hops yX8_hops ∈ am_tbl := am_mem (i := 625) (by decide +kernel) rfl
theorem tw_627 : Jvm.Cond.methodLink "BranchSumsLaw" (101 : Nat) yX8_ranked ∈ am_tbl := am_mem (i := 627) (by decide +kernel) rfl
theorem tw_628 : Jvm.Cond.instanceMethod yX8_ranked ∈ am_tbl := am_mem (i := 628) (by decide +kernel) rfl
theorem tw_629 : Jvm.Cond.selects "BranchSums" yX8_ranked yX8_ranked ∈ am_tbl := am_mem (i := 629) (by decide +kernel) rfl
theorem tw_634 : Jvm.Cond.methodLink "BranchSumsLaw" (105 : Nat) yX8_less ∈ am_tbl := am_mem (i := 634) (by decide +kernel) rfl
theorem tw_635 : Jvm.Cond.instanceMethod yX8_less ∈ am_tbl := am_mem (i := 635) (by decide +kernel) rfl
theorem tw_636 : Jvm.Cond.selects "BranchSums" yX8_less yX8_less ∈ am_tbl := am_mem (i := 636) (by decide +kernel) rfl
theorem tw_638 : Jvm.Cond.methodLink "BranchSumsLaw" (109 : Nat) yX8_leader ∈ am_tbl := am_mem (i := 638) (by decide +kernel) rfl
theorem tw_639 : Jvm.Cond.instanceMethod yX8_leader ∈ am_tbl := am_mem (i := 639) (by decide +kernel) rfl
theorem tw_640 : Jvm.Cond.selects "BranchSums" yX8_leader yX8_leader ∈ am_tbl := am_mem (i := 640) (by decide +kernel) rfl
theorem tw_651 : Jvm.Cond.methodLink "BranchSumsLaw" (113 : Nat) yX8_median ∈ am_tbl := am_mem (i := 651) (by decide +kernel) rfl
theorem tw_652 : Jvm.Cond.instanceMethod yX8_median ∈ am_tbl := am_mem (i := 652) (by decide +kernel) rfl
theorem tw_653 : Jvm.Cond.selects "BranchSums" yX8_median yX8_median ∈ am_tbl := am_mem (i := 653) (by decide +kernel) rfl
theorem tw_655 : Jvm.Cond.methodLink "BranchSumsLaw" (117 : Nat) yX8_heavy ∈ am_tbl := am_mem (i := 655) (by decide +kernel) rfl
theorem tw_656 : Jvm.Cond.instanceMethod yX8_heavy ∈ am_tbl := am_mem (i := 656) (by decide +kernel) rfl
theorem tw_657 : Jvm.Cond.selects "BranchSums" yX8_heavy yX8_heavy ∈ am_tbl := am_mem (i := 657) (by decide +kernel) rfl
theorem tw_660 : Jvm.Cond.methodLink "BranchSumsLaw" (122 : Nat) yX8_squares ∈ am_tbl := am_mem (i := 660) (by decide +kernel) rfl
theorem tw_661 : Jvm.Cond.instanceMethod yX8_squares ∈ am_tbl := am_mem (i := 661) (by decide +kernel) rfl
theorem tw_662 : Jvm.Cond.selects "BranchSums" yX8_squares yX8_squares ∈ am_tbl := am_mem (i := 662) (by decide +kernel) rfl
theorem tw_664 : Jvm.Cond.methodLink "BranchSumsLaw" (127 : Nat) yX8_seats ∈ am_tbl := am_mem (i := 664) (by decide +kernel) rfl
theorem tw_665 : Jvm.Cond.instanceMethod yX8_seats ∈ am_tbl := am_mem (i := 665) (by decide +kernel) rfl
theorem tw_666 : Jvm.Cond.selects "BranchSums" yX8_seats yX8_seats ∈ am_tbl := am_mem (i := 666) (by decide +kernel) rfl
theorem tw_672 : Jvm.Cond.methodLink "BranchSumsLaw" (131 : Nat) yX8_percent ∈ am_tbl := am_mem (i := 672) (by decide +kernel) rfl
theorem tw_673 : Jvm.Cond.instanceMethod yX8_percent ∈ am_tbl := am_mem (i := 673) (by decide +kernel) rfl
theorem tw_674 : Jvm.Cond.selects "BranchSums" yX8_percent yX8_percent ∈ am_tbl := am_mem (i := 674) (by decide +kernel) rfl
theorem tw_680 : Jvm.Cond.methodLink "BranchSumsLaw" (135 : Nat) yX8_quantile ∈ am_tbl := am_mem (i := 680) (by decide +kernel) rfl
theorem tw_681 : Jvm.Cond.instanceMethod yX8_quantile ∈ am_tbl := am_mem (i := 681) (by decide +kernel) rfl
theorem tw_682 : Jvm.Cond.selects "BranchSums" yX8_quantile yX8_quantile ∈ am_tbl := am_mem (i := 682) (by decide +kernel) rfl
theorem tw_688 : Jvm.Cond.methodLink "BranchSumsLaw" (139 : Nat) yX8_few ∈ am_tbl := am_mem (i := 688) (by decide +kernel) rfl
theorem tw_689 : Jvm.Cond.instanceMethod yX8_few ∈ am_tbl := am_mem (i := 689) (by decide +kernel) rfl
theorem tw_690 : Jvm.Cond.selects "BranchSums" yX8_few yX8_few ∈ am_tbl := am_mem (i := 690) (by decide +kernel) rfl
theorem tw_695 : Jvm.Cond.methodLink "BranchSumsLaw" (143 : Nat) yX8_run ∈ am_tbl := am_mem (i := 695) (by decide +kernel) rfl
theorem tw_696 : Jvm.Cond.instanceMethod yX8_run ∈ am_tbl := am_mem (i := 696) (by decide +kernel) rfl
theorem tw_697 : Jvm.Cond.selects "BranchSums" yX8_run yX8_run ∈ am_tbl := am_mem (i := 697) (by decide +kernel) rfl
theorem tw_715 : Jvm.Cond.methodLink "BranchSumsLaw" (151 : Nat) yX8_report ∈ am_tbl := am_mem (i := 715) (by decide +kernel) rfl
theorem tw_716 : Jvm.Cond.instanceMethod yX8_report ∈ am_tbl := am_mem (i := 716) (by decide +kernel) rfl
theorem tw_717 : Jvm.Cond.selects "BranchSums" yX8_report yX8_report ∈ am_tbl := am_mem (i := 717) (by decide +kernel) rfl
theorem tw_739 : Jvm.Cond.methodLink "BranchSumsLaw" (155 : Nat) yX8_sign ∈ am_tbl := am_mem (i := 739) (by decide +kernel) rfl
theorem tw_740 : Jvm.Cond.instanceMethod yX8_sign ∈ am_tbl := am_mem (i := 740) (by decide +kernel) rfl
theorem tw_741 : Jvm.Cond.selects "BranchSums" yX8_sign yX8_sign ∈ am_tbl := am_mem (i := 741) (by decide +kernel) rfl
theorem tw_747 : Jvm.Cond.methodLink "BranchSumsLaw" (183 : Nat) yX8_drawn ∈ am_tbl := am_mem (i := 747) (by decide +kernel) rfl
theorem tw_748 : Jvm.Cond.instanceMethod yX8_drawn ∈ am_tbl := am_mem (i := 748) (by decide +kernel) rfl
theorem tw_749 : Jvm.Cond.selects "BranchSums" yX8_drawn yX8_drawn ∈ am_tbl := am_mem (i := 749) (by decide +kernel) rfl
theorem tw_758 : Jvm.Cond.methodLink "BranchSumsLaw" (159 : Nat) yX8_versions ∈ am_tbl := am_mem (i := 758) (by decide +kernel) rfl
theorem tw_759 : Jvm.Cond.instanceMethod yX8_versions ∈ am_tbl := am_mem (i := 759) (by decide +kernel) rfl
theorem tw_760 : Jvm.Cond.selects "BranchSums" yX8_versions yX8_versions ∈ am_tbl := am_mem (i := 760) (by decide +kernel) rfl
theorem tw_762 : Jvm.Cond.methodLink "BranchSumsLaw" (163 : Nat) yX8_was ∈ am_tbl := am_mem (i := 762) (by decide +kernel) rfl
theorem tw_763 : Jvm.Cond.instanceMethod yX8_was ∈ am_tbl := am_mem (i := 763) (by decide +kernel) rfl
theorem tw_764 : Jvm.Cond.selects "BranchSums" yX8_was yX8_was ∈ am_tbl := am_mem (i := 764) (by decide +kernel) rfl
theorem tw_770 : Jvm.Cond.methodLink "BranchSumsLaw" (167 : Nat) yX8_grew ∈ am_tbl := am_mem (i := 770) (by decide +kernel) rfl
theorem tw_771 : Jvm.Cond.instanceMethod yX8_grew ∈ am_tbl := am_mem (i := 771) (by decide +kernel) rfl
theorem tw_772 : Jvm.Cond.selects "BranchSums" yX8_grew yX8_grew ∈ am_tbl := am_mem (i := 772) (by decide +kernel) rfl
theorem tw_775 : Jvm.Cond.methodLink "BranchSumsLaw" (147 : Nat) yX8_twin ∈ am_tbl := am_mem (i := 775) (by decide +kernel) rfl
theorem tw_776 : Jvm.Cond.instanceMethod yX8_twin ∈ am_tbl := am_mem (i := 776) (by decide +kernel) rfl
theorem tw_777 : Jvm.Cond.selects "BranchSums" yX8_twin yX8_twin ∈ am_tbl := am_mem (i := 777) (by decide +kernel) rfl
theorem tw_779 : Jvm.Cond.methodLink "BranchSumsLaw" (171 : Nat) yX8_halves ∈ am_tbl := am_mem (i := 779) (by decide +kernel) rfl
theorem tw_780 : Jvm.Cond.instanceMethod yX8_halves ∈ am_tbl := am_mem (i := 780) (by decide +kernel) rfl
theorem tw_781 : Jvm.Cond.selects "BranchSums" yX8_halves yX8_halves ∈ am_tbl := am_mem (i := 781) (by decide +kernel) rfl
theorem tw_789 : Jvm.Cond.methodLink "BranchSumsLaw" (187 : Nat) yX8_unlike ∈ am_tbl := am_mem (i := 789) (by decide +kernel) rfl
theorem tw_790 : Jvm.Cond.instanceMethod yX8_unlike ∈ am_tbl := am_mem (i := 790) (by decide +kernel) rfl
theorem tw_791 : Jvm.Cond.selects "BranchSums" yX8_unlike yX8_unlike ∈ am_tbl := am_mem (i := 791) (by decide +kernel) rfl
theorem tw_793 : Jvm.Cond.methodLink "BranchSumsLaw" (191 : Nat) yX8_shared ∈ am_tbl := am_mem (i := 793) (by decide +kernel) rfl
theorem tw_794 : Jvm.Cond.instanceMethod yX8_shared ∈ am_tbl := am_mem (i := 794) (by decide +kernel) rfl
theorem tw_795 : Jvm.Cond.selects "BranchSums" yX8_shared yX8_shared ∈ am_tbl := am_mem (i := 795) (by decide +kernel) rfl
theorem tw_800 : Jvm.Cond.methodLink "BranchSumsLaw" (195 : Nat) yX8_leads ∈ am_tbl := am_mem (i := 800) (by decide +kernel) rfl
theorem tw_801 : Jvm.Cond.instanceMethod yX8_leads ∈ am_tbl := am_mem (i := 801) (by decide +kernel) rfl
theorem tw_802 : Jvm.Cond.selects "BranchSums" yX8_leads yX8_leads ∈ am_tbl := am_mem (i := 802) (by decide +kernel) rfl
theorem tw_808 : Jvm.Cond.methodLink "BranchSumsLaw" (199 : Nat) yX8_where ∈ am_tbl := am_mem (i := 808) (by decide +kernel) rfl
theorem tw_809 : Jvm.Cond.instanceMethod yX8_where ∈ am_tbl := am_mem (i := 809) (by decide +kernel) rfl
theorem tw_810 : Jvm.Cond.selects "BranchSums" yX8_where yX8_where ∈ am_tbl := am_mem (i := 810) (by decide +kernel) rfl
theorem tw_812 : Jvm.Cond.methodLink "BranchSumsLaw" (203 : Nat) yX8_cost ∈ am_tbl := am_mem (i := 812) (by decide +kernel) rfl
theorem tw_813 : Jvm.Cond.instanceMethod yX8_cost ∈ am_tbl := am_mem (i := 813) (by decide +kernel) rfl
theorem tw_814 : Jvm.Cond.selects "BranchSums" yX8_cost yX8_cost ∈ am_tbl := am_mem (i := 814) (by decide +kernel) rfl
theorem tw_816 : Jvm.Cond.methodLink "BranchSumsLaw" (207 : Nat) yX8_would ∈ am_tbl := am_mem (i := 816) (by decide +kernel) rfl
theorem tw_817 : Jvm.Cond.instanceMethod yX8_would ∈ am_tbl := am_mem (i := 817) (by decide +kernel) rfl
theorem tw_818 : Jvm.Cond.selects "BranchSums" yX8_would yX8_would ∈ am_tbl := am_mem (i := 818) (by decide +kernel) rfl
theorem tw_828 : Jvm.Cond.methodLink "BranchSumsLaw" (211 : Nat) yX8_home ∈ am_tbl := am_mem (i := 828) (by decide +kernel) rfl
theorem tw_829 : Jvm.Cond.instanceMethod yX8_home ∈ am_tbl := am_mem (i := 829) (by decide +kernel) rfl
theorem tw_830 : Jvm.Cond.selects "BranchSums" yX8_home yX8_home ∈ am_tbl := am_mem (i := 830) (by decide +kernel) rfl
theorem tw_837 : Jvm.Cond.methodLink "BranchSumsLaw" (215 : Nat) yX8_count ∈ am_tbl := am_mem (i := 837) (by decide +kernel) rfl
theorem tw_838 : Jvm.Cond.instanceMethod yX8_count ∈ am_tbl := am_mem (i := 838) (by decide +kernel) rfl
theorem tw_839 : Jvm.Cond.selects "BranchSums" yX8_count yX8_count ∈ am_tbl := am_mem (i := 839) (by decide +kernel) rfl
theorem tw_841 : Jvm.Cond.methodLink "BranchSumsLaw" (224 : Nat) yX8_look ∈ am_tbl := am_mem (i := 841) (by decide +kernel) rfl
theorem tw_842 : Jvm.Cond.instanceMethod yX8_look ∈ am_tbl := am_mem (i := 842) (by decide +kernel) rfl
theorem tw_843 : Jvm.Cond.selects "BranchSums" yX8_look yX8_look ∈ am_tbl := am_mem (i := 843) (by decide +kernel) rfl
theorem tw_937 : Jvm.Cond.methodLink "BranchSumsLaw" (80 : Nat) yX9_undo ∈ am_tbl := am_mem (i := 937) (by decide +kernel) rfl
theorem tw_938 : Jvm.Cond.instanceMethod yX9_undo ∈ am_tbl := am_mem (i := 938) (by decide +kernel) rfl
theorem tw_939 : Jvm.Cond.selects "BranchSumsModel" yX9_undo yX9_undo ∈ am_tbl := am_mem (i := 939) (by decide +kernel) rfl
theorem tw_945 : Jvm.Cond.methodLink "BranchSumsLaw" (17 : Nat) yX9_add ∈ am_tbl := am_mem (i := 945) (by decide +kernel) rfl
theorem tw_946 : Jvm.Cond.instanceMethod yX9_add ∈ am_tbl := am_mem (i := 946) (by decide +kernel) rfl
theorem tw_947 : Jvm.Cond.selects "BranchSumsModel" yX9_add yX9_add ∈ am_tbl := am_mem (i := 947) (by decide +kernel) rfl
theorem tw_970 : Jvm.Cond.methodLink "BranchSumsLaw" (22 : Nat) yX9_comes ∈ am_tbl := am_mem (i := 970) (by decide +kernel) rfl
theorem tw_971 : Jvm.Cond.instanceMethod yX9_comes ∈ am_tbl := am_mem (i := 971) (by decide +kernel) rfl
theorem tw_972 : Jvm.Cond.selects "BranchSumsModel" yX9_comes yX9_comes ∈ am_tbl := am_mem (i := 972) (by decide +kernel) rfl
theorem tw_985 : Jvm.Cond.methodLink "BranchSumsLaw" (27 : Nat) yX9_goes ∈ am_tbl := am_mem (i := 985) (by decide +kernel) rfl
theorem tw_986 : Jvm.Cond.instanceMethod yX9_goes ∈ am_tbl := am_mem (i := 986) (by decide +kernel) rfl
theorem tw_987 : Jvm.Cond.selects "BranchSumsModel" yX9_goes yX9_goes ∈ am_tbl := am_mem (i := 987) (by decide +kernel) rfl
theorem tw_1011 : Jvm.Cond.methodLink "BranchSumsLaw" (32 : Nat) yX9_move ∈ am_tbl := am_mem (i := 1011) (by decide +kernel) rfl
theorem tw_1012 : Jvm.Cond.instanceMethod yX9_move ∈ am_tbl := am_mem (i := 1012) (by decide +kernel) rfl
theorem tw_1013 : Jvm.Cond.selects "BranchSumsModel" yX9_move yX9_move ∈ am_tbl := am_mem (i := 1013) (by decide +kernel) rfl
theorem tw_1035 : Jvm.Cond.methodLink "BranchSumsLaw" (37 : Nat) yX9_give ∈ am_tbl := am_mem (i := 1035) (by decide +kernel) rfl
theorem tw_1036 : Jvm.Cond.instanceMethod yX9_give ∈ am_tbl := am_mem (i := 1036) (by decide +kernel) rfl
theorem tw_1037 : Jvm.Cond.selects "BranchSumsModel" yX9_give yX9_give ∈ am_tbl := am_mem (i := 1037) (by decide +kernel) rfl
theorem tw_1046 : Jvm.Cond.methodLink "BranchSumsLaw" (41 : Nat) yX9_roll ∈ am_tbl := am_mem (i := 1046) (by decide +kernel) rfl
theorem tw_1047 : Jvm.Cond.instanceMethod yX9_roll ∈ am_tbl := am_mem (i := 1047) (by decide +kernel) rfl
theorem tw_1048 : Jvm.Cond.selects "BranchSumsModel" yX9_roll yX9_roll ∈ am_tbl := am_mem (i := 1048) (by decide +kernel) rfl
theorem tw_1076 : Jvm.Cond.methodLink "BranchSumsLaw" (45 : Nat) yX9_recode ∈ am_tbl := am_mem (i := 1076) (by decide +kernel) rfl
theorem tw_1077 : Jvm.Cond.instanceMethod yX9_recode ∈ am_tbl := am_mem (i := 1077) (by decide +kernel) rfl
theorem tw_1078 : Jvm.Cond.selects "BranchSumsModel" yX9_recode yX9_recode ∈ am_tbl := am_mem (i := 1078) (by decide +kernel) rfl
theorem tw_1084 : Jvm.Cond.methodLink "BranchSumsLaw" (49 : Nat) yX9_limit ∈ am_tbl := am_mem (i := 1084) (by decide +kernel) rfl
theorem tw_1085 : Jvm.Cond.instanceMethod yX9_limit ∈ am_tbl := am_mem (i := 1085) (by decide +kernel) rfl
theorem tw_1086 : Jvm.Cond.selects "BranchSumsModel" yX9_limit yX9_limit ∈ am_tbl := am_mem (i := 1086) (by decide +kernel) rfl
theorem tw_1089 : Jvm.Cond.methodLink "BranchSumsLaw" (53 : Nat) yX9_broken ∈ am_tbl := am_mem (i := 1089) (by decide +kernel) rfl
theorem tw_1097 : Jvm.Cond.methodLink "BranchSumsLaw" (57 : Nat) yX9_state ∈ am_tbl := am_mem (i := 1097) (by decide +kernel) rfl
theorem tw_1098 : Jvm.Cond.instanceMethod yX9_state ∈ am_tbl := am_mem (i := 1098) (by decide +kernel) rfl
theorem tw_1099 : Jvm.Cond.selects "BranchSumsModel" yX9_state yX9_state ∈ am_tbl := am_mem (i := 1099) (by decide +kernel) rfl
theorem tw_1101 : Jvm.Cond.methodLink "BranchSumsLaw" (62 : Nat) yX9_feed ∈ am_tbl := am_mem (i := 1101) (by decide +kernel) rfl
theorem tw_1102 : Jvm.Cond.instanceMethod yX9_feed ∈ am_tbl := am_mem (i := 1102) (by decide +kernel) rfl
theorem tw_1103 : Jvm.Cond.selects "BranchSumsModel" yX9_feed yX9_feed ∈ am_tbl := am_mem (i := 1103) (by decide +kernel) rfl
theorem tw_1109 : Jvm.Cond.methodLink "BranchSumsLaw" (67 : Nat) yX9_end ∈ am_tbl := am_mem (i := 1109) (by decide +kernel) rfl
theorem tw_1110 : Jvm.Cond.instanceMethod yX9_end ∈ am_tbl := am_mem (i := 1110) (by decide +kernel) rfl
theorem tw_1111 : Jvm.Cond.selects "BranchSumsModel" yX9_end yX9_end ∈ am_tbl := am_mem (i := 1111) (by decide +kernel) rfl
theorem tw_1113 : Jvm.Cond.methodLink "BranchSumsLaw" (76 : Nat) yX9_fault ∈ am_tbl := am_mem (i := 1113) (by decide +kernel) rfl
theorem tw_1114 : Jvm.Cond.instanceMethod yX9_fault ∈ am_tbl := am_mem (i := 1114) (by decide +kernel) rfl
theorem tw_1115 : Jvm.Cond.selects "BranchSumsModel" yX9_fault yX9_fault ∈ am_tbl := am_mem (i := 1115) (by decide +kernel) rfl
theorem tw_1117 : Jvm.Cond.methodLink "BranchSumsLaw" (72 : Nat) yX9_text ∈ am_tbl := am_mem (i := 1117) (by decide +kernel) rfl
theorem tw_1118 : Jvm.Cond.instanceMethod yX9_text ∈ am_tbl := am_mem (i := 1118) (by decide +kernel) rfl
theorem tw_1119 : Jvm.Cond.selects "BranchSumsModel" yX9_text yX9_text ∈ am_tbl := am_mem (i := 1119) (by decide +kernel) rfl
theorem tw_1161 : Jvm.Cond.methodLink "BranchSumsLaw" (84 : Nat) yX9_unit ∈ am_tbl := am_mem (i := 1161) (by decide +kernel) rfl
theorem tw_1162 : Jvm.Cond.instanceMethod yX9_unit ∈ am_tbl := am_mem (i := 1162) (by decide +kernel) rfl
theorem tw_1163 : Jvm.Cond.selects "BranchSumsModel" yX9_unit yX9_unit ∈ am_tbl := am_mem (i := 1163) (by decide +kernel) rfl
theorem tw_1177 : Jvm.Cond.methodLink "BranchSumsLaw" (88 : Nat) yX9_below ∈ am_tbl := am_mem (i := 1177) (by decide +kernel) rfl
theorem tw_1181 : Jvm.Cond.methodLink "BranchSumsLaw" (92 : Nat) yX9_above ∈ am_tbl := am_mem (i := 1181) (by decide +kernel) rfl
theorem tw_1182 : Jvm.Cond.instanceMethod yX9_above ∈ am_tbl := am_mem (i := 1182) (by decide +kernel) rfl
theorem tw_1183 : Jvm.Cond.selects "BranchSumsModel" yX9_above yX9_above ∈ am_tbl := am_mem (i := 1183) (by decide +kernel) rfl
theorem tw_1185 : Jvm.Cond.methodLink "BranchSumsLaw" (96 : Nat) yX9_both ∈ am_tbl := am_mem (i := 1185) (by decide +kernel) rfl
theorem tw_1189 : Jvm.Cond.methodLink "BranchSumsLaw" (100 : Nat) yX9_of ∈ am_tbl := am_mem (i := 1189) (by decide +kernel) rfl
theorem tw_1190 : Jvm.Cond.instanceMethod yX9_of ∈ am_tbl := am_mem (i := 1190) (by decide +kernel) rfl
theorem tw_1191 : Jvm.Cond.selects "BranchSumsModel" yX9_of yX9_of ∈ am_tbl := am_mem (i := 1191) (by decide +kernel) rfl
theorem tw_1193 : Jvm.Cond.methodLink "BranchSumsLaw" (104 : Nat) yX9_ranked ∈ am_tbl := am_mem (i := 1193) (by decide +kernel) rfl
theorem tw_1194 : Jvm.Cond.instanceMethod yX9_ranked ∈ am_tbl := am_mem (i := 1194) (by decide +kernel) rfl
theorem tw_1195 : Jvm.Cond.selects "BranchSumsModel" yX9_ranked yX9_ranked ∈ am_tbl := am_mem (i := 1195) (by decide +kernel) rfl
theorem tw_1201 : Jvm.Cond.methodLink "BranchSumsLaw" (108 : Nat) yX9_less ∈ am_tbl := am_mem (i := 1201) (by decide +kernel) rfl
theorem tw_1202 : Jvm.Cond.instanceMethod yX9_less ∈ am_tbl := am_mem (i := 1202) (by decide +kernel) rfl
theorem tw_1203 : Jvm.Cond.selects "BranchSumsModel" yX9_less yX9_less ∈ am_tbl := am_mem (i := 1203) (by decide +kernel) rfl
theorem tw_1205 : Jvm.Cond.methodLink "BranchSumsLaw" (112 : Nat) yX9_leader ∈ am_tbl := am_mem (i := 1205) (by decide +kernel) rfl
theorem tw_1206 : Jvm.Cond.instanceMethod yX9_leader ∈ am_tbl := am_mem (i := 1206) (by decide +kernel) rfl
theorem tw_1207 : Jvm.Cond.selects "BranchSumsModel" yX9_leader yX9_leader ∈ am_tbl := am_mem (i := 1207) (by decide +kernel) rfl
theorem tw_1217 : Jvm.Cond.methodLink "BranchSumsLaw" (116 : Nat) yX9_median ∈ am_tbl := am_mem (i := 1217) (by decide +kernel) rfl
theorem tw_1218 : Jvm.Cond.instanceMethod yX9_median ∈ am_tbl := am_mem (i := 1218) (by decide +kernel) rfl
theorem tw_1219 : Jvm.Cond.selects "BranchSumsModel" yX9_median yX9_median ∈ am_tbl := am_mem (i := 1219) (by decide +kernel) rfl
theorem tw_1225 : Jvm.Cond.methodLink "BranchSumsLaw" (121 : Nat) yX9_heavy ∈ am_tbl := am_mem (i := 1225) (by decide +kernel) rfl
theorem tw_1226 : Jvm.Cond.instanceMethod yX9_heavy ∈ am_tbl := am_mem (i := 1226) (by decide +kernel) rfl
theorem tw_1227 : Jvm.Cond.selects "BranchSumsModel" yX9_heavy yX9_heavy ∈ am_tbl := am_mem (i := 1227) (by decide +kernel) rfl
theorem tw_1230 : Jvm.Cond.methodLink "BranchSumsLaw" (126 : Nat) yX9_squares ∈ am_tbl := am_mem (i := 1230) (by decide +kernel) rfl
theorem tw_1231 : Jvm.Cond.instanceMethod yX9_squares ∈ am_tbl := am_mem (i := 1231) (by decide +kernel) rfl
theorem tw_1232 : Jvm.Cond.selects "BranchSumsModel" yX9_squares yX9_squares ∈ am_tbl := am_mem (i := 1232) (by decide +kernel) rfl
theorem tw_1235 : Jvm.Cond.methodLink "BranchSumsLaw" (130 : Nat) yX9_seats_ ∈ am_tbl := am_mem (i := 1235) (by decide +kernel) rfl
theorem tw_1236 : Jvm.Cond.instanceMethod yX9_seats_ ∈ am_tbl := am_mem (i := 1236) (by decide +kernel) rfl
theorem tw_1237 : Jvm.Cond.selects "BranchSumsModel" yX9_seats_ yX9_seats_ ∈ am_tbl := am_mem (i := 1237) (by decide +kernel) rfl
theorem tw_1243 : Jvm.Cond.methodLink "BranchSumsLaw" (162 : Nat) yX9_versions ∈ am_tbl := am_mem (i := 1243) (by decide +kernel) rfl
theorem tw_1244 : Jvm.Cond.instanceMethod yX9_versions ∈ am_tbl := am_mem (i := 1244) (by decide +kernel) rfl
theorem tw_1245 : Jvm.Cond.selects "BranchSumsModel" yX9_versions yX9_versions ∈ am_tbl := am_mem (i := 1245) (by decide +kernel) rfl
theorem tw_1247 : Jvm.Cond.methodLink "BranchSumsLaw" (166 : Nat) yX9_was ∈ am_tbl := am_mem (i := 1247) (by decide +kernel) rfl
theorem tw_1248 : Jvm.Cond.instanceMethod yX9_was ∈ am_tbl := am_mem (i := 1248) (by decide +kernel) rfl
theorem tw_1249 : Jvm.Cond.selects "BranchSumsModel" yX9_was yX9_was ∈ am_tbl := am_mem (i := 1249) (by decide +kernel) rfl
theorem tw_1251 : Jvm.Cond.methodLink "BranchSumsLaw" (170 : Nat) yX9_grew ∈ am_tbl := am_mem (i := 1251) (by decide +kernel) rfl
theorem tw_1252 : Jvm.Cond.instanceMethod yX9_grew ∈ am_tbl := am_mem (i := 1252) (by decide +kernel) rfl
theorem tw_1253 : Jvm.Cond.selects "BranchSumsModel" yX9_grew yX9_grew ∈ am_tbl := am_mem (i := 1253) (by decide +kernel) rfl
theorem tw_1256 : Jvm.Cond.methodLink "BranchSumsLaw" (174 : Nat) yX9_halves ∈ am_tbl := am_mem (i := 1256) (by decide +kernel) rfl
theorem tw_1257 : Jvm.Cond.instanceMethod yX9_halves ∈ am_tbl := am_mem (i := 1257) (by decide +kernel) rfl
theorem tw_1258 : Jvm.Cond.selects "BranchSumsModel" yX9_halves yX9_halves ∈ am_tbl := am_mem (i := 1258) (by decide +kernel) rfl
theorem tw_1261 : Jvm.Cond.methodLink "BranchSumsLaw" (178 : Nat) yX9_chain ∈ am_tbl := am_mem (i := 1261) (by decide +kernel) rfl
theorem tw_1262 : Jvm.Cond.instanceMethod yX9_chain ∈ am_tbl := am_mem (i := 1262) (by decide +kernel) rfl
theorem tw_1263 : Jvm.Cond.selects "BranchSumsModel" yX9_chain yX9_chain ∈ am_tbl := am_mem (i := 1263) (by decide +kernel) rfl
theorem tw_1270 : Jvm.Cond.methodLink "BranchSumsLaw" (182 : Nat) yX9_hops ∈ am_tbl := am_mem (i := 1270) (by decide +kernel) rfl
theorem tw_1271 : Jvm.Cond.instanceMethod yX9_hops ∈ am_tbl := am_mem (i := 1271) (by decide +kernel) rfl
theorem tw_1272 : Jvm.Cond.selects "BranchSumsModel" yX9_hops yX9_hops ∈ am_tbl := am_mem (i := 1272) (by decide +kernel) rfl
theorem tw_1274 : Jvm.Cond.methodLink "BranchSumsLaw" (186 : Nat) yX9_drawn ∈ am_tbl := am_mem (i := 1274) (by decide +kernel) rfl
theorem tw_1275 : Jvm.Cond.instanceMethod yX9_drawn ∈ am_tbl := am_mem (i := 1275) (by decide +kernel) rfl
theorem tw_1276 : Jvm.Cond.selects "BranchSumsModel" yX9_drawn yX9_drawn ∈ am_tbl := am_mem (i := 1276) (by decide +kernel) rfl
theorem tw_1284 : Jvm.Cond.methodLink "BranchSumsLaw" (134 : Nat) yX9_percent ∈ am_tbl := am_mem (i := 1284) (by decide +kernel) rfl
theorem tw_1285 : Jvm.Cond.instanceMethod yX9_percent ∈ am_tbl := am_mem (i := 1285) (by decide +kernel) rfl
theorem tw_1286 : Jvm.Cond.selects "BranchSumsModel" yX9_percent yX9_percent ∈ am_tbl := am_mem (i := 1286) (by decide +kernel) rfl
theorem tw_1288 : Jvm.Cond.methodLink "BranchSumsLaw" (138 : Nat) yX9_quantile ∈ am_tbl := am_mem (i := 1288) (by decide +kernel) rfl
theorem tw_1289 : Jvm.Cond.instanceMethod yX9_quantile ∈ am_tbl := am_mem (i := 1289) (by decide +kernel) rfl
theorem tw_1290 : Jvm.Cond.selects "BranchSumsModel" yX9_quantile yX9_quantile ∈ am_tbl := am_mem (i := 1290) (by decide +kernel) rfl
theorem tw_1296 : Jvm.Cond.methodLink "BranchSumsLaw" (142 : Nat) yX9_few ∈ am_tbl := am_mem (i := 1296) (by decide +kernel) rfl
theorem tw_1297 : Jvm.Cond.instanceMethod yX9_few ∈ am_tbl := am_mem (i := 1297) (by decide +kernel) rfl
theorem tw_1298 : Jvm.Cond.selects "BranchSumsModel" yX9_few yX9_few ∈ am_tbl := am_mem (i := 1298) (by decide +kernel) rfl
theorem tw_1300 : Jvm.Cond.methodLink "BranchSumsLaw" (146 : Nat) yX9_run ∈ am_tbl := am_mem (i := 1300) (by decide +kernel) rfl
theorem tw_1301 : Jvm.Cond.instanceMethod yX9_run ∈ am_tbl := am_mem (i := 1301) (by decide +kernel) rfl
theorem tw_1302 : Jvm.Cond.selects "BranchSumsModel" yX9_run yX9_run ∈ am_tbl := am_mem (i := 1302) (by decide +kernel) rfl
theorem tw_1312 : Jvm.Cond.methodLink "BranchSumsLaw" (150 : Nat) yX9_twin ∈ am_tbl := am_mem (i := 1312) (by decide +kernel) rfl
theorem tw_1313 : Jvm.Cond.instanceMethod yX9_twin ∈ am_tbl := am_mem (i := 1313) (by decide +kernel) rfl
theorem tw_1314 : Jvm.Cond.selects "BranchSumsModel" yX9_twin yX9_twin ∈ am_tbl := am_mem (i := 1314) (by decide +kernel) rfl
theorem tw_1323 : Jvm.Cond.methodLink "BranchSumsLaw" (154 : Nat) yX9_report ∈ am_tbl := am_mem (i := 1323) (by decide +kernel) rfl
theorem tw_1324 : Jvm.Cond.instanceMethod yX9_report ∈ am_tbl := am_mem (i := 1324) (by decide +kernel) rfl
theorem tw_1325 : Jvm.Cond.selects "BranchSumsModel" yX9_report yX9_report ∈ am_tbl := am_mem (i := 1325) (by decide +kernel) rfl
theorem tw_1335 : Jvm.Cond.methodLink "BranchSumsLaw" (158 : Nat) yX9_sign ∈ am_tbl := am_mem (i := 1335) (by decide +kernel) rfl
theorem tw_1336 : Jvm.Cond.instanceMethod yX9_sign ∈ am_tbl := am_mem (i := 1336) (by decide +kernel) rfl
theorem tw_1337 : Jvm.Cond.selects "BranchSumsModel" yX9_sign yX9_sign ∈ am_tbl := am_mem (i := 1337) (by decide +kernel) rfl
theorem tw_1339 : Jvm.Cond.methodLink "BranchSumsLaw" (190 : Nat) yX9_unlike_ ∈ am_tbl := am_mem (i := 1339) (by decide +kernel) rfl
theorem tw_1340 : Jvm.Cond.methodLink "BranchSumsLaw" (194 : Nat) yX9_shared ∈ am_tbl := am_mem (i := 1340) (by decide +kernel) rfl
theorem tw_1341 : Jvm.Cond.instanceMethod yX9_shared ∈ am_tbl := am_mem (i := 1341) (by decide +kernel) rfl
theorem tw_1342 : Jvm.Cond.selects "BranchSumsModel" yX9_shared yX9_shared ∈ am_tbl := am_mem (i := 1342) (by decide +kernel) rfl
theorem tw_1344 : Jvm.Cond.methodLink "BranchSumsLaw" (198 : Nat) yX9_leads ∈ am_tbl := am_mem (i := 1344) (by decide +kernel) rfl
theorem tw_1345 : Jvm.Cond.instanceMethod yX9_leads ∈ am_tbl := am_mem (i := 1345) (by decide +kernel) rfl
theorem tw_1346 : Jvm.Cond.selects "BranchSumsModel" yX9_leads yX9_leads ∈ am_tbl := am_mem (i := 1346) (by decide +kernel) rfl
theorem tw_1348 : Jvm.Cond.methodLink "BranchSumsLaw" (202 : Nat) yX9_where ∈ am_tbl := am_mem (i := 1348) (by decide +kernel) rfl
theorem tw_1349 : Jvm.Cond.instanceMethod yX9_where ∈ am_tbl := am_mem (i := 1349) (by decide +kernel) rfl
theorem tw_1350 : Jvm.Cond.selects "BranchSumsModel" yX9_where yX9_where ∈ am_tbl := am_mem (i := 1350) (by decide +kernel) rfl
theorem tw_1352 : Jvm.Cond.methodLink "BranchSumsLaw" (206 : Nat) yX9_cost ∈ am_tbl := am_mem (i := 1352) (by decide +kernel) rfl
theorem tw_1353 : Jvm.Cond.instanceMethod yX9_cost ∈ am_tbl := am_mem (i := 1353) (by decide +kernel) rfl
theorem tw_1354 : Jvm.Cond.selects "BranchSumsModel" yX9_cost yX9_cost ∈ am_tbl := am_mem (i := 1354) (by decide +kernel) rfl
theorem tw_1356 : Jvm.Cond.methodLink "BranchSumsLaw" (210 : Nat) yX9_would ∈ am_tbl := am_mem (i := 1356) (by decide +kernel) rfl
theorem tw_1357 : Jvm.Cond.instanceMethod yX9_would ∈ am_tbl := am_mem (i := 1357) (by decide +kernel) rfl
theorem tw_1358 : Jvm.Cond.selects "BranchSumsModel" yX9_would yX9_would ∈ am_tbl := am_mem (i := 1358) (by decide +kernel) rfl
theorem tw_1364 : Jvm.Cond.methodLink "BranchSumsLaw" (214 : Nat) yX9_home ∈ am_tbl := am_mem (i := 1364) (by decide +kernel) rfl
theorem tw_1365 : Jvm.Cond.instanceMethod yX9_home ∈ am_tbl := am_mem (i := 1365) (by decide +kernel) rfl
theorem tw_1366 : Jvm.Cond.selects "BranchSumsModel" yX9_home yX9_home ∈ am_tbl := am_mem (i := 1366) (by decide +kernel) rfl
theorem tw_1368 : Jvm.Cond.methodLink "BranchSumsLaw" (218 : Nat) yX9_count ∈ am_tbl := am_mem (i := 1368) (by decide +kernel) rfl
theorem tw_1369 : Jvm.Cond.instanceMethod yX9_count ∈ am_tbl := am_mem (i := 1369) (by decide +kernel) rfl
theorem tw_1370 : Jvm.Cond.selects "BranchSumsModel" yX9_count yX9_count ∈ am_tbl := am_mem (i := 1370) (by decide +kernel) rfl
theorem tw_1372 : Jvm.Cond.methodLink "BranchSumsLaw" (223 : Nat) yX9_image ∈ am_tbl := am_mem (i := 1372) (by decide +kernel) rfl
theorem tw_1373 : Jvm.Cond.instanceMethod yX9_image ∈ am_tbl := am_mem (i := 1373) (by decide +kernel) rfl
theorem tw_1374 : Jvm.Cond.selects "BranchSumsModel" yX9_image yX9_image ∈ am_tbl := am_mem (i := 1374) (by decide +kernel) rfl
theorem tw_1376 : Jvm.Cond.methodLink "BranchSumsLaw" (227 : Nat) yX9_look ∈ am_tbl := am_mem (i := 1376) (by decide +kernel) rfl
theorem tw_1377 : Jvm.Cond.instanceMethod yX9_look ∈ am_tbl := am_mem (i := 1377) (by decide +kernel) rfl
theorem tw_1378 : Jvm.Cond.selects "BranchSumsModel" yX9_look yX9_look ∈ am_tbl := am_mem (i := 1378) (by decide +kernel) rfl
def mt_L_law : am_M := (x, code, 4, ret)
def cd_L_c0 : List (Nat × Instr) := [(252, .aload_n 1), (253, .aload_n 0), (254, .iload_n 3), (255, .iconst 1), (256, .iadd), (257, .iaload), (258, .aload_n 0), (259, .iload_n 3), (260, .iconst 2), (261, .iadd), (262, .iaload), (263, .aload_n 0), (264, .iload_n 3), (265, .iconst 3), (266, .iadd), (267, .iaload), (268, .invokevirtual 13), (271, .aload_n 2), (272, .aload_n 0), (273, .iload_n 3), (274, .iconst 1), (275, .iadd), (276, .iaload), (277, .aload_n 0), (278, .iload_n 3), (279, .iconst 2), (280, .iadd), (281, .iaload), (282, .aload_n 0), (283, .iload_n 3), (284, .iconst 3), (285, .iadd), (286, .iaload), (287, .invokevirtual 17), (290, .if_icmp .eq 1633), (293, .iconst 0), (294, .ireturn)]
theorem ck_L_c0 : am_cok mt_L_law cd_L_c0 := by decide +kernel
def cd_L_c1 : List (Nat × Instr) := [(295, .aload_n 1), (296, .aload_n 0), (297, .iload_n 3), (298, .iconst 1), (299, .iadd), (300, .iaload), (301, .aload_n 0), (302, .iload_n 3), (303, .iconst 2), (304, .iadd), (305, .iaload), (306, .invokevirtual 18), (309, .aload_n 2), (310, .aload_n 0), (311, .iload_n 3), (312, .iconst 1), (313, .iadd), (314, .iaload), (315, .aload_n 0), (316, .iload_n 3), (317, .iconst 2), (318, .iadd), (319, .iaload), (320, .invokevirtual 22), (323, .if_icmp .eq 1600), (326, .iconst 0), (327, .ireturn)]
theorem ck_L_c1 : am_cok mt_L_law cd_L_c1 := by decide +kernel
def cd_L_c2 : List (Nat × Instr) := [(328, .aload_n 1), (329, .aload_n 0), (330, .iload_n 3), (331, .iconst 1), (332, .iadd), (333, .iaload), (334, .invokevirtual 23), (337, .aload_n 2), (338, .aload_n 0), (339, .iload_n 3), (340, .iconst 1), (341, .iadd), (342, .iaload), (343, .invokevirtual 27), (346, .if_icmp .eq 1577), (349, .iconst 0), (350, .ireturn)]
theorem ck_L_c2 : am_cok mt_L_law cd_L_c2 := by decide +kernel
def cd_L_c3 : List (Nat × Instr) := [(351, .aload_n 1), (352, .aload_n 0), (353, .iload_n 3), (354, .iconst 1), (355, .iadd), (356, .iaload), (357, .aload_n 0), (358, .iload_n 3), (359, .iconst 2), (360, .iadd), (361, .iaload), (362, .invokevirtual 28), (365, .aload_n 2), (366, .aload_n 0), (367, .iload_n 3), (368, .iconst 1), (369, .iadd), (370, .iaload), (371, .aload_n 0), (372, .iload_n 3), (373, .iconst 2), (374, .iadd), (375, .iaload), (376, .invokevirtual 32), (379, .if_icmp .eq 1544), (382, .iconst 0), (383, .ireturn)]
theorem ck_L_c3 : am_cok mt_L_law cd_L_c3 := by decide +kernel
def cd_L_c4 : List (Nat × Instr) := [(384, .aload_n 1), (385, .aload_n 0), (386, .iload_n 3), (387, .iconst 1), (388, .iadd), (389, .iaload), (390, .aload_n 0), (391, .iload_n 3), (392, .iconst 2), (393, .iadd), (394, .iaload), (395, .aload_n 0), (396, .iload_n 3), (397, .iconst 3), (398, .iadd), (399, .iaload), (400, .aload_n 0), (401, .iload_n 3), (402, .iconst 4), (403, .iadd), (404, .iaload), (405, .invokevirtual 33), (408, .aload_n 2), (409, .aload_n 0), (410, .iload_n 3), (411, .iconst 1), (412, .iadd), (413, .iaload), (414, .aload_n 0), (415, .iload_n 3), (416, .iconst 2), (417, .iadd), (418, .iaload), (419, .aload_n 0), (420, .iload_n 3), (421, .iconst 3), (422, .iadd), (423, .iaload), (424, .aload_n 0), (425, .iload_n 3), (426, .iconst 4), (427, .iadd), (428, .iaload), (429, .invokevirtual 37), (432, .if_icmp .eq 1491), (435, .iconst 0), (436, .ireturn)]
theorem ck_L_c4 : am_cok mt_L_law cd_L_c4 := by decide +kernel
def cd_L_c5 : List (Nat × Instr) := [(437, .aload_n 1), (438, .aload_n 0), (439, .iload_n 3), (440, .iconst 1), (441, .iadd), (442, .iaload), (443, .invokevirtual 38), (446, .aload_n 2), (447, .aload_n 0), (448, .iload_n 3), (449, .iconst 1), (450, .iadd), (451, .iaload), (452, .invokevirtual 41), (455, .if_icmp .eq 1468), (458, .iconst 0), (459, .ireturn)]
theorem ck_L_c5 : am_cok mt_L_law cd_L_c5 := by decide +kernel
def cd_L_c6 : List (Nat × Instr) := [(460, .aload_n 1), (461, .aload_n 0), (462, .iload_n 3), (463, .iconst 1), (464, .iadd), (465, .iaload), (466, .aload_n 0), (467, .iload_n 3), (468, .iconst 2), (469, .iadd), (470, .iaload), (471, .invokevirtual 42), (474, .aload_n 2), (475, .aload_n 0), (476, .iload_n 3), (477, .iconst 1), (478, .iadd), (479, .iaload), (480, .aload_n 0), (481, .iload_n 3), (482, .iconst 2), (483, .iadd), (484, .iaload), (485, .invokevirtual 45), (488, .if_icmp .eq 1435), (491, .iconst 0), (492, .ireturn)]
theorem ck_L_c6 : am_cok mt_L_law cd_L_c6 := by decide +kernel
def cd_L_c7 : List (Nat × Instr) := [(493, .aload_n 1), (494, .aload_n 0), (495, .iload_n 3), (496, .iconst 1), (497, .iadd), (498, .iaload), (499, .aload_n 0), (500, .iload_n 3), (501, .iconst 2), (502, .iadd), (503, .iaload), (504, .aload_n 0), (505, .iload_n 3), (506, .iconst 3), (507, .iadd), (508, .iaload), (509, .aload_n 0), (510, .iload_n 3), (511, .iconst 4), (512, .iadd), (513, .iaload), (514, .invokevirtual 46), (517, .aload_n 2), (518, .aload_n 0), (519, .iload_n 3), (520, .iconst 1), (521, .iadd), (522, .iaload), (523, .aload_n 0), (524, .iload_n 3), (525, .iconst 2), (526, .iadd), (527, .iaload), (528, .aload_n 0), (529, .iload_n 3), (530, .iconst 3), (531, .iadd), (532, .iaload), (533, .aload_n 0), (534, .iload_n 3), (535, .iconst 4), (536, .iadd), (537, .iaload), (538, .invokevirtual 49), (541, .if_icmp .eq 1382), (544, .iconst 0), (545, .ireturn)]
theorem ck_L_c7 : am_cok mt_L_law cd_L_c7 := by decide +kernel
def cd_L_c8 : List (Nat × Instr) := [(546, .aload_n 1), (547, .aload_n 0), (548, .iload_n 3), (549, .iconst 1), (550, .iadd), (551, .iaload), (552, .aload_n 0), (553, .iload_n 3), (554, .iconst 2), (555, .iadd), (556, .iaload), (557, .invokevirtual 50), (560, .aload_n 2), (561, .aload_n 0), (562, .iload_n 3), (563, .iconst 1), (564, .iadd), (565, .iaload), (566, .aload_n 0), (567, .iload_n 3), (568, .iconst 2), (569, .iadd), (570, .iaload), (571, .invokevirtual 53), (574, .if_icmp .eq 1349), (577, .iconst 0), (578, .ireturn)]
theorem ck_L_c8 : am_cok mt_L_law cd_L_c8 := by decide +kernel
def cd_L_c9 : List (Nat × Instr) := [(579, .aload_n 1), (580, .aload_n 0), (581, .iload_n 3), (582, .iconst 1), (583, .iadd), (584, .iaload), (585, .invokevirtual 54), (588, .aload_n 2), (589, .aload_n 0), (590, .iload_n 3), (591, .iconst 1), (592, .iadd), (593, .iaload), (594, .invokevirtual 57), (597, .if_icmp .eq 1326), (600, .iconst 0), (601, .ireturn)]
theorem ck_L_c9 : am_cok mt_L_law cd_L_c9 := by decide +kernel
def cd_L_c10 : List (Nat × Instr) := [(602, .aload_n 1), (603, .aload_n 0), (604, .iload_n 3), (605, .iconst 1), (606, .iadd), (607, .iaload), (608, .aload_n 0), (609, .iload_n 3), (610, .iconst 2), (611, .iadd), (612, .iaload), (613, .aload_n 0), (614, .iload_n 3), (615, .iconst 3), (616, .iadd), (617, .iaload), (618, .aload_n 0), (619, .iload_n 3), (620, .iconst 4), (621, .iadd), (622, .iaload), (623, .aload_n 0), (624, .iload_n 3), (625, .iconst 5), (626, .iadd), (627, .iaload), (628, .invokevirtual 58), (631, .aload_n 2), (632, .aload_n 0), (633, .iload_n 3), (634, .iconst 1), (635, .iadd), (636, .iaload), (637, .aload_n 0), (638, .iload_n 3), (639, .iconst 2), (640, .iadd), (641, .iaload), (642, .aload_n 0), (643, .iload_n 3), (644, .iconst 3), (645, .iadd), (646, .iaload), (647, .aload_n 0), (648, .iload_n 3), (649, .iconst 4), (650, .iadd), (651, .iaload), (652, .aload_n 0), (653, .iload_n 3), (654, .iconst 5), (655, .iadd), (656, .iaload), (657, .invokevirtual 62), (660, .if_icmp .eq 1263), (663, .iconst 0), (664, .ireturn)]
theorem ck_L_c10 : am_cok mt_L_law cd_L_c10 := by decide +kernel
def cd_L_c11 : List (Nat × Instr) := [(665, .aload_n 1), (666, .aload_n 0), (667, .iload_n 3), (668, .iconst 1), (669, .iadd), (670, .iaload), (671, .invokevirtual 63), (674, .aload_n 2), (675, .aload_n 0), (676, .iload_n 3), (677, .iconst 1), (678, .iadd), (679, .iaload), (680, .invokevirtual 67), (683, .if_icmp .eq 1240), (686, .iconst 0), (687, .ireturn)]
theorem ck_L_c11 : am_cok mt_L_law cd_L_c11 := by decide +kernel
def cd_L_c12 : List (Nat × Instr) := [(688, .aload_n 1), (689, .invokevirtual 68), (692, .aload_n 2), (693, .invokevirtual 72), (696, .if_icmp .eq 1227), (699, .iconst 0), (700, .ireturn)]
theorem ck_L_c12 : am_cok mt_L_law cd_L_c12 := by decide +kernel
def cd_L_c13 : List (Nat × Instr) := [(701, .aload_n 1), (702, .aload_n 0), (703, .iload_n 3), (704, .iconst 1), (705, .iadd), (706, .iaload), (707, .invokevirtual 73), (710, .aload_n 2), (711, .aload_n 0), (712, .iload_n 3), (713, .iconst 1), (714, .iadd), (715, .iaload), (716, .invokevirtual 76), (719, .if_icmp .eq 1204), (722, .iconst 0), (723, .ireturn)]
theorem ck_L_c13 : am_cok mt_L_law cd_L_c13 := by decide +kernel
def cd_L_c14 : List (Nat × Instr) := [(724, .aload_n 1), (725, .invokevirtual 77), (728, .aload_n 2), (729, .invokevirtual 80), (732, .if_icmp .eq 1191), (735, .iconst 0), (736, .ireturn)]
theorem ck_L_c14 : am_cok mt_L_law cd_L_c14 := by decide +kernel
def cd_L_c15 : List (Nat × Instr) := [(737, .aload_n 1), (738, .aload_n 0), (739, .iload_n 3), (740, .iconst 1), (741, .iadd), (742, .iaload), (743, .aload_n 0), (744, .iload_n 3), (745, .iconst 2), (746, .iadd), (747, .iaload), (748, .invokevirtual 81), (751, .aload_n 2), (752, .aload_n 0), (753, .iload_n 3), (754, .iconst 1), (755, .iadd), (756, .iaload), (757, .aload_n 0), (758, .iload_n 3), (759, .iconst 2), (760, .iadd), (761, .iaload), (762, .invokevirtual 84), (765, .if_icmp .eq 1158), (768, .iconst 0), (769, .ireturn)]
theorem ck_L_c15 : am_cok mt_L_law cd_L_c15 := by decide +kernel
def cd_L_c16 : List (Nat × Instr) := [(770, .aload_n 1), (771, .aload_n 0), (772, .iload_n 3), (773, .iconst 1), (774, .iadd), (775, .iaload), (776, .aload_n 0), (777, .iload_n 3), (778, .iconst 2), (779, .iadd), (780, .iaload), (781, .invokevirtual 85), (784, .aload_n 2), (785, .aload_n 0), (786, .iload_n 3), (787, .iconst 1), (788, .iadd), (789, .iaload), (790, .aload_n 0), (791, .iload_n 3), (792, .iconst 2), (793, .iadd), (794, .iaload), (795, .invokevirtual 88), (798, .if_icmp .eq 1125), (801, .iconst 0), (802, .ireturn)]
theorem ck_L_c16 : am_cok mt_L_law cd_L_c16 := by decide +kernel
def cd_L_c17 : List (Nat × Instr) := [(803, .aload_n 1), (804, .aload_n 0), (805, .iload_n 3), (806, .iconst 1), (807, .iadd), (808, .iaload), (809, .aload_n 0), (810, .iload_n 3), (811, .iconst 2), (812, .iadd), (813, .iaload), (814, .invokevirtual 89), (817, .aload_n 2), (818, .aload_n 0), (819, .iload_n 3), (820, .iconst 1), (821, .iadd), (822, .iaload), (823, .aload_n 0), (824, .iload_n 3), (825, .iconst 2), (826, .iadd), (827, .iaload), (828, .invokevirtual 92), (831, .if_icmp .eq 1092), (834, .iconst 0), (835, .ireturn)]
theorem ck_L_c17 : am_cok mt_L_law cd_L_c17 := by decide +kernel
def cd_L_c18 : List (Nat × Instr) := [(836, .aload_n 1), (837, .aload_n 0), (838, .iload_n 3), (839, .iconst 1), (840, .iadd), (841, .iaload), (842, .aload_n 0), (843, .iload_n 3), (844, .iconst 2), (845, .iadd), (846, .iaload), (847, .invokevirtual 93), (850, .aload_n 2), (851, .aload_n 0), (852, .iload_n 3), (853, .iconst 1), (854, .iadd), (855, .iaload), (856, .aload_n 0), (857, .iload_n 3), (858, .iconst 2), (859, .iadd), (860, .iaload), (861, .invokevirtual 96), (864, .if_icmp .eq 1059), (867, .iconst 0), (868, .ireturn)]
theorem ck_L_c18 : am_cok mt_L_law cd_L_c18 := by decide +kernel
def cd_L_c19 : List (Nat × Instr) := [(869, .aload_n 1), (870, .aload_n 0), (871, .iload_n 3), (872, .iconst 1), (873, .iadd), (874, .iaload), (875, .aload_n 0), (876, .iload_n 3), (877, .iconst 2), (878, .iadd), (879, .iaload), (880, .aload_n 0), (881, .iload_n 3), (882, .iconst 3), (883, .iadd), (884, .iaload), (885, .invokevirtual 97), (888, .aload_n 2), (889, .aload_n 0), (890, .iload_n 3), (891, .iconst 1), (892, .iadd), (893, .iaload), (894, .aload_n 0), (895, .iload_n 3), (896, .iconst 2), (897, .iadd), (898, .iaload), (899, .aload_n 0), (900, .iload_n 3), (901, .iconst 3), (902, .iadd), (903, .iaload), (904, .invokevirtual 100), (907, .if_icmp .eq 1016), (910, .iconst 0), (911, .ireturn)]
theorem ck_L_c19 : am_cok mt_L_law cd_L_c19 := by decide +kernel
def cd_L_c20 : List (Nat × Instr) := [(912, .aload_n 1), (913, .aload_n 0), (914, .iload_n 3), (915, .iconst 1), (916, .iadd), (917, .iaload), (918, .aload_n 0), (919, .iload_n 3), (920, .iconst 2), (921, .iadd), (922, .iaload), (923, .invokevirtual 101), (926, .aload_n 2), (927, .aload_n 0), (928, .iload_n 3), (929, .iconst 1), (930, .iadd), (931, .iaload), (932, .aload_n 0), (933, .iload_n 3), (934, .iconst 2), (935, .iadd), (936, .iaload), (937, .invokevirtual 104), (940, .if_icmp .eq 983), (943, .iconst 0), (944, .ireturn)]
theorem ck_L_c20 : am_cok mt_L_law cd_L_c20 := by decide +kernel
def cd_L_c21 : List (Nat × Instr) := [(945, .aload_n 1), (946, .aload_n 0), (947, .iload_n 3), (948, .iconst 1), (949, .iadd), (950, .iaload), (951, .aload_n 0), (952, .iload_n 3), (953, .iconst 2), (954, .iadd), (955, .iaload), (956, .invokevirtual 105), (959, .aload_n 2), (960, .aload_n 0), (961, .iload_n 3), (962, .iconst 1), (963, .iadd), (964, .iaload), (965, .aload_n 0), (966, .iload_n 3), (967, .iconst 2), (968, .iadd), (969, .iaload), (970, .invokevirtual 108), (973, .if_icmp .eq 950), (976, .iconst 0), (977, .ireturn)]
theorem ck_L_c21 : am_cok mt_L_law cd_L_c21 := by decide +kernel
def cd_L_c22 : List (Nat × Instr) := [(978, .aload_n 1), (979, .aload_n 0), (980, .iload_n 3), (981, .iconst 1), (982, .iadd), (983, .iaload), (984, .aload_n 0), (985, .iload_n 3), (986, .iconst 2), (987, .iadd), (988, .iaload), (989, .aload_n 0), (990, .iload_n 3), (991, .iconst 3), (992, .iadd), (993, .iaload), (994, .invokevirtual 109), (997, .aload_n 2), (998, .aload_n 0), (999, .iload_n 3), (1000, .iconst 1), (1001, .iadd), (1002, .iaload), (1003, .aload_n 0), (1004, .iload_n 3), (1005, .iconst 2), (1006, .iadd), (1007, .iaload), (1008, .aload_n 0), (1009, .iload_n 3), (1010, .iconst 3), (1011, .iadd), (1012, .iaload), (1013, .invokevirtual 112), (1016, .if_icmp .eq 907), (1019, .iconst 0), (1020, .ireturn)]
theorem ck_L_c22 : am_cok mt_L_law cd_L_c22 := by decide +kernel
def cd_L_c23 : List (Nat × Instr) := [(1021, .aload_n 1), (1022, .aload_n 0), (1023, .iload_n 3), (1024, .iconst 1), (1025, .iadd), (1026, .iaload), (1027, .invokevirtual 113), (1030, .aload_n 2), (1031, .aload_n 0), (1032, .iload_n 3), (1033, .iconst 1), (1034, .iadd), (1035, .iaload), (1036, .invokevirtual 116), (1039, .if_icmp .eq 884), (1042, .iconst 0), (1043, .ireturn)]
theorem ck_L_c23 : am_cok mt_L_law cd_L_c23 := by decide +kernel
def cd_L_c24 : List (Nat × Instr) := [(1044, .aload_n 1), (1045, .aload_n 0), (1046, .iload_n 3), (1047, .iconst 1), (1048, .iadd), (1049, .iaload), (1050, .aload_n 0), (1051, .iload_n 3), (1052, .iconst 2), (1053, .iadd), (1054, .iaload), (1055, .invokevirtual 117), (1058, .aload_n 2), (1059, .aload_n 0), (1060, .iload_n 3), (1061, .iconst 1), (1062, .iadd), (1063, .iaload), (1064, .aload_n 0), (1065, .iload_n 3), (1066, .iconst 2), (1067, .iadd), (1068, .iaload), (1069, .invokevirtual 121), (1072, .lcmp), (1073, .ifCond .eq 850), (1076, .iconst 0), (1077, .ireturn)]
theorem ck_L_c24 : am_cok mt_L_law cd_L_c24 := by decide +kernel
def cd_L_c25 : List (Nat × Instr) := [(1078, .aload_n 1), (1079, .aload_n 0), (1080, .iload_n 3), (1081, .iconst 1), (1082, .iadd), (1083, .iaload), (1084, .invokevirtual 122), (1087, .aload_n 2), (1088, .aload_n 0), (1089, .iload_n 3), (1090, .iconst 1), (1091, .iadd), (1092, .iaload), (1093, .invokevirtual 126), (1096, .lcmp), (1097, .ifCond .eq 826), (1100, .iconst 0), (1101, .ireturn)]
theorem ck_L_c25 : am_cok mt_L_law cd_L_c25 := by decide +kernel
def cd_L_c26 : List (Nat × Instr) := [(1102, .aload_n 1), (1103, .aload_n 0), (1104, .iload_n 3), (1105, .iconst 1), (1106, .iadd), (1107, .iaload), (1108, .aload_n 0), (1109, .iload_n 3), (1110, .iconst 2), (1111, .iadd), (1112, .iaload), (1113, .aload_n 0), (1114, .iload_n 3), (1115, .iconst 3), (1116, .iadd), (1117, .iaload), (1118, .invokevirtual 127), (1121, .aload_n 2), (1122, .aload_n 0), (1123, .iload_n 3), (1124, .iconst 1), (1125, .iadd), (1126, .iaload), (1127, .aload_n 0), (1128, .iload_n 3), (1129, .iconst 2), (1130, .iadd), (1131, .iaload), (1132, .aload_n 0), (1133, .iload_n 3), (1134, .iconst 3), (1135, .iadd), (1136, .iaload), (1137, .invokevirtual 130), (1140, .if_icmp .eq 783), (1143, .iconst 0), (1144, .ireturn)]
theorem ck_L_c26 : am_cok mt_L_law cd_L_c26 := by decide +kernel
def cd_L_c27 : List (Nat × Instr) := [(1145, .aload_n 1), (1146, .aload_n 0), (1147, .iload_n 3), (1148, .iconst 1), (1149, .iadd), (1150, .iaload), (1151, .aload_n 0), (1152, .iload_n 3), (1153, .iconst 2), (1154, .iadd), (1155, .iaload), (1156, .invokevirtual 131), (1159, .aload_n 2), (1160, .aload_n 0), (1161, .iload_n 3), (1162, .iconst 1), (1163, .iadd), (1164, .iaload), (1165, .aload_n 0), (1166, .iload_n 3), (1167, .iconst 2), (1168, .iadd), (1169, .iaload), (1170, .invokevirtual 134), (1173, .if_icmp .eq 750), (1176, .iconst 0), (1177, .ireturn)]
theorem ck_L_c27 : am_cok mt_L_law cd_L_c27 := by decide +kernel
def cd_L_c28 : List (Nat × Instr) := [(1178, .aload_n 1), (1179, .aload_n 0), (1180, .iload_n 3), (1181, .iconst 1), (1182, .iadd), (1183, .iaload), (1184, .aload_n 0), (1185, .iload_n 3), (1186, .iconst 2), (1187, .iadd), (1188, .iaload), (1189, .invokevirtual 135), (1192, .aload_n 2), (1193, .aload_n 0), (1194, .iload_n 3), (1195, .iconst 1), (1196, .iadd), (1197, .iaload), (1198, .aload_n 0), (1199, .iload_n 3), (1200, .iconst 2), (1201, .iadd), (1202, .iaload), (1203, .invokevirtual 138), (1206, .if_icmp .eq 717), (1209, .iconst 0), (1210, .ireturn)]
theorem ck_L_c28 : am_cok mt_L_law cd_L_c28 := by decide +kernel
def cd_L_c29 : List (Nat × Instr) := [(1211, .aload_n 1), (1212, .aload_n 0), (1213, .iload_n 3), (1214, .iconst 1), (1215, .iadd), (1216, .iaload), (1217, .aload_n 0), (1218, .iload_n 3), (1219, .iconst 2), (1220, .iadd), (1221, .iaload), (1222, .invokevirtual 139), (1225, .aload_n 2), (1226, .aload_n 0), (1227, .iload_n 3), (1228, .iconst 1), (1229, .iadd), (1230, .iaload), (1231, .aload_n 0), (1232, .iload_n 3), (1233, .iconst 2), (1234, .iadd), (1235, .iaload), (1236, .invokevirtual 142), (1239, .if_icmp .eq 684), (1242, .iconst 0), (1243, .ireturn)]
theorem ck_L_c29 : am_cok mt_L_law cd_L_c29 := by decide +kernel
def cd_L_c30 : List (Nat × Instr) := [(1244, .aload_n 1), (1245, .aload_n 0), (1246, .iload_n 3), (1247, .iconst 1), (1248, .iadd), (1249, .iaload), (1250, .aload_n 0), (1251, .iload_n 3), (1252, .iconst 2), (1253, .iadd), (1254, .iaload), (1255, .aload_n 0), (1256, .iload_n 3), (1257, .iconst 3), (1258, .iadd), (1259, .iaload), (1260, .invokevirtual 143), (1263, .aload_n 2), (1264, .aload_n 0), (1265, .iload_n 3), (1266, .iconst 1), (1267, .iadd), (1268, .iaload), (1269, .aload_n 0), (1270, .iload_n 3), (1271, .iconst 2), (1272, .iadd), (1273, .iaload), (1274, .aload_n 0), (1275, .iload_n 3), (1276, .iconst 3), (1277, .iadd), (1278, .iaload), (1279, .invokevirtual 146), (1282, .if_icmp .eq 641), (1285, .iconst 0), (1286, .ireturn)]
theorem ck_L_c30 : am_cok mt_L_law cd_L_c30 := by decide +kernel
def cd_L_c31 : List (Nat × Instr) := [(1287, .aload_n 1), (1288, .aload_n 0), (1289, .iload_n 3), (1290, .iconst 1), (1291, .iadd), (1292, .iaload), (1293, .invokevirtual 147), (1296, .aload_n 2), (1297, .aload_n 0), (1298, .iload_n 3), (1299, .iconst 1), (1300, .iadd), (1301, .iaload), (1302, .invokevirtual 150), (1305, .if_icmp .eq 618), (1308, .iconst 0), (1309, .ireturn)]
theorem ck_L_c31 : am_cok mt_L_law cd_L_c31 := by decide +kernel
def cd_L_c32 : List (Nat × Instr) := [(1310, .aload_n 1), (1311, .aload_n 0), (1312, .iload_n 3), (1313, .iconst 1), (1314, .iadd), (1315, .iaload), (1316, .invokevirtual 151), (1319, .aload_n 2), (1320, .aload_n 0), (1321, .iload_n 3), (1322, .iconst 1), (1323, .iadd), (1324, .iaload), (1325, .invokevirtual 154), (1328, .if_icmp .eq 595), (1331, .iconst 0), (1332, .ireturn)]
theorem ck_L_c32 : am_cok mt_L_law cd_L_c32 := by decide +kernel
def cd_L_c33 : List (Nat × Instr) := [(1333, .aload_n 1), (1334, .aload_n 0), (1335, .iload_n 3), (1336, .iconst 1), (1337, .iadd), (1338, .iaload), (1339, .invokevirtual 155), (1342, .aload_n 2), (1343, .aload_n 0), (1344, .iload_n 3), (1345, .iconst 1), (1346, .iadd), (1347, .iaload), (1348, .invokevirtual 158), (1351, .if_icmp .eq 572), (1354, .iconst 0), (1355, .ireturn)]
theorem ck_L_c33 : am_cok mt_L_law cd_L_c33 := by decide +kernel
def cd_L_c34 : List (Nat × Instr) := [(1356, .aload_n 1), (1357, .aload_n 0), (1358, .iload_n 3), (1359, .iconst 1), (1360, .iadd), (1361, .iaload), (1362, .invokevirtual 159), (1365, .aload_n 2), (1366, .aload_n 0), (1367, .iload_n 3), (1368, .iconst 1), (1369, .iadd), (1370, .iaload), (1371, .invokevirtual 162), (1374, .if_icmp .eq 549), (1377, .iconst 0), (1378, .ireturn)]
theorem ck_L_c34 : am_cok mt_L_law cd_L_c34 := by decide +kernel
def cd_L_c35 : List (Nat × Instr) := [(1379, .aload_n 1), (1380, .aload_n 0), (1381, .iload_n 3), (1382, .iconst 1), (1383, .iadd), (1384, .iaload), (1385, .aload_n 0), (1386, .iload_n 3), (1387, .iconst 2), (1388, .iadd), (1389, .iaload), (1390, .aload_n 0), (1391, .iload_n 3), (1392, .iconst 3), (1393, .iadd), (1394, .iaload), (1395, .invokevirtual 163), (1398, .aload_n 2), (1399, .aload_n 0), (1400, .iload_n 3), (1401, .iconst 1), (1402, .iadd), (1403, .iaload), (1404, .aload_n 0), (1405, .iload_n 3), (1406, .iconst 2), (1407, .iadd), (1408, .iaload), (1409, .aload_n 0), (1410, .iload_n 3), (1411, .iconst 3), (1412, .iadd), (1413, .iaload), (1414, .invokevirtual 166), (1417, .if_icmp .eq 506), (1420, .iconst 0), (1421, .ireturn)]
theorem ck_L_c35 : am_cok mt_L_law cd_L_c35 := by decide +kernel
def cd_L_c36 : List (Nat × Instr) := [(1422, .aload_n 1), (1423, .aload_n 0), (1424, .iload_n 3), (1425, .iconst 1), (1426, .iadd), (1427, .iaload), (1428, .aload_n 0), (1429, .iload_n 3), (1430, .iconst 2), (1431, .iadd), (1432, .iaload), (1433, .aload_n 0), (1434, .iload_n 3), (1435, .iconst 3), (1436, .iadd), (1437, .iaload), (1438, .invokevirtual 167), (1441, .aload_n 2), (1442, .aload_n 0), (1443, .iload_n 3), (1444, .iconst 1), (1445, .iadd), (1446, .iaload), (1447, .aload_n 0), (1448, .iload_n 3), (1449, .iconst 2), (1450, .iadd), (1451, .iaload), (1452, .aload_n 0), (1453, .iload_n 3), (1454, .iconst 3), (1455, .iadd), (1456, .iaload), (1457, .invokevirtual 170), (1460, .if_icmp .eq 463), (1463, .iconst 0), (1464, .ireturn)]
theorem ck_L_c36 : am_cok mt_L_law cd_L_c36 := by decide +kernel
def cd_L_c37 : List (Nat × Instr) := [(1465, .aload_n 1), (1466, .aload_n 0), (1467, .iload_n 3), (1468, .iconst 1), (1469, .iadd), (1470, .iaload), (1471, .aload_n 0), (1472, .iload_n 3), (1473, .iconst 2), (1474, .iadd), (1475, .iaload), (1476, .invokevirtual 171), (1479, .aload_n 2), (1480, .aload_n 0), (1481, .iload_n 3), (1482, .iconst 1), (1483, .iadd), (1484, .iaload), (1485, .aload_n 0), (1486, .iload_n 3), (1487, .iconst 2), (1488, .iadd), (1489, .iaload), (1490, .invokevirtual 174), (1493, .if_icmp .eq 430), (1496, .iconst 0), (1497, .ireturn)]
theorem ck_L_c37 : am_cok mt_L_law cd_L_c37 := by decide +kernel
def cd_L_c38 : List (Nat × Instr) := [(1498, .aload_n 1), (1499, .aload_n 0), (1500, .iload_n 3), (1501, .iconst 1), (1502, .iadd), (1503, .iaload), (1504, .aload_n 0), (1505, .iload_n 3), (1506, .iconst 2), (1507, .iadd), (1508, .iaload), (1509, .aload_n 0), (1510, .iload_n 3), (1511, .iconst 3), (1512, .iadd), (1513, .iaload), (1514, .invokevirtual 175), (1517, .aload_n 2), (1518, .aload_n 0), (1519, .iload_n 3), (1520, .iconst 1), (1521, .iadd), (1522, .iaload), (1523, .aload_n 0), (1524, .iload_n 3), (1525, .iconst 2), (1526, .iadd), (1527, .iaload), (1528, .aload_n 0), (1529, .iload_n 3), (1530, .iconst 3), (1531, .iadd), (1532, .iaload), (1533, .invokevirtual 178), (1536, .if_icmp .eq 387), (1539, .iconst 0), (1540, .ireturn)]
theorem ck_L_c38 : am_cok mt_L_law cd_L_c38 := by decide +kernel
def cd_L_c39 : List (Nat × Instr) := [(1541, .aload_n 1), (1542, .aload_n 0), (1543, .iload_n 3), (1544, .iconst 1), (1545, .iadd), (1546, .iaload), (1547, .aload_n 0), (1548, .iload_n 3), (1549, .iconst 2), (1550, .iadd), (1551, .iaload), (1552, .invokevirtual 179), (1555, .aload_n 2), (1556, .aload_n 0), (1557, .iload_n 3), (1558, .iconst 1), (1559, .iadd), (1560, .iaload), (1561, .aload_n 0), (1562, .iload_n 3), (1563, .iconst 2), (1564, .iadd), (1565, .iaload), (1566, .invokevirtual 182), (1569, .if_icmp .eq 354), (1572, .iconst 0), (1573, .ireturn)]
theorem ck_L_c39 : am_cok mt_L_law cd_L_c39 := by decide +kernel
def cd_L_c40 : List (Nat × Instr) := [(1574, .aload_n 1), (1575, .aload_n 0), (1576, .iload_n 3), (1577, .iconst 1), (1578, .iadd), (1579, .iaload), (1580, .aload_n 0), (1581, .iload_n 3), (1582, .iconst 2), (1583, .iadd), (1584, .iaload), (1585, .aload_n 0), (1586, .iload_n 3), (1587, .iconst 3), (1588, .iadd), (1589, .iaload), (1590, .invokevirtual 183), (1593, .aload_n 2), (1594, .aload_n 0), (1595, .iload_n 3), (1596, .iconst 1), (1597, .iadd), (1598, .iaload), (1599, .aload_n 0), (1600, .iload_n 3), (1601, .iconst 2), (1602, .iadd), (1603, .iaload), (1604, .aload_n 0), (1605, .iload_n 3), (1606, .iconst 3), (1607, .iadd), (1608, .iaload), (1609, .invokevirtual 186), (1612, .if_icmp .eq 311), (1615, .iconst 0), (1616, .ireturn)]
theorem ck_L_c40 : am_cok mt_L_law cd_L_c40 := by decide +kernel
def cd_L_c41 : List (Nat × Instr) := [(1617, .aload_n 1), (1618, .aload_n 0), (1619, .iload_n 3), (1620, .iconst 1), (1621, .iadd), (1622, .iaload), (1623, .aload_n 0), (1624, .iload_n 3), (1625, .iconst 2), (1626, .iadd), (1627, .iaload), (1628, .invokevirtual 187), (1631, .aload_n 2), (1632, .aload_n 0), (1633, .iload_n 3), (1634, .iconst 1), (1635, .iadd), (1636, .iaload), (1637, .aload_n 0), (1638, .iload_n 3), (1639, .iconst 2), (1640, .iadd), (1641, .iaload), (1642, .invokevirtual 190), (1645, .if_icmp .eq 278), (1648, .iconst 0), (1649, .ireturn)]
theorem ck_L_c41 : am_cok mt_L_law cd_L_c41 := by decide +kernel
def cd_L_c42 : List (Nat × Instr) := [(1650, .aload_n 1), (1651, .aload_n 0), (1652, .iload_n 3), (1653, .iconst 1), (1654, .iadd), (1655, .iaload), (1656, .aload_n 0), (1657, .iload_n 3), (1658, .iconst 2), (1659, .iadd), (1660, .iaload), (1661, .aload_n 0), (1662, .iload_n 3), (1663, .iconst 3), (1664, .iadd), (1665, .iaload), (1666, .invokevirtual 191), (1669, .aload_n 2), (1670, .aload_n 0), (1671, .iload_n 3), (1672, .iconst 1), (1673, .iadd), (1674, .iaload), (1675, .aload_n 0), (1676, .iload_n 3), (1677, .iconst 2), (1678, .iadd), (1679, .iaload), (1680, .aload_n 0), (1681, .iload_n 3), (1682, .iconst 3), (1683, .iadd), (1684, .iaload), (1685, .invokevirtual 194), (1688, .if_icmp .eq 235), (1691, .iconst 0), (1692, .ireturn)]
theorem ck_L_c42 : am_cok mt_L_law cd_L_c42 := by decide +kernel
def cd_L_c43 : List (Nat × Instr) := [(1693, .aload_n 1), (1694, .aload_n 0), (1695, .iload_n 3), (1696, .iconst 1), (1697, .iadd), (1698, .iaload), (1699, .invokevirtual 195), (1702, .aload_n 2), (1703, .aload_n 0), (1704, .iload_n 3), (1705, .iconst 1), (1706, .iadd), (1707, .iaload), (1708, .invokevirtual 198), (1711, .if_icmp .eq 212), (1714, .iconst 0), (1715, .ireturn)]
theorem ck_L_c43 : am_cok mt_L_law cd_L_c43 := by decide +kernel
def cd_L_c44 : List (Nat × Instr) := [(1716, .aload_n 1), (1717, .aload_n 0), (1718, .iload_n 3), (1719, .iconst 1), (1720, .iadd), (1721, .iaload), (1722, .aload_n 0), (1723, .iload_n 3), (1724, .iconst 2), (1725, .iadd), (1726, .iaload), (1727, .invokevirtual 199), (1730, .aload_n 2), (1731, .aload_n 0), (1732, .iload_n 3), (1733, .iconst 1), (1734, .iadd), (1735, .iaload), (1736, .aload_n 0), (1737, .iload_n 3), (1738, .iconst 2), (1739, .iadd), (1740, .iaload), (1741, .invokevirtual 202), (1744, .if_icmp .eq 179), (1747, .iconst 0), (1748, .ireturn)]
theorem ck_L_c44 : am_cok mt_L_law cd_L_c44 := by decide +kernel
def cd_L_c45 : List (Nat × Instr) := [(1749, .aload_n 1), (1750, .aload_n 0), (1751, .iload_n 3), (1752, .iconst 1), (1753, .iadd), (1754, .iaload), (1755, .invokevirtual 203), (1758, .aload_n 2), (1759, .aload_n 0), (1760, .iload_n 3), (1761, .iconst 1), (1762, .iadd), (1763, .iaload), (1764, .invokevirtual 206), (1767, .if_icmp .eq 156), (1770, .iconst 0), (1771, .ireturn)]
theorem ck_L_c45 : am_cok mt_L_law cd_L_c45 := by decide +kernel
def cd_L_c46 : List (Nat × Instr) := [(1772, .aload_n 1), (1773, .aload_n 0), (1774, .iload_n 3), (1775, .iconst 1), (1776, .iadd), (1777, .iaload), (1778, .aload_n 0), (1779, .iload_n 3), (1780, .iconst 2), (1781, .iadd), (1782, .iaload), (1783, .aload_n 0), (1784, .iload_n 3), (1785, .iconst 3), (1786, .iadd), (1787, .iaload), (1788, .invokevirtual 207), (1791, .aload_n 2), (1792, .aload_n 0), (1793, .iload_n 3), (1794, .iconst 1), (1795, .iadd), (1796, .iaload), (1797, .aload_n 0), (1798, .iload_n 3), (1799, .iconst 2), (1800, .iadd), (1801, .iaload), (1802, .aload_n 0), (1803, .iload_n 3), (1804, .iconst 3), (1805, .iadd), (1806, .iaload), (1807, .invokevirtual 210), (1810, .if_icmp .eq 113), (1813, .iconst 0), (1814, .ireturn)]
theorem ck_L_c46 : am_cok mt_L_law cd_L_c46 := by decide +kernel
def cd_L_c47 : List (Nat × Instr) := [(1815, .aload_n 1), (1816, .aload_n 0), (1817, .iload_n 3), (1818, .iconst 1), (1819, .iadd), (1820, .iaload), (1821, .invokevirtual 211), (1824, .aload_n 2), (1825, .aload_n 0), (1826, .iload_n 3), (1827, .iconst 1), (1828, .iadd), (1829, .iaload), (1830, .invokevirtual 214), (1833, .if_icmp .eq 90), (1836, .iconst 0), (1837, .ireturn)]
theorem ck_L_c47 : am_cok mt_L_law cd_L_c47 := by decide +kernel
def cd_L_c48 : List (Nat × Instr) := [(1838, .aload_n 1), (1839, .aload_n 0), (1840, .iload_n 3), (1841, .iconst 1), (1842, .iadd), (1843, .iaload), (1844, .invokevirtual 215), (1847, .aload_n 2), (1848, .aload_n 0), (1849, .iload_n 3), (1850, .iconst 1), (1851, .iadd), (1852, .iaload), (1853, .invokevirtual 218), (1856, .if_icmp .eq 67), (1859, .iconst 0), (1860, .ireturn)]
theorem ck_L_c48 : am_cok mt_L_law cd_L_c48 := by decide +kernel
def cd_L_c49 : List (Nat × Instr) := [(1861, .aload_n 1), (1862, .aload_n 0), (1863, .iload_n 3), (1864, .iconst 1), (1865, .iadd), (1866, .iaload), (1867, .ifCond .eq 7), (1870, .iconst 1), (1871, .goto 4), (1874, .iconst 0), (1875, .invokevirtual 219), (1878, .aload_n 2), (1879, .aload_n 0), (1880, .iload_n 3), (1881, .iconst 1), (1882, .iadd), (1883, .iaload), (1884, .ifCond .eq 7), (1887, .iconst 1), (1888, .goto 4), (1891, .iconst 0), (1892, .invokevirtual 223), (1895, .if_icmp .eq 28), (1898, .iconst 0), (1899, .ireturn)]
theorem ck_L_c49 : am_cok mt_L_law cd_L_c49 := by decide +kernel
def cd_L_c50 : List (Nat × Instr) := [(1900, .aload_n 1), (1901, .aload_n 0), (1902, .iload_n 3), (1903, .iconst 1), (1904, .iadd), (1905, .iaload), (1906, .invokevirtual 224), (1909, .aload_n 2), (1910, .aload_n 0), (1911, .iload_n 3), (1912, .iconst 1), (1913, .iadd), (1914, .iaload), (1915, .invokevirtual 227), (1918, .if_icmp .eq 5), (1921, .iconst 0), (1922, .ireturn)]
theorem ck_L_c50 : am_cok mt_L_law cd_L_c50 := by decide +kernel
def cd_L_hd : List (Nat × Instr) := [(0, .new 7), (3, .dup), (4, .invokespecial 9), (7, .astore_n 1), (8, .new 10), (11, .dup), (12, .invokespecial 12), (15, .astore_n 2), (16, .iconst 0), (17, .istore_n 3), (18, .iload_n 3), (19, .aload_n 0), (20, .arraylength), (21, .bipush 6), (23, .isub), (24, .if_icmp .gt 1905), (27, .aload_n 0), (28, .iload_n 3), (29, .iaload), (30, .bipush 63), (32, .iand), (1923, .iinc 3 6), (1926, .goto (-1908)), (1929, .iconst 1), (1930, .ireturn)]
theorem ck_L_hd : am_cok mt_L_law cd_L_hd := by decide +kernel
set_option maxRecDepth 100000 in
set_option maxHeartbeats 4000000 in
theorem x_L_c0 {G : am_G} {N : Nat} {xs : Nat → Int32} {z3 : Int32} {m : am_m} {r : am_rr} {rv : Option Value} {h' : am_H} {p : am_m × am_rr} (hN : am_n G = N) (hX : am_xs G = xs) (hL : am_Lay r) (hm : m_L_c0 N xs z3 m r = some p) (K : am_Lay p.2 → am_W G mt_L_law 28 rv h' 1923 [(0, .ref 1), (1, .ref 3), (2, .ref 3261), (3, .int z3)] [] (am_hh p.1 p.2)) : am_W G mt_L_law 28 rv h' 252 [(0, .ref 1), (1, .ref 3), (2, .ref 3261), (3, .int z3)] [] (am_hh m r) := by
  unfold m_L_c0 at hm
  refine am_steps ck_L_c0 5 (pc' := 257) (lv' := [(0, .ref 1), (1, .ref 3), (2, .ref 3261), (3, .int z3)]) (st' := [.int (z3 + (am_i 1)), .ref 1, .ref 3]) rfl ?_
  obtain ⟨hb1, hm⟩ := am_gE hm
  refine ms_sald (am_fd ck_L_c0 (pc := 257) rfl) hN hX hb1 ?_
  refine am_steps ck_L_c0 4 (pc' := 262) (lv' := [(0, .ref 1), (1, .ref 3), (2, .ref 3261), (3, .int z3)]) (st' := [.int (z3 + (am_i 2)), .ref 1, .int (xs (am_ix (z3 + (am_i 1)))), .ref 3]) rfl ?_
  obtain ⟨hb2, hm⟩ := am_gE hm
  refine ms_sald (am_fd ck_L_c0 (pc := 262) rfl) hN hX hb2 ?_
  refine am_steps ck_L_c0 4 (pc' := 267) (lv' := [(0, .ref 1), (1, .ref 3), (2, .ref 3261), (3, .int z3)]) (st' := [.int (z3 + (am_i 3)), .ref 1, .int (xs (am_ix (z3 + (am_i 2)))), .int (xs (am_ix (z3 + (am_i 1)))), .ref 3]) rfl ?_
  obtain ⟨hb3, hm⟩ := am_gE hm
  refine ms_sald (am_fd ck_L_c0 (pc := 267) rfl) hN hX hb3 ?_
  obtain ⟨q4, hq4, hm⟩ := am_bE hm
  refine ms_callV (M2 := mt_X8_add) (d2 := 4) (ci := 6) [.int (xs (am_ix (z3 + (am_i 1)))), .int (xs (am_ix (z3 + (am_i 2)))), .int (xs (am_ix (z3 + (am_i 3))))] (am_fd ck_L_c0 (pc := 268) rfl) ok_X8_add tw_227 tw_228 tw_229 (by decide) kc_3 (Nat.le_of_ble_eq_true rfl) (Nat.le_of_ble_eq_true rfl) (x_X8_add hL hq4) ?_
  refine am_steps ck_L_c0 5 (pc' := 276) (lv' := [(0, .ref 1), (1, .ref 3), (2, .ref 3261), (3, .int z3)]) (st' := [.int (z3 + (am_i 1)), .ref 1, .ref 3261, .int q4.1]) rfl ?_
  obtain ⟨hb5, hm⟩ := am_gE hm
  refine ms_sald (am_fd ck_L_c0 (pc := 276) rfl) hN hX hb5 ?_
  refine am_steps ck_L_c0 4 (pc' := 281) (lv' := [(0, .ref 1), (1, .ref 3), (2, .ref 3261), (3, .int z3)]) (st' := [.int (z3 + (am_i 2)), .ref 1, .int (xs (am_ix (z3 + (am_i 1)))), .ref 3261, .int q4.1]) rfl ?_
  obtain ⟨hb6, hm⟩ := am_gE hm
  refine ms_sald (am_fd ck_L_c0 (pc := 281) rfl) hN hX hb6 ?_
  refine am_steps ck_L_c0 4 (pc' := 286) (lv' := [(0, .ref 1), (1, .ref 3), (2, .ref 3261), (3, .int z3)]) (st' := [.int (z3 + (am_i 3)), .ref 1, .int (xs (am_ix (z3 + (am_i 2)))), .int (xs (am_ix (z3 + (am_i 1)))), .ref 3261, .int q4.1]) rfl ?_
  obtain ⟨hb7, hm⟩ := am_gE hm
  refine ms_sald (am_fd ck_L_c0 (pc := 286) rfl) hN hX hb7 ?_
  obtain ⟨q8, hq8, hm⟩ := am_bE hm
  refine ms_callV (M2 := mt_X9_add) (d2 := 3) (ci := 7) [.int (xs (am_ix (z3 + (am_i 1)))), .int (xs (am_ix (z3 + (am_i 2)))), .int (xs (am_ix (z3 + (am_i 3))))] (am_fd ck_L_c0 (pc := 287) rfl) ok_X9_add tw_945 tw_946 tw_947 (by decide) kc_3261 (Nat.le_of_ble_eq_true rfl) (Nat.le_of_ble_eq_true rfl) (x_X9_add hL hq8) ?_
  obtain ⟨hb9, hm⟩ := am_gE hm
  refine am_icmp (tgt := 1923) (am_fd ck_L_c0 (pc := 290) rfl) rfl (fun _ => ?_) (fun q => absurd (of_decide_eq_true hb9) q)
  refine am_subp [0, 1, 2, 3] rfl ?_
  cases hm
  exact K hL
set_option maxRecDepth 100000 in
set_option maxHeartbeats 4000000 in
theorem x_L_c1 {G : am_G} {N : Nat} {xs : Nat → Int32} {z3 : Int32} {m : am_m} {r : am_rr} {rv : Option Value} {h' : am_H} {p : am_m × am_rr} (hN : am_n G = N) (hX : am_xs G = xs) (hL : am_Lay r) (hm : m_L_c1 N xs z3 m r = some p) (K : am_Lay p.2 → am_W G mt_L_law 28 rv h' 1923 [(0, .ref 1), (1, .ref 3), (2, .ref 3261), (3, .int z3)] [] (am_hh p.1 p.2)) : am_W G mt_L_law 28 rv h' 295 [(0, .ref 1), (1, .ref 3), (2, .ref 3261), (3, .int z3)] [] (am_hh m r) := by
  unfold m_L_c1 at hm
  refine am_steps ck_L_c1 5 (pc' := 300) (lv' := [(0, .ref 1), (1, .ref 3), (2, .ref 3261), (3, .int z3)]) (st' := [.int (z3 + (am_i 1)), .ref 1, .ref 3]) rfl ?_
  obtain ⟨hb1, hm⟩ := am_gE hm
  refine ms_sald (am_fd ck_L_c1 (pc := 300) rfl) hN hX hb1 ?_
  refine am_steps ck_L_c1 4 (pc' := 305) (lv' := [(0, .ref 1), (1, .ref 3), (2, .ref 3261), (3, .int z3)]) (st' := [.int (z3 + (am_i 2)), .ref 1, .int (xs (am_ix (z3 + (am_i 1)))), .ref 3]) rfl ?_
  obtain ⟨hb2, hm⟩ := am_gE hm
  refine ms_sald (am_fd ck_L_c1 (pc := 305) rfl) hN hX hb2 ?_
  obtain ⟨q3, hq3, hm⟩ := am_bE hm
  refine ms_callV (M2 := mt_X8_comes) (d2 := 4) (ci := 6) [.int (xs (am_ix (z3 + (am_i 1)))), .int (xs (am_ix (z3 + (am_i 2))))] (am_fd ck_L_c1 (pc := 306) rfl) ok_X8_comes tw_261 tw_262 tw_263 (by decide) kc_3 (Nat.le_of_ble_eq_true rfl) (Nat.le_of_ble_eq_true rfl) (x_X8_comes hL hq3) ?_
  refine am_steps ck_L_c1 5 (pc' := 314) (lv' := [(0, .ref 1), (1, .ref 3), (2, .ref 3261), (3, .int z3)]) (st' := [.int (z3 + (am_i 1)), .ref 1, .ref 3261, .int q3.1]) rfl ?_
  obtain ⟨hb4, hm⟩ := am_gE hm
  refine ms_sald (am_fd ck_L_c1 (pc := 314) rfl) hN hX hb4 ?_
  refine am_steps ck_L_c1 4 (pc' := 319) (lv' := [(0, .ref 1), (1, .ref 3), (2, .ref 3261), (3, .int z3)]) (st' := [.int (z3 + (am_i 2)), .ref 1, .int (xs (am_ix (z3 + (am_i 1)))), .ref 3261, .int q3.1]) rfl ?_
  obtain ⟨hb5, hm⟩ := am_gE hm
  refine ms_sald (am_fd ck_L_c1 (pc := 319) rfl) hN hX hb5 ?_
  obtain ⟨q6, hq6, hm⟩ := am_bE hm
  refine ms_callV (M2 := mt_X9_comes) (d2 := 3) (ci := 7) [.int (xs (am_ix (z3 + (am_i 1)))), .int (xs (am_ix (z3 + (am_i 2))))] (am_fd ck_L_c1 (pc := 320) rfl) ok_X9_comes tw_970 tw_971 tw_972 (by decide) kc_3261 (Nat.le_of_ble_eq_true rfl) (Nat.le_of_ble_eq_true rfl) (x_X9_comes hL hq6) ?_
  obtain ⟨hb7, hm⟩ := am_gE hm
  refine am_icmp (tgt := 1923) (am_fd ck_L_c1 (pc := 323) rfl) rfl (fun _ => ?_) (fun q => absurd (of_decide_eq_true hb7) q)
  refine am_subp [0, 1, 2, 3] rfl ?_
  cases hm
  exact K hL
set_option maxRecDepth 100000 in
set_option maxHeartbeats 4000000 in
theorem x_L_c2 {G : am_G} {N : Nat} {xs : Nat → Int32} {z3 : Int32} {m : am_m} {r : am_rr} {rv : Option Value} {h' : am_H} {p : am_m × am_rr} (hN : am_n G = N) (hX : am_xs G = xs) (hL : am_Lay r) (hm : m_L_c2 N xs z3 m r = some p) (K : am_Lay p.2 → am_W G mt_L_law 28 rv h' 1923 [(0, .ref 1), (1, .ref 3), (2, .ref 3261), (3, .int z3)] [] (am_hh p.1 p.2)) : am_W G mt_L_law 28 rv h' 328 [(0, .ref 1), (1, .ref 3), (2, .ref 3261), (3, .int z3)] [] (am_hh m r) := by
  unfold m_L_c2 at hm
  refine am_steps ck_L_c2 5 (pc' := 333) (lv' := [(0, .ref 1), (1, .ref 3), (2, .ref 3261), (3, .int z3)]) (st' := [.int (z3 + (am_i 1)), .ref 1, .ref 3]) rfl ?_
  obtain ⟨hb1, hm⟩ := am_gE hm
  refine ms_sald (am_fd ck_L_c2 (pc := 333) rfl) hN hX hb1 ?_
  obtain ⟨q2, hq2, hm⟩ := am_bE hm
  refine ms_callV (M2 := mt_X8_goes) (d2 := 4) (ci := 6) [.int (xs (am_ix (z3 + (am_i 1))))] (am_fd ck_L_c2 (pc := 334) rfl) ok_X8_goes tw_280 tw_281 tw_282 (by decide) kc_3 (Nat.le_of_ble_eq_true rfl) (Nat.le_of_ble_eq_true rfl) (x_X8_goes hL hq2) ?_
  refine am_steps ck_L_c2 5 (pc' := 342) (lv' := [(0, .ref 1), (1, .ref 3), (2, .ref 3261), (3, .int z3)]) (st' := [.int (z3 + (am_i 1)), .ref 1, .ref 3261, .int q2.1]) rfl ?_
  obtain ⟨hb3, hm⟩ := am_gE hm
  refine ms_sald (am_fd ck_L_c2 (pc := 342) rfl) hN hX hb3 ?_
  obtain ⟨q4, hq4, hm⟩ := am_bE hm
  refine ms_callV (M2 := mt_X9_goes) (d2 := 4) (ci := 7) [.int (xs (am_ix (z3 + (am_i 1))))] (am_fd ck_L_c2 (pc := 343) rfl) ok_X9_goes tw_985 tw_986 tw_987 (by decide) kc_3261 (Nat.le_of_ble_eq_true rfl) (Nat.le_of_ble_eq_true rfl) (x_X9_goes hL hq4) ?_
  obtain ⟨hb5, hm⟩ := am_gE hm
  refine am_icmp (tgt := 1923) (am_fd ck_L_c2 (pc := 346) rfl) rfl (fun _ => ?_) (fun q => absurd (of_decide_eq_true hb5) q)
  refine am_subp [0, 1, 2, 3] rfl ?_
  cases hm
  exact K hL
set_option maxRecDepth 100000 in
set_option maxHeartbeats 4000000 in
theorem x_L_c3 {G : am_G} {N : Nat} {xs : Nat → Int32} {z3 : Int32} {m : am_m} {r : am_rr} {rv : Option Value} {h' : am_H} {p : am_m × am_rr} (hN : am_n G = N) (hX : am_xs G = xs) (hL : am_Lay r) (hm : m_L_c3 N xs z3 m r = some p) (K : am_Lay p.2 → am_W G mt_L_law 28 rv h' 1923 [(0, .ref 1), (1, .ref 3), (2, .ref 3261), (3, .int z3)] [] (am_hh p.1 p.2)) : am_W G mt_L_law 28 rv h' 351 [(0, .ref 1), (1, .ref 3), (2, .ref 3261), (3, .int z3)] [] (am_hh m r) := by
  unfold m_L_c3 at hm
  refine am_steps ck_L_c3 5 (pc' := 356) (lv' := [(0, .ref 1), (1, .ref 3), (2, .ref 3261), (3, .int z3)]) (st' := [.int (z3 + (am_i 1)), .ref 1, .ref 3]) rfl ?_
  obtain ⟨hb1, hm⟩ := am_gE hm
  refine ms_sald (am_fd ck_L_c3 (pc := 356) rfl) hN hX hb1 ?_
  refine am_steps ck_L_c3 4 (pc' := 361) (lv' := [(0, .ref 1), (1, .ref 3), (2, .ref 3261), (3, .int z3)]) (st' := [.int (z3 + (am_i 2)), .ref 1, .int (xs (am_ix (z3 + (am_i 1)))), .ref 3]) rfl ?_
  obtain ⟨hb2, hm⟩ := am_gE hm
  refine ms_sald (am_fd ck_L_c3 (pc := 361) rfl) hN hX hb2 ?_
  obtain ⟨q3, hq3, hm⟩ := am_bE hm
  refine ms_callV (M2 := mt_X8_move) (d2 := 6) (ci := 6) [.int (xs (am_ix (z3 + (am_i 1)))), .int (xs (am_ix (z3 + (am_i 2))))] (am_fd ck_L_c3 (pc := 362) rfl) ok_X8_move tw_318 tw_319 tw_320 (by decide) kc_3 (Nat.le_of_ble_eq_true rfl) (Nat.le_of_ble_eq_true rfl) (x_X8_move hL hq3) ?_
  refine am_steps ck_L_c3 5 (pc' := 370) (lv' := [(0, .ref 1), (1, .ref 3), (2, .ref 3261), (3, .int z3)]) (st' := [.int (z3 + (am_i 1)), .ref 1, .ref 3261, .int q3.1]) rfl ?_
  obtain ⟨hb4, hm⟩ := am_gE hm
  refine ms_sald (am_fd ck_L_c3 (pc := 370) rfl) hN hX hb4 ?_
  refine am_steps ck_L_c3 4 (pc' := 375) (lv' := [(0, .ref 1), (1, .ref 3), (2, .ref 3261), (3, .int z3)]) (st' := [.int (z3 + (am_i 2)), .ref 1, .int (xs (am_ix (z3 + (am_i 1)))), .ref 3261, .int q3.1]) rfl ?_
  obtain ⟨hb5, hm⟩ := am_gE hm
  refine ms_sald (am_fd ck_L_c3 (pc := 375) rfl) hN hX hb5 ?_
  obtain ⟨q6, hq6, hm⟩ := am_bE hm
  refine ms_callV (M2 := mt_X9_move) (d2 := 5) (ci := 7) [.int (xs (am_ix (z3 + (am_i 1)))), .int (xs (am_ix (z3 + (am_i 2))))] (am_fd ck_L_c3 (pc := 376) rfl) ok_X9_move tw_1011 tw_1012 tw_1013 (by decide) kc_3261 (Nat.le_of_ble_eq_true rfl) (Nat.le_of_ble_eq_true rfl) (x_X9_move hL hq6) ?_
  obtain ⟨hb7, hm⟩ := am_gE hm
  refine am_icmp (tgt := 1923) (am_fd ck_L_c3 (pc := 379) rfl) rfl (fun _ => ?_) (fun q => absurd (of_decide_eq_true hb7) q)
  refine am_subp [0, 1, 2, 3] rfl ?_
  cases hm
  exact K hL
set_option maxRecDepth 100000 in
set_option maxHeartbeats 4000000 in
theorem x_L_c4 {G : am_G} {N : Nat} {xs : Nat → Int32} {z3 : Int32} {m : am_m} {r : am_rr} {rv : Option Value} {h' : am_H} {p : am_m × am_rr} (hN : am_n G = N) (hX : am_xs G = xs) (hL : am_Lay r) (hm : m_L_c4 N xs z3 m r = some p) (K : am_Lay p.2 → am_W G mt_L_law 28 rv h' 1923 [(0, .ref 1), (1, .ref 3), (2, .ref 3261), (3, .int z3)] [] (am_hh p.1 p.2)) : am_W G mt_L_law 28 rv h' 384 [(0, .ref 1), (1, .ref 3), (2, .ref 3261), (3, .int z3)] [] (am_hh m r) := by
  unfold m_L_c4 at hm
  refine am_steps ck_L_c4 5 (pc' := 389) (lv' := [(0, .ref 1), (1, .ref 3), (2, .ref 3261), (3, .int z3)]) (st' := [.int (z3 + (am_i 1)), .ref 1, .ref 3]) rfl ?_
  obtain ⟨hb1, hm⟩ := am_gE hm
  refine ms_sald (am_fd ck_L_c4 (pc := 389) rfl) hN hX hb1 ?_
  refine am_steps ck_L_c4 4 (pc' := 394) (lv' := [(0, .ref 1), (1, .ref 3), (2, .ref 3261), (3, .int z3)]) (st' := [.int (z3 + (am_i 2)), .ref 1, .int (xs (am_ix (z3 + (am_i 1)))), .ref 3]) rfl ?_
  obtain ⟨hb2, hm⟩ := am_gE hm
  refine ms_sald (am_fd ck_L_c4 (pc := 394) rfl) hN hX hb2 ?_
  refine am_steps ck_L_c4 4 (pc' := 399) (lv' := [(0, .ref 1), (1, .ref 3), (2, .ref 3261), (3, .int z3)]) (st' := [.int (z3 + (am_i 3)), .ref 1, .int (xs (am_ix (z3 + (am_i 2)))), .int (xs (am_ix (z3 + (am_i 1)))), .ref 3]) rfl ?_
  obtain ⟨hb3, hm⟩ := am_gE hm
  refine ms_sald (am_fd ck_L_c4 (pc := 399) rfl) hN hX hb3 ?_
  refine am_steps ck_L_c4 4 (pc' := 404) (lv' := [(0, .ref 1), (1, .ref 3), (2, .ref 3261), (3, .int z3)]) (st' := [.int (z3 + (am_i 4)), .ref 1, .int (xs (am_ix (z3 + (am_i 3)))), .int (xs (am_ix (z3 + (am_i 2)))), .int (xs (am_ix (z3 + (am_i 1)))), .ref 3]) rfl ?_
  obtain ⟨hb4, hm⟩ := am_gE hm
  refine ms_sald (am_fd ck_L_c4 (pc := 404) rfl) hN hX hb4 ?_
  obtain ⟨q5, hq5, hm⟩ := am_bE hm
  refine ms_callV (M2 := mt_X8_give) (d2 := 4) (ci := 6) [.int (xs (am_ix (z3 + (am_i 1)))), .int (xs (am_ix (z3 + (am_i 2)))), .int (xs (am_ix (z3 + (am_i 3)))), .int (xs (am_ix (z3 + (am_i 4))))] (am_fd ck_L_c4 (pc := 405) rfl) ok_X8_give tw_347 tw_348 tw_349 (by decide) kc_3 (Nat.le_of_ble_eq_true rfl) (Nat.le_of_ble_eq_true rfl) (x_X8_give hL hq5) ?_
  refine am_steps ck_L_c4 5 (pc' := 413) (lv' := [(0, .ref 1), (1, .ref 3), (2, .ref 3261), (3, .int z3)]) (st' := [.int (z3 + (am_i 1)), .ref 1, .ref 3261, .int q5.1]) rfl ?_
  obtain ⟨hb6, hm⟩ := am_gE hm
  refine ms_sald (am_fd ck_L_c4 (pc := 413) rfl) hN hX hb6 ?_
  refine am_steps ck_L_c4 4 (pc' := 418) (lv' := [(0, .ref 1), (1, .ref 3), (2, .ref 3261), (3, .int z3)]) (st' := [.int (z3 + (am_i 2)), .ref 1, .int (xs (am_ix (z3 + (am_i 1)))), .ref 3261, .int q5.1]) rfl ?_
  obtain ⟨hb7, hm⟩ := am_gE hm
  refine ms_sald (am_fd ck_L_c4 (pc := 418) rfl) hN hX hb7 ?_
  refine am_steps ck_L_c4 4 (pc' := 423) (lv' := [(0, .ref 1), (1, .ref 3), (2, .ref 3261), (3, .int z3)]) (st' := [.int (z3 + (am_i 3)), .ref 1, .int (xs (am_ix (z3 + (am_i 2)))), .int (xs (am_ix (z3 + (am_i 1)))), .ref 3261, .int q5.1]) rfl ?_
  obtain ⟨hb8, hm⟩ := am_gE hm
  refine ms_sald (am_fd ck_L_c4 (pc := 423) rfl) hN hX hb8 ?_
  refine am_steps ck_L_c4 4 (pc' := 428) (lv' := [(0, .ref 1), (1, .ref 3), (2, .ref 3261), (3, .int z3)]) (st' := [.int (z3 + (am_i 4)), .ref 1, .int (xs (am_ix (z3 + (am_i 3)))), .int (xs (am_ix (z3 + (am_i 2)))), .int (xs (am_ix (z3 + (am_i 1)))), .ref 3261, .int q5.1]) rfl ?_
  obtain ⟨hb9, hm⟩ := am_gE hm
  refine ms_sald (am_fd ck_L_c4 (pc := 428) rfl) hN hX hb9 ?_
  obtain ⟨q10, hq10, hm⟩ := am_bE hm
  refine ms_callV (M2 := mt_X9_give) (d2 := 4) (ci := 7) [.int (xs (am_ix (z3 + (am_i 1)))), .int (xs (am_ix (z3 + (am_i 2)))), .int (xs (am_ix (z3 + (am_i 3)))), .int (xs (am_ix (z3 + (am_i 4))))] (am_fd ck_L_c4 (pc := 429) rfl) ok_X9_give tw_1035 tw_1036 tw_1037 (by decide) kc_3261 (Nat.le_of_ble_eq_true rfl) (Nat.le_of_ble_eq_true rfl) (x_X9_give hL hq10) ?_
  obtain ⟨hb11, hm⟩ := am_gE hm
  refine am_icmp (tgt := 1923) (am_fd ck_L_c4 (pc := 432) rfl) rfl (fun _ => ?_) (fun q => absurd (of_decide_eq_true hb11) q)
  refine am_subp [0, 1, 2, 3] rfl ?_
  cases hm
  exact K hL
set_option maxRecDepth 100000 in
set_option maxHeartbeats 4000000 in
theorem x_L_c5 {G : am_G} {N : Nat} {xs : Nat → Int32} {z3 : Int32} {m : am_m} {r : am_rr} {rv : Option Value} {h' : am_H} {p : am_m × am_rr} (hN : am_n G = N) (hX : am_xs G = xs) (hL : am_Lay r) (hm : m_L_c5 N xs z3 m r = some p) (K : am_Lay p.2 → am_W G mt_L_law 28 rv h' 1923 [(0, .ref 1), (1, .ref 3), (2, .ref 3261), (3, .int z3)] [] (am_hh p.1 p.2)) : am_W G mt_L_law 28 rv h' 437 [(0, .ref 1), (1, .ref 3), (2, .ref 3261), (3, .int z3)] [] (am_hh m r) := by
  unfold m_L_c5 at hm
  refine am_steps ck_L_c5 5 (pc' := 442) (lv' := [(0, .ref 1), (1, .ref 3), (2, .ref 3261), (3, .int z3)]) (st' := [.int (z3 + (am_i 1)), .ref 1, .ref 3]) rfl ?_
  obtain ⟨hb1, hm⟩ := am_gE hm
  refine ms_sald (am_fd ck_L_c5 (pc := 442) rfl) hN hX hb1 ?_
  obtain ⟨q2, hq2, hm⟩ := am_bE hm
  refine ms_callV (M2 := mt_X8_roll) (d2 := 27) (ci := 6) [.int (xs (am_ix (z3 + (am_i 1))))] (am_fd ck_L_c5 (pc := 443) rfl) ok_X8_roll tw_363 tw_364 tw_365 (by decide) kc_3 (Nat.le_of_ble_eq_true rfl) (Nat.le_of_ble_eq_true rfl) (x_X8_roll hL hq2) ?_
  have hL := lr_X8_roll hL hq2
  refine am_steps ck_L_c5 5 (pc' := 451) (lv' := [(0, .ref 1), (1, .ref 3), (2, .ref 3261), (3, .int z3)]) (st' := [.int (z3 + (am_i 1)), .ref 1, .ref 3261, .int q2.1]) rfl ?_
  obtain ⟨hb3, hm⟩ := am_gE hm
  refine ms_sald (am_fd ck_L_c5 (pc := 451) rfl) hN hX hb3 ?_
  obtain ⟨q4, hq4, hm⟩ := am_bE hm
  refine ms_callV (M2 := mt_X9_roll) (d2 := 27) (ci := 7) [.int (xs (am_ix (z3 + (am_i 1))))] (am_fd ck_L_c5 (pc := 452) rfl) ok_X9_roll tw_1046 tw_1047 tw_1048 (by decide) kc_3261 (Nat.le_of_ble_eq_true rfl) (Nat.le_of_ble_eq_true rfl) (x_X9_roll hL hq4) ?_
  obtain ⟨hb5, hm⟩ := am_gE hm
  refine am_icmp (tgt := 1923) (am_fd ck_L_c5 (pc := 455) rfl) rfl (fun _ => ?_) (fun q => absurd (of_decide_eq_true hb5) q)
  refine am_subp [0, 1, 2, 3] rfl ?_
  cases hm
  exact K hL
set_option maxRecDepth 100000 in
set_option maxHeartbeats 4000000 in
theorem x_L_c6 {G : am_G} {N : Nat} {xs : Nat → Int32} {z3 : Int32} {m : am_m} {r : am_rr} {rv : Option Value} {h' : am_H} {p : am_m × am_rr} (hN : am_n G = N) (hX : am_xs G = xs) (hL : am_Lay r) (hm : m_L_c6 N xs z3 m r = some p) (K : am_Lay p.2 → am_W G mt_L_law 28 rv h' 1923 [(0, .ref 1), (1, .ref 3), (2, .ref 3261), (3, .int z3)] [] (am_hh p.1 p.2)) : am_W G mt_L_law 28 rv h' 460 [(0, .ref 1), (1, .ref 3), (2, .ref 3261), (3, .int z3)] [] (am_hh m r) := by
  unfold m_L_c6 at hm
  refine am_steps ck_L_c6 5 (pc' := 465) (lv' := [(0, .ref 1), (1, .ref 3), (2, .ref 3261), (3, .int z3)]) (st' := [.int (z3 + (am_i 1)), .ref 1, .ref 3]) rfl ?_
  obtain ⟨hb1, hm⟩ := am_gE hm
  refine ms_sald (am_fd ck_L_c6 (pc := 465) rfl) hN hX hb1 ?_
  refine am_steps ck_L_c6 4 (pc' := 470) (lv' := [(0, .ref 1), (1, .ref 3), (2, .ref 3261), (3, .int z3)]) (st' := [.int (z3 + (am_i 2)), .ref 1, .int (xs (am_ix (z3 + (am_i 1)))), .ref 3]) rfl ?_
  obtain ⟨hb2, hm⟩ := am_gE hm
  refine ms_sald (am_fd ck_L_c6 (pc := 470) rfl) hN hX hb2 ?_
  obtain ⟨q3, hq3, hm⟩ := am_bE hm
  refine ms_callV (M2 := mt_X8_recode) (d2 := 5) (ci := 6) [.int (xs (am_ix (z3 + (am_i 1)))), .int (xs (am_ix (z3 + (am_i 2))))] (am_fd ck_L_c6 (pc := 471) rfl) ok_X8_recode tw_402 tw_403 tw_404 (by decide) kc_3 (Nat.le_of_ble_eq_true rfl) (Nat.le_of_ble_eq_true rfl) (x_X8_recode hL hq3) ?_
  refine am_steps ck_L_c6 5 (pc' := 479) (lv' := [(0, .ref 1), (1, .ref 3), (2, .ref 3261), (3, .int z3)]) (st' := [.int (z3 + (am_i 1)), .ref 1, .ref 3261, .int q3.1]) rfl ?_
  obtain ⟨hb4, hm⟩ := am_gE hm
  refine ms_sald (am_fd ck_L_c6 (pc := 479) rfl) hN hX hb4 ?_
  refine am_steps ck_L_c6 4 (pc' := 484) (lv' := [(0, .ref 1), (1, .ref 3), (2, .ref 3261), (3, .int z3)]) (st' := [.int (z3 + (am_i 2)), .ref 1, .int (xs (am_ix (z3 + (am_i 1)))), .ref 3261, .int q3.1]) rfl ?_
  obtain ⟨hb5, hm⟩ := am_gE hm
  refine ms_sald (am_fd ck_L_c6 (pc := 484) rfl) hN hX hb5 ?_
  obtain ⟨q6, hq6, hm⟩ := am_bE hm
  refine ms_callV (M2 := mt_X9_recode) (d2 := 5) (ci := 7) [.int (xs (am_ix (z3 + (am_i 1)))), .int (xs (am_ix (z3 + (am_i 2))))] (am_fd ck_L_c6 (pc := 485) rfl) ok_X9_recode tw_1076 tw_1077 tw_1078 (by decide) kc_3261 (Nat.le_of_ble_eq_true rfl) (Nat.le_of_ble_eq_true rfl) (x_X9_recode hL hq6) ?_
  obtain ⟨hb7, hm⟩ := am_gE hm
  refine am_icmp (tgt := 1923) (am_fd ck_L_c6 (pc := 488) rfl) rfl (fun _ => ?_) (fun q => absurd (of_decide_eq_true hb7) q)
  refine am_subp [0, 1, 2, 3] rfl ?_
  cases hm
  exact K hL
set_option maxRecDepth 100000 in
set_option maxHeartbeats 4000000 in
theorem x_L_c7 {G : am_G} {N : Nat} {xs : Nat → Int32} {z3 : Int32} {m : am_m} {r : am_rr} {rv : Option Value} {h' : am_H} {p : am_m × am_rr} (hN : am_n G = N) (hX : am_xs G = xs) (hL : am_Lay r) (hm : m_L_c7 N xs z3 m r = some p) (K : am_Lay p.2 → am_W G mt_L_law 28 rv h' 1923 [(0, .ref 1), (1, .ref 3), (2, .ref 3261), (3, .int z3)] [] (am_hh p.1 p.2)) : am_W G mt_L_law 28 rv h' 493 [(0, .ref 1), (1, .ref 3), (2, .ref 3261), (3, .int z3)] [] (am_hh m r) := by
  unfold m_L_c7 at hm
  refine am_steps ck_L_c7 5 (pc' := 498) (lv' := [(0, .ref 1), (1, .ref 3), (2, .ref 3261), (3, .int z3)]) (st' := [.int (z3 + (am_i 1)), .ref 1, .ref 3]) rfl ?_
  obtain ⟨hb1, hm⟩ := am_gE hm
  refine ms_sald (am_fd ck_L_c7 (pc := 498) rfl) hN hX hb1 ?_
  refine am_steps ck_L_c7 4 (pc' := 503) (lv' := [(0, .ref 1), (1, .ref 3), (2, .ref 3261), (3, .int z3)]) (st' := [.int (z3 + (am_i 2)), .ref 1, .int (xs (am_ix (z3 + (am_i 1)))), .ref 3]) rfl ?_
  obtain ⟨hb2, hm⟩ := am_gE hm
  refine ms_sald (am_fd ck_L_c7 (pc := 503) rfl) hN hX hb2 ?_
  refine am_steps ck_L_c7 4 (pc' := 508) (lv' := [(0, .ref 1), (1, .ref 3), (2, .ref 3261), (3, .int z3)]) (st' := [.int (z3 + (am_i 3)), .ref 1, .int (xs (am_ix (z3 + (am_i 2)))), .int (xs (am_ix (z3 + (am_i 1)))), .ref 3]) rfl ?_
  obtain ⟨hb3, hm⟩ := am_gE hm
  refine ms_sald (am_fd ck_L_c7 (pc := 508) rfl) hN hX hb3 ?_
  refine am_steps ck_L_c7 4 (pc' := 513) (lv' := [(0, .ref 1), (1, .ref 3), (2, .ref 3261), (3, .int z3)]) (st' := [.int (z3 + (am_i 4)), .ref 1, .int (xs (am_ix (z3 + (am_i 3)))), .int (xs (am_ix (z3 + (am_i 2)))), .int (xs (am_ix (z3 + (am_i 1)))), .ref 3]) rfl ?_
  obtain ⟨hb4, hm⟩ := am_gE hm
  refine ms_sald (am_fd ck_L_c7 (pc := 513) rfl) hN hX hb4 ?_
  obtain ⟨q5, hq5, hm⟩ := am_bE hm
  refine ms_callV (M2 := mt_X8_limit) (d2 := 3) (ci := 6) [.int (xs (am_ix (z3 + (am_i 1)))), .int (xs (am_ix (z3 + (am_i 2)))), .int (xs (am_ix (z3 + (am_i 3)))), .int (xs (am_ix (z3 + (am_i 4))))] (am_fd ck_L_c7 (pc := 514) rfl) ok_X8_limit tw_492 tw_493 tw_494 (by decide) kc_3 (Nat.le_of_ble_eq_true rfl) (Nat.le_of_ble_eq_true rfl) (x_X8_limit hL hq5) ?_
  refine am_steps ck_L_c7 5 (pc' := 522) (lv' := [(0, .ref 1), (1, .ref 3), (2, .ref 3261), (3, .int z3)]) (st' := [.int (z3 + (am_i 1)), .ref 1, .ref 3261, .int q5.1]) rfl ?_
  obtain ⟨hb6, hm⟩ := am_gE hm
  refine ms_sald (am_fd ck_L_c7 (pc := 522) rfl) hN hX hb6 ?_
  refine am_steps ck_L_c7 4 (pc' := 527) (lv' := [(0, .ref 1), (1, .ref 3), (2, .ref 3261), (3, .int z3)]) (st' := [.int (z3 + (am_i 2)), .ref 1, .int (xs (am_ix (z3 + (am_i 1)))), .ref 3261, .int q5.1]) rfl ?_
  obtain ⟨hb7, hm⟩ := am_gE hm
  refine ms_sald (am_fd ck_L_c7 (pc := 527) rfl) hN hX hb7 ?_
  refine am_steps ck_L_c7 4 (pc' := 532) (lv' := [(0, .ref 1), (1, .ref 3), (2, .ref 3261), (3, .int z3)]) (st' := [.int (z3 + (am_i 3)), .ref 1, .int (xs (am_ix (z3 + (am_i 2)))), .int (xs (am_ix (z3 + (am_i 1)))), .ref 3261, .int q5.1]) rfl ?_
  obtain ⟨hb8, hm⟩ := am_gE hm
  refine ms_sald (am_fd ck_L_c7 (pc := 532) rfl) hN hX hb8 ?_
  refine am_steps ck_L_c7 4 (pc' := 537) (lv' := [(0, .ref 1), (1, .ref 3), (2, .ref 3261), (3, .int z3)]) (st' := [.int (z3 + (am_i 4)), .ref 1, .int (xs (am_ix (z3 + (am_i 3)))), .int (xs (am_ix (z3 + (am_i 2)))), .int (xs (am_ix (z3 + (am_i 1)))), .ref 3261, .int q5.1]) rfl ?_
  obtain ⟨hb9, hm⟩ := am_gE hm
  refine ms_sald (am_fd ck_L_c7 (pc := 537) rfl) hN hX hb9 ?_
  obtain ⟨q10, hq10, hm⟩ := am_bE hm
  refine ms_callV (M2 := mt_X9_limit) (d2 := 3) (ci := 7) [.int (xs (am_ix (z3 + (am_i 1)))), .int (xs (am_ix (z3 + (am_i 2)))), .int (xs (am_ix (z3 + (am_i 3)))), .int (xs (am_ix (z3 + (am_i 4))))] (am_fd ck_L_c7 (pc := 538) rfl) ok_X9_limit tw_1084 tw_1085 tw_1086 (by decide) kc_3261 (Nat.le_of_ble_eq_true rfl) (Nat.le_of_ble_eq_true rfl) (x_X9_limit hL hq10) ?_
  obtain ⟨hb11, hm⟩ := am_gE hm
  refine am_icmp (tgt := 1923) (am_fd ck_L_c7 (pc := 541) rfl) rfl (fun _ => ?_) (fun q => absurd (of_decide_eq_true hb11) q)
  refine am_subp [0, 1, 2, 3] rfl ?_
  cases hm
  exact K hL
set_option maxRecDepth 100000 in
set_option maxHeartbeats 4000000 in
theorem x_L_c8 {G : am_G} {N : Nat} {xs : Nat → Int32} {z3 : Int32} {m : am_m} {r : am_rr} {rv : Option Value} {h' : am_H} {p : am_m × am_rr} (hN : am_n G = N) (hX : am_xs G = xs) (hL : am_Lay r) (hm : m_L_c8 N xs z3 m r = some p) (K : am_Lay p.2 → am_W G mt_L_law 28 rv h' 1923 [(0, .ref 1), (1, .ref 3), (2, .ref 3261), (3, .int z3)] [] (am_hh p.1 p.2)) : am_W G mt_L_law 28 rv h' 546 [(0, .ref 1), (1, .ref 3), (2, .ref 3261), (3, .int z3)] [] (am_hh m r) := by
  unfold m_L_c8 at hm
  refine am_steps ck_L_c8 5 (pc' := 551) (lv' := [(0, .ref 1), (1, .ref 3), (2, .ref 3261), (3, .int z3)]) (st' := [.int (z3 + (am_i 1)), .ref 1, .ref 3]) rfl ?_
  obtain ⟨hb1, hm⟩ := am_gE hm
  refine ms_sald (am_fd ck_L_c8 (pc := 551) rfl) hN hX hb1 ?_
  refine am_steps ck_L_c8 4 (pc' := 556) (lv' := [(0, .ref 1), (1, .ref 3), (2, .ref 3261), (3, .int z3)]) (st' := [.int (z3 + (am_i 2)), .ref 1, .int (xs (am_ix (z3 + (am_i 1)))), .ref 3]) rfl ?_
  obtain ⟨hb2, hm⟩ := am_gE hm
  refine ms_sald (am_fd ck_L_c8 (pc := 556) rfl) hN hX hb2 ?_
  obtain ⟨q3, hq3, hm⟩ := am_bE hm
  refine ms_callV (M2 := mt_X8_broken) (d2 := 4) (ci := 6) [.int (xs (am_ix (z3 + (am_i 1)))), .int (xs (am_ix (z3 + (am_i 2))))] (am_fd ck_L_c8 (pc := 557) rfl) ok_X8_broken tw_509 tw_510 tw_511 (by decide) kc_3 (Nat.le_of_ble_eq_true rfl) (Nat.le_of_ble_eq_true rfl) (x_X8_broken hL hq3) ?_
  refine am_steps ck_L_c8 5 (pc' := 565) (lv' := [(0, .ref 1), (1, .ref 3), (2, .ref 3261), (3, .int z3)]) (st' := [.int (z3 + (am_i 1)), .ref 1, .ref 3261, .int q3]) rfl ?_
  obtain ⟨hb4, hm⟩ := am_gE hm
  refine ms_sald (am_fd ck_L_c8 (pc := 565) rfl) hN hX hb4 ?_
  refine am_steps ck_L_c8 4 (pc' := 570) (lv' := [(0, .ref 1), (1, .ref 3), (2, .ref 3261), (3, .int z3)]) (st' := [.int (z3 + (am_i 2)), .ref 1, .int (xs (am_ix (z3 + (am_i 1)))), .ref 3261, .int q3]) rfl ?_
  obtain ⟨hb5, hm⟩ := am_gE hm
  refine ms_sald (am_fd ck_L_c8 (pc := 570) rfl) hN hX hb5 ?_
  obtain ⟨q6, hq6, hm⟩ := am_bE hm
  refine ms_callV (M2 := mt_X9_broken) (d2 := 4) (ci := 7) [.int (xs (am_ix (z3 + (am_i 1)))), .int (xs (am_ix (z3 + (am_i 2))))] (am_fd ck_L_c8 (pc := 571) rfl) ok_X9_broken tw_1089 tw_1090 tw_1091 (by decide) kc_3261 (Nat.le_of_ble_eq_true rfl) (Nat.le_of_ble_eq_true rfl) (x_X9_broken hL hq6) ?_
  obtain ⟨hb7, hm⟩ := am_gE hm
  refine am_icmp (tgt := 1923) (am_fd ck_L_c8 (pc := 574) rfl) rfl (fun _ => ?_) (fun q => absurd (of_decide_eq_true hb7) q)
  refine am_subp [0, 1, 2, 3] rfl ?_
  cases hm
  exact K hL
set_option maxRecDepth 100000 in
set_option maxHeartbeats 4000000 in
theorem x_L_c9 {G : am_G} {N : Nat} {xs : Nat → Int32} {z3 : Int32} {m : am_m} {r : am_rr} {rv : Option Value} {h' : am_H} {p : am_m × am_rr} (hN : am_n G = N) (hX : am_xs G = xs) (hL : am_Lay r) (hm : m_L_c9 N xs z3 m r = some p) (K : am_Lay p.2 → am_W G mt_L_law 28 rv h' 1923 [(0, .ref 1), (1, .ref 3), (2, .ref 3261), (3, .int z3)] [] (am_hh p.1 p.2)) : am_W G mt_L_law 28 rv h' 579 [(0, .ref 1), (1, .ref 3), (2, .ref 3261), (3, .int z3)] [] (am_hh m r) := by
  unfold m_L_c9 at hm
  refine am_steps ck_L_c9 5 (pc' := 584) (lv' := [(0, .ref 1), (1, .ref 3), (2, .ref 3261), (3, .int z3)]) (st' := [.int (z3 + (am_i 1)), .ref 1, .ref 3]) rfl ?_
  obtain ⟨hb1, hm⟩ := am_gE hm
  refine ms_sald (am_fd ck_L_c9 (pc := 584) rfl) hN hX hb1 ?_
  obtain ⟨q2, hq2, hm⟩ := am_bE hm
  refine ms_callV (M2 := mt_X8_state) (d2 := 1) (ci := 6) [.int (xs (am_ix (z3 + (am_i 1))))] (am_fd ck_L_c9 (pc := 585) rfl) ok_X8_state tw_525 tw_526 tw_527 (by decide) kc_3 (Nat.le_of_ble_eq_true rfl) (Nat.le_of_ble_eq_true rfl) (x_X8_state hL hq2) ?_
  refine am_steps ck_L_c9 5 (pc' := 593) (lv' := [(0, .ref 1), (1, .ref 3), (2, .ref 3261), (3, .int z3)]) (st' := [.int (z3 + (am_i 1)), .ref 1, .ref 3261, .int q2.1]) rfl ?_
  obtain ⟨hb3, hm⟩ := am_gE hm
  refine ms_sald (am_fd ck_L_c9 (pc := 593) rfl) hN hX hb3 ?_
  obtain ⟨q4, hq4, hm⟩ := am_bE hm
  refine ms_callV (M2 := mt_X9_state) (d2 := 1) (ci := 7) [.int (xs (am_ix (z3 + (am_i 1))))] (am_fd ck_L_c9 (pc := 594) rfl) ok_X9_state tw_1097 tw_1098 tw_1099 (by decide) kc_3261 (Nat.le_of_ble_eq_true rfl) (Nat.le_of_ble_eq_true rfl) (x_X9_state hL hq4) ?_
  obtain ⟨hb5, hm⟩ := am_gE hm
  refine am_icmp (tgt := 1923) (am_fd ck_L_c9 (pc := 597) rfl) rfl (fun _ => ?_) (fun q => absurd (of_decide_eq_true hb5) q)
  refine am_subp [0, 1, 2, 3] rfl ?_
  cases hm
  exact K hL
set_option maxRecDepth 100000 in
set_option maxHeartbeats 4000000 in
theorem x_L_c10 {G : am_G} {N : Nat} {xs : Nat → Int32} {z3 : Int32} {m : am_m} {r : am_rr} {rv : Option Value} {h' : am_H} {p : am_m × am_rr} (hN : am_n G = N) (hX : am_xs G = xs) (hL : am_Lay r) (hm : m_L_c10 N xs z3 m r = some p) (K : am_Lay p.2 → am_W G mt_L_law 28 rv h' 1923 [(0, .ref 1), (1, .ref 3), (2, .ref 3261), (3, .int z3)] [] (am_hh p.1 p.2)) : am_W G mt_L_law 28 rv h' 602 [(0, .ref 1), (1, .ref 3), (2, .ref 3261), (3, .int z3)] [] (am_hh m r) := by
  unfold m_L_c10 at hm
  refine am_steps ck_L_c10 5 (pc' := 607) (lv' := [(0, .ref 1), (1, .ref 3), (2, .ref 3261), (3, .int z3)]) (st' := [.int (z3 + (am_i 1)), .ref 1, .ref 3]) rfl ?_
  obtain ⟨hb1, hm⟩ := am_gE hm
  refine ms_sald (am_fd ck_L_c10 (pc := 607) rfl) hN hX hb1 ?_
  refine am_steps ck_L_c10 4 (pc' := 612) (lv' := [(0, .ref 1), (1, .ref 3), (2, .ref 3261), (3, .int z3)]) (st' := [.int (z3 + (am_i 2)), .ref 1, .int (xs (am_ix (z3 + (am_i 1)))), .ref 3]) rfl ?_
  obtain ⟨hb2, hm⟩ := am_gE hm
  refine ms_sald (am_fd ck_L_c10 (pc := 612) rfl) hN hX hb2 ?_
  refine am_steps ck_L_c10 4 (pc' := 617) (lv' := [(0, .ref 1), (1, .ref 3), (2, .ref 3261), (3, .int z3)]) (st' := [.int (z3 + (am_i 3)), .ref 1, .int (xs (am_ix (z3 + (am_i 2)))), .int (xs (am_ix (z3 + (am_i 1)))), .ref 3]) rfl ?_
  obtain ⟨hb3, hm⟩ := am_gE hm
  refine ms_sald (am_fd ck_L_c10 (pc := 617) rfl) hN hX hb3 ?_
  refine am_steps ck_L_c10 4 (pc' := 622) (lv' := [(0, .ref 1), (1, .ref 3), (2, .ref 3261), (3, .int z3)]) (st' := [.int (z3 + (am_i 4)), .ref 1, .int (xs (am_ix (z3 + (am_i 3)))), .int (xs (am_ix (z3 + (am_i 2)))), .int (xs (am_ix (z3 + (am_i 1)))), .ref 3]) rfl ?_
  obtain ⟨hb4, hm⟩ := am_gE hm
  refine ms_sald (am_fd ck_L_c10 (pc := 622) rfl) hN hX hb4 ?_
  refine am_steps ck_L_c10 4 (pc' := 627) (lv' := [(0, .ref 1), (1, .ref 3), (2, .ref 3261), (3, .int z3)]) (st' := [.int (z3 + (am_i 5)), .ref 1, .int (xs (am_ix (z3 + (am_i 4)))), .int (xs (am_ix (z3 + (am_i 3)))), .int (xs (am_ix (z3 + (am_i 2)))), .int (xs (am_ix (z3 + (am_i 1)))), .ref 3]) rfl ?_
  obtain ⟨hb5, hm⟩ := am_gE hm
  refine ms_sald (am_fd ck_L_c10 (pc := 627) rfl) hN hX hb5 ?_
  obtain ⟨q6, hq6, hm⟩ := am_bE hm
  refine ms_callV (M2 := mt_X8_feed) (d2 := 2) (ci := 6) [.int (xs (am_ix (z3 + (am_i 1)))), .int (xs (am_ix (z3 + (am_i 2)))), .int (xs (am_ix (z3 + (am_i 3)))), .int (xs (am_ix (z3 + (am_i 4)))), .int (xs (am_ix (z3 + (am_i 5))))] (am_fd ck_L_c10 (pc := 628) rfl) ok_X8_feed tw_529 tw_530 tw_531 (by decide) kc_3 (Nat.le_of_ble_eq_true rfl) (Nat.le_of_ble_eq_true rfl) (x_X8_feed hL hq6) ?_
  refine am_steps ck_L_c10 5 (pc' := 636) (lv' := [(0, .ref 1), (1, .ref 3), (2, .ref 3261), (3, .int z3)]) (st' := [.int (z3 + (am_i 1)), .ref 1, .ref 3261, .int q6.1]) rfl ?_
  obtain ⟨hb7, hm⟩ := am_gE hm
  refine ms_sald (am_fd ck_L_c10 (pc := 636) rfl) hN hX hb7 ?_
  refine am_steps ck_L_c10 4 (pc' := 641) (lv' := [(0, .ref 1), (1, .ref 3), (2, .ref 3261), (3, .int z3)]) (st' := [.int (z3 + (am_i 2)), .ref 1, .int (xs (am_ix (z3 + (am_i 1)))), .ref 3261, .int q6.1]) rfl ?_
  obtain ⟨hb8, hm⟩ := am_gE hm
  refine ms_sald (am_fd ck_L_c10 (pc := 641) rfl) hN hX hb8 ?_
  refine am_steps ck_L_c10 4 (pc' := 646) (lv' := [(0, .ref 1), (1, .ref 3), (2, .ref 3261), (3, .int z3)]) (st' := [.int (z3 + (am_i 3)), .ref 1, .int (xs (am_ix (z3 + (am_i 2)))), .int (xs (am_ix (z3 + (am_i 1)))), .ref 3261, .int q6.1]) rfl ?_
  obtain ⟨hb9, hm⟩ := am_gE hm
  refine ms_sald (am_fd ck_L_c10 (pc := 646) rfl) hN hX hb9 ?_
  refine am_steps ck_L_c10 4 (pc' := 651) (lv' := [(0, .ref 1), (1, .ref 3), (2, .ref 3261), (3, .int z3)]) (st' := [.int (z3 + (am_i 4)), .ref 1, .int (xs (am_ix (z3 + (am_i 3)))), .int (xs (am_ix (z3 + (am_i 2)))), .int (xs (am_ix (z3 + (am_i 1)))), .ref 3261, .int q6.1]) rfl ?_
  obtain ⟨hb10, hm⟩ := am_gE hm
  refine ms_sald (am_fd ck_L_c10 (pc := 651) rfl) hN hX hb10 ?_
  refine am_steps ck_L_c10 4 (pc' := 656) (lv' := [(0, .ref 1), (1, .ref 3), (2, .ref 3261), (3, .int z3)]) (st' := [.int (z3 + (am_i 5)), .ref 1, .int (xs (am_ix (z3 + (am_i 4)))), .int (xs (am_ix (z3 + (am_i 3)))), .int (xs (am_ix (z3 + (am_i 2)))), .int (xs (am_ix (z3 + (am_i 1)))), .ref 3261, .int q6.1]) rfl ?_
  obtain ⟨hb11, hm⟩ := am_gE hm
  refine ms_sald (am_fd ck_L_c10 (pc := 656) rfl) hN hX hb11 ?_
  obtain ⟨q12, hq12, hm⟩ := am_bE hm
  refine ms_callV (M2 := mt_X9_feed) (d2 := 2) (ci := 7) [.int (xs (am_ix (z3 + (am_i 1)))), .int (xs (am_ix (z3 + (am_i 2)))), .int (xs (am_ix (z3 + (am_i 3)))), .int (xs (am_ix (z3 + (am_i 4)))), .int (xs (am_ix (z3 + (am_i 5))))] (am_fd ck_L_c10 (pc := 657) rfl) ok_X9_feed tw_1101 tw_1102 tw_1103 (by decide) kc_3261 (Nat.le_of_ble_eq_true rfl) (Nat.le_of_ble_eq_true rfl) (x_X9_feed hL hq12) ?_
  obtain ⟨hb13, hm⟩ := am_gE hm
  refine am_icmp (tgt := 1923) (am_fd ck_L_c10 (pc := 660) rfl) rfl (fun _ => ?_) (fun q => absurd (of_decide_eq_true hb13) q)
  refine am_subp [0, 1, 2, 3] rfl ?_
  cases hm
  exact K hL
set_option maxRecDepth 100000 in
set_option maxHeartbeats 4000000 in
theorem x_L_c11 {G : am_G} {N : Nat} {xs : Nat → Int32} {z3 : Int32} {m : am_m} {r : am_rr} {rv : Option Value} {h' : am_H} {p : am_m × am_rr} (hN : am_n G = N) (hX : am_xs G = xs) (hL : am_Lay r) (hm : m_L_c11 N xs z3 m r = some p) (K : am_Lay p.2 → am_W G mt_L_law 28 rv h' 1923 [(0, .ref 1), (1, .ref 3), (2, .ref 3261), (3, .int z3)] [] (am_hh p.1 p.2)) : am_W G mt_L_law 28 rv h' 665 [(0, .ref 1), (1, .ref 3), (2, .ref 3261), (3, .int z3)] [] (am_hh m r) := by
  unfold m_L_c11 at hm
  refine am_steps ck_L_c11 5 (pc' := 670) (lv' := [(0, .ref 1), (1, .ref 3), (2, .ref 3261), (3, .int z3)]) (st' := [.int (z3 + (am_i 1)), .ref 1, .ref 3]) rfl ?_
  obtain ⟨hb1, hm⟩ := am_gE hm
  refine ms_sald (am_fd ck_L_c11 (pc := 670) rfl) hN hX hb1 ?_
  obtain ⟨q2, hq2, hm⟩ := am_bE hm
  refine ms_callV (M2 := mt_X8_end) (d2 := 2) (ci := 6) [.int (xs (am_ix (z3 + (am_i 1))))] (am_fd ck_L_c11 (pc := 671) rfl) ok_X8_end tw_541 tw_542 tw_543 (by decide) kc_3 (Nat.le_of_ble_eq_true rfl) (Nat.le_of_ble_eq_true rfl) (x_X8_end hL hq2) ?_
  refine am_steps ck_L_c11 5 (pc' := 679) (lv' := [(0, .ref 1), (1, .ref 3), (2, .ref 3261), (3, .int z3)]) (st' := [.int (z3 + (am_i 1)), .ref 1, .ref 3261, .int q2.1]) rfl ?_
  obtain ⟨hb3, hm⟩ := am_gE hm
  refine ms_sald (am_fd ck_L_c11 (pc := 679) rfl) hN hX hb3 ?_
  obtain ⟨q4, hq4, hm⟩ := am_bE hm
  refine ms_callV (M2 := mt_X9_end) (d2 := 2) (ci := 7) [.int (xs (am_ix (z3 + (am_i 1))))] (am_fd ck_L_c11 (pc := 680) rfl) ok_X9_end tw_1109 tw_1110 tw_1111 (by decide) kc_3261 (Nat.le_of_ble_eq_true rfl) (Nat.le_of_ble_eq_true rfl) (x_X9_end hL hq4) ?_
  obtain ⟨hb5, hm⟩ := am_gE hm
  refine am_icmp (tgt := 1923) (am_fd ck_L_c11 (pc := 683) rfl) rfl (fun _ => ?_) (fun q => absurd (of_decide_eq_true hb5) q)
  refine am_subp [0, 1, 2, 3] rfl ?_
  cases hm
  exact K hL
set_option maxRecDepth 100000 in
set_option maxHeartbeats 4000000 in
theorem x_L_c12 {G : am_G} {N : Nat} {xs : Nat → Int32} {z3 : Int32} {m : am_m} {r : am_rr} {rv : Option Value} {h' : am_H} {p : am_m × am_rr} (hN : am_n G = N) (hX : am_xs G = xs) (hL : am_Lay r) (hm : m_L_c12 N xs z3 m r = some p) (K : am_Lay p.2 → am_W G mt_L_law 28 rv h' 1923 [(0, .ref 1), (1, .ref 3), (2, .ref 3261), (3, .int z3)] [] (am_hh p.1 p.2)) : am_W G mt_L_law 28 rv h' 688 [(0, .ref 1), (1, .ref 3), (2, .ref 3261), (3, .int z3)] [] (am_hh m r) := by
  unfold m_L_c12 at hm
  refine am_steps ck_L_c12 1 (pc' := 689) (lv' := [(0, .ref 1), (1, .ref 3), (2, .ref 3261), (3, .int z3)]) (st' := [.ref 3]) rfl ?_
  obtain ⟨q1, hq1, hm⟩ := am_bE hm
  refine ms_callV (M2 := mt_X8_text) (d2 := 7) (ci := 6) [] (am_fd ck_L_c12 (pc := 689) rfl) ok_X8_text tw_410 tw_411 tw_412 (by decide) kc_3 (Nat.le_of_ble_eq_true rfl) (Nat.le_of_ble_eq_true rfl) (x_X8_text hL hq1) ?_
  refine am_steps ck_L_c12 1 (pc' := 693) (lv' := [(0, .ref 1), (1, .ref 3), (2, .ref 3261), (3, .int z3)]) (st' := [.ref 3261, .int q1.1]) rfl ?_
  obtain ⟨q2, hq2, hm⟩ := am_bE hm
  refine ms_callV (M2 := mt_X9_text) (d2 := 26) (ci := 7) [] (am_fd ck_L_c12 (pc := 693) rfl) ok_X9_text tw_1117 tw_1118 tw_1119 (by decide) kc_3261 (Nat.le_of_ble_eq_true rfl) (Nat.le_of_ble_eq_true rfl) (x_X9_text hL hq2) ?_
  obtain ⟨hb3, hm⟩ := am_gE hm
  refine am_icmp (tgt := 1923) (am_fd ck_L_c12 (pc := 696) rfl) rfl (fun _ => ?_) (fun q => absurd (of_decide_eq_true hb3) q)
  refine am_subp [0, 1, 2, 3] rfl ?_
  cases hm
  exact K hL
set_option maxRecDepth 100000 in
set_option maxHeartbeats 4000000 in
theorem x_L_c13 {G : am_G} {N : Nat} {xs : Nat → Int32} {z3 : Int32} {m : am_m} {r : am_rr} {rv : Option Value} {h' : am_H} {p : am_m × am_rr} (hN : am_n G = N) (hX : am_xs G = xs) (hL : am_Lay r) (hm : m_L_c13 N xs z3 m r = some p) (K : am_Lay p.2 → am_W G mt_L_law 28 rv h' 1923 [(0, .ref 1), (1, .ref 3), (2, .ref 3261), (3, .int z3)] [] (am_hh p.1 p.2)) : am_W G mt_L_law 28 rv h' 701 [(0, .ref 1), (1, .ref 3), (2, .ref 3261), (3, .int z3)] [] (am_hh m r) := by
  unfold m_L_c13 at hm
  refine am_steps ck_L_c13 5 (pc' := 706) (lv' := [(0, .ref 1), (1, .ref 3), (2, .ref 3261), (3, .int z3)]) (st' := [.int (z3 + (am_i 1)), .ref 1, .ref 3]) rfl ?_
  obtain ⟨hb1, hm⟩ := am_gE hm
  refine ms_sald (am_fd ck_L_c13 (pc := 706) rfl) hN hX hb1 ?_
  obtain ⟨q2, hq2, hm⟩ := am_bE hm
  refine ms_callV (M2 := mt_X8_fault) (d2 := 1) (ci := 6) [.int (xs (am_ix (z3 + (am_i 1))))] (am_fd ck_L_c13 (pc := 707) rfl) ok_X8_fault tw_549 tw_550 tw_551 (by decide) kc_3 (Nat.le_of_ble_eq_true rfl) (Nat.le_of_ble_eq_true rfl) (x_X8_fault hL hq2) ?_
  refine am_steps ck_L_c13 5 (pc' := 715) (lv' := [(0, .ref 1), (1, .ref 3), (2, .ref 3261), (3, .int z3)]) (st' := [.int (z3 + (am_i 1)), .ref 1, .ref 3261, .int q2]) rfl ?_
  obtain ⟨hb3, hm⟩ := am_gE hm
  refine ms_sald (am_fd ck_L_c13 (pc := 715) rfl) hN hX hb3 ?_
  obtain ⟨q4, hq4, hm⟩ := am_bE hm
  refine ms_callV (M2 := mt_X9_fault) (d2 := 1) (ci := 7) [.int (xs (am_ix (z3 + (am_i 1))))] (am_fd ck_L_c13 (pc := 716) rfl) ok_X9_fault tw_1113 tw_1114 tw_1115 (by decide) kc_3261 (Nat.le_of_ble_eq_true rfl) (Nat.le_of_ble_eq_true rfl) (x_X9_fault hL hq4) ?_
  obtain ⟨hb5, hm⟩ := am_gE hm
  refine am_icmp (tgt := 1923) (am_fd ck_L_c13 (pc := 719) rfl) rfl (fun _ => ?_) (fun q => absurd (of_decide_eq_true hb5) q)
  refine am_subp [0, 1, 2, 3] rfl ?_
  cases hm
  exact K hL
set_option maxRecDepth 100000 in
set_option maxHeartbeats 4000000 in
theorem x_L_c14 {G : am_G} {N : Nat} {xs : Nat → Int32} {z3 : Int32} {m : am_m} {r : am_rr} {rv : Option Value} {h' : am_H} {p : am_m × am_rr} (hN : am_n G = N) (hX : am_xs G = xs) (hL : am_Lay r) (hm : m_L_c14 N xs z3 m r = some p) (K : am_Lay p.2 → am_W G mt_L_law 28 rv h' 1923 [(0, .ref 1), (1, .ref 3), (2, .ref 3261), (3, .int z3)] [] (am_hh p.1 p.2)) : am_W G mt_L_law 28 rv h' 724 [(0, .ref 1), (1, .ref 3), (2, .ref 3261), (3, .int z3)] [] (am_hh m r) := by
  unfold m_L_c14 at hm
  refine am_steps ck_L_c14 1 (pc' := 725) (lv' := [(0, .ref 1), (1, .ref 3), (2, .ref 3261), (3, .int z3)]) (st' := [.ref 3]) rfl ?_
  obtain ⟨q1, hq1, hm⟩ := am_bE hm
  refine ms_callV (M2 := mt_X8_undo) (d2 := 4) (ci := 6) [] (am_fd ck_L_c14 (pc := 725) rfl) ok_X8_undo tw_484 tw_485 tw_486 (by decide) kc_3 (Nat.le_of_ble_eq_true rfl) (Nat.le_of_ble_eq_true rfl) (x_X8_undo hL hq1) ?_
  refine am_steps ck_L_c14 1 (pc' := 729) (lv' := [(0, .ref 1), (1, .ref 3), (2, .ref 3261), (3, .int z3)]) (st' := [.ref 3261, .int q1.1]) rfl ?_
  obtain ⟨q2, hq2, hm⟩ := am_bE hm
  refine ms_callV (M2 := mt_X9_undo) (d2 := 2) (ci := 7) [] (am_fd ck_L_c14 (pc := 729) rfl) ok_X9_undo tw_937 tw_938 tw_939 (by decide) kc_3261 (Nat.le_of_ble_eq_true rfl) (Nat.le_of_ble_eq_true rfl) (x_X9_undo hL hq2) ?_
  obtain ⟨hb3, hm⟩ := am_gE hm
  refine am_icmp (tgt := 1923) (am_fd ck_L_c14 (pc := 732) rfl) rfl (fun _ => ?_) (fun q => absurd (of_decide_eq_true hb3) q)
  refine am_subp [0, 1, 2, 3] rfl ?_
  cases hm
  exact K hL
set_option maxRecDepth 100000 in
set_option maxHeartbeats 4000000 in
theorem x_L_c15 {G : am_G} {N : Nat} {xs : Nat → Int32} {z3 : Int32} {m : am_m} {r : am_rr} {rv : Option Value} {h' : am_H} {p : am_m × am_rr} (hN : am_n G = N) (hX : am_xs G = xs) (hL : am_Lay r) (hm : m_L_c15 N xs z3 m r = some p) (K : am_Lay p.2 → am_W G mt_L_law 28 rv h' 1923 [(0, .ref 1), (1, .ref 3), (2, .ref 3261), (3, .int z3)] [] (am_hh p.1 p.2)) : am_W G mt_L_law 28 rv h' 737 [(0, .ref 1), (1, .ref 3), (2, .ref 3261), (3, .int z3)] [] (am_hh m r) := by
  unfold m_L_c15 at hm
  refine am_steps ck_L_c15 5 (pc' := 742) (lv' := [(0, .ref 1), (1, .ref 3), (2, .ref 3261), (3, .int z3)]) (st' := [.int (z3 + (am_i 1)), .ref 1, .ref 3]) rfl ?_
  obtain ⟨hb1, hm⟩ := am_gE hm
  refine ms_sald (am_fd ck_L_c15 (pc := 742) rfl) hN hX hb1 ?_
  refine am_steps ck_L_c15 4 (pc' := 747) (lv' := [(0, .ref 1), (1, .ref 3), (2, .ref 3261), (3, .int z3)]) (st' := [.int (z3 + (am_i 2)), .ref 1, .int (xs (am_ix (z3 + (am_i 1)))), .ref 3]) rfl ?_
  obtain ⟨hb2, hm⟩ := am_gE hm
  refine ms_sald (am_fd ck_L_c15 (pc := 747) rfl) hN hX hb2 ?_
  obtain ⟨q3, hq3, hm⟩ := am_bE hm
  refine ms_callV (M2 := mt_X8_unit) (d2 := 6) (ci := 6) [.int (xs (am_ix (z3 + (am_i 1)))), .int (xs (am_ix (z3 + (am_i 2))))] (am_fd ck_L_c15 (pc := 748) rfl) ok_X8_unit tw_566 tw_567 tw_568 (by decide) kc_3 (Nat.le_of_ble_eq_true rfl) (Nat.le_of_ble_eq_true rfl) (x_X8_unit hL hq3) ?_
  refine am_steps ck_L_c15 5 (pc' := 756) (lv' := [(0, .ref 1), (1, .ref 3), (2, .ref 3261), (3, .int z3)]) (st' := [.int (z3 + (am_i 1)), .ref 1, .ref 3261, .int q3.1]) rfl ?_
  obtain ⟨hb4, hm⟩ := am_gE hm
  refine ms_sald (am_fd ck_L_c15 (pc := 756) rfl) hN hX hb4 ?_
  refine am_steps ck_L_c15 4 (pc' := 761) (lv' := [(0, .ref 1), (1, .ref 3), (2, .ref 3261), (3, .int z3)]) (st' := [.int (z3 + (am_i 2)), .ref 1, .int (xs (am_ix (z3 + (am_i 1)))), .ref 3261, .int q3.1]) rfl ?_
  obtain ⟨hb5, hm⟩ := am_gE hm
  refine ms_sald (am_fd ck_L_c15 (pc := 761) rfl) hN hX hb5 ?_
  obtain ⟨q6, hq6, hm⟩ := am_bE hm
  refine ms_callV (M2 := mt_X9_unit) (d2 := 5) (ci := 7) [.int (xs (am_ix (z3 + (am_i 1)))), .int (xs (am_ix (z3 + (am_i 2))))] (am_fd ck_L_c15 (pc := 762) rfl) ok_X9_unit tw_1161 tw_1162 tw_1163 (by decide) kc_3261 (Nat.le_of_ble_eq_true rfl) (Nat.le_of_ble_eq_true rfl) (x_X9_unit hL hq6) ?_
  obtain ⟨hb7, hm⟩ := am_gE hm
  refine am_icmp (tgt := 1923) (am_fd ck_L_c15 (pc := 765) rfl) rfl (fun _ => ?_) (fun q => absurd (of_decide_eq_true hb7) q)
  refine am_subp [0, 1, 2, 3] rfl ?_
  cases hm
  exact K hL
set_option maxRecDepth 100000 in
set_option maxHeartbeats 4000000 in
theorem x_L_c16 {G : am_G} {N : Nat} {xs : Nat → Int32} {z3 : Int32} {m : am_m} {r : am_rr} {rv : Option Value} {h' : am_H} {p : am_m × am_rr} (hN : am_n G = N) (hX : am_xs G = xs) (hL : am_Lay r) (hm : m_L_c16 N xs z3 m r = some p) (K : am_Lay p.2 → am_W G mt_L_law 28 rv h' 1923 [(0, .ref 1), (1, .ref 3), (2, .ref 3261), (3, .int z3)] [] (am_hh p.1 p.2)) : am_W G mt_L_law 28 rv h' 770 [(0, .ref 1), (1, .ref 3), (2, .ref 3261), (3, .int z3)] [] (am_hh m r) := by
  unfold m_L_c16 at hm
  refine am_steps ck_L_c16 5 (pc' := 775) (lv' := [(0, .ref 1), (1, .ref 3), (2, .ref 3261), (3, .int z3)]) (st' := [.int (z3 + (am_i 1)), .ref 1, .ref 3]) rfl ?_
  obtain ⟨hb1, hm⟩ := am_gE hm
  refine ms_sald (am_fd ck_L_c16 (pc := 775) rfl) hN hX hb1 ?_
  refine am_steps ck_L_c16 4 (pc' := 780) (lv' := [(0, .ref 1), (1, .ref 3), (2, .ref 3261), (3, .int z3)]) (st' := [.int (z3 + (am_i 2)), .ref 1, .int (xs (am_ix (z3 + (am_i 1)))), .ref 3]) rfl ?_
  obtain ⟨hb2, hm⟩ := am_gE hm
  refine ms_sald (am_fd ck_L_c16 (pc := 780) rfl) hN hX hb2 ?_
  obtain ⟨q3, hq3, hm⟩ := am_bE hm
  refine ms_callV (M2 := mt_X8_below) (d2 := 3) (ci := 6) [.int (xs (am_ix (z3 + (am_i 1)))), .int (xs (am_ix (z3 + (am_i 2))))] (am_fd ck_L_c16 (pc := 781) rfl) ok_X8_below tw_591 tw_592 tw_593 (by decide) kc_3 (Nat.le_of_ble_eq_true rfl) (Nat.le_of_ble_eq_true rfl) (x_X8_below hL hq3) ?_
  refine am_steps ck_L_c16 5 (pc' := 789) (lv' := [(0, .ref 1), (1, .ref 3), (2, .ref 3261), (3, .int z3)]) (st' := [.int (z3 + (am_i 1)), .ref 1, .ref 3261, .int q3]) rfl ?_
  obtain ⟨hb4, hm⟩ := am_gE hm
  refine ms_sald (am_fd ck_L_c16 (pc := 789) rfl) hN hX hb4 ?_
  refine am_steps ck_L_c16 4 (pc' := 794) (lv' := [(0, .ref 1), (1, .ref 3), (2, .ref 3261), (3, .int z3)]) (st' := [.int (z3 + (am_i 2)), .ref 1, .int (xs (am_ix (z3 + (am_i 1)))), .ref 3261, .int q3]) rfl ?_
  obtain ⟨hb5, hm⟩ := am_gE hm
  refine ms_sald (am_fd ck_L_c16 (pc := 794) rfl) hN hX hb5 ?_
  obtain ⟨q6, hq6, hm⟩ := am_bE hm
  refine ms_callV (M2 := mt_X9_below) (d2 := 3) (ci := 7) [.int (xs (am_ix (z3 + (am_i 1)))), .int (xs (am_ix (z3 + (am_i 2))))] (am_fd ck_L_c16 (pc := 795) rfl) ok_X9_below tw_1177 tw_1178 tw_1179 (by decide) kc_3261 (Nat.le_of_ble_eq_true rfl) (Nat.le_of_ble_eq_true rfl) (x_X9_below hL hq6) ?_
  obtain ⟨hb7, hm⟩ := am_gE hm
  refine am_icmp (tgt := 1923) (am_fd ck_L_c16 (pc := 798) rfl) rfl (fun _ => ?_) (fun q => absurd (of_decide_eq_true hb7) q)
  refine am_subp [0, 1, 2, 3] rfl ?_
  cases hm
  exact K hL
set_option maxRecDepth 100000 in
set_option maxHeartbeats 4000000 in
theorem x_L_c17 {G : am_G} {N : Nat} {xs : Nat → Int32} {z3 : Int32} {m : am_m} {r : am_rr} {rv : Option Value} {h' : am_H} {p : am_m × am_rr} (hN : am_n G = N) (hX : am_xs G = xs) (hL : am_Lay r) (hm : m_L_c17 N xs z3 m r = some p) (K : am_Lay p.2 → am_W G mt_L_law 28 rv h' 1923 [(0, .ref 1), (1, .ref 3), (2, .ref 3261), (3, .int z3)] [] (am_hh p.1 p.2)) : am_W G mt_L_law 28 rv h' 803 [(0, .ref 1), (1, .ref 3), (2, .ref 3261), (3, .int z3)] [] (am_hh m r) := by
  unfold m_L_c17 at hm
  refine am_steps ck_L_c17 5 (pc' := 808) (lv' := [(0, .ref 1), (1, .ref 3), (2, .ref 3261), (3, .int z3)]) (st' := [.int (z3 + (am_i 1)), .ref 1, .ref 3]) rfl ?_
  obtain ⟨hb1, hm⟩ := am_gE hm
  refine ms_sald (am_fd ck_L_c17 (pc := 808) rfl) hN hX hb1 ?_
  refine am_steps ck_L_c17 4 (pc' := 813) (lv' := [(0, .ref 1), (1, .ref 3), (2, .ref 3261), (3, .int z3)]) (st' := [.int (z3 + (am_i 2)), .ref 1, .int (xs (am_ix (z3 + (am_i 1)))), .ref 3]) rfl ?_
  obtain ⟨hb2, hm⟩ := am_gE hm
  refine ms_sald (am_fd ck_L_c17 (pc := 813) rfl) hN hX hb2 ?_
  obtain ⟨q3, hq3, hm⟩ := am_bE hm
  refine ms_callV (M2 := mt_X8_above) (d2 := 3) (ci := 6) [.int (xs (am_ix (z3 + (am_i 1)))), .int (xs (am_ix (z3 + (am_i 2))))] (am_fd ck_L_c17 (pc := 814) rfl) ok_X8_above tw_599 tw_600 tw_601 (by decide) kc_3 (Nat.le_of_ble_eq_true rfl) (Nat.le_of_ble_eq_true rfl) (x_X8_above hL hq3) ?_
  refine am_steps ck_L_c17 5 (pc' := 822) (lv' := [(0, .ref 1), (1, .ref 3), (2, .ref 3261), (3, .int z3)]) (st' := [.int (z3 + (am_i 1)), .ref 1, .ref 3261, .int q3]) rfl ?_
  obtain ⟨hb4, hm⟩ := am_gE hm
  refine ms_sald (am_fd ck_L_c17 (pc := 822) rfl) hN hX hb4 ?_
  refine am_steps ck_L_c17 4 (pc' := 827) (lv' := [(0, .ref 1), (1, .ref 3), (2, .ref 3261), (3, .int z3)]) (st' := [.int (z3 + (am_i 2)), .ref 1, .int (xs (am_ix (z3 + (am_i 1)))), .ref 3261, .int q3]) rfl ?_
  obtain ⟨hb5, hm⟩ := am_gE hm
  refine ms_sald (am_fd ck_L_c17 (pc := 827) rfl) hN hX hb5 ?_
  obtain ⟨q6, hq6, hm⟩ := am_bE hm
  refine ms_callV (M2 := mt_X9_above) (d2 := 3) (ci := 7) [.int (xs (am_ix (z3 + (am_i 1)))), .int (xs (am_ix (z3 + (am_i 2))))] (am_fd ck_L_c17 (pc := 828) rfl) ok_X9_above tw_1181 tw_1182 tw_1183 (by decide) kc_3261 (Nat.le_of_ble_eq_true rfl) (Nat.le_of_ble_eq_true rfl) (x_X9_above hL hq6) ?_
  obtain ⟨hb7, hm⟩ := am_gE hm
  refine am_icmp (tgt := 1923) (am_fd ck_L_c17 (pc := 831) rfl) rfl (fun _ => ?_) (fun q => absurd (of_decide_eq_true hb7) q)
  refine am_subp [0, 1, 2, 3] rfl ?_
  cases hm
  exact K hL
set_option maxRecDepth 100000 in
set_option maxHeartbeats 4000000 in
theorem x_L_c18 {G : am_G} {N : Nat} {xs : Nat → Int32} {z3 : Int32} {m : am_m} {r : am_rr} {rv : Option Value} {h' : am_H} {p : am_m × am_rr} (hN : am_n G = N) (hX : am_xs G = xs) (hL : am_Lay r) (hm : m_L_c18 N xs z3 m r = some p) (K : am_Lay p.2 → am_W G mt_L_law 28 rv h' 1923 [(0, .ref 1), (1, .ref 3), (2, .ref 3261), (3, .int z3)] [] (am_hh p.1 p.2)) : am_W G mt_L_law 28 rv h' 836 [(0, .ref 1), (1, .ref 3), (2, .ref 3261), (3, .int z3)] [] (am_hh m r) := by
  unfold m_L_c18 at hm
  refine am_steps ck_L_c18 5 (pc' := 841) (lv' := [(0, .ref 1), (1, .ref 3), (2, .ref 3261), (3, .int z3)]) (st' := [.int (z3 + (am_i 1)), .ref 1, .ref 3]) rfl ?_
  obtain ⟨hb1, hm⟩ := am_gE hm
  refine ms_sald (am_fd ck_L_c18 (pc := 841) rfl) hN hX hb1 ?_
  refine am_steps ck_L_c18 4 (pc' := 846) (lv' := [(0, .ref 1), (1, .ref 3), (2, .ref 3261), (3, .int z3)]) (st' := [.int (z3 + (am_i 2)), .ref 1, .int (xs (am_ix (z3 + (am_i 1)))), .ref 3]) rfl ?_
  obtain ⟨hb2, hm⟩ := am_gE hm
  refine ms_sald (am_fd ck_L_c18 (pc := 846) rfl) hN hX hb2 ?_
  obtain ⟨q3, hq3, hm⟩ := am_bE hm
  refine ms_callV (M2 := mt_X8_both) (d2 := 5) (ci := 6) [.int (xs (am_ix (z3 + (am_i 1)))), .int (xs (am_ix (z3 + (am_i 2))))] (am_fd ck_L_c18 (pc := 847) rfl) ok_X8_both tw_603 tw_604 tw_605 (by decide) kc_3 (Nat.le_of_ble_eq_true rfl) (Nat.le_of_ble_eq_true rfl) (x_X8_both hL hq3) ?_
  refine am_steps ck_L_c18 5 (pc' := 855) (lv' := [(0, .ref 1), (1, .ref 3), (2, .ref 3261), (3, .int z3)]) (st' := [.int (z3 + (am_i 1)), .ref 1, .ref 3261, .int q3]) rfl ?_
  obtain ⟨hb4, hm⟩ := am_gE hm
  refine ms_sald (am_fd ck_L_c18 (pc := 855) rfl) hN hX hb4 ?_
  refine am_steps ck_L_c18 4 (pc' := 860) (lv' := [(0, .ref 1), (1, .ref 3), (2, .ref 3261), (3, .int z3)]) (st' := [.int (z3 + (am_i 2)), .ref 1, .int (xs (am_ix (z3 + (am_i 1)))), .ref 3261, .int q3]) rfl ?_
  obtain ⟨hb5, hm⟩ := am_gE hm
  refine ms_sald (am_fd ck_L_c18 (pc := 860) rfl) hN hX hb5 ?_
  obtain ⟨q6, hq6, hm⟩ := am_bE hm
  refine ms_callV (M2 := mt_X9_both) (d2 := 3) (ci := 7) [.int (xs (am_ix (z3 + (am_i 1)))), .int (xs (am_ix (z3 + (am_i 2))))] (am_fd ck_L_c18 (pc := 861) rfl) ok_X9_both tw_1185 tw_1186 tw_1187 (by decide) kc_3261 (Nat.le_of_ble_eq_true rfl) (Nat.le_of_ble_eq_true rfl) (x_X9_both hL hq6) ?_
  obtain ⟨hb7, hm⟩ := am_gE hm
  refine am_icmp (tgt := 1923) (am_fd ck_L_c18 (pc := 864) rfl) rfl (fun _ => ?_) (fun q => absurd (of_decide_eq_true hb7) q)
  refine am_subp [0, 1, 2, 3] rfl ?_
  cases hm
  exact K hL
set_option maxRecDepth 100000 in
set_option maxHeartbeats 4000000 in
theorem x_L_c19 {G : am_G} {N : Nat} {xs : Nat → Int32} {z3 : Int32} {m : am_m} {r : am_rr} {rv : Option Value} {h' : am_H} {p : am_m × am_rr} (hN : am_n G = N) (hX : am_xs G = xs) (hL : am_Lay r) (hm : m_L_c19 N xs z3 m r = some p) (K : am_Lay p.2 → am_W G mt_L_law 28 rv h' 1923 [(0, .ref 1), (1, .ref 3), (2, .ref 3261), (3, .int z3)] [] (am_hh p.1 p.2)) : am_W G mt_L_law 28 rv h' 869 [(0, .ref 1), (1, .ref 3), (2, .ref 3261), (3, .int z3)] [] (am_hh m r) := by
  unfold m_L_c19 at hm
  refine am_steps ck_L_c19 5 (pc' := 874) (lv' := [(0, .ref 1), (1, .ref 3), (2, .ref 3261), (3, .int z3)]) (st' := [.int (z3 + (am_i 1)), .ref 1, .ref 3]) rfl ?_
  obtain ⟨hb1, hm⟩ := am_gE hm
  refine ms_sald (am_fd ck_L_c19 (pc := 874) rfl) hN hX hb1 ?_
  refine am_steps ck_L_c19 4 (pc' := 879) (lv' := [(0, .ref 1), (1, .ref 3), (2, .ref 3261), (3, .int z3)]) (st' := [.int (z3 + (am_i 2)), .ref 1, .int (xs (am_ix (z3 + (am_i 1)))), .ref 3]) rfl ?_
  obtain ⟨hb2, hm⟩ := am_gE hm
  refine ms_sald (am_fd ck_L_c19 (pc := 879) rfl) hN hX hb2 ?_
  refine am_steps ck_L_c19 4 (pc' := 884) (lv' := [(0, .ref 1), (1, .ref 3), (2, .ref 3261), (3, .int z3)]) (st' := [.int (z3 + (am_i 3)), .ref 1, .int (xs (am_ix (z3 + (am_i 2)))), .int (xs (am_ix (z3 + (am_i 1)))), .ref 3]) rfl ?_
  obtain ⟨hb3, hm⟩ := am_gE hm
  refine ms_sald (am_fd ck_L_c19 (pc := 884) rfl) hN hX hb3 ?_
  obtain ⟨q4, hq4, hm⟩ := am_bE hm
  refine ms_callV (M2 := mt_X8_of) (d2 := 6) (ci := 6) [.int (xs (am_ix (z3 + (am_i 1)))), .int (xs (am_ix (z3 + (am_i 2)))), .int (xs (am_ix (z3 + (am_i 3))))] (am_fd ck_L_c19 (pc := 885) rfl) ok_X8_of tw_611 tw_612 tw_613 (by decide) kc_3 (Nat.le_of_ble_eq_true rfl) (Nat.le_of_ble_eq_true rfl) (x_X8_of hL hq4) ?_
  refine am_steps ck_L_c19 5 (pc' := 893) (lv' := [(0, .ref 1), (1, .ref 3), (2, .ref 3261), (3, .int z3)]) (st' := [.int (z3 + (am_i 1)), .ref 1, .ref 3261, .int q4.1]) rfl ?_
  obtain ⟨hb5, hm⟩ := am_gE hm
  refine ms_sald (am_fd ck_L_c19 (pc := 893) rfl) hN hX hb5 ?_
  refine am_steps ck_L_c19 4 (pc' := 898) (lv' := [(0, .ref 1), (1, .ref 3), (2, .ref 3261), (3, .int z3)]) (st' := [.int (z3 + (am_i 2)), .ref 1, .int (xs (am_ix (z3 + (am_i 1)))), .ref 3261, .int q4.1]) rfl ?_
  obtain ⟨hb6, hm⟩ := am_gE hm
  refine ms_sald (am_fd ck_L_c19 (pc := 898) rfl) hN hX hb6 ?_
  refine am_steps ck_L_c19 4 (pc' := 903) (lv' := [(0, .ref 1), (1, .ref 3), (2, .ref 3261), (3, .int z3)]) (st' := [.int (z3 + (am_i 3)), .ref 1, .int (xs (am_ix (z3 + (am_i 2)))), .int (xs (am_ix (z3 + (am_i 1)))), .ref 3261, .int q4.1]) rfl ?_
  obtain ⟨hb7, hm⟩ := am_gE hm
  refine ms_sald (am_fd ck_L_c19 (pc := 903) rfl) hN hX hb7 ?_
  obtain ⟨q8, hq8, hm⟩ := am_bE hm
  refine ms_callV (M2 := mt_X9_of) (d2 := 4) (ci := 7) [.int (xs (am_ix (z3 + (am_i 1)))), .int (xs (am_ix (z3 + (am_i 2)))), .int (xs (am_ix (z3 + (am_i 3))))] (am_fd ck_L_c19 (pc := 904) rfl) ok_X9_of tw_1189 tw_1190 tw_1191 (by decide) kc_3261 (Nat.le_of_ble_eq_true rfl) (Nat.le_of_ble_eq_true rfl) (x_X9_of hL hq8) ?_
  obtain ⟨hb9, hm⟩ := am_gE hm
  refine am_icmp (tgt := 1923) (am_fd ck_L_c19 (pc := 907) rfl) rfl (fun _ => ?_) (fun q => absurd (of_decide_eq_true hb9) q)
  refine am_subp [0, 1, 2, 3] rfl ?_
  cases hm
  exact K hL
set_option maxRecDepth 100000 in
set_option maxHeartbeats 4000000 in
theorem x_L_c20 {G : am_G} {N : Nat} {xs : Nat → Int32} {z3 : Int32} {m : am_m} {r : am_rr} {rv : Option Value} {h' : am_H} {p : am_m × am_rr} (hN : am_n G = N) (hX : am_xs G = xs) (hL : am_Lay r) (hm : m_L_c20 N xs z3 m r = some p) (K : am_Lay p.2 → am_W G mt_L_law 28 rv h' 1923 [(0, .ref 1), (1, .ref 3), (2, .ref 3261), (3, .int z3)] [] (am_hh p.1 p.2)) : am_W G mt_L_law 28 rv h' 912 [(0, .ref 1), (1, .ref 3), (2, .ref 3261), (3, .int z3)] [] (am_hh m r) := by
  unfold m_L_c20 at hm
  refine am_steps ck_L_c20 5 (pc' := 917) (lv' := [(0, .ref 1), (1, .ref 3), (2, .ref 3261), (3, .int z3)]) (st' := [.int (z3 + (am_i 1)), .ref 1, .ref 3]) rfl ?_
  obtain ⟨hb1, hm⟩ := am_gE hm
  refine ms_sald (am_fd ck_L_c20 (pc := 917) rfl) hN hX hb1 ?_
  refine am_steps ck_L_c20 4 (pc' := 922) (lv' := [(0, .ref 1), (1, .ref 3), (2, .ref 3261), (3, .int z3)]) (st' := [.int (z3 + (am_i 2)), .ref 1, .int (xs (am_ix (z3 + (am_i 1)))), .ref 3]) rfl ?_
  obtain ⟨hb2, hm⟩ := am_gE hm
  refine ms_sald (am_fd ck_L_c20 (pc := 922) rfl) hN hX hb2 ?_
  obtain ⟨q3, hq3, hm⟩ := am_bE hm
  refine ms_callV (M2 := mt_X8_ranked) (d2 := 2) (ci := 6) [.int (xs (am_ix (z3 + (am_i 1)))), .int (xs (am_ix (z3 + (am_i 2))))] (am_fd ck_L_c20 (pc := 923) rfl) ok_X8_ranked tw_627 tw_628 tw_629 (by decide) kc_3 (Nat.le_of_ble_eq_true rfl) (Nat.le_of_ble_eq_true rfl) (x_X8_ranked hL hq3) ?_
  refine am_steps ck_L_c20 5 (pc' := 931) (lv' := [(0, .ref 1), (1, .ref 3), (2, .ref 3261), (3, .int z3)]) (st' := [.int (z3 + (am_i 1)), .ref 1, .ref 3261, .int q3]) rfl ?_
  obtain ⟨hb4, hm⟩ := am_gE hm
  refine ms_sald (am_fd ck_L_c20 (pc := 931) rfl) hN hX hb4 ?_
  refine am_steps ck_L_c20 4 (pc' := 936) (lv' := [(0, .ref 1), (1, .ref 3), (2, .ref 3261), (3, .int z3)]) (st' := [.int (z3 + (am_i 2)), .ref 1, .int (xs (am_ix (z3 + (am_i 1)))), .ref 3261, .int q3]) rfl ?_
  obtain ⟨hb5, hm⟩ := am_gE hm
  refine ms_sald (am_fd ck_L_c20 (pc := 936) rfl) hN hX hb5 ?_
  obtain ⟨q6, hq6, hm⟩ := am_bE hm
  refine ms_callV (M2 := mt_X9_ranked) (d2 := 3) (ci := 7) [.int (xs (am_ix (z3 + (am_i 1)))), .int (xs (am_ix (z3 + (am_i 2))))] (am_fd ck_L_c20 (pc := 937) rfl) ok_X9_ranked tw_1193 tw_1194 tw_1195 (by decide) kc_3261 (Nat.le_of_ble_eq_true rfl) (Nat.le_of_ble_eq_true rfl) (x_X9_ranked hL hq6) ?_
  obtain ⟨hb7, hm⟩ := am_gE hm
  refine am_icmp (tgt := 1923) (am_fd ck_L_c20 (pc := 940) rfl) rfl (fun _ => ?_) (fun q => absurd (of_decide_eq_true hb7) q)
  refine am_subp [0, 1, 2, 3] rfl ?_
  cases hm
  exact K hL
set_option maxRecDepth 100000 in
set_option maxHeartbeats 4000000 in
theorem x_L_c21 {G : am_G} {N : Nat} {xs : Nat → Int32} {z3 : Int32} {m : am_m} {r : am_rr} {rv : Option Value} {h' : am_H} {p : am_m × am_rr} (hN : am_n G = N) (hX : am_xs G = xs) (hL : am_Lay r) (hm : m_L_c21 N xs z3 m r = some p) (K : am_Lay p.2 → am_W G mt_L_law 28 rv h' 1923 [(0, .ref 1), (1, .ref 3), (2, .ref 3261), (3, .int z3)] [] (am_hh p.1 p.2)) : am_W G mt_L_law 28 rv h' 945 [(0, .ref 1), (1, .ref 3), (2, .ref 3261), (3, .int z3)] [] (am_hh m r) := by
  unfold m_L_c21 at hm
  refine am_steps ck_L_c21 5 (pc' := 950) (lv' := [(0, .ref 1), (1, .ref 3), (2, .ref 3261), (3, .int z3)]) (st' := [.int (z3 + (am_i 1)), .ref 1, .ref 3]) rfl ?_
  obtain ⟨hb1, hm⟩ := am_gE hm
  refine ms_sald (am_fd ck_L_c21 (pc := 950) rfl) hN hX hb1 ?_
  refine am_steps ck_L_c21 4 (pc' := 955) (lv' := [(0, .ref 1), (1, .ref 3), (2, .ref 3261), (3, .int z3)]) (st' := [.int (z3 + (am_i 2)), .ref 1, .int (xs (am_ix (z3 + (am_i 1)))), .ref 3]) rfl ?_
  obtain ⟨hb2, hm⟩ := am_gE hm
  refine ms_sald (am_fd ck_L_c21 (pc := 955) rfl) hN hX hb2 ?_
  obtain ⟨q3, hq3, hm⟩ := am_bE hm
  refine ms_callV (M2 := mt_X8_less) (d2 := 2) (ci := 6) [.int (xs (am_ix (z3 + (am_i 1)))), .int (xs (am_ix (z3 + (am_i 2))))] (am_fd ck_L_c21 (pc := 956) rfl) ok_X8_less tw_634 tw_635 tw_636 (by decide) kc_3 (Nat.le_of_ble_eq_true rfl) (Nat.le_of_ble_eq_true rfl) (x_X8_less hL hq3) ?_
  refine am_steps ck_L_c21 5 (pc' := 964) (lv' := [(0, .ref 1), (1, .ref 3), (2, .ref 3261), (3, .int z3)]) (st' := [.int (z3 + (am_i 1)), .ref 1, .ref 3261, .int q3]) rfl ?_
  obtain ⟨hb4, hm⟩ := am_gE hm
  refine ms_sald (am_fd ck_L_c21 (pc := 964) rfl) hN hX hb4 ?_
  refine am_steps ck_L_c21 4 (pc' := 969) (lv' := [(0, .ref 1), (1, .ref 3), (2, .ref 3261), (3, .int z3)]) (st' := [.int (z3 + (am_i 2)), .ref 1, .int (xs (am_ix (z3 + (am_i 1)))), .ref 3261, .int q3]) rfl ?_
  obtain ⟨hb5, hm⟩ := am_gE hm
  refine ms_sald (am_fd ck_L_c21 (pc := 969) rfl) hN hX hb5 ?_
  obtain ⟨q6, hq6, hm⟩ := am_bE hm
  refine ms_callV (M2 := mt_X9_less) (d2 := 3) (ci := 7) [.int (xs (am_ix (z3 + (am_i 1)))), .int (xs (am_ix (z3 + (am_i 2))))] (am_fd ck_L_c21 (pc := 970) rfl) ok_X9_less tw_1201 tw_1202 tw_1203 (by decide) kc_3261 (Nat.le_of_ble_eq_true rfl) (Nat.le_of_ble_eq_true rfl) (x_X9_less hL hq6) ?_
  obtain ⟨hb7, hm⟩ := am_gE hm
  refine am_icmp (tgt := 1923) (am_fd ck_L_c21 (pc := 973) rfl) rfl (fun _ => ?_) (fun q => absurd (of_decide_eq_true hb7) q)
  refine am_subp [0, 1, 2, 3] rfl ?_
  cases hm
  exact K hL
set_option maxRecDepth 100000 in
set_option maxHeartbeats 4000000 in
theorem x_L_c22 {G : am_G} {N : Nat} {xs : Nat → Int32} {z3 : Int32} {m : am_m} {r : am_rr} {rv : Option Value} {h' : am_H} {p : am_m × am_rr} (hN : am_n G = N) (hX : am_xs G = xs) (hL : am_Lay r) (hm : m_L_c22 N xs z3 m r = some p) (K : am_Lay p.2 → am_W G mt_L_law 28 rv h' 1923 [(0, .ref 1), (1, .ref 3), (2, .ref 3261), (3, .int z3)] [] (am_hh p.1 p.2)) : am_W G mt_L_law 28 rv h' 978 [(0, .ref 1), (1, .ref 3), (2, .ref 3261), (3, .int z3)] [] (am_hh m r) := by
  unfold m_L_c22 at hm
  refine am_steps ck_L_c22 5 (pc' := 983) (lv' := [(0, .ref 1), (1, .ref 3), (2, .ref 3261), (3, .int z3)]) (st' := [.int (z3 + (am_i 1)), .ref 1, .ref 3]) rfl ?_
  obtain ⟨hb1, hm⟩ := am_gE hm
  refine ms_sald (am_fd ck_L_c22 (pc := 983) rfl) hN hX hb1 ?_
  refine am_steps ck_L_c22 4 (pc' := 988) (lv' := [(0, .ref 1), (1, .ref 3), (2, .ref 3261), (3, .int z3)]) (st' := [.int (z3 + (am_i 2)), .ref 1, .int (xs (am_ix (z3 + (am_i 1)))), .ref 3]) rfl ?_
  obtain ⟨hb2, hm⟩ := am_gE hm
  refine ms_sald (am_fd ck_L_c22 (pc := 988) rfl) hN hX hb2 ?_
  refine am_steps ck_L_c22 4 (pc' := 993) (lv' := [(0, .ref 1), (1, .ref 3), (2, .ref 3261), (3, .int z3)]) (st' := [.int (z3 + (am_i 3)), .ref 1, .int (xs (am_ix (z3 + (am_i 2)))), .int (xs (am_ix (z3 + (am_i 1)))), .ref 3]) rfl ?_
  obtain ⟨hb3, hm⟩ := am_gE hm
  refine ms_sald (am_fd ck_L_c22 (pc := 993) rfl) hN hX hb3 ?_
  obtain ⟨q4, hq4, hm⟩ := am_bE hm
  refine ms_callV (M2 := mt_X8_leader) (d2 := 4) (ci := 6) [.int (xs (am_ix (z3 + (am_i 1)))), .int (xs (am_ix (z3 + (am_i 2)))), .int (xs (am_ix (z3 + (am_i 3))))] (am_fd ck_L_c22 (pc := 994) rfl) ok_X8_leader tw_638 tw_639 tw_640 (by decide) kc_3 (Nat.le_of_ble_eq_true rfl) (Nat.le_of_ble_eq_true rfl) (x_X8_leader hL hq4) ?_
  refine am_steps ck_L_c22 5 (pc' := 1002) (lv' := [(0, .ref 1), (1, .ref 3), (2, .ref 3261), (3, .int z3)]) (st' := [.int (z3 + (am_i 1)), .ref 1, .ref 3261, .int q4]) rfl ?_
  obtain ⟨hb5, hm⟩ := am_gE hm
  refine ms_sald (am_fd ck_L_c22 (pc := 1002) rfl) hN hX hb5 ?_
  refine am_steps ck_L_c22 4 (pc' := 1007) (lv' := [(0, .ref 1), (1, .ref 3), (2, .ref 3261), (3, .int z3)]) (st' := [.int (z3 + (am_i 2)), .ref 1, .int (xs (am_ix (z3 + (am_i 1)))), .ref 3261, .int q4]) rfl ?_
  obtain ⟨hb6, hm⟩ := am_gE hm
  refine ms_sald (am_fd ck_L_c22 (pc := 1007) rfl) hN hX hb6 ?_
  refine am_steps ck_L_c22 4 (pc' := 1012) (lv' := [(0, .ref 1), (1, .ref 3), (2, .ref 3261), (3, .int z3)]) (st' := [.int (z3 + (am_i 3)), .ref 1, .int (xs (am_ix (z3 + (am_i 2)))), .int (xs (am_ix (z3 + (am_i 1)))), .ref 3261, .int q4]) rfl ?_
  obtain ⟨hb7, hm⟩ := am_gE hm
  refine ms_sald (am_fd ck_L_c22 (pc := 1012) rfl) hN hX hb7 ?_
  obtain ⟨q8, hq8, hm⟩ := am_bE hm
  refine ms_callV (M2 := mt_X9_leader) (d2 := 4) (ci := 7) [.int (xs (am_ix (z3 + (am_i 1)))), .int (xs (am_ix (z3 + (am_i 2)))), .int (xs (am_ix (z3 + (am_i 3))))] (am_fd ck_L_c22 (pc := 1013) rfl) ok_X9_leader tw_1205 tw_1206 tw_1207 (by decide) kc_3261 (Nat.le_of_ble_eq_true rfl) (Nat.le_of_ble_eq_true rfl) (x_X9_leader hL hq8) ?_
  obtain ⟨hb9, hm⟩ := am_gE hm
  refine am_icmp (tgt := 1923) (am_fd ck_L_c22 (pc := 1016) rfl) rfl (fun _ => ?_) (fun q => absurd (of_decide_eq_true hb9) q)
  refine am_subp [0, 1, 2, 3] rfl ?_
  cases hm
  exact K hL
set_option maxRecDepth 100000 in
set_option maxHeartbeats 4000000 in
theorem x_L_c23 {G : am_G} {N : Nat} {xs : Nat → Int32} {z3 : Int32} {m : am_m} {r : am_rr} {rv : Option Value} {h' : am_H} {p : am_m × am_rr} (hN : am_n G = N) (hX : am_xs G = xs) (hL : am_Lay r) (hm : m_L_c23 N xs z3 m r = some p) (K : am_Lay p.2 → am_W G mt_L_law 28 rv h' 1923 [(0, .ref 1), (1, .ref 3), (2, .ref 3261), (3, .int z3)] [] (am_hh p.1 p.2)) : am_W G mt_L_law 28 rv h' 1021 [(0, .ref 1), (1, .ref 3), (2, .ref 3261), (3, .int z3)] [] (am_hh m r) := by
  unfold m_L_c23 at hm
  refine am_steps ck_L_c23 5 (pc' := 1026) (lv' := [(0, .ref 1), (1, .ref 3), (2, .ref 3261), (3, .int z3)]) (st' := [.int (z3 + (am_i 1)), .ref 1, .ref 3]) rfl ?_
  obtain ⟨hb1, hm⟩ := am_gE hm
  refine ms_sald (am_fd ck_L_c23 (pc := 1026) rfl) hN hX hb1 ?_
  obtain ⟨q2, hq2, hm⟩ := am_bE hm
  refine ms_callV (M2 := mt_X8_median) (d2 := 3) (ci := 6) [.int (xs (am_ix (z3 + (am_i 1))))] (am_fd ck_L_c23 (pc := 1027) rfl) ok_X8_median tw_651 tw_652 tw_653 (by decide) kc_3 (Nat.le_of_ble_eq_true rfl) (Nat.le_of_ble_eq_true rfl) (x_X8_median hL hq2) ?_
  refine am_steps ck_L_c23 5 (pc' := 1035) (lv' := [(0, .ref 1), (1, .ref 3), (2, .ref 3261), (3, .int z3)]) (st' := [.int (z3 + (am_i 1)), .ref 1, .ref 3261, .int q2]) rfl ?_
  obtain ⟨hb3, hm⟩ := am_gE hm
  refine ms_sald (am_fd ck_L_c23 (pc := 1035) rfl) hN hX hb3 ?_
  obtain ⟨q4, hq4, hm⟩ := am_bE hm
  refine ms_callV (M2 := mt_X9_median) (d2 := 3) (ci := 7) [.int (xs (am_ix (z3 + (am_i 1))))] (am_fd ck_L_c23 (pc := 1036) rfl) ok_X9_median tw_1217 tw_1218 tw_1219 (by decide) kc_3261 (Nat.le_of_ble_eq_true rfl) (Nat.le_of_ble_eq_true rfl) (x_X9_median hL hq4) ?_
  obtain ⟨hb5, hm⟩ := am_gE hm
  refine am_icmp (tgt := 1923) (am_fd ck_L_c23 (pc := 1039) rfl) rfl (fun _ => ?_) (fun q => absurd (of_decide_eq_true hb5) q)
  refine am_subp [0, 1, 2, 3] rfl ?_
  cases hm
  exact K hL
set_option maxRecDepth 100000 in
set_option maxHeartbeats 4000000 in
theorem x_L_c24 {G : am_G} {N : Nat} {xs : Nat → Int32} {z3 : Int32} {m : am_m} {r : am_rr} {rv : Option Value} {h' : am_H} {p : am_m × am_rr} (hN : am_n G = N) (hX : am_xs G = xs) (hL : am_Lay r) (hm : m_L_c24 N xs z3 m r = some p) (K : am_Lay p.2 → am_W G mt_L_law 28 rv h' 1923 [(0, .ref 1), (1, .ref 3), (2, .ref 3261), (3, .int z3)] [] (am_hh p.1 p.2)) : am_W G mt_L_law 28 rv h' 1044 [(0, .ref 1), (1, .ref 3), (2, .ref 3261), (3, .int z3)] [] (am_hh m r) := by
  unfold m_L_c24 at hm
  refine am_steps ck_L_c24 5 (pc' := 1049) (lv' := [(0, .ref 1), (1, .ref 3), (2, .ref 3261), (3, .int z3)]) (st' := [.int (z3 + (am_i 1)), .ref 1, .ref 3]) rfl ?_
  obtain ⟨hb1, hm⟩ := am_gE hm
  refine ms_sald (am_fd ck_L_c24 (pc := 1049) rfl) hN hX hb1 ?_
  refine am_steps ck_L_c24 4 (pc' := 1054) (lv' := [(0, .ref 1), (1, .ref 3), (2, .ref 3261), (3, .int z3)]) (st' := [.int (z3 + (am_i 2)), .ref 1, .int (xs (am_ix (z3 + (am_i 1)))), .ref 3]) rfl ?_
  obtain ⟨hb2, hm⟩ := am_gE hm
  refine ms_sald (am_fd ck_L_c24 (pc := 1054) rfl) hN hX hb2 ?_
  obtain ⟨q3, hq3, hm⟩ := am_bE hm
  refine ms_callV (M2 := mt_X8_heavy) (d2 := 3) (ci := 6) [.int (xs (am_ix (z3 + (am_i 1)))), .int (xs (am_ix (z3 + (am_i 2))))] (am_fd ck_L_c24 (pc := 1055) rfl) ok_X8_heavy tw_655 tw_656 tw_657 (by decide) kc_3 (Nat.le_of_ble_eq_true rfl) (Nat.le_of_ble_eq_true rfl) (x_X8_heavy hL hq3) ?_
  refine am_steps ck_L_c24 5 (pc' := 1063) (lv' := [(0, .ref 1), (1, .ref 3), (2, .ref 3261), (3, .int z3)]) (st' := [.int (z3 + (am_i 1)), .ref 1, .ref 3261, .long q3]) rfl ?_
  obtain ⟨hb4, hm⟩ := am_gE hm
  refine ms_sald (am_fd ck_L_c24 (pc := 1063) rfl) hN hX hb4 ?_
  refine am_steps ck_L_c24 4 (pc' := 1068) (lv' := [(0, .ref 1), (1, .ref 3), (2, .ref 3261), (3, .int z3)]) (st' := [.int (z3 + (am_i 2)), .ref 1, .int (xs (am_ix (z3 + (am_i 1)))), .ref 3261, .long q3]) rfl ?_
  obtain ⟨hb5, hm⟩ := am_gE hm
  refine ms_sald (am_fd ck_L_c24 (pc := 1068) rfl) hN hX hb5 ?_
  obtain ⟨q6, hq6, hm⟩ := am_bE hm
  refine ms_callV (M2 := mt_X9_heavy) (d2 := 3) (ci := 7) [.int (xs (am_ix (z3 + (am_i 1)))), .int (xs (am_ix (z3 + (am_i 2))))] (am_fd ck_L_c24 (pc := 1069) rfl) ok_X9_heavy tw_1225 tw_1226 tw_1227 (by decide) kc_3261 (Nat.le_of_ble_eq_true rfl) (Nat.le_of_ble_eq_true rfl) (x_X9_heavy hL hq6) ?_
  refine am_steps ck_L_c24 1 (pc' := 1073) (lv' := [(0, .ref 1), (1, .ref 3), (2, .ref 3261), (3, .int z3)]) (st' := [.int (lg_cmp q3 q6.1)]) rfl ?_
  obtain ⟨hb7, hm⟩ := am_gE hm
  refine am_ifc (tgt := 1923) (am_fd ck_L_c24 (pc := 1073) rfl) rfl (fun _ => ?_) (fun q => absurd (lg_cmp_same (of_decide_eq_true hb7)) q)
  refine am_subp [0, 1, 2, 3] rfl ?_
  cases hm
  exact K hL
set_option maxRecDepth 100000 in
set_option maxHeartbeats 4000000 in
theorem x_L_c25 {G : am_G} {N : Nat} {xs : Nat → Int32} {z3 : Int32} {m : am_m} {r : am_rr} {rv : Option Value} {h' : am_H} {p : am_m × am_rr} (hN : am_n G = N) (hX : am_xs G = xs) (hL : am_Lay r) (hm : m_L_c25 N xs z3 m r = some p) (K : am_Lay p.2 → am_W G mt_L_law 28 rv h' 1923 [(0, .ref 1), (1, .ref 3), (2, .ref 3261), (3, .int z3)] [] (am_hh p.1 p.2)) : am_W G mt_L_law 28 rv h' 1078 [(0, .ref 1), (1, .ref 3), (2, .ref 3261), (3, .int z3)] [] (am_hh m r) := by
  unfold m_L_c25 at hm
  refine am_steps ck_L_c25 5 (pc' := 1083) (lv' := [(0, .ref 1), (1, .ref 3), (2, .ref 3261), (3, .int z3)]) (st' := [.int (z3 + (am_i 1)), .ref 1, .ref 3]) rfl ?_
  obtain ⟨hb1, hm⟩ := am_gE hm
  refine ms_sald (am_fd ck_L_c25 (pc := 1083) rfl) hN hX hb1 ?_
  obtain ⟨q2, hq2, hm⟩ := am_bE hm
  refine ms_callV (M2 := mt_X8_squares) (d2 := 2) (ci := 6) [.int (xs (am_ix (z3 + (am_i 1))))] (am_fd ck_L_c25 (pc := 1084) rfl) ok_X8_squares tw_660 tw_661 tw_662 (by decide) kc_3 (Nat.le_of_ble_eq_true rfl) (Nat.le_of_ble_eq_true rfl) (x_X8_squares hL hq2) ?_
  refine am_steps ck_L_c25 5 (pc' := 1092) (lv' := [(0, .ref 1), (1, .ref 3), (2, .ref 3261), (3, .int z3)]) (st' := [.int (z3 + (am_i 1)), .ref 1, .ref 3261, .long q2]) rfl ?_
  obtain ⟨hb3, hm⟩ := am_gE hm
  refine ms_sald (am_fd ck_L_c25 (pc := 1092) rfl) hN hX hb3 ?_
  obtain ⟨q4, hq4, hm⟩ := am_bE hm
  refine ms_callV (M2 := mt_X9_squares) (d2 := 3) (ci := 7) [.int (xs (am_ix (z3 + (am_i 1))))] (am_fd ck_L_c25 (pc := 1093) rfl) ok_X9_squares tw_1230 tw_1231 tw_1232 (by decide) kc_3261 (Nat.le_of_ble_eq_true rfl) (Nat.le_of_ble_eq_true rfl) (x_X9_squares hL hq4) ?_
  refine am_steps ck_L_c25 1 (pc' := 1097) (lv' := [(0, .ref 1), (1, .ref 3), (2, .ref 3261), (3, .int z3)]) (st' := [.int (lg_cmp q2 q4)]) rfl ?_
  obtain ⟨hb5, hm⟩ := am_gE hm
  refine am_ifc (tgt := 1923) (am_fd ck_L_c25 (pc := 1097) rfl) rfl (fun _ => ?_) (fun q => absurd (lg_cmp_same (of_decide_eq_true hb5)) q)
  refine am_subp [0, 1, 2, 3] rfl ?_
  cases hm
  exact K hL
set_option maxRecDepth 100000 in
set_option maxHeartbeats 4000000 in
theorem x_L_c26 {G : am_G} {N : Nat} {xs : Nat → Int32} {z3 : Int32} {m : am_m} {r : am_rr} {rv : Option Value} {h' : am_H} {p : am_m × am_rr} (hN : am_n G = N) (hX : am_xs G = xs) (hL : am_Lay r) (hm : m_L_c26 N xs z3 m r = some p) (K : am_Lay p.2 → am_W G mt_L_law 28 rv h' 1923 [(0, .ref 1), (1, .ref 3), (2, .ref 3261), (3, .int z3)] [] (am_hh p.1 p.2)) : am_W G mt_L_law 28 rv h' 1102 [(0, .ref 1), (1, .ref 3), (2, .ref 3261), (3, .int z3)] [] (am_hh m r) := by
  unfold m_L_c26 at hm
  refine am_steps ck_L_c26 5 (pc' := 1107) (lv' := [(0, .ref 1), (1, .ref 3), (2, .ref 3261), (3, .int z3)]) (st' := [.int (z3 + (am_i 1)), .ref 1, .ref 3]) rfl ?_
  obtain ⟨hb1, hm⟩ := am_gE hm
  refine ms_sald (am_fd ck_L_c26 (pc := 1107) rfl) hN hX hb1 ?_
  refine am_steps ck_L_c26 4 (pc' := 1112) (lv' := [(0, .ref 1), (1, .ref 3), (2, .ref 3261), (3, .int z3)]) (st' := [.int (z3 + (am_i 2)), .ref 1, .int (xs (am_ix (z3 + (am_i 1)))), .ref 3]) rfl ?_
  obtain ⟨hb2, hm⟩ := am_gE hm
  refine ms_sald (am_fd ck_L_c26 (pc := 1112) rfl) hN hX hb2 ?_
  refine am_steps ck_L_c26 4 (pc' := 1117) (lv' := [(0, .ref 1), (1, .ref 3), (2, .ref 3261), (3, .int z3)]) (st' := [.int (z3 + (am_i 3)), .ref 1, .int (xs (am_ix (z3 + (am_i 2)))), .int (xs (am_ix (z3 + (am_i 1)))), .ref 3]) rfl ?_
  obtain ⟨hb3, hm⟩ := am_gE hm
  refine ms_sald (am_fd ck_L_c26 (pc := 1117) rfl) hN hX hb3 ?_
  obtain ⟨q4, hq4, hm⟩ := am_bE hm
  refine ms_callV (M2 := mt_X8_seats) (d2 := 2) (ci := 6) [.int (xs (am_ix (z3 + (am_i 1)))), .int (xs (am_ix (z3 + (am_i 2)))), .int (xs (am_ix (z3 + (am_i 3))))] (am_fd ck_L_c26 (pc := 1118) rfl) ok_X8_seats tw_664 tw_665 tw_666 (by decide) kc_3 (Nat.le_of_ble_eq_true rfl) (Nat.le_of_ble_eq_true rfl) (x_X8_seats hL hq4) ?_
  refine am_steps ck_L_c26 5 (pc' := 1126) (lv' := [(0, .ref 1), (1, .ref 3), (2, .ref 3261), (3, .int z3)]) (st' := [.int (z3 + (am_i 1)), .ref 1, .ref 3261, .int q4.1]) rfl ?_
  obtain ⟨hb5, hm⟩ := am_gE hm
  refine ms_sald (am_fd ck_L_c26 (pc := 1126) rfl) hN hX hb5 ?_
  refine am_steps ck_L_c26 4 (pc' := 1131) (lv' := [(0, .ref 1), (1, .ref 3), (2, .ref 3261), (3, .int z3)]) (st' := [.int (z3 + (am_i 2)), .ref 1, .int (xs (am_ix (z3 + (am_i 1)))), .ref 3261, .int q4.1]) rfl ?_
  obtain ⟨hb6, hm⟩ := am_gE hm
  refine ms_sald (am_fd ck_L_c26 (pc := 1131) rfl) hN hX hb6 ?_
  refine am_steps ck_L_c26 4 (pc' := 1136) (lv' := [(0, .ref 1), (1, .ref 3), (2, .ref 3261), (3, .int z3)]) (st' := [.int (z3 + (am_i 3)), .ref 1, .int (xs (am_ix (z3 + (am_i 2)))), .int (xs (am_ix (z3 + (am_i 1)))), .ref 3261, .int q4.1]) rfl ?_
  obtain ⟨hb7, hm⟩ := am_gE hm
  refine ms_sald (am_fd ck_L_c26 (pc := 1136) rfl) hN hX hb7 ?_
  obtain ⟨q8, hq8, hm⟩ := am_bE hm
  refine ms_callV (M2 := mt_X9_seats_) (d2 := 3) (ci := 7) [.int (xs (am_ix (z3 + (am_i 1)))), .int (xs (am_ix (z3 + (am_i 2)))), .int (xs (am_ix (z3 + (am_i 3))))] (am_fd ck_L_c26 (pc := 1137) rfl) ok_X9_seats_ tw_1235 tw_1236 tw_1237 (by decide) kc_3261 (Nat.le_of_ble_eq_true rfl) (Nat.le_of_ble_eq_true rfl) (x_X9_seats_ hL hq8) ?_
  obtain ⟨hb9, hm⟩ := am_gE hm
  refine am_icmp (tgt := 1923) (am_fd ck_L_c26 (pc := 1140) rfl) rfl (fun _ => ?_) (fun q => absurd (of_decide_eq_true hb9) q)
  refine am_subp [0, 1, 2, 3] rfl ?_
  cases hm
  exact K hL
set_option maxRecDepth 100000 in
set_option maxHeartbeats 4000000 in
theorem x_L_c27 {G : am_G} {N : Nat} {xs : Nat → Int32} {z3 : Int32} {m : am_m} {r : am_rr} {rv : Option Value} {h' : am_H} {p : am_m × am_rr} (hN : am_n G = N) (hX : am_xs G = xs) (hL : am_Lay r) (hm : m_L_c27 N xs z3 m r = some p) (K : am_Lay p.2 → am_W G mt_L_law 28 rv h' 1923 [(0, .ref 1), (1, .ref 3), (2, .ref 3261), (3, .int z3)] [] (am_hh p.1 p.2)) : am_W G mt_L_law 28 rv h' 1145 [(0, .ref 1), (1, .ref 3), (2, .ref 3261), (3, .int z3)] [] (am_hh m r) := by
  unfold m_L_c27 at hm
  refine am_steps ck_L_c27 5 (pc' := 1150) (lv' := [(0, .ref 1), (1, .ref 3), (2, .ref 3261), (3, .int z3)]) (st' := [.int (z3 + (am_i 1)), .ref 1, .ref 3]) rfl ?_
  obtain ⟨hb1, hm⟩ := am_gE hm
  refine ms_sald (am_fd ck_L_c27 (pc := 1150) rfl) hN hX hb1 ?_
  refine am_steps ck_L_c27 4 (pc' := 1155) (lv' := [(0, .ref 1), (1, .ref 3), (2, .ref 3261), (3, .int z3)]) (st' := [.int (z3 + (am_i 2)), .ref 1, .int (xs (am_ix (z3 + (am_i 1)))), .ref 3]) rfl ?_
  obtain ⟨hb2, hm⟩ := am_gE hm
  refine ms_sald (am_fd ck_L_c27 (pc := 1155) rfl) hN hX hb2 ?_
  obtain ⟨q3, hq3, hm⟩ := am_bE hm
  refine ms_callV (M2 := mt_X8_percent) (d2 := 4) (ci := 6) [.int (xs (am_ix (z3 + (am_i 1)))), .int (xs (am_ix (z3 + (am_i 2))))] (am_fd ck_L_c27 (pc := 1156) rfl) ok_X8_percent tw_672 tw_673 tw_674 (by decide) kc_3 (Nat.le_of_ble_eq_true rfl) (Nat.le_of_ble_eq_true rfl) (x_X8_percent hL hq3) ?_
  refine am_steps ck_L_c27 5 (pc' := 1164) (lv' := [(0, .ref 1), (1, .ref 3), (2, .ref 3261), (3, .int z3)]) (st' := [.int (z3 + (am_i 1)), .ref 1, .ref 3261, .int q3]) rfl ?_
  obtain ⟨hb4, hm⟩ := am_gE hm
  refine ms_sald (am_fd ck_L_c27 (pc := 1164) rfl) hN hX hb4 ?_
  refine am_steps ck_L_c27 4 (pc' := 1169) (lv' := [(0, .ref 1), (1, .ref 3), (2, .ref 3261), (3, .int z3)]) (st' := [.int (z3 + (am_i 2)), .ref 1, .int (xs (am_ix (z3 + (am_i 1)))), .ref 3261, .int q3]) rfl ?_
  obtain ⟨hb5, hm⟩ := am_gE hm
  refine ms_sald (am_fd ck_L_c27 (pc := 1169) rfl) hN hX hb5 ?_
  obtain ⟨q6, hq6, hm⟩ := am_bE hm
  refine ms_callV (M2 := mt_X9_percent) (d2 := 3) (ci := 7) [.int (xs (am_ix (z3 + (am_i 1)))), .int (xs (am_ix (z3 + (am_i 2))))] (am_fd ck_L_c27 (pc := 1170) rfl) ok_X9_percent tw_1284 tw_1285 tw_1286 (by decide) kc_3261 (Nat.le_of_ble_eq_true rfl) (Nat.le_of_ble_eq_true rfl) (x_X9_percent hL hq6) ?_
  obtain ⟨hb7, hm⟩ := am_gE hm
  refine am_icmp (tgt := 1923) (am_fd ck_L_c27 (pc := 1173) rfl) rfl (fun _ => ?_) (fun q => absurd (of_decide_eq_true hb7) q)
  refine am_subp [0, 1, 2, 3] rfl ?_
  cases hm
  exact K hL
set_option maxRecDepth 100000 in
set_option maxHeartbeats 4000000 in
theorem x_L_c28 {G : am_G} {N : Nat} {xs : Nat → Int32} {z3 : Int32} {m : am_m} {r : am_rr} {rv : Option Value} {h' : am_H} {p : am_m × am_rr} (hN : am_n G = N) (hX : am_xs G = xs) (hL : am_Lay r) (hm : m_L_c28 N xs z3 m r = some p) (K : am_Lay p.2 → am_W G mt_L_law 28 rv h' 1923 [(0, .ref 1), (1, .ref 3), (2, .ref 3261), (3, .int z3)] [] (am_hh p.1 p.2)) : am_W G mt_L_law 28 rv h' 1178 [(0, .ref 1), (1, .ref 3), (2, .ref 3261), (3, .int z3)] [] (am_hh m r) := by
  unfold m_L_c28 at hm
  refine am_steps ck_L_c28 5 (pc' := 1183) (lv' := [(0, .ref 1), (1, .ref 3), (2, .ref 3261), (3, .int z3)]) (st' := [.int (z3 + (am_i 1)), .ref 1, .ref 3]) rfl ?_
  obtain ⟨hb1, hm⟩ := am_gE hm
  refine ms_sald (am_fd ck_L_c28 (pc := 1183) rfl) hN hX hb1 ?_
  refine am_steps ck_L_c28 4 (pc' := 1188) (lv' := [(0, .ref 1), (1, .ref 3), (2, .ref 3261), (3, .int z3)]) (st' := [.int (z3 + (am_i 2)), .ref 1, .int (xs (am_ix (z3 + (am_i 1)))), .ref 3]) rfl ?_
  obtain ⟨hb2, hm⟩ := am_gE hm
  refine ms_sald (am_fd ck_L_c28 (pc := 1188) rfl) hN hX hb2 ?_
  obtain ⟨q3, hq3, hm⟩ := am_bE hm
  refine ms_callV (M2 := mt_X8_quantile) (d2 := 4) (ci := 6) [.int (xs (am_ix (z3 + (am_i 1)))), .int (xs (am_ix (z3 + (am_i 2))))] (am_fd ck_L_c28 (pc := 1189) rfl) ok_X8_quantile tw_680 tw_681 tw_682 (by decide) kc_3 (Nat.le_of_ble_eq_true rfl) (Nat.le_of_ble_eq_true rfl) (x_X8_quantile hL hq3) ?_
  refine am_steps ck_L_c28 5 (pc' := 1197) (lv' := [(0, .ref 1), (1, .ref 3), (2, .ref 3261), (3, .int z3)]) (st' := [.int (z3 + (am_i 1)), .ref 1, .ref 3261, .int q3]) rfl ?_
  obtain ⟨hb4, hm⟩ := am_gE hm
  refine ms_sald (am_fd ck_L_c28 (pc := 1197) rfl) hN hX hb4 ?_
  refine am_steps ck_L_c28 4 (pc' := 1202) (lv' := [(0, .ref 1), (1, .ref 3), (2, .ref 3261), (3, .int z3)]) (st' := [.int (z3 + (am_i 2)), .ref 1, .int (xs (am_ix (z3 + (am_i 1)))), .ref 3261, .int q3]) rfl ?_
  obtain ⟨hb5, hm⟩ := am_gE hm
  refine ms_sald (am_fd ck_L_c28 (pc := 1202) rfl) hN hX hb5 ?_
  obtain ⟨q6, hq6, hm⟩ := am_bE hm
  refine ms_callV (M2 := mt_X9_quantile) (d2 := 4) (ci := 7) [.int (xs (am_ix (z3 + (am_i 1)))), .int (xs (am_ix (z3 + (am_i 2))))] (am_fd ck_L_c28 (pc := 1203) rfl) ok_X9_quantile tw_1288 tw_1289 tw_1290 (by decide) kc_3261 (Nat.le_of_ble_eq_true rfl) (Nat.le_of_ble_eq_true rfl) (x_X9_quantile hL hq6) ?_
  obtain ⟨hb7, hm⟩ := am_gE hm
  refine am_icmp (tgt := 1923) (am_fd ck_L_c28 (pc := 1206) rfl) rfl (fun _ => ?_) (fun q => absurd (of_decide_eq_true hb7) q)
  refine am_subp [0, 1, 2, 3] rfl ?_
  cases hm
  exact K hL
set_option maxRecDepth 100000 in
set_option maxHeartbeats 4000000 in
theorem x_L_c29 {G : am_G} {N : Nat} {xs : Nat → Int32} {z3 : Int32} {m : am_m} {r : am_rr} {rv : Option Value} {h' : am_H} {p : am_m × am_rr} (hN : am_n G = N) (hX : am_xs G = xs) (hL : am_Lay r) (hm : m_L_c29 N xs z3 m r = some p) (K : am_Lay p.2 → am_W G mt_L_law 28 rv h' 1923 [(0, .ref 1), (1, .ref 3), (2, .ref 3261), (3, .int z3)] [] (am_hh p.1 p.2)) : am_W G mt_L_law 28 rv h' 1211 [(0, .ref 1), (1, .ref 3), (2, .ref 3261), (3, .int z3)] [] (am_hh m r) := by
  unfold m_L_c29 at hm
  refine am_steps ck_L_c29 5 (pc' := 1216) (lv' := [(0, .ref 1), (1, .ref 3), (2, .ref 3261), (3, .int z3)]) (st' := [.int (z3 + (am_i 1)), .ref 1, .ref 3]) rfl ?_
  obtain ⟨hb1, hm⟩ := am_gE hm
  refine ms_sald (am_fd ck_L_c29 (pc := 1216) rfl) hN hX hb1 ?_
  refine am_steps ck_L_c29 4 (pc' := 1221) (lv' := [(0, .ref 1), (1, .ref 3), (2, .ref 3261), (3, .int z3)]) (st' := [.int (z3 + (am_i 2)), .ref 1, .int (xs (am_ix (z3 + (am_i 1)))), .ref 3]) rfl ?_
  obtain ⟨hb2, hm⟩ := am_gE hm
  refine ms_sald (am_fd ck_L_c29 (pc := 1221) rfl) hN hX hb2 ?_
  obtain ⟨q3, hq3, hm⟩ := am_bE hm
  refine ms_callV (M2 := mt_X8_few) (d2 := 4) (ci := 6) [.int (xs (am_ix (z3 + (am_i 1)))), .int (xs (am_ix (z3 + (am_i 2))))] (am_fd ck_L_c29 (pc := 1222) rfl) ok_X8_few tw_688 tw_689 tw_690 (by decide) kc_3 (Nat.le_of_ble_eq_true rfl) (Nat.le_of_ble_eq_true rfl) (x_X8_few hL hq3) ?_
  refine am_steps ck_L_c29 5 (pc' := 1230) (lv' := [(0, .ref 1), (1, .ref 3), (2, .ref 3261), (3, .int z3)]) (st' := [.int (z3 + (am_i 1)), .ref 1, .ref 3261, .int q3]) rfl ?_
  obtain ⟨hb4, hm⟩ := am_gE hm
  refine ms_sald (am_fd ck_L_c29 (pc := 1230) rfl) hN hX hb4 ?_
  refine am_steps ck_L_c29 4 (pc' := 1235) (lv' := [(0, .ref 1), (1, .ref 3), (2, .ref 3261), (3, .int z3)]) (st' := [.int (z3 + (am_i 2)), .ref 1, .int (xs (am_ix (z3 + (am_i 1)))), .ref 3261, .int q3]) rfl ?_
  obtain ⟨hb5, hm⟩ := am_gE hm
  refine ms_sald (am_fd ck_L_c29 (pc := 1235) rfl) hN hX hb5 ?_
  obtain ⟨q6, hq6, hm⟩ := am_bE hm
  refine ms_callV (M2 := mt_X9_few) (d2 := 4) (ci := 7) [.int (xs (am_ix (z3 + (am_i 1)))), .int (xs (am_ix (z3 + (am_i 2))))] (am_fd ck_L_c29 (pc := 1236) rfl) ok_X9_few tw_1296 tw_1297 tw_1298 (by decide) kc_3261 (Nat.le_of_ble_eq_true rfl) (Nat.le_of_ble_eq_true rfl) (x_X9_few hL hq6) ?_
  obtain ⟨hb7, hm⟩ := am_gE hm
  refine am_icmp (tgt := 1923) (am_fd ck_L_c29 (pc := 1239) rfl) rfl (fun _ => ?_) (fun q => absurd (of_decide_eq_true hb7) q)
  refine am_subp [0, 1, 2, 3] rfl ?_
  cases hm
  exact K hL
set_option maxRecDepth 100000 in
set_option maxHeartbeats 4000000 in
theorem x_L_c30 {G : am_G} {N : Nat} {xs : Nat → Int32} {z3 : Int32} {m : am_m} {r : am_rr} {rv : Option Value} {h' : am_H} {p : am_m × am_rr} (hN : am_n G = N) (hX : am_xs G = xs) (hL : am_Lay r) (hm : m_L_c30 N xs z3 m r = some p) (K : am_Lay p.2 → am_W G mt_L_law 28 rv h' 1923 [(0, .ref 1), (1, .ref 3), (2, .ref 3261), (3, .int z3)] [] (am_hh p.1 p.2)) : am_W G mt_L_law 28 rv h' 1244 [(0, .ref 1), (1, .ref 3), (2, .ref 3261), (3, .int z3)] [] (am_hh m r) := by
  unfold m_L_c30 at hm
  refine am_steps ck_L_c30 5 (pc' := 1249) (lv' := [(0, .ref 1), (1, .ref 3), (2, .ref 3261), (3, .int z3)]) (st' := [.int (z3 + (am_i 1)), .ref 1, .ref 3]) rfl ?_
  obtain ⟨hb1, hm⟩ := am_gE hm
  refine ms_sald (am_fd ck_L_c30 (pc := 1249) rfl) hN hX hb1 ?_
  refine am_steps ck_L_c30 4 (pc' := 1254) (lv' := [(0, .ref 1), (1, .ref 3), (2, .ref 3261), (3, .int z3)]) (st' := [.int (z3 + (am_i 2)), .ref 1, .int (xs (am_ix (z3 + (am_i 1)))), .ref 3]) rfl ?_
  obtain ⟨hb2, hm⟩ := am_gE hm
  refine ms_sald (am_fd ck_L_c30 (pc := 1254) rfl) hN hX hb2 ?_
  refine am_steps ck_L_c30 4 (pc' := 1259) (lv' := [(0, .ref 1), (1, .ref 3), (2, .ref 3261), (3, .int z3)]) (st' := [.int (z3 + (am_i 3)), .ref 1, .int (xs (am_ix (z3 + (am_i 2)))), .int (xs (am_ix (z3 + (am_i 1)))), .ref 3]) rfl ?_
  obtain ⟨hb3, hm⟩ := am_gE hm
  refine ms_sald (am_fd ck_L_c30 (pc := 1259) rfl) hN hX hb3 ?_
  obtain ⟨q4, hq4, hm⟩ := am_bE hm
  refine ms_callV (M2 := mt_X8_run) (d2 := 4) (ci := 6) [.int (xs (am_ix (z3 + (am_i 1)))), .int (xs (am_ix (z3 + (am_i 2)))), .int (xs (am_ix (z3 + (am_i 3))))] (am_fd ck_L_c30 (pc := 1260) rfl) ok_X8_run tw_695 tw_696 tw_697 (by decide) kc_3 (Nat.le_of_ble_eq_true rfl) (Nat.le_of_ble_eq_true rfl) (x_X8_run hL hq4) ?_
  refine am_steps ck_L_c30 5 (pc' := 1268) (lv' := [(0, .ref 1), (1, .ref 3), (2, .ref 3261), (3, .int z3)]) (st' := [.int (z3 + (am_i 1)), .ref 1, .ref 3261, .int q4]) rfl ?_
  obtain ⟨hb5, hm⟩ := am_gE hm
  refine ms_sald (am_fd ck_L_c30 (pc := 1268) rfl) hN hX hb5 ?_
  refine am_steps ck_L_c30 4 (pc' := 1273) (lv' := [(0, .ref 1), (1, .ref 3), (2, .ref 3261), (3, .int z3)]) (st' := [.int (z3 + (am_i 2)), .ref 1, .int (xs (am_ix (z3 + (am_i 1)))), .ref 3261, .int q4]) rfl ?_
  obtain ⟨hb6, hm⟩ := am_gE hm
  refine ms_sald (am_fd ck_L_c30 (pc := 1273) rfl) hN hX hb6 ?_
  refine am_steps ck_L_c30 4 (pc' := 1278) (lv' := [(0, .ref 1), (1, .ref 3), (2, .ref 3261), (3, .int z3)]) (st' := [.int (z3 + (am_i 3)), .ref 1, .int (xs (am_ix (z3 + (am_i 2)))), .int (xs (am_ix (z3 + (am_i 1)))), .ref 3261, .int q4]) rfl ?_
  obtain ⟨hb7, hm⟩ := am_gE hm
  refine ms_sald (am_fd ck_L_c30 (pc := 1278) rfl) hN hX hb7 ?_
  obtain ⟨q8, hq8, hm⟩ := am_bE hm
  refine ms_callV (M2 := mt_X9_run) (d2 := 3) (ci := 7) [.int (xs (am_ix (z3 + (am_i 1)))), .int (xs (am_ix (z3 + (am_i 2)))), .int (xs (am_ix (z3 + (am_i 3))))] (am_fd ck_L_c30 (pc := 1279) rfl) ok_X9_run tw_1300 tw_1301 tw_1302 (by decide) kc_3261 (Nat.le_of_ble_eq_true rfl) (Nat.le_of_ble_eq_true rfl) (x_X9_run hL hq8) ?_
  obtain ⟨hb9, hm⟩ := am_gE hm
  refine am_icmp (tgt := 1923) (am_fd ck_L_c30 (pc := 1282) rfl) rfl (fun _ => ?_) (fun q => absurd (of_decide_eq_true hb9) q)
  refine am_subp [0, 1, 2, 3] rfl ?_
  cases hm
  exact K hL
set_option maxRecDepth 100000 in
set_option maxHeartbeats 4000000 in
theorem x_L_c31 {G : am_G} {N : Nat} {xs : Nat → Int32} {z3 : Int32} {m : am_m} {r : am_rr} {rv : Option Value} {h' : am_H} {p : am_m × am_rr} (hN : am_n G = N) (hX : am_xs G = xs) (hL : am_Lay r) (hm : m_L_c31 N xs z3 m r = some p) (K : am_Lay p.2 → am_W G mt_L_law 28 rv h' 1923 [(0, .ref 1), (1, .ref 3), (2, .ref 3261), (3, .int z3)] [] (am_hh p.1 p.2)) : am_W G mt_L_law 28 rv h' 1287 [(0, .ref 1), (1, .ref 3), (2, .ref 3261), (3, .int z3)] [] (am_hh m r) := by
  unfold m_L_c31 at hm
  refine am_steps ck_L_c31 5 (pc' := 1292) (lv' := [(0, .ref 1), (1, .ref 3), (2, .ref 3261), (3, .int z3)]) (st' := [.int (z3 + (am_i 1)), .ref 1, .ref 3]) rfl ?_
  obtain ⟨hb1, hm⟩ := am_gE hm
  refine ms_sald (am_fd ck_L_c31 (pc := 1292) rfl) hN hX hb1 ?_
  obtain ⟨q2, hq2, hm⟩ := am_bE hm
  refine ms_callV (M2 := mt_X8_twin) (d2 := 2) (ci := 6) [.int (xs (am_ix (z3 + (am_i 1))))] (am_fd ck_L_c31 (pc := 1293) rfl) ok_X8_twin tw_775 tw_776 tw_777 (by decide) kc_3 (Nat.le_of_ble_eq_true rfl) (Nat.le_of_ble_eq_true rfl) (x_X8_twin hL hq2) ?_
  refine am_steps ck_L_c31 5 (pc' := 1301) (lv' := [(0, .ref 1), (1, .ref 3), (2, .ref 3261), (3, .int z3)]) (st' := [.int (z3 + (am_i 1)), .ref 1, .ref 3261, .int q2]) rfl ?_
  obtain ⟨hb3, hm⟩ := am_gE hm
  refine ms_sald (am_fd ck_L_c31 (pc := 1301) rfl) hN hX hb3 ?_
  obtain ⟨q4, hq4, hm⟩ := am_bE hm
  refine ms_callV (M2 := mt_X9_twin) (d2 := 4) (ci := 7) [.int (xs (am_ix (z3 + (am_i 1))))] (am_fd ck_L_c31 (pc := 1302) rfl) ok_X9_twin tw_1312 tw_1313 tw_1314 (by decide) kc_3261 (Nat.le_of_ble_eq_true rfl) (Nat.le_of_ble_eq_true rfl) (x_X9_twin hL hq4) ?_
  obtain ⟨hb5, hm⟩ := am_gE hm
  refine am_icmp (tgt := 1923) (am_fd ck_L_c31 (pc := 1305) rfl) rfl (fun _ => ?_) (fun q => absurd (of_decide_eq_true hb5) q)
  refine am_subp [0, 1, 2, 3] rfl ?_
  cases hm
  exact K hL
set_option maxRecDepth 100000 in
set_option maxHeartbeats 4000000 in
theorem x_L_c32 {G : am_G} {N : Nat} {xs : Nat → Int32} {z3 : Int32} {m : am_m} {r : am_rr} {rv : Option Value} {h' : am_H} {p : am_m × am_rr} (hN : am_n G = N) (hX : am_xs G = xs) (hL : am_Lay r) (hm : m_L_c32 N xs z3 m r = some p) (K : am_Lay p.2 → am_W G mt_L_law 28 rv h' 1923 [(0, .ref 1), (1, .ref 3), (2, .ref 3261), (3, .int z3)] [] (am_hh p.1 p.2)) : am_W G mt_L_law 28 rv h' 1310 [(0, .ref 1), (1, .ref 3), (2, .ref 3261), (3, .int z3)] [] (am_hh m r) := by
  unfold m_L_c32 at hm
  refine am_steps ck_L_c32 5 (pc' := 1315) (lv' := [(0, .ref 1), (1, .ref 3), (2, .ref 3261), (3, .int z3)]) (st' := [.int (z3 + (am_i 1)), .ref 1, .ref 3]) rfl ?_
  obtain ⟨hb1, hm⟩ := am_gE hm
  refine ms_sald (am_fd ck_L_c32 (pc := 1315) rfl) hN hX hb1 ?_
  obtain ⟨q2, hq2, hm⟩ := am_bE hm
  refine ms_callV (M2 := mt_X8_report) (d2 := 5) (ci := 6) [.int (xs (am_ix (z3 + (am_i 1))))] (am_fd ck_L_c32 (pc := 1316) rfl) ok_X8_report tw_715 tw_716 tw_717 (by decide) kc_3 (Nat.le_of_ble_eq_true rfl) (Nat.le_of_ble_eq_true rfl) (x_X8_report hL hq2) ?_
  refine am_steps ck_L_c32 5 (pc' := 1324) (lv' := [(0, .ref 1), (1, .ref 3), (2, .ref 3261), (3, .int z3)]) (st' := [.int (z3 + (am_i 1)), .ref 1, .ref 3261, .int q2.1]) rfl ?_
  obtain ⟨hb3, hm⟩ := am_gE hm
  refine ms_sald (am_fd ck_L_c32 (pc := 1324) rfl) hN hX hb3 ?_
  obtain ⟨q4, hq4, hm⟩ := am_bE hm
  refine ms_callV (M2 := mt_X9_report) (d2 := 23) (ci := 7) [.int (xs (am_ix (z3 + (am_i 1))))] (am_fd ck_L_c32 (pc := 1325) rfl) ok_X9_report tw_1323 tw_1324 tw_1325 (by decide) kc_3261 (Nat.le_of_ble_eq_true rfl) (Nat.le_of_ble_eq_true rfl) (x_X9_report hL hq4) ?_
  obtain ⟨hb5, hm⟩ := am_gE hm
  refine am_icmp (tgt := 1923) (am_fd ck_L_c32 (pc := 1328) rfl) rfl (fun _ => ?_) (fun q => absurd (of_decide_eq_true hb5) q)
  refine am_subp [0, 1, 2, 3] rfl ?_
  cases hm
  exact K hL
set_option maxRecDepth 100000 in
set_option maxHeartbeats 4000000 in
theorem x_L_c33 {G : am_G} {N : Nat} {xs : Nat → Int32} {z3 : Int32} {m : am_m} {r : am_rr} {rv : Option Value} {h' : am_H} {p : am_m × am_rr} (hN : am_n G = N) (hX : am_xs G = xs) (hL : am_Lay r) (hm : m_L_c33 N xs z3 m r = some p) (K : am_Lay p.2 → am_W G mt_L_law 28 rv h' 1923 [(0, .ref 1), (1, .ref 3), (2, .ref 3261), (3, .int z3)] [] (am_hh p.1 p.2)) : am_W G mt_L_law 28 rv h' 1333 [(0, .ref 1), (1, .ref 3), (2, .ref 3261), (3, .int z3)] [] (am_hh m r) := by
  unfold m_L_c33 at hm
  refine am_steps ck_L_c33 5 (pc' := 1338) (lv' := [(0, .ref 1), (1, .ref 3), (2, .ref 3261), (3, .int z3)]) (st' := [.int (z3 + (am_i 1)), .ref 1, .ref 3]) rfl ?_
  obtain ⟨hb1, hm⟩ := am_gE hm
  refine ms_sald (am_fd ck_L_c33 (pc := 1338) rfl) hN hX hb1 ?_
  obtain ⟨q2, hq2, hm⟩ := am_bE hm
  refine ms_callV (M2 := mt_X8_sign) (d2 := 2) (ci := 6) [.int (xs (am_ix (z3 + (am_i 1))))] (am_fd ck_L_c33 (pc := 1339) rfl) ok_X8_sign tw_739 tw_740 tw_741 (by decide) kc_3 (Nat.le_of_ble_eq_true rfl) (Nat.le_of_ble_eq_true rfl) (x_X8_sign hL hq2) ?_
  refine am_steps ck_L_c33 5 (pc' := 1347) (lv' := [(0, .ref 1), (1, .ref 3), (2, .ref 3261), (3, .int z3)]) (st' := [.int (z3 + (am_i 1)), .ref 1, .ref 3261, .int q2]) rfl ?_
  obtain ⟨hb3, hm⟩ := am_gE hm
  refine ms_sald (am_fd ck_L_c33 (pc := 1347) rfl) hN hX hb3 ?_
  obtain ⟨q4, hq4, hm⟩ := am_bE hm
  refine ms_callV (M2 := mt_X9_sign) (d2 := 2) (ci := 7) [.int (xs (am_ix (z3 + (am_i 1))))] (am_fd ck_L_c33 (pc := 1348) rfl) ok_X9_sign tw_1335 tw_1336 tw_1337 (by decide) kc_3261 (Nat.le_of_ble_eq_true rfl) (Nat.le_of_ble_eq_true rfl) (x_X9_sign hL hq4) ?_
  obtain ⟨hb5, hm⟩ := am_gE hm
  refine am_icmp (tgt := 1923) (am_fd ck_L_c33 (pc := 1351) rfl) rfl (fun _ => ?_) (fun q => absurd (of_decide_eq_true hb5) q)
  refine am_subp [0, 1, 2, 3] rfl ?_
  cases hm
  exact K hL
set_option maxRecDepth 100000 in
set_option maxHeartbeats 4000000 in
theorem x_L_c34 {G : am_G} {N : Nat} {xs : Nat → Int32} {z3 : Int32} {m : am_m} {r : am_rr} {rv : Option Value} {h' : am_H} {p : am_m × am_rr} (hN : am_n G = N) (hX : am_xs G = xs) (hL : am_Lay r) (hm : m_L_c34 N xs z3 m r = some p) (K : am_Lay p.2 → am_W G mt_L_law 28 rv h' 1923 [(0, .ref 1), (1, .ref 3), (2, .ref 3261), (3, .int z3)] [] (am_hh p.1 p.2)) : am_W G mt_L_law 28 rv h' 1356 [(0, .ref 1), (1, .ref 3), (2, .ref 3261), (3, .int z3)] [] (am_hh m r) := by
  unfold m_L_c34 at hm
  refine am_steps ck_L_c34 5 (pc' := 1361) (lv' := [(0, .ref 1), (1, .ref 3), (2, .ref 3261), (3, .int z3)]) (st' := [.int (z3 + (am_i 1)), .ref 1, .ref 3]) rfl ?_
  obtain ⟨hb1, hm⟩ := am_gE hm
  refine ms_sald (am_fd ck_L_c34 (pc := 1361) rfl) hN hX hb1 ?_
  obtain ⟨q2, hq2, hm⟩ := am_bE hm
  refine ms_callV (M2 := mt_X8_versions) (d2 := 2) (ci := 6) [.int (xs (am_ix (z3 + (am_i 1))))] (am_fd ck_L_c34 (pc := 1362) rfl) ok_X8_versions tw_758 tw_759 tw_760 (by decide) kc_3 (Nat.le_of_ble_eq_true rfl) (Nat.le_of_ble_eq_true rfl) (x_X8_versions hL hq2) ?_
  refine am_steps ck_L_c34 5 (pc' := 1370) (lv' := [(0, .ref 1), (1, .ref 3), (2, .ref 3261), (3, .int z3)]) (st' := [.int (z3 + (am_i 1)), .ref 1, .ref 3261, .int q2]) rfl ?_
  obtain ⟨hb3, hm⟩ := am_gE hm
  refine ms_sald (am_fd ck_L_c34 (pc := 1370) rfl) hN hX hb3 ?_
  obtain ⟨q4, hq4, hm⟩ := am_bE hm
  refine ms_callV (M2 := mt_X9_versions) (d2 := 3) (ci := 7) [.int (xs (am_ix (z3 + (am_i 1))))] (am_fd ck_L_c34 (pc := 1371) rfl) ok_X9_versions tw_1243 tw_1244 tw_1245 (by decide) kc_3261 (Nat.le_of_ble_eq_true rfl) (Nat.le_of_ble_eq_true rfl) (x_X9_versions hL hq4) ?_
  obtain ⟨hb5, hm⟩ := am_gE hm
  refine am_icmp (tgt := 1923) (am_fd ck_L_c34 (pc := 1374) rfl) rfl (fun _ => ?_) (fun q => absurd (of_decide_eq_true hb5) q)
  refine am_subp [0, 1, 2, 3] rfl ?_
  cases hm
  exact K hL
set_option maxRecDepth 100000 in
set_option maxHeartbeats 4000000 in
theorem x_L_c35 {G : am_G} {N : Nat} {xs : Nat → Int32} {z3 : Int32} {m : am_m} {r : am_rr} {rv : Option Value} {h' : am_H} {p : am_m × am_rr} (hN : am_n G = N) (hX : am_xs G = xs) (hL : am_Lay r) (hm : m_L_c35 N xs z3 m r = some p) (K : am_Lay p.2 → am_W G mt_L_law 28 rv h' 1923 [(0, .ref 1), (1, .ref 3), (2, .ref 3261), (3, .int z3)] [] (am_hh p.1 p.2)) : am_W G mt_L_law 28 rv h' 1379 [(0, .ref 1), (1, .ref 3), (2, .ref 3261), (3, .int z3)] [] (am_hh m r) := by
  unfold m_L_c35 at hm
  refine am_steps ck_L_c35 5 (pc' := 1384) (lv' := [(0, .ref 1), (1, .ref 3), (2, .ref 3261), (3, .int z3)]) (st' := [.int (z3 + (am_i 1)), .ref 1, .ref 3]) rfl ?_
  obtain ⟨hb1, hm⟩ := am_gE hm
  refine ms_sald (am_fd ck_L_c35 (pc := 1384) rfl) hN hX hb1 ?_
  refine am_steps ck_L_c35 4 (pc' := 1389) (lv' := [(0, .ref 1), (1, .ref 3), (2, .ref 3261), (3, .int z3)]) (st' := [.int (z3 + (am_i 2)), .ref 1, .int (xs (am_ix (z3 + (am_i 1)))), .ref 3]) rfl ?_
  obtain ⟨hb2, hm⟩ := am_gE hm
  refine ms_sald (am_fd ck_L_c35 (pc := 1389) rfl) hN hX hb2 ?_
  refine am_steps ck_L_c35 4 (pc' := 1394) (lv' := [(0, .ref 1), (1, .ref 3), (2, .ref 3261), (3, .int z3)]) (st' := [.int (z3 + (am_i 3)), .ref 1, .int (xs (am_ix (z3 + (am_i 2)))), .int (xs (am_ix (z3 + (am_i 1)))), .ref 3]) rfl ?_
  obtain ⟨hb3, hm⟩ := am_gE hm
  refine ms_sald (am_fd ck_L_c35 (pc := 1394) rfl) hN hX hb3 ?_
  obtain ⟨q4, hq4, hm⟩ := am_bE hm
  refine ms_callV (M2 := mt_X8_was) (d2 := 3) (ci := 6) [.int (xs (am_ix (z3 + (am_i 1)))), .int (xs (am_ix (z3 + (am_i 2)))), .int (xs (am_ix (z3 + (am_i 3))))] (am_fd ck_L_c35 (pc := 1395) rfl) ok_X8_was tw_762 tw_763 tw_764 (by decide) kc_3 (Nat.le_of_ble_eq_true rfl) (Nat.le_of_ble_eq_true rfl) (x_X8_was hL hq4) ?_
  refine am_steps ck_L_c35 5 (pc' := 1403) (lv' := [(0, .ref 1), (1, .ref 3), (2, .ref 3261), (3, .int z3)]) (st' := [.int (z3 + (am_i 1)), .ref 1, .ref 3261, .int q4]) rfl ?_
  obtain ⟨hb5, hm⟩ := am_gE hm
  refine ms_sald (am_fd ck_L_c35 (pc := 1403) rfl) hN hX hb5 ?_
  refine am_steps ck_L_c35 4 (pc' := 1408) (lv' := [(0, .ref 1), (1, .ref 3), (2, .ref 3261), (3, .int z3)]) (st' := [.int (z3 + (am_i 2)), .ref 1, .int (xs (am_ix (z3 + (am_i 1)))), .ref 3261, .int q4]) rfl ?_
  obtain ⟨hb6, hm⟩ := am_gE hm
  refine ms_sald (am_fd ck_L_c35 (pc := 1408) rfl) hN hX hb6 ?_
  refine am_steps ck_L_c35 4 (pc' := 1413) (lv' := [(0, .ref 1), (1, .ref 3), (2, .ref 3261), (3, .int z3)]) (st' := [.int (z3 + (am_i 3)), .ref 1, .int (xs (am_ix (z3 + (am_i 2)))), .int (xs (am_ix (z3 + (am_i 1)))), .ref 3261, .int q4]) rfl ?_
  obtain ⟨hb7, hm⟩ := am_gE hm
  refine ms_sald (am_fd ck_L_c35 (pc := 1413) rfl) hN hX hb7 ?_
  obtain ⟨q8, hq8, hm⟩ := am_bE hm
  refine ms_callV (M2 := mt_X9_was) (d2 := 3) (ci := 7) [.int (xs (am_ix (z3 + (am_i 1)))), .int (xs (am_ix (z3 + (am_i 2)))), .int (xs (am_ix (z3 + (am_i 3))))] (am_fd ck_L_c35 (pc := 1414) rfl) ok_X9_was tw_1247 tw_1248 tw_1249 (by decide) kc_3261 (Nat.le_of_ble_eq_true rfl) (Nat.le_of_ble_eq_true rfl) (x_X9_was hL hq8) ?_
  obtain ⟨hb9, hm⟩ := am_gE hm
  refine am_icmp (tgt := 1923) (am_fd ck_L_c35 (pc := 1417) rfl) rfl (fun _ => ?_) (fun q => absurd (of_decide_eq_true hb9) q)
  refine am_subp [0, 1, 2, 3] rfl ?_
  cases hm
  exact K hL
set_option maxRecDepth 100000 in
set_option maxHeartbeats 4000000 in
theorem x_L_c36 {G : am_G} {N : Nat} {xs : Nat → Int32} {z3 : Int32} {m : am_m} {r : am_rr} {rv : Option Value} {h' : am_H} {p : am_m × am_rr} (hN : am_n G = N) (hX : am_xs G = xs) (hL : am_Lay r) (hm : m_L_c36 N xs z3 m r = some p) (K : am_Lay p.2 → am_W G mt_L_law 28 rv h' 1923 [(0, .ref 1), (1, .ref 3), (2, .ref 3261), (3, .int z3)] [] (am_hh p.1 p.2)) : am_W G mt_L_law 28 rv h' 1422 [(0, .ref 1), (1, .ref 3), (2, .ref 3261), (3, .int z3)] [] (am_hh m r) := by
  unfold m_L_c36 at hm
  refine am_steps ck_L_c36 5 (pc' := 1427) (lv' := [(0, .ref 1), (1, .ref 3), (2, .ref 3261), (3, .int z3)]) (st' := [.int (z3 + (am_i 1)), .ref 1, .ref 3]) rfl ?_
  obtain ⟨hb1, hm⟩ := am_gE hm
  refine ms_sald (am_fd ck_L_c36 (pc := 1427) rfl) hN hX hb1 ?_
  refine am_steps ck_L_c36 4 (pc' := 1432) (lv' := [(0, .ref 1), (1, .ref 3), (2, .ref 3261), (3, .int z3)]) (st' := [.int (z3 + (am_i 2)), .ref 1, .int (xs (am_ix (z3 + (am_i 1)))), .ref 3]) rfl ?_
  obtain ⟨hb2, hm⟩ := am_gE hm
  refine ms_sald (am_fd ck_L_c36 (pc := 1432) rfl) hN hX hb2 ?_
  refine am_steps ck_L_c36 4 (pc' := 1437) (lv' := [(0, .ref 1), (1, .ref 3), (2, .ref 3261), (3, .int z3)]) (st' := [.int (z3 + (am_i 3)), .ref 1, .int (xs (am_ix (z3 + (am_i 2)))), .int (xs (am_ix (z3 + (am_i 1)))), .ref 3]) rfl ?_
  obtain ⟨hb3, hm⟩ := am_gE hm
  refine ms_sald (am_fd ck_L_c36 (pc := 1437) rfl) hN hX hb3 ?_
  obtain ⟨q4, hq4, hm⟩ := am_bE hm
  refine ms_callV (M2 := mt_X8_grew) (d2 := 3) (ci := 6) [.int (xs (am_ix (z3 + (am_i 1)))), .int (xs (am_ix (z3 + (am_i 2)))), .int (xs (am_ix (z3 + (am_i 3))))] (am_fd ck_L_c36 (pc := 1438) rfl) ok_X8_grew tw_770 tw_771 tw_772 (by decide) kc_3 (Nat.le_of_ble_eq_true rfl) (Nat.le_of_ble_eq_true rfl) (x_X8_grew hL hq4) ?_
  refine am_steps ck_L_c36 5 (pc' := 1446) (lv' := [(0, .ref 1), (1, .ref 3), (2, .ref 3261), (3, .int z3)]) (st' := [.int (z3 + (am_i 1)), .ref 1, .ref 3261, .int q4]) rfl ?_
  obtain ⟨hb5, hm⟩ := am_gE hm
  refine ms_sald (am_fd ck_L_c36 (pc := 1446) rfl) hN hX hb5 ?_
  refine am_steps ck_L_c36 4 (pc' := 1451) (lv' := [(0, .ref 1), (1, .ref 3), (2, .ref 3261), (3, .int z3)]) (st' := [.int (z3 + (am_i 2)), .ref 1, .int (xs (am_ix (z3 + (am_i 1)))), .ref 3261, .int q4]) rfl ?_
  obtain ⟨hb6, hm⟩ := am_gE hm
  refine ms_sald (am_fd ck_L_c36 (pc := 1451) rfl) hN hX hb6 ?_
  refine am_steps ck_L_c36 4 (pc' := 1456) (lv' := [(0, .ref 1), (1, .ref 3), (2, .ref 3261), (3, .int z3)]) (st' := [.int (z3 + (am_i 3)), .ref 1, .int (xs (am_ix (z3 + (am_i 2)))), .int (xs (am_ix (z3 + (am_i 1)))), .ref 3261, .int q4]) rfl ?_
  obtain ⟨hb7, hm⟩ := am_gE hm
  refine ms_sald (am_fd ck_L_c36 (pc := 1456) rfl) hN hX hb7 ?_
  obtain ⟨q8, hq8, hm⟩ := am_bE hm
  refine ms_callV (M2 := mt_X9_grew) (d2 := 3) (ci := 7) [.int (xs (am_ix (z3 + (am_i 1)))), .int (xs (am_ix (z3 + (am_i 2)))), .int (xs (am_ix (z3 + (am_i 3))))] (am_fd ck_L_c36 (pc := 1457) rfl) ok_X9_grew tw_1251 tw_1252 tw_1253 (by decide) kc_3261 (Nat.le_of_ble_eq_true rfl) (Nat.le_of_ble_eq_true rfl) (x_X9_grew hL hq8) ?_
  obtain ⟨hb9, hm⟩ := am_gE hm
  refine am_icmp (tgt := 1923) (am_fd ck_L_c36 (pc := 1460) rfl) rfl (fun _ => ?_) (fun q => absurd (of_decide_eq_true hb9) q)
  refine am_subp [0, 1, 2, 3] rfl ?_
  cases hm
  exact K hL
set_option maxRecDepth 100000 in
set_option maxHeartbeats 4000000 in
theorem x_L_c37 {G : am_G} {N : Nat} {xs : Nat → Int32} {z3 : Int32} {m : am_m} {r : am_rr} {rv : Option Value} {h' : am_H} {p : am_m × am_rr} (hN : am_n G = N) (hX : am_xs G = xs) (hL : am_Lay r) (hm : m_L_c37 N xs z3 m r = some p) (K : am_Lay p.2 → am_W G mt_L_law 28 rv h' 1923 [(0, .ref 1), (1, .ref 3), (2, .ref 3261), (3, .int z3)] [] (am_hh p.1 p.2)) : am_W G mt_L_law 28 rv h' 1465 [(0, .ref 1), (1, .ref 3), (2, .ref 3261), (3, .int z3)] [] (am_hh m r) := by
  unfold m_L_c37 at hm
  refine am_steps ck_L_c37 5 (pc' := 1470) (lv' := [(0, .ref 1), (1, .ref 3), (2, .ref 3261), (3, .int z3)]) (st' := [.int (z3 + (am_i 1)), .ref 1, .ref 3]) rfl ?_
  obtain ⟨hb1, hm⟩ := am_gE hm
  refine ms_sald (am_fd ck_L_c37 (pc := 1470) rfl) hN hX hb1 ?_
  refine am_steps ck_L_c37 4 (pc' := 1475) (lv' := [(0, .ref 1), (1, .ref 3), (2, .ref 3261), (3, .int z3)]) (st' := [.int (z3 + (am_i 2)), .ref 1, .int (xs (am_ix (z3 + (am_i 1)))), .ref 3]) rfl ?_
  obtain ⟨hb2, hm⟩ := am_gE hm
  refine ms_sald (am_fd ck_L_c37 (pc := 1475) rfl) hN hX hb2 ?_
  obtain ⟨q3, hq3, hm⟩ := am_bE hm
  refine ms_callV (M2 := mt_X8_halves) (d2 := 3) (ci := 6) [.int (xs (am_ix (z3 + (am_i 1)))), .int (xs (am_ix (z3 + (am_i 2))))] (am_fd ck_L_c37 (pc := 1476) rfl) ok_X8_halves tw_779 tw_780 tw_781 (by decide) kc_3 (Nat.le_of_ble_eq_true rfl) (Nat.le_of_ble_eq_true rfl) (x_X8_halves hL hq3) ?_
  refine am_steps ck_L_c37 5 (pc' := 1484) (lv' := [(0, .ref 1), (1, .ref 3), (2, .ref 3261), (3, .int z3)]) (st' := [.int (z3 + (am_i 1)), .ref 1, .ref 3261, .int q3.1]) rfl ?_
  obtain ⟨hb4, hm⟩ := am_gE hm
  refine ms_sald (am_fd ck_L_c37 (pc := 1484) rfl) hN hX hb4 ?_
  refine am_steps ck_L_c37 4 (pc' := 1489) (lv' := [(0, .ref 1), (1, .ref 3), (2, .ref 3261), (3, .int z3)]) (st' := [.int (z3 + (am_i 2)), .ref 1, .int (xs (am_ix (z3 + (am_i 1)))), .ref 3261, .int q3.1]) rfl ?_
  obtain ⟨hb5, hm⟩ := am_gE hm
  refine ms_sald (am_fd ck_L_c37 (pc := 1489) rfl) hN hX hb5 ?_
  obtain ⟨q6, hq6, hm⟩ := am_bE hm
  refine ms_callV (M2 := mt_X9_halves) (d2 := 4) (ci := 7) [.int (xs (am_ix (z3 + (am_i 1)))), .int (xs (am_ix (z3 + (am_i 2))))] (am_fd ck_L_c37 (pc := 1490) rfl) ok_X9_halves tw_1256 tw_1257 tw_1258 (by decide) kc_3261 (Nat.le_of_ble_eq_true rfl) (Nat.le_of_ble_eq_true rfl) (x_X9_halves hL hq6) ?_
  obtain ⟨hb7, hm⟩ := am_gE hm
  refine am_icmp (tgt := 1923) (am_fd ck_L_c37 (pc := 1493) rfl) rfl (fun _ => ?_) (fun q => absurd (of_decide_eq_true hb7) q)
  refine am_subp [0, 1, 2, 3] rfl ?_
  cases hm
  exact K hL
set_option maxRecDepth 100000 in
set_option maxHeartbeats 4000000 in
theorem x_L_c38 {G : am_G} {N : Nat} {xs : Nat → Int32} {z3 : Int32} {m : am_m} {r : am_rr} {rv : Option Value} {h' : am_H} {p : am_m × am_rr} (hN : am_n G = N) (hX : am_xs G = xs) (hL : am_Lay r) (hm : m_L_c38 N xs z3 m r = some p) (K : am_Lay p.2 → am_W G mt_L_law 28 rv h' 1923 [(0, .ref 1), (1, .ref 3), (2, .ref 3261), (3, .int z3)] [] (am_hh p.1 p.2)) : am_W G mt_L_law 28 rv h' 1498 [(0, .ref 1), (1, .ref 3), (2, .ref 3261), (3, .int z3)] [] (am_hh m r) := by
  unfold m_L_c38 at hm
  refine am_steps ck_L_c38 5 (pc' := 1503) (lv' := [(0, .ref 1), (1, .ref 3), (2, .ref 3261), (3, .int z3)]) (st' := [.int (z3 + (am_i 1)), .ref 1, .ref 3]) rfl ?_
  obtain ⟨hb1, hm⟩ := am_gE hm
  refine ms_sald (am_fd ck_L_c38 (pc := 1503) rfl) hN hX hb1 ?_
  refine am_steps ck_L_c38 4 (pc' := 1508) (lv' := [(0, .ref 1), (1, .ref 3), (2, .ref 3261), (3, .int z3)]) (st' := [.int (z3 + (am_i 2)), .ref 1, .int (xs (am_ix (z3 + (am_i 1)))), .ref 3]) rfl ?_
  obtain ⟨hb2, hm⟩ := am_gE hm
  refine ms_sald (am_fd ck_L_c38 (pc := 1508) rfl) hN hX hb2 ?_
  refine am_steps ck_L_c38 4 (pc' := 1513) (lv' := [(0, .ref 1), (1, .ref 3), (2, .ref 3261), (3, .int z3)]) (st' := [.int (z3 + (am_i 3)), .ref 1, .int (xs (am_ix (z3 + (am_i 2)))), .int (xs (am_ix (z3 + (am_i 1)))), .ref 3]) rfl ?_
  obtain ⟨hb3, hm⟩ := am_gE hm
  refine ms_sald (am_fd ck_L_c38 (pc := 1513) rfl) hN hX hb3 ?_
  obtain ⟨q4, hq4, hm⟩ := am_bE hm
  refine ms_callV (M2 := mt_X8_chain) (d2 := 5) (ci := 6) [.int (xs (am_ix (z3 + (am_i 1)))), .int (xs (am_ix (z3 + (am_i 2)))), .int (xs (am_ix (z3 + (am_i 3))))] (am_fd ck_L_c38 (pc := 1514) rfl) ok_X8_chain tw_615 tw_616 tw_617 (by decide) kc_3 (Nat.le_of_ble_eq_true rfl) (Nat.le_of_ble_eq_true rfl) (x_X8_chain hL hq4) ?_
  refine am_steps ck_L_c38 5 (pc' := 1522) (lv' := [(0, .ref 1), (1, .ref 3), (2, .ref 3261), (3, .int z3)]) (st' := [.int (z3 + (am_i 1)), .ref 1, .ref 3261, .int q4]) rfl ?_
  obtain ⟨hb5, hm⟩ := am_gE hm
  refine ms_sald (am_fd ck_L_c38 (pc := 1522) rfl) hN hX hb5 ?_
  refine am_steps ck_L_c38 4 (pc' := 1527) (lv' := [(0, .ref 1), (1, .ref 3), (2, .ref 3261), (3, .int z3)]) (st' := [.int (z3 + (am_i 2)), .ref 1, .int (xs (am_ix (z3 + (am_i 1)))), .ref 3261, .int q4]) rfl ?_
  obtain ⟨hb6, hm⟩ := am_gE hm
  refine ms_sald (am_fd ck_L_c38 (pc := 1527) rfl) hN hX hb6 ?_
  refine am_steps ck_L_c38 4 (pc' := 1532) (lv' := [(0, .ref 1), (1, .ref 3), (2, .ref 3261), (3, .int z3)]) (st' := [.int (z3 + (am_i 3)), .ref 1, .int (xs (am_ix (z3 + (am_i 2)))), .int (xs (am_ix (z3 + (am_i 1)))), .ref 3261, .int q4]) rfl ?_
  obtain ⟨hb7, hm⟩ := am_gE hm
  refine ms_sald (am_fd ck_L_c38 (pc := 1532) rfl) hN hX hb7 ?_
  obtain ⟨q8, hq8, hm⟩ := am_bE hm
  refine ms_callV (M2 := mt_X9_chain) (d2 := 5) (ci := 7) [.int (xs (am_ix (z3 + (am_i 1)))), .int (xs (am_ix (z3 + (am_i 2)))), .int (xs (am_ix (z3 + (am_i 3))))] (am_fd ck_L_c38 (pc := 1533) rfl) ok_X9_chain tw_1261 tw_1262 tw_1263 (by decide) kc_3261 (Nat.le_of_ble_eq_true rfl) (Nat.le_of_ble_eq_true rfl) (x_X9_chain hL hq8) ?_
  obtain ⟨hb9, hm⟩ := am_gE hm
  refine am_icmp (tgt := 1923) (am_fd ck_L_c38 (pc := 1536) rfl) rfl (fun _ => ?_) (fun q => absurd (of_decide_eq_true hb9) q)
  refine am_subp [0, 1, 2, 3] rfl ?_
  cases hm
  exact K hL
set_option maxRecDepth 100000 in
set_option maxHeartbeats 4000000 in
theorem x_L_c39 {G : am_G} {N : Nat} {xs : Nat → Int32} {z3 : Int32} {m : am_m} {r : am_rr} {rv : Option Value} {h' : am_H} {p : am_m × am_rr} (hN : am_n G = N) (hX : am_xs G = xs) (hL : am_Lay r) (hm : m_L_c39 N xs z3 m r = some p) (K : am_Lay p.2 → am_W G mt_L_law 28 rv h' 1923 [(0, .ref 1), (1, .ref 3), (2, .ref 3261), (3, .int z3)] [] (am_hh p.1 p.2)) : am_W G mt_L_law 28 rv h' 1541 [(0, .ref 1), (1, .ref 3), (2, .ref 3261), (3, .int z3)] [] (am_hh m r) := by
  unfold m_L_c39 at hm
  refine am_steps ck_L_c39 5 (pc' := 1546) (lv' := [(0, .ref 1), (1, .ref 3), (2, .ref 3261), (3, .int z3)]) (st' := [.int (z3 + (am_i 1)), .ref 1, .ref 3]) rfl ?_
  obtain ⟨hb1, hm⟩ := am_gE hm
  refine ms_sald (am_fd ck_L_c39 (pc := 1546) rfl) hN hX hb1 ?_
  refine am_steps ck_L_c39 4 (pc' := 1551) (lv' := [(0, .ref 1), (1, .ref 3), (2, .ref 3261), (3, .int z3)]) (st' := [.int (z3 + (am_i 2)), .ref 1, .int (xs (am_ix (z3 + (am_i 1)))), .ref 3]) rfl ?_
  obtain ⟨hb2, hm⟩ := am_gE hm
  refine ms_sald (am_fd ck_L_c39 (pc := 1551) rfl) hN hX hb2 ?_
  obtain ⟨q3, hq3, hm⟩ := am_bE hm
  refine ms_callV (M2 := mt_X8_hops) (d2 := 5) (ci := 6) [.int (xs (am_ix (z3 + (am_i 1)))), .int (xs (am_ix (z3 + (am_i 2))))] (am_fd ck_L_c39 (pc := 1552) rfl) ok_X8_hops tw_623 tw_624 tw_625 (by decide) kc_3 (Nat.le_of_ble_eq_true rfl) (Nat.le_of_ble_eq_true rfl) (x_X8_hops hL hq3) ?_
  refine am_steps ck_L_c39 5 (pc' := 1560) (lv' := [(0, .ref 1), (1, .ref 3), (2, .ref 3261), (3, .int z3)]) (st' := [.int (z3 + (am_i 1)), .ref 1, .ref 3261, .int q3]) rfl ?_
  obtain ⟨hb4, hm⟩ := am_gE hm
  refine ms_sald (am_fd ck_L_c39 (pc := 1560) rfl) hN hX hb4 ?_
  refine am_steps ck_L_c39 4 (pc' := 1565) (lv' := [(0, .ref 1), (1, .ref 3), (2, .ref 3261), (3, .int z3)]) (st' := [.int (z3 + (am_i 2)), .ref 1, .int (xs (am_ix (z3 + (am_i 1)))), .ref 3261, .int q3]) rfl ?_
  obtain ⟨hb5, hm⟩ := am_gE hm
  refine ms_sald (am_fd ck_L_c39 (pc := 1565) rfl) hN hX hb5 ?_
  obtain ⟨q6, hq6, hm⟩ := am_bE hm
  refine ms_callV (M2 := mt_X9_hops) (d2 := 5) (ci := 7) [.int (xs (am_ix (z3 + (am_i 1)))), .int (xs (am_ix (z3 + (am_i 2))))] (am_fd ck_L_c39 (pc := 1566) rfl) ok_X9_hops tw_1270 tw_1271 tw_1272 (by decide) kc_3261 (Nat.le_of_ble_eq_true rfl) (Nat.le_of_ble_eq_true rfl) (x_X9_hops hL hq6) ?_
  obtain ⟨hb7, hm⟩ := am_gE hm
  refine am_icmp (tgt := 1923) (am_fd ck_L_c39 (pc := 1569) rfl) rfl (fun _ => ?_) (fun q => absurd (of_decide_eq_true hb7) q)
  refine am_subp [0, 1, 2, 3] rfl ?_
  cases hm
  exact K hL
set_option maxRecDepth 100000 in
set_option maxHeartbeats 4000000 in
theorem x_L_c40 {G : am_G} {N : Nat} {xs : Nat → Int32} {z3 : Int32} {m : am_m} {r : am_rr} {rv : Option Value} {h' : am_H} {p : am_m × am_rr} (hN : am_n G = N) (hX : am_xs G = xs) (hL : am_Lay r) (hm : m_L_c40 N xs z3 m r = some p) (K : am_Lay p.2 → am_W G mt_L_law 28 rv h' 1923 [(0, .ref 1), (1, .ref 3), (2, .ref 3261), (3, .int z3)] [] (am_hh p.1 p.2)) : am_W G mt_L_law 28 rv h' 1574 [(0, .ref 1), (1, .ref 3), (2, .ref 3261), (3, .int z3)] [] (am_hh m r) := by
  unfold m_L_c40 at hm
  refine am_steps ck_L_c40 5 (pc' := 1579) (lv' := [(0, .ref 1), (1, .ref 3), (2, .ref 3261), (3, .int z3)]) (st' := [.int (z3 + (am_i 1)), .ref 1, .ref 3]) rfl ?_
  obtain ⟨hb1, hm⟩ := am_gE hm
  refine ms_sald (am_fd ck_L_c40 (pc := 1579) rfl) hN hX hb1 ?_
  refine am_steps ck_L_c40 4 (pc' := 1584) (lv' := [(0, .ref 1), (1, .ref 3), (2, .ref 3261), (3, .int z3)]) (st' := [.int (z3 + (am_i 2)), .ref 1, .int (xs (am_ix (z3 + (am_i 1)))), .ref 3]) rfl ?_
  obtain ⟨hb2, hm⟩ := am_gE hm
  refine ms_sald (am_fd ck_L_c40 (pc := 1584) rfl) hN hX hb2 ?_
  refine am_steps ck_L_c40 4 (pc' := 1589) (lv' := [(0, .ref 1), (1, .ref 3), (2, .ref 3261), (3, .int z3)]) (st' := [.int (z3 + (am_i 3)), .ref 1, .int (xs (am_ix (z3 + (am_i 2)))), .int (xs (am_ix (z3 + (am_i 1)))), .ref 3]) rfl ?_
  obtain ⟨hb3, hm⟩ := am_gE hm
  refine ms_sald (am_fd ck_L_c40 (pc := 1589) rfl) hN hX hb3 ?_
  obtain ⟨q4, hq4, hm⟩ := am_bE hm
  refine ms_callV (M2 := mt_X8_drawn) (d2 := 3) (ci := 6) [.int (xs (am_ix (z3 + (am_i 1)))), .int (xs (am_ix (z3 + (am_i 2)))), .int (xs (am_ix (z3 + (am_i 3))))] (am_fd ck_L_c40 (pc := 1590) rfl) ok_X8_drawn tw_747 tw_748 tw_749 (by decide) kc_3 (Nat.le_of_ble_eq_true rfl) (Nat.le_of_ble_eq_true rfl) (x_X8_drawn hL hq4) ?_
  refine am_steps ck_L_c40 5 (pc' := 1598) (lv' := [(0, .ref 1), (1, .ref 3), (2, .ref 3261), (3, .int z3)]) (st' := [.int (z3 + (am_i 1)), .ref 1, .ref 3261, .int q4.1]) rfl ?_
  obtain ⟨hb5, hm⟩ := am_gE hm
  refine ms_sald (am_fd ck_L_c40 (pc := 1598) rfl) hN hX hb5 ?_
  refine am_steps ck_L_c40 4 (pc' := 1603) (lv' := [(0, .ref 1), (1, .ref 3), (2, .ref 3261), (3, .int z3)]) (st' := [.int (z3 + (am_i 2)), .ref 1, .int (xs (am_ix (z3 + (am_i 1)))), .ref 3261, .int q4.1]) rfl ?_
  obtain ⟨hb6, hm⟩ := am_gE hm
  refine ms_sald (am_fd ck_L_c40 (pc := 1603) rfl) hN hX hb6 ?_
  refine am_steps ck_L_c40 4 (pc' := 1608) (lv' := [(0, .ref 1), (1, .ref 3), (2, .ref 3261), (3, .int z3)]) (st' := [.int (z3 + (am_i 3)), .ref 1, .int (xs (am_ix (z3 + (am_i 2)))), .int (xs (am_ix (z3 + (am_i 1)))), .ref 3261, .int q4.1]) rfl ?_
  obtain ⟨hb7, hm⟩ := am_gE hm
  refine ms_sald (am_fd ck_L_c40 (pc := 1608) rfl) hN hX hb7 ?_
  obtain ⟨q8, hq8, hm⟩ := am_bE hm
  refine ms_callV (M2 := mt_X9_drawn) (d2 := 3) (ci := 7) [.int (xs (am_ix (z3 + (am_i 1)))), .int (xs (am_ix (z3 + (am_i 2)))), .int (xs (am_ix (z3 + (am_i 3))))] (am_fd ck_L_c40 (pc := 1609) rfl) ok_X9_drawn tw_1274 tw_1275 tw_1276 (by decide) kc_3261 (Nat.le_of_ble_eq_true rfl) (Nat.le_of_ble_eq_true rfl) (x_X9_drawn hL hq8) ?_
  obtain ⟨hb9, hm⟩ := am_gE hm
  refine am_icmp (tgt := 1923) (am_fd ck_L_c40 (pc := 1612) rfl) rfl (fun _ => ?_) (fun q => absurd (of_decide_eq_true hb9) q)
  refine am_subp [0, 1, 2, 3] rfl ?_
  cases hm
  exact K hL
set_option maxRecDepth 100000 in
set_option maxHeartbeats 4000000 in
theorem x_L_c41 {G : am_G} {N : Nat} {xs : Nat → Int32} {z3 : Int32} {m : am_m} {r : am_rr} {rv : Option Value} {h' : am_H} {p : am_m × am_rr} (hN : am_n G = N) (hX : am_xs G = xs) (hL : am_Lay r) (hm : m_L_c41 N xs z3 m r = some p) (K : am_Lay p.2 → am_W G mt_L_law 28 rv h' 1923 [(0, .ref 1), (1, .ref 3), (2, .ref 3261), (3, .int z3)] [] (am_hh p.1 p.2)) : am_W G mt_L_law 28 rv h' 1617 [(0, .ref 1), (1, .ref 3), (2, .ref 3261), (3, .int z3)] [] (am_hh m r) := by
  unfold m_L_c41 at hm
  refine am_steps ck_L_c41 5 (pc' := 1622) (lv' := [(0, .ref 1), (1, .ref 3), (2, .ref 3261), (3, .int z3)]) (st' := [.int (z3 + (am_i 1)), .ref 1, .ref 3]) rfl ?_
  obtain ⟨hb1, hm⟩ := am_gE hm
  refine ms_sald (am_fd ck_L_c41 (pc := 1622) rfl) hN hX hb1 ?_
  refine am_steps ck_L_c41 4 (pc' := 1627) (lv' := [(0, .ref 1), (1, .ref 3), (2, .ref 3261), (3, .int z3)]) (st' := [.int (z3 + (am_i 2)), .ref 1, .int (xs (am_ix (z3 + (am_i 1)))), .ref 3]) rfl ?_
  obtain ⟨hb2, hm⟩ := am_gE hm
  refine ms_sald (am_fd ck_L_c41 (pc := 1627) rfl) hN hX hb2 ?_
  obtain ⟨q3, hq3, hm⟩ := am_bE hm
  refine ms_callV (M2 := mt_X8_unlike) (d2 := 2) (ci := 6) [.int (xs (am_ix (z3 + (am_i 1)))), .int (xs (am_ix (z3 + (am_i 2))))] (am_fd ck_L_c41 (pc := 1628) rfl) ok_X8_unlike tw_789 tw_790 tw_791 (by decide) kc_3 (Nat.le_of_ble_eq_true rfl) (Nat.le_of_ble_eq_true rfl) (x_X8_unlike hL hq3) ?_
  refine am_steps ck_L_c41 5 (pc' := 1636) (lv' := [(0, .ref 1), (1, .ref 3), (2, .ref 3261), (3, .int z3)]) (st' := [.int (z3 + (am_i 1)), .ref 1, .ref 3261, .int q3]) rfl ?_
  obtain ⟨hb4, hm⟩ := am_gE hm
  refine ms_sald (am_fd ck_L_c41 (pc := 1636) rfl) hN hX hb4 ?_
  refine am_steps ck_L_c41 4 (pc' := 1641) (lv' := [(0, .ref 1), (1, .ref 3), (2, .ref 3261), (3, .int z3)]) (st' := [.int (z3 + (am_i 2)), .ref 1, .int (xs (am_ix (z3 + (am_i 1)))), .ref 3261, .int q3]) rfl ?_
  obtain ⟨hb5, hm⟩ := am_gE hm
  refine ms_sald (am_fd ck_L_c41 (pc := 1641) rfl) hN hX hb5 ?_
  obtain ⟨q6, hq6, hm⟩ := am_bE hm
  refine ms_callV (M2 := mt_X9_unlike_) (d2 := 3) (ci := 7) [.int (xs (am_ix (z3 + (am_i 1)))), .int (xs (am_ix (z3 + (am_i 2))))] (am_fd ck_L_c41 (pc := 1642) rfl) ok_X9_unlike_ tw_1339 tw_1317 tw_1318 (by decide) kc_3261 (Nat.le_of_ble_eq_true rfl) (Nat.le_of_ble_eq_true rfl) (x_X9_unlike_ hL hq6) ?_
  obtain ⟨hb7, hm⟩ := am_gE hm
  refine am_icmp (tgt := 1923) (am_fd ck_L_c41 (pc := 1645) rfl) rfl (fun _ => ?_) (fun q => absurd (of_decide_eq_true hb7) q)
  refine am_subp [0, 1, 2, 3] rfl ?_
  cases hm
  exact K hL
set_option maxRecDepth 100000 in
set_option maxHeartbeats 4000000 in
theorem x_L_c42 {G : am_G} {N : Nat} {xs : Nat → Int32} {z3 : Int32} {m : am_m} {r : am_rr} {rv : Option Value} {h' : am_H} {p : am_m × am_rr} (hN : am_n G = N) (hX : am_xs G = xs) (hL : am_Lay r) (hm : m_L_c42 N xs z3 m r = some p) (K : am_Lay p.2 → am_W G mt_L_law 28 rv h' 1923 [(0, .ref 1), (1, .ref 3), (2, .ref 3261), (3, .int z3)] [] (am_hh p.1 p.2)) : am_W G mt_L_law 28 rv h' 1650 [(0, .ref 1), (1, .ref 3), (2, .ref 3261), (3, .int z3)] [] (am_hh m r) := by
  unfold m_L_c42 at hm
  refine am_steps ck_L_c42 5 (pc' := 1655) (lv' := [(0, .ref 1), (1, .ref 3), (2, .ref 3261), (3, .int z3)]) (st' := [.int (z3 + (am_i 1)), .ref 1, .ref 3]) rfl ?_
  obtain ⟨hb1, hm⟩ := am_gE hm
  refine ms_sald (am_fd ck_L_c42 (pc := 1655) rfl) hN hX hb1 ?_
  refine am_steps ck_L_c42 4 (pc' := 1660) (lv' := [(0, .ref 1), (1, .ref 3), (2, .ref 3261), (3, .int z3)]) (st' := [.int (z3 + (am_i 2)), .ref 1, .int (xs (am_ix (z3 + (am_i 1)))), .ref 3]) rfl ?_
  obtain ⟨hb2, hm⟩ := am_gE hm
  refine ms_sald (am_fd ck_L_c42 (pc := 1660) rfl) hN hX hb2 ?_
  refine am_steps ck_L_c42 4 (pc' := 1665) (lv' := [(0, .ref 1), (1, .ref 3), (2, .ref 3261), (3, .int z3)]) (st' := [.int (z3 + (am_i 3)), .ref 1, .int (xs (am_ix (z3 + (am_i 2)))), .int (xs (am_ix (z3 + (am_i 1)))), .ref 3]) rfl ?_
  obtain ⟨hb3, hm⟩ := am_gE hm
  refine ms_sald (am_fd ck_L_c42 (pc := 1665) rfl) hN hX hb3 ?_
  obtain ⟨q4, hq4, hm⟩ := am_bE hm
  refine ms_callV (M2 := mt_X8_shared) (d2 := 3) (ci := 6) [.int (xs (am_ix (z3 + (am_i 1)))), .int (xs (am_ix (z3 + (am_i 2)))), .int (xs (am_ix (z3 + (am_i 3))))] (am_fd ck_L_c42 (pc := 1666) rfl) ok_X8_shared tw_793 tw_794 tw_795 (by decide) kc_3 (Nat.le_of_ble_eq_true rfl) (Nat.le_of_ble_eq_true rfl) (x_X8_shared hL hq4) ?_
  refine am_steps ck_L_c42 5 (pc' := 1674) (lv' := [(0, .ref 1), (1, .ref 3), (2, .ref 3261), (3, .int z3)]) (st' := [.int (z3 + (am_i 1)), .ref 1, .ref 3261, .int q4]) rfl ?_
  obtain ⟨hb5, hm⟩ := am_gE hm
  refine ms_sald (am_fd ck_L_c42 (pc := 1674) rfl) hN hX hb5 ?_
  refine am_steps ck_L_c42 4 (pc' := 1679) (lv' := [(0, .ref 1), (1, .ref 3), (2, .ref 3261), (3, .int z3)]) (st' := [.int (z3 + (am_i 2)), .ref 1, .int (xs (am_ix (z3 + (am_i 1)))), .ref 3261, .int q4]) rfl ?_
  obtain ⟨hb6, hm⟩ := am_gE hm
  refine ms_sald (am_fd ck_L_c42 (pc := 1679) rfl) hN hX hb6 ?_
  refine am_steps ck_L_c42 4 (pc' := 1684) (lv' := [(0, .ref 1), (1, .ref 3), (2, .ref 3261), (3, .int z3)]) (st' := [.int (z3 + (am_i 3)), .ref 1, .int (xs (am_ix (z3 + (am_i 2)))), .int (xs (am_ix (z3 + (am_i 1)))), .ref 3261, .int q4]) rfl ?_
  obtain ⟨hb7, hm⟩ := am_gE hm
  refine ms_sald (am_fd ck_L_c42 (pc := 1684) rfl) hN hX hb7 ?_
  obtain ⟨q8, hq8, hm⟩ := am_bE hm
  refine ms_callV (M2 := mt_X9_shared) (d2 := 3) (ci := 7) [.int (xs (am_ix (z3 + (am_i 1)))), .int (xs (am_ix (z3 + (am_i 2)))), .int (xs (am_ix (z3 + (am_i 3))))] (am_fd ck_L_c42 (pc := 1685) rfl) ok_X9_shared tw_1340 tw_1341 tw_1342 (by decide) kc_3261 (Nat.le_of_ble_eq_true rfl) (Nat.le_of_ble_eq_true rfl) (x_X9_shared hL hq8) ?_
  obtain ⟨hb9, hm⟩ := am_gE hm
  refine am_icmp (tgt := 1923) (am_fd ck_L_c42 (pc := 1688) rfl) rfl (fun _ => ?_) (fun q => absurd (of_decide_eq_true hb9) q)
  refine am_subp [0, 1, 2, 3] rfl ?_
  cases hm
  exact K hL
set_option maxRecDepth 100000 in
set_option maxHeartbeats 4000000 in
theorem x_L_c43 {G : am_G} {N : Nat} {xs : Nat → Int32} {z3 : Int32} {m : am_m} {r : am_rr} {rv : Option Value} {h' : am_H} {p : am_m × am_rr} (hN : am_n G = N) (hX : am_xs G = xs) (hL : am_Lay r) (hm : m_L_c43 N xs z3 m r = some p) (K : am_Lay p.2 → am_W G mt_L_law 28 rv h' 1923 [(0, .ref 1), (1, .ref 3), (2, .ref 3261), (3, .int z3)] [] (am_hh p.1 p.2)) : am_W G mt_L_law 28 rv h' 1693 [(0, .ref 1), (1, .ref 3), (2, .ref 3261), (3, .int z3)] [] (am_hh m r) := by
  unfold m_L_c43 at hm
  refine am_steps ck_L_c43 5 (pc' := 1698) (lv' := [(0, .ref 1), (1, .ref 3), (2, .ref 3261), (3, .int z3)]) (st' := [.int (z3 + (am_i 1)), .ref 1, .ref 3]) rfl ?_
  obtain ⟨hb1, hm⟩ := am_gE hm
  refine ms_sald (am_fd ck_L_c43 (pc := 1698) rfl) hN hX hb1 ?_
  obtain ⟨q2, hq2, hm⟩ := am_bE hm
  refine ms_callV (M2 := mt_X8_leads) (d2 := 5) (ci := 6) [.int (xs (am_ix (z3 + (am_i 1))))] (am_fd ck_L_c43 (pc := 1699) rfl) ok_X8_leads tw_800 tw_801 tw_802 (by decide) kc_3 (Nat.le_of_ble_eq_true rfl) (Nat.le_of_ble_eq_true rfl) (x_X8_leads hL hq2) ?_
  refine am_steps ck_L_c43 5 (pc' := 1707) (lv' := [(0, .ref 1), (1, .ref 3), (2, .ref 3261), (3, .int z3)]) (st' := [.int (z3 + (am_i 1)), .ref 1, .ref 3261, .int q2]) rfl ?_
  obtain ⟨hb3, hm⟩ := am_gE hm
  refine ms_sald (am_fd ck_L_c43 (pc := 1707) rfl) hN hX hb3 ?_
  obtain ⟨q4, hq4, hm⟩ := am_bE hm
  refine ms_callV (M2 := mt_X9_leads) (d2 := 4) (ci := 7) [.int (xs (am_ix (z3 + (am_i 1))))] (am_fd ck_L_c43 (pc := 1708) rfl) ok_X9_leads tw_1344 tw_1345 tw_1346 (by decide) kc_3261 (Nat.le_of_ble_eq_true rfl) (Nat.le_of_ble_eq_true rfl) (x_X9_leads hL hq4) ?_
  obtain ⟨hb5, hm⟩ := am_gE hm
  refine am_icmp (tgt := 1923) (am_fd ck_L_c43 (pc := 1711) rfl) rfl (fun _ => ?_) (fun q => absurd (of_decide_eq_true hb5) q)
  refine am_subp [0, 1, 2, 3] rfl ?_
  cases hm
  exact K hL
set_option maxRecDepth 100000 in
set_option maxHeartbeats 4000000 in
theorem x_L_c44 {G : am_G} {N : Nat} {xs : Nat → Int32} {z3 : Int32} {m : am_m} {r : am_rr} {rv : Option Value} {h' : am_H} {p : am_m × am_rr} (hN : am_n G = N) (hX : am_xs G = xs) (hL : am_Lay r) (hm : m_L_c44 N xs z3 m r = some p) (K : am_Lay p.2 → am_W G mt_L_law 28 rv h' 1923 [(0, .ref 1), (1, .ref 3), (2, .ref 3261), (3, .int z3)] [] (am_hh p.1 p.2)) : am_W G mt_L_law 28 rv h' 1716 [(0, .ref 1), (1, .ref 3), (2, .ref 3261), (3, .int z3)] [] (am_hh m r) := by
  unfold m_L_c44 at hm
  refine am_steps ck_L_c44 5 (pc' := 1721) (lv' := [(0, .ref 1), (1, .ref 3), (2, .ref 3261), (3, .int z3)]) (st' := [.int (z3 + (am_i 1)), .ref 1, .ref 3]) rfl ?_
  obtain ⟨hb1, hm⟩ := am_gE hm
  refine ms_sald (am_fd ck_L_c44 (pc := 1721) rfl) hN hX hb1 ?_
  refine am_steps ck_L_c44 4 (pc' := 1726) (lv' := [(0, .ref 1), (1, .ref 3), (2, .ref 3261), (3, .int z3)]) (st' := [.int (z3 + (am_i 2)), .ref 1, .int (xs (am_ix (z3 + (am_i 1)))), .ref 3]) rfl ?_
  obtain ⟨hb2, hm⟩ := am_gE hm
  refine ms_sald (am_fd ck_L_c44 (pc := 1726) rfl) hN hX hb2 ?_
  obtain ⟨q3, hq3, hm⟩ := am_bE hm
  refine ms_callV (M2 := mt_X8_where) (d2 := 4) (ci := 6) [.int (xs (am_ix (z3 + (am_i 1)))), .int (xs (am_ix (z3 + (am_i 2))))] (am_fd ck_L_c44 (pc := 1727) rfl) ok_X8_where tw_808 tw_809 tw_810 (by decide) kc_3 (Nat.le_of_ble_eq_true rfl) (Nat.le_of_ble_eq_true rfl) (x_X8_where hL hq3) ?_
  refine am_steps ck_L_c44 5 (pc' := 1735) (lv' := [(0, .ref 1), (1, .ref 3), (2, .ref 3261), (3, .int z3)]) (st' := [.int (z3 + (am_i 1)), .ref 1, .ref 3261, .int q3]) rfl ?_
  obtain ⟨hb4, hm⟩ := am_gE hm
  refine ms_sald (am_fd ck_L_c44 (pc := 1735) rfl) hN hX hb4 ?_
  refine am_steps ck_L_c44 4 (pc' := 1740) (lv' := [(0, .ref 1), (1, .ref 3), (2, .ref 3261), (3, .int z3)]) (st' := [.int (z3 + (am_i 2)), .ref 1, .int (xs (am_ix (z3 + (am_i 1)))), .ref 3261, .int q3]) rfl ?_
  obtain ⟨hb5, hm⟩ := am_gE hm
  refine ms_sald (am_fd ck_L_c44 (pc := 1740) rfl) hN hX hb5 ?_
  obtain ⟨q6, hq6, hm⟩ := am_bE hm
  refine ms_callV (M2 := mt_X9_where) (d2 := 3) (ci := 7) [.int (xs (am_ix (z3 + (am_i 1)))), .int (xs (am_ix (z3 + (am_i 2))))] (am_fd ck_L_c44 (pc := 1741) rfl) ok_X9_where tw_1348 tw_1349 tw_1350 (by decide) kc_3261 (Nat.le_of_ble_eq_true rfl) (Nat.le_of_ble_eq_true rfl) (x_X9_where hL hq6) ?_
  obtain ⟨hb7, hm⟩ := am_gE hm
  refine am_icmp (tgt := 1923) (am_fd ck_L_c44 (pc := 1744) rfl) rfl (fun _ => ?_) (fun q => absurd (of_decide_eq_true hb7) q)
  refine am_subp [0, 1, 2, 3] rfl ?_
  cases hm
  exact K hL
set_option maxRecDepth 100000 in
set_option maxHeartbeats 4000000 in
theorem x_L_c45 {G : am_G} {N : Nat} {xs : Nat → Int32} {z3 : Int32} {m : am_m} {r : am_rr} {rv : Option Value} {h' : am_H} {p : am_m × am_rr} (hN : am_n G = N) (hX : am_xs G = xs) (hL : am_Lay r) (hm : m_L_c45 N xs z3 m r = some p) (K : am_Lay p.2 → am_W G mt_L_law 28 rv h' 1923 [(0, .ref 1), (1, .ref 3), (2, .ref 3261), (3, .int z3)] [] (am_hh p.1 p.2)) : am_W G mt_L_law 28 rv h' 1749 [(0, .ref 1), (1, .ref 3), (2, .ref 3261), (3, .int z3)] [] (am_hh m r) := by
  unfold m_L_c45 at hm
  refine am_steps ck_L_c45 5 (pc' := 1754) (lv' := [(0, .ref 1), (1, .ref 3), (2, .ref 3261), (3, .int z3)]) (st' := [.int (z3 + (am_i 1)), .ref 1, .ref 3]) rfl ?_
  obtain ⟨hb1, hm⟩ := am_gE hm
  refine ms_sald (am_fd ck_L_c45 (pc := 1754) rfl) hN hX hb1 ?_
  obtain ⟨q2, hq2, hm⟩ := am_bE hm
  refine ms_callV (M2 := mt_X8_cost) (d2 := 27) (ci := 6) [.int (xs (am_ix (z3 + (am_i 1))))] (am_fd ck_L_c45 (pc := 1755) rfl) ok_X8_cost tw_812 tw_813 tw_814 (by decide) kc_3 (Nat.le_of_ble_eq_true rfl) (Nat.le_of_ble_eq_true rfl) (x_X8_cost hL hq2) ?_
  have hL := lr_X8_cost hL hq2
  refine am_steps ck_L_c45 5 (pc' := 1763) (lv' := [(0, .ref 1), (1, .ref 3), (2, .ref 3261), (3, .int z3)]) (st' := [.int (z3 + (am_i 1)), .ref 1, .ref 3261, .int q2.1]) rfl ?_
  obtain ⟨hb3, hm⟩ := am_gE hm
  refine ms_sald (am_fd ck_L_c45 (pc := 1763) rfl) hN hX hb3 ?_
  obtain ⟨q4, hq4, hm⟩ := am_bE hm
  refine ms_callV (M2 := mt_X9_cost) (d2 := 27) (ci := 7) [.int (xs (am_ix (z3 + (am_i 1))))] (am_fd ck_L_c45 (pc := 1764) rfl) ok_X9_cost tw_1352 tw_1353 tw_1354 (by decide) kc_3261 (Nat.le_of_ble_eq_true rfl) (Nat.le_of_ble_eq_true rfl) (x_X9_cost hL hq4) ?_
  obtain ⟨hb5, hm⟩ := am_gE hm
  refine am_icmp (tgt := 1923) (am_fd ck_L_c45 (pc := 1767) rfl) rfl (fun _ => ?_) (fun q => absurd (of_decide_eq_true hb5) q)
  refine am_subp [0, 1, 2, 3] rfl ?_
  cases hm
  exact K hL
set_option maxRecDepth 100000 in
set_option maxHeartbeats 4000000 in
theorem x_L_c46 {G : am_G} {N : Nat} {xs : Nat → Int32} {z3 : Int32} {m : am_m} {r : am_rr} {rv : Option Value} {h' : am_H} {p : am_m × am_rr} (hN : am_n G = N) (hX : am_xs G = xs) (hL : am_Lay r) (hm : m_L_c46 N xs z3 m r = some p) (K : am_Lay p.2 → am_W G mt_L_law 28 rv h' 1923 [(0, .ref 1), (1, .ref 3), (2, .ref 3261), (3, .int z3)] [] (am_hh p.1 p.2)) : am_W G mt_L_law 28 rv h' 1772 [(0, .ref 1), (1, .ref 3), (2, .ref 3261), (3, .int z3)] [] (am_hh m r) := by
  unfold m_L_c46 at hm
  refine am_steps ck_L_c46 5 (pc' := 1777) (lv' := [(0, .ref 1), (1, .ref 3), (2, .ref 3261), (3, .int z3)]) (st' := [.int (z3 + (am_i 1)), .ref 1, .ref 3]) rfl ?_
  obtain ⟨hb1, hm⟩ := am_gE hm
  refine ms_sald (am_fd ck_L_c46 (pc := 1777) rfl) hN hX hb1 ?_
  refine am_steps ck_L_c46 4 (pc' := 1782) (lv' := [(0, .ref 1), (1, .ref 3), (2, .ref 3261), (3, .int z3)]) (st' := [.int (z3 + (am_i 2)), .ref 1, .int (xs (am_ix (z3 + (am_i 1)))), .ref 3]) rfl ?_
  obtain ⟨hb2, hm⟩ := am_gE hm
  refine ms_sald (am_fd ck_L_c46 (pc := 1782) rfl) hN hX hb2 ?_
  refine am_steps ck_L_c46 4 (pc' := 1787) (lv' := [(0, .ref 1), (1, .ref 3), (2, .ref 3261), (3, .int z3)]) (st' := [.int (z3 + (am_i 3)), .ref 1, .int (xs (am_ix (z3 + (am_i 2)))), .int (xs (am_ix (z3 + (am_i 1)))), .ref 3]) rfl ?_
  obtain ⟨hb3, hm⟩ := am_gE hm
  refine ms_sald (am_fd ck_L_c46 (pc := 1787) rfl) hN hX hb3 ?_
  obtain ⟨q4, hq4, hm⟩ := am_bE hm
  refine ms_callV (M2 := mt_X8_would) (d2 := 27) (ci := 6) [.int (xs (am_ix (z3 + (am_i 1)))), .int (xs (am_ix (z3 + (am_i 2)))), .int (xs (am_ix (z3 + (am_i 3))))] (am_fd ck_L_c46 (pc := 1788) rfl) ok_X8_would tw_816 tw_817 tw_818 (by decide) kc_3 (Nat.le_of_ble_eq_true rfl) (Nat.le_of_ble_eq_true rfl) (x_X8_would hL hq4) ?_
  have hL := lr_X8_would hL hq4
  refine am_steps ck_L_c46 5 (pc' := 1796) (lv' := [(0, .ref 1), (1, .ref 3), (2, .ref 3261), (3, .int z3)]) (st' := [.int (z3 + (am_i 1)), .ref 1, .ref 3261, .int q4.1]) rfl ?_
  obtain ⟨hb5, hm⟩ := am_gE hm
  refine ms_sald (am_fd ck_L_c46 (pc := 1796) rfl) hN hX hb5 ?_
  refine am_steps ck_L_c46 4 (pc' := 1801) (lv' := [(0, .ref 1), (1, .ref 3), (2, .ref 3261), (3, .int z3)]) (st' := [.int (z3 + (am_i 2)), .ref 1, .int (xs (am_ix (z3 + (am_i 1)))), .ref 3261, .int q4.1]) rfl ?_
  obtain ⟨hb6, hm⟩ := am_gE hm
  refine ms_sald (am_fd ck_L_c46 (pc := 1801) rfl) hN hX hb6 ?_
  refine am_steps ck_L_c46 4 (pc' := 1806) (lv' := [(0, .ref 1), (1, .ref 3), (2, .ref 3261), (3, .int z3)]) (st' := [.int (z3 + (am_i 3)), .ref 1, .int (xs (am_ix (z3 + (am_i 2)))), .int (xs (am_ix (z3 + (am_i 1)))), .ref 3261, .int q4.1]) rfl ?_
  obtain ⟨hb7, hm⟩ := am_gE hm
  refine ms_sald (am_fd ck_L_c46 (pc := 1806) rfl) hN hX hb7 ?_
  obtain ⟨q8, hq8, hm⟩ := am_bE hm
  refine ms_callV (M2 := mt_X9_would) (d2 := 27) (ci := 7) [.int (xs (am_ix (z3 + (am_i 1)))), .int (xs (am_ix (z3 + (am_i 2)))), .int (xs (am_ix (z3 + (am_i 3))))] (am_fd ck_L_c46 (pc := 1807) rfl) ok_X9_would tw_1356 tw_1357 tw_1358 (by decide) kc_3261 (Nat.le_of_ble_eq_true rfl) (Nat.le_of_ble_eq_true rfl) (x_X9_would hL hq8) ?_
  obtain ⟨hb9, hm⟩ := am_gE hm
  refine am_icmp (tgt := 1923) (am_fd ck_L_c46 (pc := 1810) rfl) rfl (fun _ => ?_) (fun q => absurd (of_decide_eq_true hb9) q)
  refine am_subp [0, 1, 2, 3] rfl ?_
  cases hm
  exact K hL
set_option maxRecDepth 100000 in
set_option maxHeartbeats 4000000 in
theorem x_L_c47 {G : am_G} {N : Nat} {xs : Nat → Int32} {z3 : Int32} {m : am_m} {r : am_rr} {rv : Option Value} {h' : am_H} {p : am_m × am_rr} (hN : am_n G = N) (hX : am_xs G = xs) (hL : am_Lay r) (hm : m_L_c47 N xs z3 m r = some p) (K : am_Lay p.2 → am_W G mt_L_law 28 rv h' 1923 [(0, .ref 1), (1, .ref 3), (2, .ref 3261), (3, .int z3)] [] (am_hh p.1 p.2)) : am_W G mt_L_law 28 rv h' 1815 [(0, .ref 1), (1, .ref 3), (2, .ref 3261), (3, .int z3)] [] (am_hh m r) := by
  unfold m_L_c47 at hm
  refine am_steps ck_L_c47 5 (pc' := 1820) (lv' := [(0, .ref 1), (1, .ref 3), (2, .ref 3261), (3, .int z3)]) (st' := [.int (z3 + (am_i 1)), .ref 1, .ref 3]) rfl ?_
  obtain ⟨hb1, hm⟩ := am_gE hm
  refine ms_sald (am_fd ck_L_c47 (pc := 1820) rfl) hN hX hb1 ?_
  obtain ⟨q2, hq2, hm⟩ := am_bE hm
  refine ms_callV (M2 := mt_X8_home) (d2 := 6) (ci := 6) [.int (xs (am_ix (z3 + (am_i 1))))] (am_fd ck_L_c47 (pc := 1821) rfl) ok_X8_home tw_828 tw_829 tw_830 (by decide) kc_3 (Nat.le_of_ble_eq_true rfl) (Nat.le_of_ble_eq_true rfl) (x_X8_home hL hq2) ?_
  refine am_steps ck_L_c47 5 (pc' := 1829) (lv' := [(0, .ref 1), (1, .ref 3), (2, .ref 3261), (3, .int z3)]) (st' := [.int (z3 + (am_i 1)), .ref 1, .ref 3261, .int q2.1]) rfl ?_
  obtain ⟨hb3, hm⟩ := am_gE hm
  refine ms_sald (am_fd ck_L_c47 (pc := 1829) rfl) hN hX hb3 ?_
  obtain ⟨q4, hq4, hm⟩ := am_bE hm
  refine ms_callV (M2 := mt_X9_home) (d2 := 5) (ci := 7) [.int (xs (am_ix (z3 + (am_i 1))))] (am_fd ck_L_c47 (pc := 1830) rfl) ok_X9_home tw_1364 tw_1365 tw_1366 (by decide) kc_3261 (Nat.le_of_ble_eq_true rfl) (Nat.le_of_ble_eq_true rfl) (x_X9_home hL hq4) ?_
  obtain ⟨hb5, hm⟩ := am_gE hm
  refine am_icmp (tgt := 1923) (am_fd ck_L_c47 (pc := 1833) rfl) rfl (fun _ => ?_) (fun q => absurd (of_decide_eq_true hb5) q)
  refine am_subp [0, 1, 2, 3] rfl ?_
  cases hm
  exact K hL
set_option maxRecDepth 100000 in
set_option maxHeartbeats 4000000 in
theorem x_L_c48 {G : am_G} {N : Nat} {xs : Nat → Int32} {z3 : Int32} {m : am_m} {r : am_rr} {rv : Option Value} {h' : am_H} {p : am_m × am_rr} (hN : am_n G = N) (hX : am_xs G = xs) (hL : am_Lay r) (hm : m_L_c48 N xs z3 m r = some p) (K : am_Lay p.2 → am_W G mt_L_law 28 rv h' 1923 [(0, .ref 1), (1, .ref 3), (2, .ref 3261), (3, .int z3)] [] (am_hh p.1 p.2)) : am_W G mt_L_law 28 rv h' 1838 [(0, .ref 1), (1, .ref 3), (2, .ref 3261), (3, .int z3)] [] (am_hh m r) := by
  unfold m_L_c48 at hm
  refine am_steps ck_L_c48 5 (pc' := 1843) (lv' := [(0, .ref 1), (1, .ref 3), (2, .ref 3261), (3, .int z3)]) (st' := [.int (z3 + (am_i 1)), .ref 1, .ref 3]) rfl ?_
  obtain ⟨hb1, hm⟩ := am_gE hm
  refine ms_sald (am_fd ck_L_c48 (pc := 1843) rfl) hN hX hb1 ?_
  obtain ⟨q2, hq2, hm⟩ := am_bE hm
  refine ms_callV (M2 := mt_X8_count) (d2 := 1) (ci := 6) [.int (xs (am_ix (z3 + (am_i 1))))] (am_fd ck_L_c48 (pc := 1844) rfl) ok_X8_count tw_837 tw_838 tw_839 (by decide) kc_3 (Nat.le_of_ble_eq_true rfl) (Nat.le_of_ble_eq_true rfl) (x_X8_count hL hq2) ?_
  refine am_steps ck_L_c48 5 (pc' := 1852) (lv' := [(0, .ref 1), (1, .ref 3), (2, .ref 3261), (3, .int z3)]) (st' := [.int (z3 + (am_i 1)), .ref 1, .ref 3261, .int q2]) rfl ?_
  obtain ⟨hb3, hm⟩ := am_gE hm
  refine ms_sald (am_fd ck_L_c48 (pc := 1852) rfl) hN hX hb3 ?_
  obtain ⟨q4, hq4, hm⟩ := am_bE hm
  refine ms_callV (M2 := mt_X9_count) (d2 := 2) (ci := 7) [.int (xs (am_ix (z3 + (am_i 1))))] (am_fd ck_L_c48 (pc := 1853) rfl) ok_X9_count tw_1368 tw_1369 tw_1370 (by decide) kc_3261 (Nat.le_of_ble_eq_true rfl) (Nat.le_of_ble_eq_true rfl) (x_X9_count hL hq4) ?_
  obtain ⟨hb5, hm⟩ := am_gE hm
  refine am_icmp (tgt := 1923) (am_fd ck_L_c48 (pc := 1856) rfl) rfl (fun _ => ?_) (fun q => absurd (of_decide_eq_true hb5) q)
  refine am_subp [0, 1, 2, 3] rfl ?_
  cases hm
  exact K hL
set_option maxRecDepth 100000 in
set_option maxHeartbeats 4000000 in
theorem x_L_c49 {G : am_G} {N : Nat} {xs : Nat → Int32} {z3 : Int32} {m : am_m} {r : am_rr} {rv : Option Value} {h' : am_H} {p : am_m × am_rr} (hN : am_n G = N) (hX : am_xs G = xs) (hL : am_Lay r) (hm : m_L_c49 N xs z3 m r = some p) (K : am_Lay p.2 → am_W G mt_L_law 28 rv h' 1923 [(0, .ref 1), (1, .ref 3), (2, .ref 3261), (3, .int z3)] [] (am_hh p.1 p.2)) : am_W G mt_L_law 28 rv h' 1861 [(0, .ref 1), (1, .ref 3), (2, .ref 3261), (3, .int z3)] [] (am_hh m r) := by
  unfold m_L_c49 at hm
  refine am_steps ck_L_c49 5 (pc' := 1866) (lv' := [(0, .ref 1), (1, .ref 3), (2, .ref 3261), (3, .int z3)]) (st' := [.int (z3 + (am_i 1)), .ref 1, .ref 3]) rfl ?_
  obtain ⟨hb1, hm⟩ := am_gE hm
  refine ms_sald (am_fd ck_L_c49 (pc := 1866) rfl) hN hX hb1 ?_
  refine am_ifc (tgt := 1874) (am_fd ck_L_c49 (pc := 1867) rfl) rfl (fun hc2 => ?_) (fun hc2 => ?_)
  · replace hm := am_it hm hc2
    refine am_steps ck_L_c49 1 (pc' := 1875) (lv' := [(0, .ref 1), (1, .ref 3), (2, .ref 3261), (3, .int z3)]) (st' := [.int (am_i 0), .ref 3]) rfl ?_
    obtain ⟨q3, hq3, hm⟩ := am_bE hm
    refine ms_callV (M2 := mt_X8_image) (d2 := 3) (ci := 6) [.int (am_i 0)] (am_fd ck_L_c49 (pc := 1875) rfl) ok_X8_image tw_553 tw_554 tw_555 (by decide) kc_3 (Nat.le_of_ble_eq_true rfl) (Nat.le_of_ble_eq_true rfl) (x_X8_image hL hq3) ?_
    refine am_steps ck_L_c49 5 (pc' := 1883) (lv' := [(0, .ref 1), (1, .ref 3), (2, .ref 3261), (3, .int z3)]) (st' := [.int (z3 + (am_i 1)), .ref 1, .ref 3261, .int q3.1]) rfl ?_
    obtain ⟨hb4, hm⟩ := am_gE hm
    refine ms_sald (am_fd ck_L_c49 (pc := 1883) rfl) hN hX hb4 ?_
    refine am_ifc (tgt := 1891) (am_fd ck_L_c49 (pc := 1884) rfl) rfl (fun hc5 => ?_) (fun hc5 => ?_)
    · replace hm := am_it hm hc5
      refine am_steps ck_L_c49 1 (pc' := 1892) (lv' := [(0, .ref 1), (1, .ref 3), (2, .ref 3261), (3, .int z3)]) (st' := [.int (am_i 0), .ref 3261, .int q3.1]) rfl ?_
      obtain ⟨q6, hq6, hm⟩ := am_bE hm
      refine ms_callV (M2 := mt_X9_image) (d2 := 1) (ci := 7) [.int (am_i 0)] (am_fd ck_L_c49 (pc := 1892) rfl) ok_X9_image tw_1372 tw_1373 tw_1374 (by decide) kc_3261 (Nat.le_of_ble_eq_true rfl) (Nat.le_of_ble_eq_true rfl) (x_X9_image hL hq6) ?_
      obtain ⟨hb7, hm⟩ := am_gE hm
      refine am_icmp (tgt := 1923) (am_fd ck_L_c49 (pc := 1895) rfl) rfl (fun _ => ?_) (fun q => absurd (of_decide_eq_true hb7) q)
      refine am_subp [0, 1, 2, 3] rfl ?_
      cases hm
      exact K hL
    · replace hm := am_if hm hc5
      refine am_steps ck_L_c49 2 (pc' := 1892) (lv' := [(0, .ref 1), (1, .ref 3), (2, .ref 3261), (3, .int z3)]) (st' := [.int (am_i 1), .ref 3261, .int q3.1]) rfl ?_
      obtain ⟨q8, hq8, hm⟩ := am_bE hm
      refine ms_callV (M2 := mt_X9_image) (d2 := 1) (ci := 7) [.int (am_i 1)] (am_fd ck_L_c49 (pc := 1892) rfl) ok_X9_image tw_1372 tw_1373 tw_1374 (by decide) kc_3261 (Nat.le_of_ble_eq_true rfl) (Nat.le_of_ble_eq_true rfl) (x_X9_image hL hq8) ?_
      obtain ⟨hb9, hm⟩ := am_gE hm
      refine am_icmp (tgt := 1923) (am_fd ck_L_c49 (pc := 1895) rfl) rfl (fun _ => ?_) (fun q => absurd (of_decide_eq_true hb9) q)
      refine am_subp [0, 1, 2, 3] rfl ?_
      cases hm
      exact K hL
  · replace hm := am_if hm hc2
    refine am_steps ck_L_c49 2 (pc' := 1875) (lv' := [(0, .ref 1), (1, .ref 3), (2, .ref 3261), (3, .int z3)]) (st' := [.int (am_i 1), .ref 3]) rfl ?_
    obtain ⟨q10, hq10, hm⟩ := am_bE hm
    refine ms_callV (M2 := mt_X8_image) (d2 := 3) (ci := 6) [.int (am_i 1)] (am_fd ck_L_c49 (pc := 1875) rfl) ok_X8_image tw_553 tw_554 tw_555 (by decide) kc_3 (Nat.le_of_ble_eq_true rfl) (Nat.le_of_ble_eq_true rfl) (x_X8_image hL hq10) ?_
    refine am_steps ck_L_c49 5 (pc' := 1883) (lv' := [(0, .ref 1), (1, .ref 3), (2, .ref 3261), (3, .int z3)]) (st' := [.int (z3 + (am_i 1)), .ref 1, .ref 3261, .int q10.1]) rfl ?_
    obtain ⟨hb11, hm⟩ := am_gE hm
    refine ms_sald (am_fd ck_L_c49 (pc := 1883) rfl) hN hX hb11 ?_
    refine am_ifc (tgt := 1891) (am_fd ck_L_c49 (pc := 1884) rfl) rfl (fun hc12 => ?_) (fun hc12 => ?_)
    · replace hm := am_it hm hc12
      refine am_steps ck_L_c49 1 (pc' := 1892) (lv' := [(0, .ref 1), (1, .ref 3), (2, .ref 3261), (3, .int z3)]) (st' := [.int (am_i 0), .ref 3261, .int q10.1]) rfl ?_
      obtain ⟨q13, hq13, hm⟩ := am_bE hm
      refine ms_callV (M2 := mt_X9_image) (d2 := 1) (ci := 7) [.int (am_i 0)] (am_fd ck_L_c49 (pc := 1892) rfl) ok_X9_image tw_1372 tw_1373 tw_1374 (by decide) kc_3261 (Nat.le_of_ble_eq_true rfl) (Nat.le_of_ble_eq_true rfl) (x_X9_image hL hq13) ?_
      obtain ⟨hb14, hm⟩ := am_gE hm
      refine am_icmp (tgt := 1923) (am_fd ck_L_c49 (pc := 1895) rfl) rfl (fun _ => ?_) (fun q => absurd (of_decide_eq_true hb14) q)
      refine am_subp [0, 1, 2, 3] rfl ?_
      cases hm
      exact K hL
    · replace hm := am_if hm hc12
      refine am_steps ck_L_c49 2 (pc' := 1892) (lv' := [(0, .ref 1), (1, .ref 3), (2, .ref 3261), (3, .int z3)]) (st' := [.int (am_i 1), .ref 3261, .int q10.1]) rfl ?_
      obtain ⟨q15, hq15, hm⟩ := am_bE hm
      refine ms_callV (M2 := mt_X9_image) (d2 := 1) (ci := 7) [.int (am_i 1)] (am_fd ck_L_c49 (pc := 1892) rfl) ok_X9_image tw_1372 tw_1373 tw_1374 (by decide) kc_3261 (Nat.le_of_ble_eq_true rfl) (Nat.le_of_ble_eq_true rfl) (x_X9_image hL hq15) ?_
      obtain ⟨hb16, hm⟩ := am_gE hm
      refine am_icmp (tgt := 1923) (am_fd ck_L_c49 (pc := 1895) rfl) rfl (fun _ => ?_) (fun q => absurd (of_decide_eq_true hb16) q)
      refine am_subp [0, 1, 2, 3] rfl ?_
      cases hm
      exact K hL
set_option maxRecDepth 100000 in
set_option maxHeartbeats 4000000 in
theorem x_L_c50 {G : am_G} {N : Nat} {xs : Nat → Int32} {z3 : Int32} {m : am_m} {r : am_rr} {rv : Option Value} {h' : am_H} {p : am_m × am_rr} (hN : am_n G = N) (hX : am_xs G = xs) (hL : am_Lay r) (hm : m_L_c50 N xs z3 m r = some p) (K : am_Lay p.2 → am_W G mt_L_law 28 rv h' 1923 [(0, .ref 1), (1, .ref 3), (2, .ref 3261), (3, .int z3)] [] (am_hh p.1 p.2)) : am_W G mt_L_law 28 rv h' 1900 [(0, .ref 1), (1, .ref 3), (2, .ref 3261), (3, .int z3)] [] (am_hh m r) := by
  unfold m_L_c50 at hm
  refine am_steps ck_L_c50 5 (pc' := 1905) (lv' := [(0, .ref 1), (1, .ref 3), (2, .ref 3261), (3, .int z3)]) (st' := [.int (z3 + (am_i 1)), .ref 1, .ref 3]) rfl ?_
  obtain ⟨hb1, hm⟩ := am_gE hm
  refine ms_sald (am_fd ck_L_c50 (pc := 1905) rfl) hN hX hb1 ?_
  obtain ⟨q2, hq2, hm⟩ := am_bE hm
  refine ms_callV (M2 := mt_X8_look) (d2 := 6) (ci := 6) [.int (xs (am_ix (z3 + (am_i 1))))] (am_fd ck_L_c50 (pc := 1906) rfl) ok_X8_look tw_841 tw_842 tw_843 (by decide) kc_3 (Nat.le_of_ble_eq_true rfl) (Nat.le_of_ble_eq_true rfl) (x_X8_look hL hq2) ?_
  refine am_steps ck_L_c50 5 (pc' := 1914) (lv' := [(0, .ref 1), (1, .ref 3), (2, .ref 3261), (3, .int z3)]) (st' := [.int (z3 + (am_i 1)), .ref 1, .ref 3261, .int q2.1]) rfl ?_
  obtain ⟨hb3, hm⟩ := am_gE hm
  refine ms_sald (am_fd ck_L_c50 (pc := 1914) rfl) hN hX hb3 ?_
  obtain ⟨q4, hq4, hm⟩ := am_bE hm
  refine ms_callV (M2 := mt_X9_look) (d2 := 6) (ci := 7) [.int (xs (am_ix (z3 + (am_i 1))))] (am_fd ck_L_c50 (pc := 1915) rfl) ok_X9_look tw_1376 tw_1377 tw_1378 (by decide) kc_3261 (Nat.le_of_ble_eq_true rfl) (Nat.le_of_ble_eq_true rfl) (x_X9_look hL hq4) ?_
  obtain ⟨hb5, hm⟩ := am_gE hm
  refine am_icmp (tgt := 1923) (am_fd ck_L_c50 (pc := 1918) rfl) rfl (fun _ => ?_) (fun q => absurd (of_decide_eq_true hb5) q)
  refine am_subp [0, 1, 2, 3] rfl ?_
  cases hm
  exact K hL
theorem sw_L_law : decode mt_L_law.2.1 33 = .ok (.tableswitch 1890 0 50 #[219, 262, 295, 318, 351, 404, 427, 460, 513, 546, 569, 632, 655, 668, 691, 704, 737, 770, 803, 836, 879, 912, 945, 988, 1011, 1045, 1069, 1112, 1145, 1178, 1211, 1254, 1277, 1300, 1323, 1346, 1389, 1432, 1465, 1508, 1541, 1584, 1617, 1660, 1683, 1716, 1739, 1782, 1805, 1828, 1867], 219) := by decide +kernel
set_option maxRecDepth 100000 in
set_option maxHeartbeats 4000000 in
theorem x_L_sw {G : am_G} {N : Nat} {xs : Nat → Int32} {z3 c : Int32} {m : am_m} {r : am_rr} {rv : Option Value} {h' : am_H} {p : am_m × am_rr} (hN : am_n G = N) (hX : am_xs G = xs) (hL : am_Lay r) (hm : m_L_sw N xs z3 m r c = some p) (K : am_Lay p.2 → am_W G mt_L_law 28 rv h' 1923 [(0, .ref 1), (1, .ref 3), (2, .ref 3261), (3, .int z3)] [] (am_hh p.1 p.2)) : am_W G mt_L_law 28 rv h' 33 [(0, .ref 1), (1, .ref 3), (2, .ref 3261), (3, .int z3)] [.int c] (am_hh m r) := by
  unfold m_L_sw at hm
  by_cases hs0 : c = am_i 0
  · replace hm := am_it hm hs0
    refine ms_sw (v := 0) (off := 219) (tgt := 252) sw_L_law hs0 (by decide) (by decide) (by decide) rfl rfl ?_
    exact x_L_c0 hN hX hL hm K
  replace hm := am_if hm hs0
  by_cases hs1 : c = am_i 1
  · replace hm := am_it hm hs1
    refine ms_sw (v := 1) (off := 262) (tgt := 295) sw_L_law hs1 (by decide) (by decide) (by decide) rfl rfl ?_
    exact x_L_c1 hN hX hL hm K
  replace hm := am_if hm hs1
  by_cases hs2 : c = am_i 2
  · replace hm := am_it hm hs2
    refine ms_sw (v := 2) (off := 295) (tgt := 328) sw_L_law hs2 (by decide) (by decide) (by decide) rfl rfl ?_
    exact x_L_c2 hN hX hL hm K
  replace hm := am_if hm hs2
  by_cases hs3 : c = am_i 3
  · replace hm := am_it hm hs3
    refine ms_sw (v := 3) (off := 318) (tgt := 351) sw_L_law hs3 (by decide) (by decide) (by decide) rfl rfl ?_
    exact x_L_c3 hN hX hL hm K
  replace hm := am_if hm hs3
  by_cases hs4 : c = am_i 4
  · replace hm := am_it hm hs4
    refine ms_sw (v := 4) (off := 351) (tgt := 384) sw_L_law hs4 (by decide) (by decide) (by decide) rfl rfl ?_
    exact x_L_c4 hN hX hL hm K
  replace hm := am_if hm hs4
  by_cases hs5 : c = am_i 5
  · replace hm := am_it hm hs5
    refine ms_sw (v := 5) (off := 404) (tgt := 437) sw_L_law hs5 (by decide) (by decide) (by decide) rfl rfl ?_
    exact x_L_c5 hN hX hL hm K
  replace hm := am_if hm hs5
  by_cases hs6 : c = am_i 6
  · replace hm := am_it hm hs6
    refine ms_sw (v := 6) (off := 427) (tgt := 460) sw_L_law hs6 (by decide) (by decide) (by decide) rfl rfl ?_
    exact x_L_c6 hN hX hL hm K
  replace hm := am_if hm hs6
  by_cases hs7 : c = am_i 7
  · replace hm := am_it hm hs7
    refine ms_sw (v := 7) (off := 460) (tgt := 493) sw_L_law hs7 (by decide) (by decide) (by decide) rfl rfl ?_
    exact x_L_c7 hN hX hL hm K
  replace hm := am_if hm hs7
  by_cases hs8 : c = am_i 8
  · replace hm := am_it hm hs8
    refine ms_sw (v := 8) (off := 513) (tgt := 546) sw_L_law hs8 (by decide) (by decide) (by decide) rfl rfl ?_
    exact x_L_c8 hN hX hL hm K
  replace hm := am_if hm hs8
  by_cases hs9 : c = am_i 9
  · replace hm := am_it hm hs9
    refine ms_sw (v := 9) (off := 546) (tgt := 579) sw_L_law hs9 (by decide) (by decide) (by decide) rfl rfl ?_
    exact x_L_c9 hN hX hL hm K
  replace hm := am_if hm hs9
  by_cases hs10 : c = am_i 10
  · replace hm := am_it hm hs10
    refine ms_sw (v := 10) (off := 569) (tgt := 602) sw_L_law hs10 (by decide) (by decide) (by decide) rfl rfl ?_
    exact x_L_c10 hN hX hL hm K
  replace hm := am_if hm hs10
  by_cases hs11 : c = am_i 11
  · replace hm := am_it hm hs11
    refine ms_sw (v := 11) (off := 632) (tgt := 665) sw_L_law hs11 (by decide) (by decide) (by decide) rfl rfl ?_
    exact x_L_c11 hN hX hL hm K
  replace hm := am_if hm hs11
  by_cases hs12 : c = am_i 12
  · replace hm := am_it hm hs12
    refine ms_sw (v := 12) (off := 655) (tgt := 688) sw_L_law hs12 (by decide) (by decide) (by decide) rfl rfl ?_
    exact x_L_c12 hN hX hL hm K
  replace hm := am_if hm hs12
  by_cases hs13 : c = am_i 13
  · replace hm := am_it hm hs13
    refine ms_sw (v := 13) (off := 668) (tgt := 701) sw_L_law hs13 (by decide) (by decide) (by decide) rfl rfl ?_
    exact x_L_c13 hN hX hL hm K
  replace hm := am_if hm hs13
  by_cases hs14 : c = am_i 14
  · replace hm := am_it hm hs14
    refine ms_sw (v := 14) (off := 691) (tgt := 724) sw_L_law hs14 (by decide) (by decide) (by decide) rfl rfl ?_
    exact x_L_c14 hN hX hL hm K
  replace hm := am_if hm hs14
  by_cases hs15 : c = am_i 15
  · replace hm := am_it hm hs15
    refine ms_sw (v := 15) (off := 704) (tgt := 737) sw_L_law hs15 (by decide) (by decide) (by decide) rfl rfl ?_
    exact x_L_c15 hN hX hL hm K
  replace hm := am_if hm hs15
  by_cases hs16 : c = am_i 16
  · replace hm := am_it hm hs16
    refine ms_sw (v := 16) (off := 737) (tgt := 770) sw_L_law hs16 (by decide) (by decide) (by decide) rfl rfl ?_
    exact x_L_c16 hN hX hL hm K
  replace hm := am_if hm hs16
  by_cases hs17 : c = am_i 17
  · replace hm := am_it hm hs17
    refine ms_sw (v := 17) (off := 770) (tgt := 803) sw_L_law hs17 (by decide) (by decide) (by decide) rfl rfl ?_
    exact x_L_c17 hN hX hL hm K
  replace hm := am_if hm hs17
  by_cases hs18 : c = am_i 18
  · replace hm := am_it hm hs18
    refine ms_sw (v := 18) (off := 803) (tgt := 836) sw_L_law hs18 (by decide) (by decide) (by decide) rfl rfl ?_
    exact x_L_c18 hN hX hL hm K
  replace hm := am_if hm hs18
  by_cases hs19 : c = am_i 19
  · replace hm := am_it hm hs19
    refine ms_sw (v := 19) (off := 836) (tgt := 869) sw_L_law hs19 (by decide) (by decide) (by decide) rfl rfl ?_
    exact x_L_c19 hN hX hL hm K
  replace hm := am_if hm hs19
  by_cases hs20 : c = am_i 20
  · replace hm := am_it hm hs20
    refine ms_sw (v := 20) (off := 879) (tgt := 912) sw_L_law hs20 (by decide) (by decide) (by decide) rfl rfl ?_
    exact x_L_c20 hN hX hL hm K
  replace hm := am_if hm hs20
  by_cases hs21 : c = am_i 21
  · replace hm := am_it hm hs21
    refine ms_sw (v := 21) (off := 912) (tgt := 945) sw_L_law hs21 (by decide) (by decide) (by decide) rfl rfl ?_
    exact x_L_c21 hN hX hL hm K
  replace hm := am_if hm hs21
  by_cases hs22 : c = am_i 22
  · replace hm := am_it hm hs22
    refine ms_sw (v := 22) (off := 945) (tgt := 978) sw_L_law hs22 (by decide) (by decide) (by decide) rfl rfl ?_
    exact x_L_c22 hN hX hL hm K
  replace hm := am_if hm hs22
  by_cases hs23 : c = am_i 23
  · replace hm := am_it hm hs23
    refine ms_sw (v := 23) (off := 988) (tgt := 1021) sw_L_law hs23 (by decide) (by decide) (by decide) rfl rfl ?_
    exact x_L_c23 hN hX hL hm K
  replace hm := am_if hm hs23
  by_cases hs24 : c = am_i 24
  · replace hm := am_it hm hs24
    refine ms_sw (v := 24) (off := 1011) (tgt := 1044) sw_L_law hs24 (by decide) (by decide) (by decide) rfl rfl ?_
    exact x_L_c24 hN hX hL hm K
  replace hm := am_if hm hs24
  by_cases hs25 : c = am_i 25
  · replace hm := am_it hm hs25
    refine ms_sw (v := 25) (off := 1045) (tgt := 1078) sw_L_law hs25 (by decide) (by decide) (by decide) rfl rfl ?_
    exact x_L_c25 hN hX hL hm K
  replace hm := am_if hm hs25
  by_cases hs26 : c = am_i 26
  · replace hm := am_it hm hs26
    refine ms_sw (v := 26) (off := 1069) (tgt := 1102) sw_L_law hs26 (by decide) (by decide) (by decide) rfl rfl ?_
    exact x_L_c26 hN hX hL hm K
  replace hm := am_if hm hs26
  by_cases hs27 : c = am_i 27
  · replace hm := am_it hm hs27
    refine ms_sw (v := 27) (off := 1112) (tgt := 1145) sw_L_law hs27 (by decide) (by decide) (by decide) rfl rfl ?_
    exact x_L_c27 hN hX hL hm K
  replace hm := am_if hm hs27
  by_cases hs28 : c = am_i 28
  · replace hm := am_it hm hs28
    refine ms_sw (v := 28) (off := 1145) (tgt := 1178) sw_L_law hs28 (by decide) (by decide) (by decide) rfl rfl ?_
    exact x_L_c28 hN hX hL hm K
  replace hm := am_if hm hs28
  by_cases hs29 : c = am_i 29
  · replace hm := am_it hm hs29
    refine ms_sw (v := 29) (off := 1178) (tgt := 1211) sw_L_law hs29 (by decide) (by decide) (by decide) rfl rfl ?_
    exact x_L_c29 hN hX hL hm K
  replace hm := am_if hm hs29
  by_cases hs30 : c = am_i 30
  · replace hm := am_it hm hs30
    refine ms_sw (v := 30) (off := 1211) (tgt := 1244) sw_L_law hs30 (by decide) (by decide) (by decide) rfl rfl ?_
    exact x_L_c30 hN hX hL hm K
  replace hm := am_if hm hs30
  by_cases hs31 : c = am_i 31
  · replace hm := am_it hm hs31
    refine ms_sw (v := 31) (off := 1254) (tgt := 1287) sw_L_law hs31 (by decide) (by decide) (by decide) rfl rfl ?_
    exact x_L_c31 hN hX hL hm K
  replace hm := am_if hm hs31
  by_cases hs32 : c = am_i 32
  · replace hm := am_it hm hs32
    refine ms_sw (v := 32) (off := 1277) (tgt := 1310) sw_L_law hs32 (by decide) (by decide) (by decide) rfl rfl ?_
    exact x_L_c32 hN hX hL hm K
  replace hm := am_if hm hs32
  by_cases hs33 : c = am_i 33
  · replace hm := am_it hm hs33
    refine ms_sw (v := 33) (off := 1300) (tgt := 1333) sw_L_law hs33 (by decide) (by decide) (by decide) rfl rfl ?_
    exact x_L_c33 hN hX hL hm K
  replace hm := am_if hm hs33
  by_cases hs34 : c = am_i 34
  · replace hm := am_it hm hs34
    refine ms_sw (v := 34) (off := 1323) (tgt := 1356) sw_L_law hs34 (by decide) (by decide) (by decide) rfl rfl ?_
    exact x_L_c34 hN hX hL hm K
  replace hm := am_if hm hs34
  by_cases hs35 : c = am_i 35
  · replace hm := am_it hm hs35
    refine ms_sw (v := 35) (off := 1346) (tgt := 1379) sw_L_law hs35 (by decide) (by decide) (by decide) rfl rfl ?_
    exact x_L_c35 hN hX hL hm K
  replace hm := am_if hm hs35
  by_cases hs36 : c = am_i 36
  · replace hm := am_it hm hs36
    refine ms_sw (v := 36) (off := 1389) (tgt := 1422) sw_L_law hs36 (by decide) (by decide) (by decide) rfl rfl ?_
    exact x_L_c36 hN hX hL hm K
  replace hm := am_if hm hs36
  by_cases hs37 : c = am_i 37
  · replace hm := am_it hm hs37
    refine ms_sw (v := 37) (off := 1432) (tgt := 1465) sw_L_law hs37 (by decide) (by decide) (by decide) rfl rfl ?_
    exact x_L_c37 hN hX hL hm K
  replace hm := am_if hm hs37
  by_cases hs38 : c = am_i 38
  · replace hm := am_it hm hs38
    refine ms_sw (v := 38) (off := 1465) (tgt := 1498) sw_L_law hs38 (by decide) (by decide) (by decide) rfl rfl ?_
    exact x_L_c38 hN hX hL hm K
  replace hm := am_if hm hs38
  by_cases hs39 : c = am_i 39
  · replace hm := am_it hm hs39
    refine ms_sw (v := 39) (off := 1508) (tgt := 1541) sw_L_law hs39 (by decide) (by decide) (by decide) rfl rfl ?_
    exact x_L_c39 hN hX hL hm K
  replace hm := am_if hm hs39
  by_cases hs40 : c = am_i 40
  · replace hm := am_it hm hs40
    refine ms_sw (v := 40) (off := 1541) (tgt := 1574) sw_L_law hs40 (by decide) (by decide) (by decide) rfl rfl ?_
    exact x_L_c40 hN hX hL hm K
  replace hm := am_if hm hs40
  by_cases hs41 : c = am_i 41
  · replace hm := am_it hm hs41
    refine ms_sw (v := 41) (off := 1584) (tgt := 1617) sw_L_law hs41 (by decide) (by decide) (by decide) rfl rfl ?_
    exact x_L_c41 hN hX hL hm K
  replace hm := am_if hm hs41
  by_cases hs42 : c = am_i 42
  · replace hm := am_it hm hs42
    refine ms_sw (v := 42) (off := 1617) (tgt := 1650) sw_L_law hs42 (by decide) (by decide) (by decide) rfl rfl ?_
    exact x_L_c42 hN hX hL hm K
  replace hm := am_if hm hs42
  by_cases hs43 : c = am_i 43
  · replace hm := am_it hm hs43
    refine ms_sw (v := 43) (off := 1660) (tgt := 1693) sw_L_law hs43 (by decide) (by decide) (by decide) rfl rfl ?_
    exact x_L_c43 hN hX hL hm K
  replace hm := am_if hm hs43
  by_cases hs44 : c = am_i 44
  · replace hm := am_it hm hs44
    refine ms_sw (v := 44) (off := 1683) (tgt := 1716) sw_L_law hs44 (by decide) (by decide) (by decide) rfl rfl ?_
    exact x_L_c44 hN hX hL hm K
  replace hm := am_if hm hs44
  by_cases hs45 : c = am_i 45
  · replace hm := am_it hm hs45
    refine ms_sw (v := 45) (off := 1716) (tgt := 1749) sw_L_law hs45 (by decide) (by decide) (by decide) rfl rfl ?_
    exact x_L_c45 hN hX hL hm K
  replace hm := am_if hm hs45
  by_cases hs46 : c = am_i 46
  · replace hm := am_it hm hs46
    refine ms_sw (v := 46) (off := 1739) (tgt := 1772) sw_L_law hs46 (by decide) (by decide) (by decide) rfl rfl ?_
    exact x_L_c46 hN hX hL hm K
  replace hm := am_if hm hs46
  by_cases hs47 : c = am_i 47
  · replace hm := am_it hm hs47
    refine ms_sw (v := 47) (off := 1782) (tgt := 1815) sw_L_law hs47 (by decide) (by decide) (by decide) rfl rfl ?_
    exact x_L_c47 hN hX hL hm K
  replace hm := am_if hm hs47
  by_cases hs48 : c = am_i 48
  · replace hm := am_it hm hs48
    refine ms_sw (v := 48) (off := 1805) (tgt := 1838) sw_L_law hs48 (by decide) (by decide) (by decide) rfl rfl ?_
    exact x_L_c48 hN hX hL hm K
  replace hm := am_if hm hs48
  by_cases hs49 : c = am_i 49
  · replace hm := am_it hm hs49
    refine ms_sw (v := 49) (off := 1828) (tgt := 1861) sw_L_law hs49 (by decide) (by decide) (by decide) rfl rfl ?_
    exact x_L_c49 hN hX hL hm K
  replace hm := am_if hm hs49
  by_cases hs50 : c = am_i 50
  · replace hm := am_it hm hs50
    refine ms_sw (v := 50) (off := 1867) (tgt := 1900) sw_L_law hs50 (by decide) (by decide) (by decide) rfl rfl ?_
    exact x_L_c50 hN hX hL hm K
  replace hm := am_if hm hs50
  refine ms_swd (tgt := 1923) sw_L_law (fun j hj => ?_) rfl ?_
  · have hj2 : j ≤ 50 := by omega
    match j, hj2 with
    | 0, _ => exact hs0
    | 1, _ => exact hs1
    | 2, _ => exact hs2
    | 3, _ => exact hs3
    | 4, _ => exact hs4
    | 5, _ => exact hs5
    | 6, _ => exact hs6
    | 7, _ => exact hs7
    | 8, _ => exact hs8
    | 9, _ => exact hs9
    | 10, _ => exact hs10
    | 11, _ => exact hs11
    | 12, _ => exact hs12
    | 13, _ => exact hs13
    | 14, _ => exact hs14
    | 15, _ => exact hs15
    | 16, _ => exact hs16
    | 17, _ => exact hs17
    | 18, _ => exact hs18
    | 19, _ => exact hs19
    | 20, _ => exact hs20
    | 21, _ => exact hs21
    | 22, _ => exact hs22
    | 23, _ => exact hs23
    | 24, _ => exact hs24
    | 25, _ => exact hs25
    | 26, _ => exact hs26
    | 27, _ => exact hs27
    | 28, _ => exact hs28
    | 29, _ => exact hs29
    | 30, _ => exact hs30
    | 31, _ => exact hs31
    | 32, _ => exact hs32
    | 33, _ => exact hs33
    | 34, _ => exact hs34
    | 35, _ => exact hs35
    | 36, _ => exact hs36
    | 37, _ => exact hs37
    | 38, _ => exact hs38
    | 39, _ => exact hs39
    | 40, _ => exact hs40
    | 41, _ => exact hs41
    | 42, _ => exact hs42
    | 43, _ => exact hs43
    | 44, _ => exact hs44
    | 45, _ => exact hs45
    | 46, _ => exact hs46
    | 47, _ => exact hs47
    | 48, _ => exact hs48
    | 49, _ => exact hs49
    | 50, _ => exact hs50
    | j + 51, h9 => omega
  · cases hm
    exact K hL
set_option maxRecDepth 100000 in
set_option maxHeartbeats 4000000 in
theorem x_L_loop {G : am_G} {N : Nat} {xs : Nat → Int32} {p : am_m × am_rr} (hN : am_n G = N) (hX : am_xs G = xs) : ∀ (n : Nat) (z3 : Int32) (m : am_m) (r : am_rr), am_Lay r → m_L_loop N xs n z3 m r = some p → am_W G mt_L_law 28 (some (.int (am_i 1))) (am_hh p.1 p.2) 18 [(0, .ref 1), (1, .ref 3), (2, .ref 3261), (3, .int z3)] [] (am_hh m r) := by
  intro n
  induction n with
  | zero => intro z3 m r hL hm; cases hm
  | succ n ih =>
    intro z3 m r hL hm
    unfold m_L_loop at hm
    refine am_steps ck_L_hd 2 (pc' := 20) (lv' := [(0, .ref 1), (1, .ref 3), (2, .ref 3261), (3, .int z3)]) (st' := [.ref 1, .int z3]) rfl ?_
    refine ms_slen (am_fd ck_L_hd (pc := 20) rfl) hN ?_
    refine am_steps ck_L_hd 2 (pc' := 24) (lv' := [(0, .ref 1), (1, .ref 3), (2, .ref 3261), (3, .int z3)]) (st' := [.int (Int32.ofNat N - am_i 6), .int z3]) rfl ?_
    refine am_icmp (tgt := 1929) (am_fd ck_L_hd (pc := 24) rfl) rfl (fun hc => ?_) (fun hc => ?_)
    · replace hm := am_it hm hc
      refine am_steps ck_L_hd 1 (pc' := 1930) (lv' := [(0, .ref 1), (1, .ref 3), (2, .ref 3261), (3, .int z3)]) (st' := [.int (am_i 1)]) rfl ?_
      cases hm
      exact am_end (am_fd ck_L_hd (pc := 1930) rfl) am_rZ1 rfl rfl
    · replace hm := am_if hm hc
      refine am_steps ck_L_hd 2 (pc' := 29) (lv' := [(0, .ref 1), (1, .ref 3), (2, .ref 3261), (3, .int z3)]) (st' := [.int z3, .ref 1]) rfl ?_
      obtain ⟨hb, hm⟩ := am_gE hm
      refine ms_sald (am_fd ck_L_hd (pc := 29) rfl) hN hX hb ?_
      refine am_steps ck_L_hd 2 (pc' := 33) (lv' := [(0, .ref 1), (1, .ref 3), (2, .ref 3261), (3, .int z3)]) (st' := [.int ((xs (am_ix z3)) &&& am_i 63)]) rfl ?_
      obtain ⟨q, hq, hm⟩ := am_bE hm
      refine x_L_sw hN hX hL hq (fun hL => ?_)
      refine am_steps ck_L_hd 2 (pc' := 18) (lv' := [(3, .int (z3 + am_i 6)), (0, .ref 1), (1, .ref 3), (2, .ref 3261)]) (st' := []) rfl ?_
      refine am_subp [1, 2, 3, 0] rfl ?_
      exact ih _ _ _ hL hm
